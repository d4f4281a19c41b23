/-! INV: pairs of calls that change the dance -/
section INV3
variable {d : Nat} {h0 : pheap} {tp sp : Nat} {s tqq uqq : St} {D : Nat × (Int → Int)} {T : Nat × (Int → Int) × (Int → Int)} {S E : Int × Int} {K : KS} {L : (Int → Int) × (Int → Int)} {sz vw rf sl yr la ll D1 : Int} {n zqq : Nat} {c : Int → Int} {Hs : Hst} {ia kf : Int} {kd on ot mu ab : Int → Int}
theorem nwC.hi (g : nwC tp s tqq) (tt : tp = 37 ∨ tp = 45) : ∀ (b : Nat) (r : Int), 94 ≤ b → tqq b r = s b r := fun b r q => g b r (by omega) (by omega) (by omega) (by omega) (by omega)
theorem cfr.nw (g : cfr s tqq) : nwC tp s tqq := fun b r q1 q2 _ _ _ => g b (by omega) r
theorem nfr.nw (g : nfr s tqq) : nwN s tqq := fun b r q1 q2 q3 q4 q5 q6 q7 => g b r (by omega) (by omega) (by omega) (by omega)
theorem IT.nc (h : IT sz s) (g : nwC tp s tqq) (tt : tp = 37 ∨ tp = 45) : IT sz tqq := h.of (fun b r q => g b r (by omega) (by omega) (by omega) (by omega) (by omega))
theorem IFt.nc (h : IFt s) (g : nwC tp s tqq) (tt : tp = 37 ∨ tp = 45) : IFt tqq := h.of (fun b r q => g b r (by omega) (by omega) (by omega) (by omega) (by omega))
theorem IS.nc (h : IS tp sp D T S E K L s) (g : nwC tp s tqq) (tt : tp = 37 ∨ tp = 45) : IS tp sp D T S E K L tqq := h.of (fun b r q => g b r (by omega) (by omega) (by omega) (by omega) (by omega))
theorem II.nc (h : II D1 ia s) (g : nwC tp s tqq) (tt : tp = 37 ∨ tp = 45) : II D1 ia tqq := h.of (fun b r q => g b r (by omega) (by omega) (by omega) (by omega) (by omega))
theorem IRd.nc (h : IRd zqq kf kd on ot mu ab s) (g : nwC tp s tqq) (tt : tp = 37 ∨ tp = 45) : IRd zqq kf kd on ot mu ab tqq := h.of (fun b r q => g b r (by omega) (by omega) (by omega) (by omega) (by omega))
theorem IT.nn (h : IT sz s) (g : nwN s tqq) : IT sz tqq := h.of (fun b r q => g b r (by omega) (by omega) (by omega) (by omega) (by omega) (by omega) (by omega))
theorem IFt.nn (h : IFt s) (g : nwN s tqq) : IFt tqq := h.of (fun b r q => g b r (by omega) (by omega) (by omega) (by omega) (by omega) (by omega) (by omega))
theorem IS.nn (h : IS tp sp D T S E K L s) (g : nwN s tqq) (tt : tp = 37 ∨ tp = 45) : IS tp sp D T S E K L tqq := h.of (fun b r q => g b r (by omega) (by omega) (by omega) (by omega) (by omega) (by omega) (by omega))
theorem II.nn (h : II D1 ia s) (g : nwN s tqq) : II D1 ia tqq := h.of (fun b r q => g b r (by omega) (by omega) (by omega) (by omega) (by omega) (by omega) (by omega))
theorem IRd.nn (h : IRd zqq kf kd on ot mu ab s) (g : nwN s tqq) : IRd zqq kf kd on ot mu ab tqq := h.of (fun b r q => g b r (by omega) (by omega) (by omega) (by omega) (by omega) (by omega) (by omega))
theorem nwN.lo (g : nwN s tqq) : ∀ (b : Nat) (r : Int), b < 94 → tqq b r = s b r := fun b r q => g b r (by omega) (by omega) (by omega) (by omega) (by omega) (by omega) (by omega)
/-- INV behind a call that changes the dance, on both sides -/
theorem INV_new {zr : Nat} (tt : tp = 37 ∨ tp = 45) (j1 : IT sz tqq) (j2 : IFt tqq) (j3 : IS tp sp D T S E K L tqq) (j6 : II D.1 ia tqq) (j7 : IRd zr kf kd on ot mu ab tqq) (gN : nwN tqq uqq) (dA : DA 53 vw rf sl yr la ll n c tqq) (pA : PAs zqq Hs tqq) (dR : DR 0 vw rf sl yr la ll n c uqq) (pU : PUs zqq Hs rf sl yr la uqq) (rg : rgD D.1 vw yr la ll n) (hok : hOk zqq Hs) (hl : ∀ i, i < zqq → lD (Hs i).2.1 D.1) : INV uqq :=
  ⟨tp, sp, D, T, S, E, K, L, sz, vw, rf, sl, yr, la, ll, n, c, zqq, Hs, ia, zr, kf, kd, on, ot, mu, ab, j1.nn gN, j2.nn gN, j3.nn gN tt, ⟨dA.of (fun b r q1 q2 => gN.lo b r (by omega)), dR, rg⟩, ⟨pA.of (fun b r q => gN.lo b r (by omega)), pU, hok, hl⟩, j6.nn gN, j7.nn gN⟩
theorem hOk_put (hok : hOk zqq Hs) (h : ID D1 vw rf sl yr la ll n c s) : hOk (min 20 (zqq + 1)) (hput1 vw ll n c Hs) := fun i hi => by
  cases i with
  | zero => exact ⟨h.2.2.1.1, h.2.2.1.2, h.rd0.1.1, h.rd0.1.2, h.n48, h.rd0.2.2.1⟩
  | succ i => exact hok i (by omega)
theorem lD_put (hl : ∀ i, i < zqq → lD (Hs i).2.1 D1) (h : ID D1 vw rf sl yr la ll n c s) : ∀ i, i < min 20 (zqq + 1) → lD (hput1 vw ll n c Hs i).2.1 D1 := fun i hi => by
  cases i with
  | zero => exact h.left
  | succ i => exact hl i (by omega)
theorem lD_clr {x : Int} (h : lD ll D1) (hL : 0 ≤ ll ∧ ll < 64) (hx : 0 ≤ x ∧ x < 6) : lD (clr ll x) D1 := fun y y0 y1 e => by
  have := bt_clr_f ⟨ll.toNat, by omega⟩ ⟨x.toNat, by omega⟩ ⟨y.toNat, by omega⟩
  simp only [Int.toNat_of_nonneg hL.1, Int.toNat_of_nonneg hx.1, Int.toNat_of_nonneg y0] at this
  rw [this] at e
  split at e
  · omega
  · exact h y y0 y1 e
theorem p_cross (hI : INV s) (hd : 200 ≤ d) {x o : Int} (hx : iR x) (ho : o = 0 ∨ o = 1) : PR d h0 s 18 143 [vI x, vI o] vI := by
  obtain ⟨tp, hI⟩ := hI
  have tt := hI.told.1
  have hS := hI.told.2.1
  have hT := hI.told.2.2
  obtain ⟨sp, D, T, S, E, K, L, sz, vw, rf, sl, yr, la, ll, n, c, zqq, Hs, ia, zr, kf, kd, on, ot, mu, ab, h1, h2, h3, h4, h5, h6, h7⟩ := id hI
  refine m_cross (by omega) tt hT h4.1 h5.1 h5.2.2.1 h4.n48 h4.yr5 h4.2.2.1 h3.lwc h3.ok hx ho rfl (fun y => ⟨⟨_, rfl⟩, s, rfl, ?_⟩) (fun y1 y2 tqq lkc => ⟨⟨_, rfl⟩, tqq, rfl, ?_⟩) (fun y1 y2 tqq dA pA gC => ⟨⟨_, rfl⟩, tqq, rfl, ?_⟩)
  · exact r_cross (by omega) h5.2.1 h5.2.2.1 h4.2.1 h4.yr5 h4.2.2.1 h2.2.2 h3.lwr h3.ok hx ho rfl (fun _ => ⟨_, rfl, ⟨tp, hI.of (th_rs tt)⟩, rfl⟩) (fun y2 => absurd y2 y) (fun y2 => absurd y2 y)
  · have g := lkC.rs (tp := tp) lkc tt
    have j1 := h1.rd g
    have j2 := h2.rd g
    have j3 := h3.rd g
    have j4 := h4.rd g
    have j5 := h5.rd g
    have j6 := h6.rd g
    have j7 := h7.rd g
    exact r_cross (by omega) j5.2.1 h5.2.2.1 j4.2.1 h4.yr5 h4.2.2.1 j2.2.2 j3.lwr h3.ok hx ho rfl (fun y3 => absurd y1 y3) (fun _ _ wqq lk => ⟨wqq, rfl, ⟨tp, (hI.of g).of (lk.rs tt)⟩, rfl⟩) (fun _ y3 => absurd y3 y2)
  · have vr := vwN_R vw (vNx ll n c yr K.2 L.1 L.2 (2 * x + (1 - o)) 1)
    have n48 : n < 48 := y2.1
    have j1 := h1.nc gC tt
    have j2 := h2.nc gC tt
    have j3 := h3.nc gC tt
    have j6 := h6.nc gC tt
    have j7 := h7.nc gC tt
    have d4 := h4.2.1.of (fun b r q => gC.hi tt b r (by omega))
    have p5 := h5.2.1.of (fun b r q => gC.hi tt b r (by omega))
    exact r_cross (by omega) p5 h5.2.2.1 d4 h4.yr5 h4.2.2.1 j2.2.2 j3.lwr h3.ok hx ho rfl (fun y3 => absurd y1 y3) (fun _ y3 => absurd y2 y3) (fun _ _ uqq dR pU gN => ⟨uqq, rfl, INV_new tt j1 j2 j3 j6 j7 gN dA pA dR pU ⟨vr, h4.yr9, h4.2.2.2.2.1, h4.left, by omega⟩ (hOk_put h5.2.2.1 h4) (lD_put h5.2.2.2 h4), rfl⟩)
theorem p_swap (hI : INV s) (hd : 200 ≤ d) {x : Int} (hx : iR x) : PR d h0 s 20 145 [vI x] vI := by
  obtain ⟨tp, hI⟩ := hI
  have tt := hI.told.1
  have hS := hI.told.2.1
  have hT := hI.told.2.2
  obtain ⟨sp, D, T, S, E, K, L, sz, vw, rf, sl, yr, la, ll, n, c, zqq, Hs, ia, zr, kf, kd, on, ot, mu, ab, h1, h2, h3, h4, h5, h6, h7⟩ := id hI
  refine m_swap (by omega) h4.1 h5.1 h5.2.2.1 h4.n48 hx (fun y1 tqq dA pA gc => ⟨⟨_, rfl⟩, tqq, rfl, ?_⟩) (fun y => ⟨⟨_, rfl⟩, s, rfl, ?_⟩)
  · have gC : nwC tp s tqq := gc.nw
    have j1 := h1.nc gC tt
    have j2 := h2.nc gC tt
    have j3 := h3.nc gC tt
    have j6 := h6.nc gC tt
    have j7 := h7.nc gC tt
    have d4 := h4.2.1.of (fun b r q => gC.hi tt b r (by omega))
    have p5 := h5.2.1.of (fun b r q => gC.hi tt b r (by omega))
    exact r_swap (by omega) p5 h5.2.2.1 d4 hx (fun _ uqq dR pU gN => ⟨uqq, rfl, INV_new tt j1 j2 j3 j6 j7 gN dA pA dR pU ⟨h4.2.2.1, h4.yr9, h4.2.2.2.2.1, h4.left, by have := h4.n48; omega⟩ (hOk_put h5.2.2.1 h4) (lD_put h5.2.2.2 h4), rfl⟩) (fun y3 => absurd y1 y3)
  · exact r_swap (by omega) h5.2.1 h5.2.2.1 h4.2.1 hx (fun y3 => absurd y3 y) (fun _ => ⟨_, rfl, ⟨tp, hI.of (th_rs tt)⟩, rfl⟩)
theorem p_cancel (hI : INV s) (hd : 200 ≤ d) {x : Int} (hx : iR x) : PR d h0 s 21 146 [vI x] vI := by
  obtain ⟨tp, hI⟩ := hI
  have tt := hI.told.1
  have hS := hI.told.2.1
  have hT := hI.told.2.2
  obtain ⟨sp, D, T, S, E, K, L, sz, vw, rf, sl, yr, la, ll, n, c, zqq, Hs, ia, zr, kf, kd, on, ot, mu, ab, h1, h2, h3, h4, h5, h6, h7⟩ := id hI
  refine m_cancel (by omega) h4.1 h5.1 h5.2.2.1 h4.n48 hx (fun y1 tqq dA pA gc => ⟨⟨_, rfl⟩, tqq, rfl, ?_⟩) (fun y => ⟨⟨_, rfl⟩, s, rfl, ?_⟩)
  · have gC : nwC tp s tqq := gc.nw
    have j1 := h1.nc gC tt
    have j2 := h2.nc gC tt
    have j3 := h3.nc gC tt
    have j6 := h6.nc gC tt
    have j7 := h7.nc gC tt
    have d4 := h4.2.1.of (fun b r q => gC.hi tt b r (by omega))
    have p5 := h5.2.1.of (fun b r q => gC.hi tt b r (by omega))
    exact r_cancel (by omega) p5 h5.2.2.1 d4 hx (fun _ uqq dR pU gN => ⟨uqq, rfl, INV_new tt j1 j2 j3 j6 j7 gN dA pA dR pU ⟨h4.2.2.1, h4.yr9, h4.2.2.2.2.1, h4.left, by have := h4.n48; omega⟩ (hOk_put h5.2.2.1 h4) (lD_put h5.2.2.2 h4), rfl⟩) (fun y3 => absurd y1 y3)
  · exact r_cancel (by omega) h5.2.1 h5.2.2.1 h4.2.1 hx (fun y3 => absurd y3 y) (fun _ => ⟨_, rfl, ⟨tp, hI.of (th_rs tt)⟩, rfl⟩)
theorem p_slide (hI : INV s) (hd : 200 ≤ d) {x : Int} (hx : iR x) : PR d h0 s 22 147 [vI x] vI := by
  obtain ⟨tp, hI⟩ := hI
  have tt := hI.told.1
  have hS := hI.told.2.1
  have hT := hI.told.2.2
  obtain ⟨sp, D, T, S, E, K, L, sz, vw, rf, sl, yr, la, ll, n, c, zqq, Hs, ia, zr, kf, kd, on, ot, mu, ab, h1, h2, h3, h4, h5, h6, h7⟩ := id hI
  refine m_slide (by omega) h4.1 h5.1 h5.2.2.1 h4.n48 hx (fun y1 tqq dA pA gc => ⟨⟨_, rfl⟩, tqq, rfl, ?_⟩) (fun y => ⟨⟨_, rfl⟩, s, rfl, ?_⟩)
  · have gC : nwC tp s tqq := gc.nw
    have j1 := h1.nc gC tt
    have j2 := h2.nc gC tt
    have j3 := h3.nc gC tt
    have j6 := h6.nc gC tt
    have j7 := h7.nc gC tt
    have d4 := h4.2.1.of (fun b r q => gC.hi tt b r (by omega))
    have p5 := h5.2.1.of (fun b r q => gC.hi tt b r (by omega))
    exact r_slide (by omega) p5 h5.2.2.1 d4 hx (fun _ uqq dR pU gN => ⟨uqq, rfl, INV_new tt j1 j2 j3 j6 j7 gN dA pA dR pU ⟨h4.2.2.1, h4.yr9, h4.2.2.2.2.1, h4.left, by have := h4.n48; omega⟩ (hOk_put h5.2.2.1 h4) (lD_put h5.2.2.2 h4), rfl⟩) (fun y3 => absurd y1 y3)
  · exact r_slide (by omega) h5.2.1 h5.2.2.1 h4.2.1 hx (fun y3 => absurd y3 y) (fun _ => ⟨_, rfl, ⟨tp, hI.of (th_rs tt)⟩, rfl⟩)
theorem p_feast (hI : INV s) (hd : 200 ≤ d) {x m : Int} (hx : iR x) (hm : iR m) : PR d h0 s 23 149 [vI x, vI m] vI := by
  obtain ⟨tp, hI⟩ := hI
  have tt := hI.told.1
  have hS := hI.told.2.1
  have hT := hI.told.2.2
  obtain ⟨sp, D, T, S, E, K, L, sz, vw, rf, sl, yr, la, ll, n, c, zqq, Hs, ia, zr, kf, kd, on, ot, mu, ab, h1, h2, h3, h4, h5, h6, h7⟩ := id hI
  refine m_feast (by omega) h4.1 h5.1 h5.2.2.1 h4.n48 hx hm (fun y1 tqq pl dd pA gc => ⟨⟨_, rfl⟩, tqq, rfl, ?_⟩) (fun y => ⟨⟨_, rfl⟩, s, rfl, ?_⟩)
  · have gC : nwC tp s tqq := gc.nw
    have dA : DA 53 vw rf sl yr la ll (n + m.toNat) (fsK ll x n c) tqq := ⟨dd.1, dd.2.1, dd.2.2.1, dd.2.2.2.1, dd.2.2.2.2, pl⟩
    have j1 := h1.nc gC tt
    have j2 := h2.nc gC tt
    have j3 := h3.nc gC tt
    have j6 := h6.nc gC tt
    have j7 := h7.nc gC tt
    have d4 := h4.2.1.of (fun b r q => gC.hi tt b r (by omega))
    have p5 := h5.2.1.of (fun b r q => gC.hi tt b r (by omega))
    exact r_feast (by omega) p5 h5.2.2.1 d4 hx hm (fun _ uqq dR pU gN => ⟨uqq, rfl, INV_new tt j1 j2 j3 j6 j7 gN dA pA dR pU ⟨h4.2.2.1, h4.yr9, h4.2.2.2.2.1, h4.left, by omega⟩ (hOk_put h5.2.2.1 h4) (lD_put h5.2.2.2 h4), rfl⟩) (fun y3 => absurd y1 y3)
  · exact r_feast (by omega) h5.2.1 h5.2.2.1 h4.2.1 hx hm (fun y3 => absurd y3 y) (fun _ => ⟨_, rfl, ⟨tp, hI.of (th_rs tt)⟩, rfl⟩)
theorem p_letGo (hI : INV s) (hd : 200 ≤ d) {x : Int} (hx : iR x) : PR d h0 s 19 144 [vI x] vI := by
  obtain ⟨tp, hI⟩ := hI
  have tt := hI.told.1
  have hS := hI.told.2.1
  have hT := hI.told.2.2
  obtain ⟨sp, D, T, S, E, K, L, sz, vw, rf, sl, yr, la, ll, n, c, zqq, Hs, ia, zr, kf, kd, on, ot, mu, ab, h1, h2, h3, h4, h5, h6, h7⟩ := id hI
  by_cases y1 : 0 ≤ x ∧ x < 6 ∧ bt ll x = 1
  · refine m_letGoY (by omega) h4.1 h5.1 h5.2.2.1 h4.n48 y1 (fun tqq dA pA gc => ⟨⟨_, rfl⟩, tqq, rfl, ?_⟩)
    have gC : nwC tp s tqq := gc.nw
    have rkl := rk_le (L := ll) (c := c) (q := cntN ll x.toNat) n
    have j1 := h1.nc gC tt
    have j2 := h2.nc gC tt
    have j3 := h3.nc gC tt
    have j6 := h6.nc gC tt
    have j7 := h7.nc gC tt
    have d4 := h4.2.1.of (fun b r q => gC.hi tt b r (by omega))
    have p5 := h5.2.1.of (fun b r q => gC.hi tt b r (by omega))
    exact r_letGoY (by omega) p5 h5.2.2.1 d4 j3.dn j3.dr2 y1 (h4.left x y1.1 y1.2.1 y1.2.2) (fun uqq dR pU gN => ⟨uqq, rfl, INV_new tt j1 j2 j3 j6 j7 gN.nw dA pA dR pU ⟨h4.2.2.1, h4.yr9, h4.2.2.2.2.1, lD_clr h4.left h4.rd0.1 ⟨y1.1, y1.2.1⟩, by have := h4.n48; omega⟩ (hOk_put h5.2.2.1 h4) (lD_put h5.2.2.2 h4), rfl⟩)
  · refine m_letGoN (by omega) h4.pl hx y1 ⟨⟨_, rfl⟩, s, rfl, ?_⟩
    exact r_letGoN (by omega) h4.rd0 h3.dn h3.dr2 hx y1 ⟨_, rfl, ⟨tp, hI.of (th_rs tt)⟩, rfl⟩
theorem p_undo (hI : INV s) (hd : 200 ≤ d)  : PR d h0 s 40 179 [] vI := by
  obtain ⟨tp, hI⟩ := hI
  have tt := hI.told.1
  have hS := hI.told.2.1
  have hT := hI.told.2.2
  obtain ⟨sp, D, T, S, E, K, L, sz, vw, rf, sl, yr, la, ll, n, c, zqq, Hs, ia, zr, kf, kd, on, ot, mu, ab, h1, h2, h3, h4, h5, h6, h7⟩ := id hI
  cases zqq with
  | zero =>
    refine m_undoN h5.1 ⟨⟨_, rfl⟩, s, rfl, ?_⟩
    exact r_undoN h5.2.1 ⟨_, rfl, ⟨tp, hI.of (th_rs tt)⟩, rfl⟩
  | succ zqq =>
    have ok0 := h5.2.2.1 0 (by omega)
    have l0 := h5.2.2.2 0 (by omega)
    have da := h4.1
    refine m_undoY (vw := (Hs 0).1) (L := (Hs 0).2.1) (n := (Hs 0).2.2.1) (c := (Hs 0).2.2.2) (by omega) h5.1 h5.2.2.1 rfl da.2.1 da.2.2.1 da.2.2.2.1 da.2.2.2.2.1 (fun tqq dA pA gc => ⟨⟨_, rfl⟩, tqq, rfl, ?_⟩)
    have gC : nwC tp s tqq := gc.nw
    have j1 := h1.nc gC tt
    have j2 := h2.nc gC tt
    have j3 := h3.nc gC tt
    have j6 := h6.nc gC tt
    have j7 := h7.nc gC tt
    have d4 := h4.2.1.of (fun b r q => gC.hi tt b r (by omega))
    have p5 := h5.2.1.of (fun b r q => gC.hi tt b r (by omega))
    exact r_undoY (vw := (Hs 0).1) (L := (Hs 0).2.1) (n := (Hs 0).2.2.1) (c := (Hs 0).2.2.2) (by omega) p5 rfl (fun uqq dR pU gN => ⟨uqq, rfl, INV_new tt j1 j2 j3 j6 j7 gN.nw dA pA dR pU ⟨⟨ok0.1, ok0.2.1⟩, h4.yr9, h4.2.2.2.2.1, l0, ok0.2.2.2.2.1⟩ (fun i hi => h5.2.2.1 (i + 1) (by omega)) (fun i hi => h5.2.2.2 (i + 1) (by omega)), rfl⟩)
end INV3
