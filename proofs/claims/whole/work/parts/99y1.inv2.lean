/-! INV: pairs of calls that only look -/
section INV2
variable {d : Nat} {h0 : pheap} {tp sp : Nat} {s tqq uqq : St} {D : Nat × (Int → Int)} {T : Nat × (Int → Int) × (Int → Int)} {S E : Int × Int} {K : KS} {L : (Int → Int) × (Int → Int)} {sz vw rf sl yr la ll D1 : Int} {n zqq : Nat} {c : Int → Int} {Hs : Hst} {ia kf : Int} {kd on ot mu ab : Int → Int}
/-- what INV reads stays -/
def RDS (tp : Nat) (s tqq : St) : Prop := ∀ (b : Nat) (r : Int), rdI tp b r → tqq b r = s b r
theorem RDS_rfl : RDS tp s s := fun _ _ _ => rfl
theorem RDS_tr (h : RDS tp s tqq) (g : RDS tp tqq uqq) : RDS tp s uqq := fun b r q => (g b r q).trans (h b r q)
theorem lkC.rs (g : lkC tp s tqq) (tt : tp = 37 ∨ tp = 45) : RDS tp s tqq := by
  intro b r q
  refine g b r ?_ ?_ ?_ ?_
  all_goals
    rcases q with q | q | q | q | q | q | q <;> omega
theorem lkN.rs (g : lkN s tqq) (tt : tp = 37 ∨ tp = 45) : RDS tp s tqq := by
  intro b r q
  refine g b r ?_ ?_ ?_ ?_ ?_ ?_ ?_
  all_goals
    rcases q with q | q | q | q | q | q | q <;> omega
theorem th_rs (tt : tp = 37 ∨ tp = 45) : RDS tp s (up s 94 0 0) := by
  intro b r q
  refine up_f ?_
  rcases q with q | q | q | q | q | q | q <;> omega
theorem lfr.rs (g : lfr s tqq) (tt : tp = 37 ∨ tp = 45) : RDS tp s tqq := by
  intro b r q
  refine g b ?_ r ?_
  all_goals
    rcases q with q | q | q | q | q | q | q <;> omega
theorem cr_rs (g : ∀ b : Nat, (b < 114 ∨ (117 < b ∧ b ≠ 121)) → ∀ r, ¬ (b = 94 ∧ r = 0) → tqq b r = s b r) (tt : tp = 37 ∨ tp = 45) : RDS tp s tqq := by
  intro b r q
  refine g b ?_ r ?_
  all_goals
    rcases q with q | q | q | q | q | q | q <;> omega
theorem IT.rd (h : IT sz s) (g : RDS tp s tqq) : IT sz tqq := h.of (fun b r q => g b r (Or.inl q))
theorem IFt.rd (h : IFt s) (g : RDS tp s tqq) : IFt tqq := h.of (fun b r q => g b r (Or.inr (Or.inl q)))
theorem IS.rd (h : IS tp sp D T S E K L s) (g : RDS tp s tqq) : IS tp sp D T S E K L tqq := h.of (fun b r q => g b r (Or.inr (Or.inr (Or.inl q))))
theorem ID.rd (h : ID D1 vw rf sl yr la ll n c s) (g : RDS tp s tqq) : ID D1 vw rf sl yr la ll n c tqq := h.of (fun b r q => g b r (Or.inr (Or.inr (Or.inr (Or.inl q)))))
theorem IP.rd (h : IP D1 zqq Hs rf sl yr la s) (g : RDS tp s tqq) : IP D1 zqq Hs rf sl yr la tqq := h.of (fun b r q => g b r (Or.inr (Or.inr (Or.inr (Or.inr (Or.inl q))))))
theorem II.rd (h : II D1 ia s) (g : RDS tp s tqq) : II D1 ia tqq := h.of (fun b r q => g b r (Or.inr (Or.inr (Or.inr (Or.inr (Or.inr (Or.inl q)))))))
theorem IRd.rd (h : IRd zqq kf kd on ot mu ab s) (g : RDS tp s tqq) : IRd zqq kf kd on ot mu ab tqq := h.of (fun b r q => g b r (Or.inr (Or.inr (Or.inr (Or.inr (Or.inr (Or.inr q)))))))
theorem IS.lwc (h : IS tp sp D T S E K L s) : LWC tp K.2 L.1 L.2 s := fun r r0 r1 => by
  have a := h.2.2.2.1.2.2.2.2 r r0 r1
  have b1 := h.2.2.2.2.2.2.2.2.2.2.1 r r0 r1
  have b2 := h.2.2.2.2.2.2.2.2.2.2.2 r r0 r1
  exact ⟨a.1, a.2, fun i i0 i1 => h.2.2.2.1.2.2.2.1.2 i (by have := b1.1; omega) (by omega)⟩
theorem IS.lwr (h : IS tp sp D T S E K L s) : LWR K.2 L.1 L.2 s := fun r r0 r1 => by
  have a := h.2.2.2.2.1.2.2.2.1 r r0 r1
  have b1 := h.2.2.2.2.2.2.2.2.2.2.1 r r0 r1
  have b2 := h.2.2.2.2.2.2.2.2.2.2.2 r r0 r1
  exact ⟨a.1, a.2, fun i i0 i1 => h.2.2.2.2.1.2.2.2.2 i (by have := b1.1; omega) (by omega)⟩
theorem IS.ok (h : IS tp sp D T S E K L s) : okL K.2 L.1 L.2 := h.2.2.2.2.2.2.2.2.2.2.1
theorem IS.tlc (h : IS tp sp D T S E K L s) : TLC tp T.1 T.2.1 T.2.2 s := ⟨h.2.2.2.1.2.1.1, h.2.2.2.2.2.2.1.1, fun i i0 i1 => by
  have a := h.2.2.2.1.2.1.2 i i0 i1
  have b := h.2.2.2.2.2.2.1.2 i i0 i1
  exact ⟨a.1, a.2, b.2.2.1, b.2.2.2, b.1, b.2.1⟩⟩
theorem IS.tln (h : IS tp sp D T S E K L s) : TLN T.1 T.2.1 T.2.2 s := ⟨h.2.2.2.2.1.1.2.1, h.2.2.2.2.2.2.1.1, fun i i0 i1 => by
  have a := h.2.2.2.2.1.2.2.1 i i0 i1
  have b := h.2.2.2.2.2.2.1.2 i i0 i1
  exact ⟨a.1, a.2, b.2.2.1, b.2.2.2, b.1, b.2.1⟩⟩
theorem IS.slc (h : IS tp sp D T S E K L s) : s tp 5 = S.2 := h.2.2.2.1.2.2.1.1
theorem IS.sln (h : IS tp sp D T S E K L s) : s 96 2 = S.2 := h.2.2.2.2.1.1.2.2.1
theorem IS.slr (h : IS tp sp D T S E K L s) : 0 ≤ S.2 ∧ S.2 ≤ 100 := h.2.2.2.2.2.2.2.1.2
theorem IS.dc (h : IS tp sp D T S E K L s) : s tp 1 = D.1 := h.2.2.2.1.1.1
theorem IS.dn (h : IS tp sp D T S E K L s) : s 96 0 = D.1 := h.2.2.2.2.1.1.1
theorem IS.dr (h : IS tp sp D T S E K L s) : D.1 ≤ 6 := h.2.2.2.2.2.1.1
theorem IS.dr2 (h : IS tp sp D T S E K L s) : 0 ≤ (D.1 : Int) ∧ (D.1 : Int) ≤ 6 := ⟨by omega, by have := h.dr; omega⟩
theorem IS.nmR (h : IS tp sp D T S E K L s) : ∀ i : Int, 0 ≤ i → i < D.1 → iR (D.2 i) := fun i i0 i1 => by
  have := h.2.2.2.2.2.1.2 i i0 i1
  omega
theorem ID.pl (h : ID D1 vw rf sl yr la ll n c s) : PL 54 ll n c s := h.1.2.2.2.2.2
theorem ID.rd0 (h : ID D1 vw rf sl yr la ll n c s) : RD 0 ll n c s := h.2.1.2.2.2.2.2
theorem ID.oy (h : ID D1 vw rf sl yr la ll n c s) : okY (yOf vw rf sl yr la n c) := ⟨h.2.2.1.1, h.2.2.1.2, h.2.2.2.2.2.2, h.2.2.2.2.1.1, h.2.2.2.2.1.2⟩
theorem ID.n48 (h : ID D1 vw rf sl yr la ll n c s) : n ≤ 48 := h.2.2.2.2.2.2
theorem ID.yr9 (h : ID D1 vw rf sl yr la ll n c s) : 0 ≤ yr ∧ yr ≤ 9900 := h.2.2.2.1
theorem ID.yr5 (h : ID D1 vw rf sl yr la ll n c s) : 0 ≤ yr ∧ yr ≤ 100000 := ⟨h.yr9.1, by have := h.yr9.2; omega⟩
theorem ID.left (h : ID D1 vw rf sl yr la ll n c s) : lD ll D1 := h.2.2.2.2.2.1
/-- a call of the class, then the same of the reference: the same answer, and INV again -/
def PR (d : Nat) (h0 : pheap) (s : St) (mc mr : Nat) (as : List pv) (kp : Int → pv) : Prop := wpM PP d mc (vR 32 :: as) (HP h0 s) (fun vqq h' => (∃ r, vqq = some (kp r)) ∧ ∃ tqq, h' = HP h0 tqq ∧ wpM PP d mr (vR 94 :: as) (HP h0 tqq) (fun v' h'' => ∃ uqq, h'' = HP h0 uqq ∧ INV uqq ∧ v' = vqq))
theorem p_named (hI : INV s) (hd : 200 ≤ d) {x : Int} (hx : iR x) : PR d h0 s 10 90 [vI x] vI := by
  obtain ⟨tp, hI⟩ := hI
  have tt := hI.told.1
  have hS := hI.told.2.1
  have hT := hI.told.2.2
  obtain ⟨sp, D, T, S, E, K, L, sz, vw, rf, sl, yr, la, ll, n, c, zqq, Hs, ia, zr, kf, kd, on, ot, mu, ab, h1, h2, h3, h4, h5, h6, h7⟩ := id hI
  refine m_named (by omega) hS hT h3.dc h3.dr h3.2.2.2.1.1.2 h3.nmR hx ⟨⟨_, rfl⟩, s, rfl, ?_⟩
  exact r_named (by omega) h3.dn h3.dr h3.2.2.2.2.1.2.1 h3.nmR hx ⟨_, rfl, ⟨tp, (hI.of RDS_rfl).of (th_rs tt)⟩, rfl⟩
theorem p_crossing (hI : INV s) (hd : 200 ≤ d) {x y : Int} (hx : iR x) (hy : iR y) : PR d h0 s 11 135 [vI x, vI y] vI := by
  obtain ⟨tp, hI⟩ := hI
  have tt := hI.told.1
  have hS := hI.told.2.1
  have hT := hI.told.2.2
  obtain ⟨sp, D, T, S, E, K, L, sz, vw, rf, sl, yr, la, ll, n, c, zqq, Hs, ia, zr, kf, kd, on, ot, mu, ab, h1, h2, h3, h4, h5, h6, h7⟩ := id hI
  refine m_crossing (by omega) h4.pl hx hy ⟨⟨_, rfl⟩, s, rfl, ?_⟩
  exact r_crossing (by omega) h4.rd0 hx hy (fun wqq lk => ⟨wqq, rfl, ⟨tp, (hI.of RDS_rfl).of (cr_rs lk tt)⟩, rfl⟩)
theorem p_bond (hI : INV s) (hd : 200 ≤ d) {x y : Int} (hx : iR x) (hy : iR y) : PR d h0 s 12 136 [vI x, vI y] vI := by
  obtain ⟨tp, hI⟩ := hI
  have tt := hI.told.1
  have hS := hI.told.2.1
  have hT := hI.told.2.2
  obtain ⟨sp, D, T, S, E, K, L, sz, vw, rf, sl, yr, la, ll, n, c, zqq, Hs, ia, zr, kf, kd, on, ot, mu, ab, h1, h2, h3, h4, h5, h6, h7⟩ := id hI
  refine m_bond (by omega) h4.pl hS hT h3.dc h3.dr2 hx hy ⟨⟨_, rfl⟩, s, rfl, ?_⟩
  exact r_bond (by omega) h4.rd0 h3.dn h3.dr2 hx hy (fun wqq lk => ⟨wqq, rfl, ⟨tp, (hI.of RDS_rfl).of (lk.rs tt)⟩, rfl⟩)
theorem p_at (hI : INV s) (hd : 200 ≤ d) {x y : Int} (hx : iR x) (hy : iR y) : PR d h0 s 13 137 [vI x, vI y] vI := by
  obtain ⟨tp, hI⟩ := hI
  have tt := hI.told.1
  have hS := hI.told.2.1
  have hT := hI.told.2.2
  obtain ⟨sp, D, T, S, E, K, L, sz, vw, rf, sl, yr, la, ll, n, c, zqq, Hs, ia, zr, kf, kd, on, ot, mu, ab, h1, h2, h3, h4, h5, h6, h7⟩ := id hI
  refine m_at (by omega) h4.pl hx hy ⟨⟨_, rfl⟩, s, rfl, ?_⟩
  exact r_at (by omega) h4.rd0 hx hy (fun wqq lk => ⟨wqq, rfl, ⟨tp, (hI.of RDS_rfl).of (lk.rs tt)⟩, rfl⟩)
theorem p_isHome (hI : INV s) (hd : 200 ≤ d)  : PR d h0 s 14 138 [] vI := by
  obtain ⟨tp, hI⟩ := hI
  have tt := hI.told.1
  have hS := hI.told.2.1
  have hT := hI.told.2.2
  obtain ⟨sp, D, T, S, E, K, L, sz, vw, rf, sl, yr, la, ll, n, c, zqq, Hs, ia, zr, kf, kd, on, ot, mu, ab, h1, h2, h3, h4, h5, h6, h7⟩ := id hI
  refine m_isHome (by omega) h4.pl ⟨⟨_, rfl⟩, s, rfl, ?_⟩
  exact r_isHome (by omega) h4.rd0 (fun wqq lk => ⟨wqq, rfl, ⟨tp, (hI.of RDS_rfl).of (lk.rs tt)⟩, rfl⟩)
theorem p_holds (hI : INV s) (hd : 200 ≤ d) {x y : Int} (hx : iR x) (hy : iR y) : PR d h0 s 32 167 [vI x, vI y] vL := by
  obtain ⟨tp, hI⟩ := hI
  have tt := hI.told.1
  have hS := hI.told.2.1
  have hT := hI.told.2.2
  obtain ⟨sp, D, T, S, E, K, L, sz, vw, rf, sl, yr, la, ll, n, c, zqq, Hs, ia, zr, kf, kd, on, ot, mu, ab, h1, h2, h3, h4, h5, h6, h7⟩ := id hI
  refine m_holds (by omega) hS hT h3.slc h3.slr hx hy ⟨⟨_, rfl⟩, s, rfl, ?_⟩
  exact r_holds (by omega) h3.sln h3.slr hx hy ⟨_, rfl, ⟨tp, (hI.of RDS_rfl).of (th_rs tt)⟩, rfl⟩
theorem p_fault (hI : INV s) (hd : 200 ≤ d) {x : Int} (hx : iR x) : PR d h0 s 9 89 [vI x] vI := by
  obtain ⟨tp, hI⟩ := hI
  have tt := hI.told.1
  have hS := hI.told.2.1
  have hT := hI.told.2.2
  obtain ⟨sp, D, T, S, E, K, L, sz, vw, rf, sl, yr, la, ll, n, c, zqq, Hs, ia, zr, kf, kd, on, ot, mu, ab, h1, h2, h3, h4, h5, h6, h7⟩ := id hI
  refine m_fault hx ⟨⟨_, rfl⟩, s, rfl, ?_⟩
  rw [h2.1, h2.2.1]
  exact r_fault hx ⟨_, rfl, ⟨tp, hI.of (th_rs tt)⟩, rfl⟩
theorem p_isLoose (hI : INV s) (hd : 200 ≤ d)  : PR d h0 s 15 139 [] vI := by
  obtain ⟨tp, hI⟩ := hI
  have tt := hI.told.1
  have hS := hI.told.2.1
  have hT := hI.told.2.2
  obtain ⟨sp, D, T, S, E, K, L, sz, vw, rf, sl, yr, la, ll, n, c, zqq, Hs, ia, zr, kf, kd, on, ot, mu, ab, h1, h2, h3, h4, h5, h6, h7⟩ := id hI
  refine m_isLoose (tp := tp) (by omega) h4.pl (fun tqq lkc => ⟨⟨_, rfl⟩, tqq, rfl, ?_⟩)
  have g := lkC.rs (tp := tp) lkc tt
  have j1 := h1.rd g
  have j2 := h2.rd g
  have j3 := h3.rd g
  have j4 := h4.rd g
  have j5 := h5.rd g
  have j6 := h6.rd g
  have j7 := h7.rd g
  exact r_isLoose (by omega) j4.rd0 (fun wqq lk => ⟨wqq, rfl, ⟨tp, (hI.of g).of (lk.rs tt)⟩, rfl⟩)
theorem p_law (hI : INV s) (hd : 200 ≤ d) {x y : Int} (hx : iR x) (hy : iR y) : PR d h0 s 17 141 [vI x, vI y] vL := by
  obtain ⟨tp, hI⟩ := hI
  have tt := hI.told.1
  have hS := hI.told.2.1
  have hT := hI.told.2.2
  obtain ⟨sp, D, T, S, E, K, L, sz, vw, rf, sl, yr, la, ll, n, c, zqq, Hs, ia, zr, kf, kd, on, ot, mu, ab, h1, h2, h3, h4, h5, h6, h7⟩ := id hI
  refine m_law (by omega) tt hT h4.pl h4.1.2.2.2.1 h4.yr5 h3.lwc h3.ok hx hy (fun tqq lkc => ⟨⟨_, rfl⟩, tqq, rfl, ?_⟩)
  have g := lkC.rs (tp := tp) lkc tt
  have j1 := h1.rd g
  have j2 := h2.rd g
  have j3 := h3.rd g
  have j4 := h4.rd g
  have j5 := h5.rd g
  have j6 := h6.rd g
  have j7 := h7.rd g
  exact r_law (by omega) j4.rd0 j4.2.1.2.2.2.1 h4.yr5 j3.lwr h3.ok hx hy (fun wqq lk => ⟨wqq, rfl, ⟨tp, (hI.of g).of (lk.rs tt)⟩, rfl⟩)
theorem p_lean (hI : INV s) (hd : 200 ≤ d)  : PR d h0 s 26 154 [] vI := by
  obtain ⟨tp, hI⟩ := hI
  have tt := hI.told.1
  have hS := hI.told.2.1
  have hT := hI.told.2.2
  obtain ⟨sp, D, T, S, E, K, L, sz, vw, rf, sl, yr, la, ll, n, c, zqq, Hs, ia, zr, kf, kd, on, ot, mu, ab, h1, h2, h3, h4, h5, h6, h7⟩ := id hI
  refine m_lean (tp := tp) (by omega) h4.pl (fun tqq lkc => ⟨⟨_, rfl⟩, tqq, rfl, ?_⟩)
  have g := lkC.rs (tp := tp) lkc tt
  have j1 := h1.rd g
  have j2 := h2.rd g
  have j3 := h3.rd g
  have j4 := h4.rd g
  have j5 := h5.rd g
  have j6 := h6.rd g
  have j7 := h7.rd g
  exact r_lean (by omega) j4.rd0 (fun wqq lk => ⟨wqq, rfl, ⟨tp, (hI.of g).of (lk.rs tt)⟩, rfl⟩)
theorem p_danceBack (hI : INV s) (hd : 200 ≤ d) {x : Int} (hx : iR x) : PR d h0 s 27 157 [vI x] vI := by
  obtain ⟨tp, hI⟩ := hI
  have tt := hI.told.1
  have hS := hI.told.2.1
  have hT := hI.told.2.2
  obtain ⟨sp, D, T, S, E, K, L, sz, vw, rf, sl, yr, la, ll, n, c, zqq, Hs, ia, zr, kf, kd, on, ot, mu, ab, h1, h2, h3, h4, h5, h6, h7⟩ := id hI
  refine m_danceBack (tp := tp) (by omega) h4.pl h4.n48 hx (fun y tqq lkc => ⟨⟨_, rfl⟩, tqq, rfl, ?_⟩) (fun y => ⟨⟨_, rfl⟩, s, rfl, ?_⟩)
  · have g := lkC.rs (tp := tp) lkc tt
    have j1 := h1.rd g
    have j2 := h2.rd g
    have j3 := h3.rd g
    have j4 := h4.rd g
    have j5 := h5.rd g
    have j6 := h6.rd g
    have j7 := h7.rd g
    exact r_danceBack (by omega) j4.rd0 hx (fun _ wqq lk => ⟨wqq, rfl, ⟨tp, (hI.of g).of (lk.rs tt)⟩, rfl⟩) (fun y2 => absurd y y2)
  · exact r_danceBack (by omega) h4.rd0 hx (fun y2 => absurd y2 y) (fun _ => ⟨_, rfl, ⟨tp, hI.of (th_rs tt)⟩, rfl⟩)
theorem p_make (hI : INV s) (hd : 200 ≤ d) {x y : Int} (hx : iR x) (hy : iR y) : PR d h0 s 28 162 [vI x, vI y] vI := by
  obtain ⟨tp, hI⟩ := hI
  have tt := hI.told.1
  have hS := hI.told.2.1
  have hT := hI.told.2.2
  obtain ⟨sp, D, T, S, E, K, L, sz, vw, rf, sl, yr, la, ll, n, c, zqq, Hs, ia, zr, kf, kd, on, ot, mu, ab, h1, h2, h3, h4, h5, h6, h7⟩ := id hI
  refine m_make (tp := tp) (by omega) h4.pl hy hx (fun y tqq lkc => ⟨⟨_, rfl⟩, tqq, rfl, ?_⟩) (fun y => ⟨⟨_, rfl⟩, s, rfl, ?_⟩)
  · have g := lkC.rs (tp := tp) lkc tt
    have j1 := h1.rd g
    have j2 := h2.rd g
    have j3 := h3.rd g
    have j4 := h4.rd g
    have j5 := h5.rd g
    have j6 := h6.rd g
    have j7 := h7.rd g
    exact r_make (by omega) j4.rd0 hy hx (fun _ wqq lk => ⟨wqq, rfl, ⟨tp, (hI.of g).of (lk.rs tt)⟩, rfl⟩) (fun y2 => absurd y y2)
  · exact r_make (by omega) h4.rd0 hy hx (fun y2 => absurd y2 y) (fun _ => ⟨_, rfl, ⟨tp, hI.of (th_rs tt)⟩, rfl⟩)
theorem p_looseRows (hI : INV s) (hd : 200 ≤ d) {x : Int} (hx : iR x) : PR d h0 s 29 159 [vI x] vI := by
  obtain ⟨tp, hI⟩ := hI
  have tt := hI.told.1
  have hS := hI.told.2.1
  have hT := hI.told.2.2
  obtain ⟨sp, D, T, S, E, K, L, sz, vw, rf, sl, yr, la, ll, n, c, zqq, Hs, ia, zr, kf, kd, on, ot, mu, ab, h1, h2, h3, h4, h5, h6, h7⟩ := id hI
  refine m_looseRows (tp := tp) (by omega) h4.pl hx (fun y tqq lkc => ⟨⟨_, rfl⟩, tqq, rfl, ?_⟩) (fun y => ⟨⟨_, rfl⟩, s, rfl, ?_⟩)
  · have g := lkC.rs (tp := tp) lkc tt
    have j1 := h1.rd g
    have j2 := h2.rd g
    have j3 := h3.rd g
    have j4 := h4.rd g
    have j5 := h5.rd g
    have j6 := h6.rd g
    have j7 := h7.rd g
    exact r_looseRows (by omega) j4.rd0 hx (fun _ wqq lk => ⟨wqq, rfl, ⟨tp, (hI.of g).of (lk.rs tt)⟩, rfl⟩) (fun y2 => absurd y y2)
  · exact r_looseRows (by omega) h4.rd0 hx (fun y2 => absurd y2 y) (fun _ => ⟨_, rfl, ⟨tp, hI.of (th_rs tt)⟩, rfl⟩)
theorem p_tied (hI : INV s) (hd : 200 ≤ d) {x y a : Int} (hx : iR x) (hy : iR y) (ha : iR a) : PR d h0 s 30 164 [vI x, vI y, vI a] vI := by
  obtain ⟨tp, hI⟩ := hI
  have tt := hI.told.1
  have hS := hI.told.2.1
  have hT := hI.told.2.2
  obtain ⟨sp, D, T, S, E, K, L, sz, vw, rf, sl, yr, la, ll, n, c, zqq, Hs, ia, zr, kf, kd, on, ot, mu, ab, h1, h2, h3, h4, h5, h6, h7⟩ := id hI
  refine m_tied (tp := tp) (by omega) h4.pl hx hy ha (fun y tqq lkc => ⟨⟨_, rfl⟩, tqq, rfl, ?_⟩) (fun y => ⟨⟨_, rfl⟩, s, rfl, ?_⟩)
  · have g := lkC.rs (tp := tp) lkc tt
    have j1 := h1.rd g
    have j2 := h2.rd g
    have j3 := h3.rd g
    have j4 := h4.rd g
    have j5 := h5.rd g
    have j6 := h6.rd g
    have j7 := h7.rd g
    exact r_tied (by omega) j4.rd0 j3.dn j3.dr2 j4.left hx hy ha (fun _ wqq lk => ⟨wqq, rfl, ⟨tp, (hI.of g).of (lk.rs tt)⟩, rfl⟩) (fun y2 => absurd y y2)
  · exact r_tied (by omega) h4.rd0 h3.dn h3.dr2 h4.left hx hy ha (fun y2 => absurd y2 y) (fun _ => ⟨_, rfl, ⟨tp, hI.of (th_rs tt)⟩, rfl⟩)
theorem p_fits (hI : INV s) (hd : 200 ≤ d) {x : Int} (hx : iR x) : PR d h0 s 37 176 [vI x] vI := by
  obtain ⟨tp, hI⟩ := hI
  have tt := hI.told.1
  have hS := hI.told.2.1
  have hT := hI.told.2.2
  obtain ⟨sp, D, T, S, E, K, L, sz, vw, rf, sl, yr, la, ll, n, c, zqq, Hs, ia, zr, kf, kd, on, ot, mu, ab, h1, h2, h3, h4, h5, h6, h7⟩ := id hI
  refine m_fits (tp := tp) (by omega) h4.pl h7.1 h7.2.2 hx (fun y tqq lkc => ⟨⟨_, rfl⟩, tqq, rfl, ?_⟩) (fun y => ⟨⟨_, rfl⟩, s, rfl, ?_⟩)
  · have g := lkC.rs (tp := tp) lkc tt
    have j1 := h1.rd g
    have j2 := h2.rd g
    have j3 := h3.rd g
    have j4 := h4.rd g
    have j5 := h5.rd g
    have j6 := h6.rd g
    have j7 := h7.rd g
    exact r_fits (by omega) j4.rd0 j7.2.1 j7.2.2 hx (fun _ wqq lk => ⟨wqq, rfl, ⟨tp, (hI.of g).of (lk.rs tt)⟩, rfl⟩) (fun y2 => absurd y y2)
  · exact r_fits (by omega) h4.rd0 h7.2.1 h7.2.2 hx (fun y2 => absurd y2 y) (fun _ => ⟨_, rfl, ⟨tp, hI.of (th_rs tt)⟩, rfl⟩)
theorem p_chance (hI : INV s) (hd : 200 ≤ d) {x y : Int} (hx : iR x) (hy : iR y) : PR d h0 s 38 177 [vI x, vI y] vI := by
  obtain ⟨tp, hI⟩ := hI
  have tt := hI.told.1
  have hS := hI.told.2.1
  have hT := hI.told.2.2
  obtain ⟨sp, D, T, S, E, K, L, sz, vw, rf, sl, yr, la, ll, n, c, zqq, Hs, ia, zr, kf, kd, on, ot, mu, ab, h1, h2, h3, h4, h5, h6, h7⟩ := id hI
  refine m_chance (tp := tp) (by omega) h4.pl hx hy (fun y tqq lkc => ⟨⟨_, rfl⟩, tqq, rfl, ?_⟩) (fun y => ⟨⟨_, rfl⟩, s, rfl, ?_⟩)
  · have g := lkC.rs (tp := tp) lkc tt
    have j1 := h1.rd g
    have j2 := h2.rd g
    have j3 := h3.rd g
    have j4 := h4.rd g
    have j5 := h5.rd g
    have j6 := h6.rd g
    have j7 := h7.rd g
    exact r_chance (by omega) j4.rd0 hx hy (fun _ wqq lk => ⟨wqq, rfl, ⟨tp, (hI.of g).of (lk.rs tt)⟩, rfl⟩) (fun y2 => absurd y y2)
  · exact r_chance (by omega) h4.rd0 hx hy (fun y2 => absurd y2 y) (fun _ => ⟨_, rfl, ⟨tp, hI.of (th_rs tt)⟩, rfl⟩)
theorem p_ahead (hI : INV s) (hd : 200 ≤ d) {x y : Int} (hx : iR x) (hy : iR y) : PR d h0 s 25 151 [vI x, vI y] vI := by
  obtain ⟨tp, hI⟩ := hI
  have tt := hI.told.1
  have hS := hI.told.2.1
  have hT := hI.told.2.2
  obtain ⟨sp, D, T, S, E, K, L, sz, vw, rf, sl, yr, la, ll, n, c, zqq, Hs, ia, zr, kf, kd, on, ot, mu, ab, h1, h2, h3, h4, h5, h6, h7⟩ := id hI
  refine m_ahead (by omega) tt hT h4.1 h4.oy h4.yr9 h3.tlc h3.slc h3.slr h3.lwc h3.ok hx hy (fun y tqq lkc => ⟨⟨_, rfl⟩, tqq, rfl, ?_⟩) (fun y => ⟨⟨_, rfl⟩, s, rfl, ?_⟩)
  · have g := lkC.rs (tp := tp) lkc tt
    have j1 := h1.rd g
    have j2 := h2.rd g
    have j3 := h3.rd g
    have j4 := h4.rd g
    have j5 := h5.rd g
    have j6 := h6.rd g
    have j7 := h7.rd g
    exact r_ahead (by omega) j4.2.1 j4.oy j4.yr9 j2.2.2 j3.tln j3.sln j3.slr j3.lwr j3.ok hx hy (fun _ wqq lk => ⟨wqq, rfl, ⟨tp, (hI.of g).of (lk.rs tt)⟩, rfl⟩) (fun y2 => absurd y y2)
  · exact r_ahead (by omega) h4.2.1 h4.oy h4.yr9 h2.2.2 h3.tln h3.sln h3.slr h3.lwr h3.ok hx hy (fun y2 => absurd y2 y) (fun _ => ⟨_, rfl, ⟨tp, hI.of (th_rs tt)⟩, rfl⟩)
theorem p_tried (hI : INV s) (hd : 200 ≤ d) {x y a : Int} (hx : iR x) (hy : iR y) (ha : iR a) : PR d h0 s 39 178 [vI x, vI y, vI a] vI := by
  obtain ⟨tp, hI⟩ := hI
  have tt := hI.told.1
  have hS := hI.told.2.1
  have hT := hI.told.2.2
  obtain ⟨sp, D, T, S, E, K, L, sz, vw, rf, sl, yr, la, ll, n, c, zqq, Hs, ia, zr, kf, kd, on, ot, mu, ab, h1, h2, h3, h4, h5, h6, h7⟩ := id hI
  refine m_tried (by omega) tt hT h4.1 h4.oy h4.yr9 h3.tlc h3.slc h3.slr h3.lwc h3.ok hx hy ha (fun y tqq lkc => ⟨⟨_, rfl⟩, tqq, rfl, ?_⟩) (fun y => ⟨⟨_, rfl⟩, s, rfl, ?_⟩)
  · have g := lkC.rs (tp := tp) lkc tt
    have j1 := h1.rd g
    have j2 := h2.rd g
    have j3 := h3.rd g
    have j4 := h4.rd g
    have j5 := h5.rd g
    have j6 := h6.rd g
    have j7 := h7.rd g
    exact r_tried (by omega) j4.2.1 j4.oy j4.yr9 j2.2.2 j3.tln j3.sln j3.slr j3.lwr j3.ok j3.dn j3.dr2 j4.left hx hy ha (fun _ wqq lk => ⟨wqq, rfl, ⟨tp, (hI.of g).of (lk.rs tt)⟩, rfl⟩) (fun y2 => absurd y y2)
  · exact r_tried (by omega) h4.2.1 h4.oy h4.yr9 h2.2.2 h3.tln h3.sln h3.slr h3.lwr h3.ok h3.dn h3.dr2 h4.left hx hy ha (fun y2 => absurd y2 y) (fun _ => ⟨_, rfl, ⟨tp, hI.of (th_rs tt)⟩, rfl⟩)
theorem p_freed (hI : INV s) (hd : 200 ≤ d) {x : Int} (hx : iR x) : PR d h0 s 31 165 [vI x] vI := by
  obtain ⟨tp, hI⟩ := hI
  have tt := hI.told.1
  have hS := hI.told.2.1
  have hT := hI.told.2.2
  obtain ⟨sp, D, T, S, E, K, L, sz, vw, rf, sl, yr, la, ll, n, c, zqq, Hs, ia, zr, kf, kd, on, ot, mu, ab, h1, h2, h3, h4, h5, h6, h7⟩ := id hI
  refine m_freed (by omega) h4.pl hx (fun y => ⟨⟨_, rfl⟩, s, rfl, ?_⟩) (fun y => ⟨⟨_, rfl⟩, s, rfl, ?_⟩)
  · exact r_freed (by omega) h4.rd0 h3.dn h3.dr2 h4.left hx (fun _ wqq lk => ⟨wqq, rfl, ⟨tp, hI.of (lk.rs tt)⟩, rfl⟩) (fun y2 => absurd y y2)
  · exact r_freed (by omega) h4.rd0 h3.dn h3.dr2 h4.left hx (fun y2 => absurd y2 y) (fun _ => ⟨_, rfl, ⟨tp, hI.of (th_rs tt)⟩, rfl⟩)
theorem p_count (hI : INV s) (hd : 200 ≤ d) {x : Int} (hx : iR x) : PR d h0 s 43 182 [vI x] vI := by
  obtain ⟨tp, hI⟩ := hI
  have tt := hI.told.1
  have hS := hI.told.2.1
  have hT := hI.told.2.2
  obtain ⟨sp, D, T, S, E, K, L, sz, vw, rf, sl, yr, la, ll, n, c, zqq, Hs, ia, zr, kf, kd, on, ot, mu, ab, h1, h2, h3, h4, h5, h6, h7⟩ := id hI
  have kr := h7.2.2
  refine m_count (by omega) tt hT h4.1 h5.1 h3.dc h3.tlc.1 h3.2.2.2.1.2.2.2.1.1 h7.1.1 h7.1.2.1 ⟨kr.2.1, by have := kr.1; have := kr.2.2.1; omega⟩ hx ⟨⟨_, rfl⟩, s, rfl, ?_⟩
  exact r_count (by omega) h4.2.1 h5.2.1 h3.dn h3.tln.1 h3.2.2.2.2.1.1.2.2.2.2 h7.2.1.1 h7.2.1.2.1 ⟨kr.2.1, by have := kr.1; have := kr.2.2.1; omega⟩ hx (fun wqq lk => ⟨wqq, rfl, ⟨tp, hI.of (lk.rs tt)⟩, rfl⟩)
theorem p_alike (hI : INV s) (hd : 200 ≤ d)  : PR d h0 s 16 140 [] vI := by
  obtain ⟨tp, hI⟩ := hI
  have tt := hI.told.1
  have hS := hI.told.2.1
  have hT := hI.told.2.2
  obtain ⟨sp, D, T, S, E, K, L, sz, vw, rf, sl, yr, la, ll, n, c, zqq, Hs, ia, zr, kf, kd, on, ot, mu, ab, h1, h2, h3, h4, h5, h6, h7⟩ := id hI
  by_cases y : ia = 1
  · obtain ⟨vw2, rf2, sl2, yr2, la2, ll2, n2, c2, a1, a2, a3⟩ := h6.2.2.2 y
    refine m_alike (tp := tp) (L' := ll2) (n' := n2) (c' := c2) (by omega) h4.pl h6.1 h6.2.2.1 (fun _ => a1.2.2.2.2.2) (fun y2 => absurd y (by omega)) (fun _ y2 => ⟨⟨_, rfl⟩, s, rfl, ?_⟩) (fun _ y2 tqq lkc => ⟨⟨_, rfl⟩, tqq, rfl, ?_⟩)
    · exact r_alike (L' := ll2) (n' := n2) (c' := c2) (by omega) h4.rd0 h6.2.1 h6.2.2.1 (fun _ => a2.2.2.2.2.2) (fun y3 => absurd y (by omega)) (fun _ _ => ⟨_, rfl, ⟨tp, hI.of (th_rs tt)⟩, rfl⟩) (fun _ y3 => absurd y3 y2)
    · have g := lkC.rs (tp := tp) lkc tt
      have j4 := h4.rd g
      have j6 := h6.rd g
      have b2 := a2.of (tqq := tqq) (fun b r q => g b r (Or.inr (Or.inr (Or.inr (Or.inr (Or.inr (Or.inl (by omega))))))))
      exact r_alike (L' := ll2) (n' := n2) (c' := c2) (by omega) j4.rd0 j6.2.1 j6.2.2.1 (fun _ => b2.2.2.2.2.2) (fun y3 => absurd y (by omega)) (fun _ y3 => absurd y2 y3) (fun _ _ wqq lk => ⟨wqq, rfl, ⟨tp, (hI.of g).of (lk.rs tt)⟩, rfl⟩)
  · refine m_alike (tp := tp) (L' := 0) (n' := 0) (c' := c) (by omega) h4.pl h6.1 h6.2.2.1 (fun y2 => absurd y2 y) (fun _ => ⟨⟨_, rfl⟩, s, rfl, ?_⟩) (fun y2 => absurd y2 y) (fun y2 => absurd y2 y)
    exact r_alike (L' := 0) (n' := 0) (c' := c) (by omega) h4.rd0 h6.2.1 h6.2.2.1 (fun y2 => absurd y2 y) (fun _ => ⟨_, rfl, ⟨tp, hI.of (th_rs tt)⟩, rfl⟩) (fun y2 => absurd y2 y) (fun y2 => absurd y2 y)
end INV2
