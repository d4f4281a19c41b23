/-! INV: pairs: go, keep, back; readings; the tape -/
section INV4
variable {d : Nat} {h0 : pheap} {tp sp : Nat} {s tqq uqq : St} {D : Nat × (Int → Int)} {T : Nat × (Int → Int) × (Int → Int)} {S E : Int × Int} {K : KS} {L : (Int → Int) × (Int → Int)} {sz vw rf sl yr la ll D1 : Int} {n zqq : Nat} {c : Int → Int} {Hs : Hst} {ia kf : Int} {kd on ot mu ab : Int → Int}
theorem p_go (hI : INV s) (hd : 200 ≤ d) {m : Int} (hm : iR m) : PR d h0 s 24 150 [vI m] vI := by
  obtain ⟨tp, hI⟩ := hI
  have tt := hI.told.1
  have hS := hI.told.2.1
  have hT := hI.told.2.2
  obtain ⟨sp, D, T, S, E, K, L, sz, vw, rf, sl, yr, la, ll, n, c, zqq, Hs, ia, zr, kf, kd, on, ot, mu, ab, h1, h2, h3, h4, h5, h6, h7⟩ := id hI
  have ok := yrN_ok (L := ll) (kc := K.2) (lb := L.1) (le := L.2) (am := 0) (tu := 0) (way := 0) (slp := S.2) (K := T.1) (ty := T.2.1) (tc := T.2.2) h4.oy m.toNat
  refine m_go (by omega) tt hT h4.1 h5.1 h4.oy h4.yr9 h3.tlc h3.slc h3.slr h3.lwc h3.ok hm (fun y1 tqq ps pA1 pA2 gC => ⟨⟨_, rfl⟩, tqq, rfl, ?_⟩) (fun y => ⟨⟨_, rfl⟩, s, rfl, ?_⟩)
  · have y9 := h4.yr9
    have oy2 : (yrN ll K.2 L.1 L.2 0 0 0 S.2 T.1 T.2.1 T.2.2 (yOf vw rf sl yr la n c) m.toNat).2.2.1 = yr + (m.toNat : Int) := ok.2
    have rg : rgD D.1 (yrN ll K.2 L.1 L.2 0 0 0 S.2 T.1 T.2.1 T.2.2 (yOf vw rf sl yr la n c) m.toNat).1.1 (yrN ll K.2 L.1 L.2 0 0 0 S.2 T.1 T.2.1 T.2.2 (yOf vw rf sl yr la n c) m.toNat).2.2.1 (yrN ll K.2 L.1 L.2 0 0 0 S.2 T.1 T.2.1 T.2.2 (yOf vw rf sl yr la n c) m.toNat).2.2.2 ll (yrN ll K.2 L.1 L.2 0 0 0 S.2 T.1 T.2.1 T.2.2 (yOf vw rf sl yr la n c) m.toNat).1.2.2.1 := ⟨⟨ok.1.1, ok.1.2.1⟩, ⟨by omega, by omega⟩, ok.1.2.2.2, h4.left, ok.1.2.2.1⟩
    have dA : DA 53 (yrN ll K.2 L.1 L.2 0 0 0 S.2 T.1 T.2.1 T.2.2 (yOf vw rf sl yr la n c) m.toNat).1.1 (yrN ll K.2 L.1 L.2 0 0 0 S.2 T.1 T.2.1 T.2.2 (yOf vw rf sl yr la n c) m.toNat).1.2.1 (yrN ll K.2 L.1 L.2 0 0 0 S.2 T.1 T.2.1 T.2.2 (yOf vw rf sl yr la n c) m.toNat).2.1 (yrN ll K.2 L.1 L.2 0 0 0 S.2 T.1 T.2.1 T.2.2 (yOf vw rf sl yr la n c) m.toNat).2.2.1 (yrN ll K.2 L.1 L.2 0 0 0 S.2 T.1 T.2.1 T.2.2 (yOf vw rf sl yr la n c) m.toNat).2.2.2 ll (yrN ll K.2 L.1 L.2 0 0 0 S.2 T.1 T.2.1 T.2.2 (yOf vw rf sl yr la n c) m.toNat).1.2.2.1 (yrN ll K.2 L.1 L.2 0 0 0 S.2 T.1 T.2.1 T.2.2 (yOf vw rf sl yr la n c) m.toNat).1.2.2.2 tqq := ⟨ps.2.1, ps.2.2.1, ps.2.2.2.1, ps.2.2.2.2.1, ps.2.2.2.2.2, ps.1⟩
    have j1 := h1.nc gC tt
    have j2 := h2.nc gC tt
    have j3 := h3.nc gC tt
    have j6 := h6.nc gC tt
    have j7 := h7.nc gC tt
    have d4 := h4.2.1.of (fun b r q => gC.hi tt b r (by omega))
    have p5 := h5.2.1.of (fun b r q => gC.hi tt b r (by omega))
    refine r_go (by omega) p5 d4 h4.oy h4.yr9 j2.2.2 j3.tln j3.sln j3.slr j3.lwr j3.ok hm (fun _ uqq rs pU1 pU2 gN => ⟨uqq, rfl, ?_, rfl⟩) (fun y3 => absurd y1 y3)
    have dR : DR 0 (yrN ll K.2 L.1 L.2 0 0 0 S.2 T.1 T.2.1 T.2.2 (yOf vw rf sl yr la n c) m.toNat).1.1 (yrN ll K.2 L.1 L.2 0 0 0 S.2 T.1 T.2.1 T.2.2 (yOf vw rf sl yr la n c) m.toNat).1.2.1 (yrN ll K.2 L.1 L.2 0 0 0 S.2 T.1 T.2.1 T.2.2 (yOf vw rf sl yr la n c) m.toNat).2.1 (yrN ll K.2 L.1 L.2 0 0 0 S.2 T.1 T.2.1 T.2.2 (yOf vw rf sl yr la n c) m.toNat).2.2.1 (yrN ll K.2 L.1 L.2 0 0 0 S.2 T.1 T.2.1 T.2.2 (yOf vw rf sl yr la n c) m.toNat).2.2.2 ll (yrN ll K.2 L.1 L.2 0 0 0 S.2 T.1 T.2.1 T.2.2 (yOf vw rf sl yr la n c) m.toNat).1.2.2.1 (yrN ll K.2 L.1 L.2 0 0 0 S.2 T.1 T.2.1 T.2.2 (yOf vw rf sl yr la n c) m.toNat).1.2.2.2 uqq := ⟨rs.2.1, rs.2.2.1, rs.2.2.2.1, rs.2.2.2.2.1, rs.2.2.2.2.2, rs.1⟩
    by_cases m0 : m = 0
    · subst m0
      exact INV_new tt j1 j2 j3 j6 j7 gN dA (pA1 rfl) dR (pU1 rfl) rg h5.2.2.1 h5.2.2.2
    · have pU : PUs 0 Hs (yrN ll K.2 L.1 L.2 0 0 0 S.2 T.1 T.2.1 T.2.2 (yOf vw rf sl yr la n c) m.toNat).1.2.1 (yrN ll K.2 L.1 L.2 0 0 0 S.2 T.1 T.2.1 T.2.2 (yOf vw rf sl yr la n c) m.toNat).2.1 (yrN ll K.2 L.1 L.2 0 0 0 S.2 T.1 T.2.1 T.2.2 (yOf vw rf sl yr la n c) m.toNat).2.2.1 (yrN ll K.2 L.1 L.2 0 0 0 S.2 T.1 T.2.1 T.2.2 (yOf vw rf sl yr la n c) m.toNat).2.2.2 uqq := ⟨by decide, pU2 m0, fun i hi => by omega⟩
      exact INV_new tt j1 j2 j3 j6 j7 gN dA (pA2 m0) dR pU rg (fun i hi => by omega) (fun i hi => by omega)
  · exact r_go (by omega) h5.2.1 h4.2.1 h4.oy h4.yr9 h2.2.2 h3.tln h3.sln h3.slr h3.lwr h3.ok hm (fun y3 => absurd y3 y) (fun _ => ⟨_, rfl, ⟨tp, hI.of (th_rs tt)⟩, rfl⟩)
theorem p_keep (hI : INV s) (hd : 200 ≤ d)  : PR d h0 s 41 180 [] vI := by
  obtain ⟨tp, hI⟩ := hI
  have tt := hI.told.1
  have hS := hI.told.2.1
  have hT := hI.told.2.2
  obtain ⟨sp, D, T, S, E, K, L, sz, vw, rf, sl, yr, la, ll, n, c, zqq, Hs, ia, zr, kf, kd, on, ot, mu, ab, h1, h2, h3, h4, h5, h6, h7⟩ := id hI
  refine m_keep (by omega) h4.1 (fun tqq dA t8qq g => ⟨⟨_, rfl⟩, tqq, rfl, ?_⟩)
  have gh : ∀ (b : Nat) (r : Int), 94 ≤ b → tqq b r = s b r := fun b r q => g b r (by omega) (by omega)
  have d4 := h4.2.1.of (fun b r q => gh b r (by omega))
  refine r_keep (by omega) d4 (fun uqq dR u35 gk => ⟨uqq, rfl, ?_, rfl⟩)
  have G : ∀ (b : Nat) (r : Int), ¬ (58 ≤ b ∧ b ≤ 62) → ¬ (b = 32 ∧ r = 8) → ¬ (b = 94 ∧ (r = 0 ∨ r = 35)) → ¬ (106 ≤ b ∧ b ≤ 112 ∧ r = 2) → ¬ (b = 113 ∧ 96 ≤ r ∧ r < 144) → uqq b r = s b r := fun b r q1 q2 q3 q4 q5 => (gk b r q3 q4 (by omega)).trans (g b r (by omega) q2)
  exact ⟨tp, sp, D, T, S, E, K, L, sz, vw, rf, sl, yr, la, ll, n, c, zqq, Hs, 1, zr, kf, kd, on, ot, mu, ab, h1.of (fun b r q => G b r (by omega) (by omega) (by omega) (by omega) (by omega)), h2.of (fun b r q => G b r (by omega) (by omega) (by omega) (by omega) (by omega)), h3.of (fun b r q => G b r (by omega) (by omega) (by omega) (by omega) (by omega)), h4.of (fun b r q => G b r (by omega) (by omega) (by omega) (by omega) (by omega)), h5.of (fun b r q => G b r (by omega) (by omega) (by omega) (by omega) (by omega)), ⟨(gk 32 8 (by omega) (by omega) (by omega)).trans t8qq, u35, Or.inr rfl, fun _ => ⟨vw, rf, sl, yr, la, ll, n, c, dA.of (fun b r q1 q2 => gk b r (by omega) (by omega) (by omega)), dR, h4.2.2⟩⟩, h7.of (fun b r q => G b r (by omega) (by omega) (by omega) (by omega) (by omega))⟩
theorem p_back (hI : INV s) (hd : 200 ≤ d)  : PR d h0 s 42 181 [] vI := by
  obtain ⟨tp, hI⟩ := hI
  have tt := hI.told.1
  have hS := hI.told.2.1
  have hT := hI.told.2.2
  obtain ⟨sp, D, T, S, E, K, L, sz, vw, rf, sl, yr, la, ll, n, c, zqq, Hs, ia, zr, kf, kd, on, ot, mu, ab, h1, h2, h3, h4, h5, h6, h7⟩ := id hI
  by_cases y : ia = 1
  · obtain ⟨vw2, rf2, sl2, yr2, la2, ll2, n2, c2, a1, a2, a3⟩ := h6.2.2.2 y
    refine m_backY (Hs := Hs) (by omega) (h6.1.trans y) a1 (fun tqq dA pA g => ⟨⟨_, rfl⟩, tqq, rfl, ?_⟩)
    have gh : ∀ (b : Nat) (r : Int), 94 ≤ b → tqq b r = s b r := fun b r q => g b r (by omega) (by omega)
    have b2 := a2.of (fun b r q => gh b r (by omega))
    refine r_backY (Hs := Hs) (by omega) ((gh 94 35 (by omega)).trans (h6.2.1.trans y)) b2 (fun uqq dR pU gk => ⟨uqq, rfl, ?_, rfl⟩)
    have G : ∀ (b : Nat) (r : Int), ¬ (53 ≤ b ∧ b ≤ 57) → ¬ b = 70 → ¬ (b = 94 ∧ (r = 0 ∨ r = 36)) → ¬ (106 ≤ b ∧ b ≤ 112 ∧ r = 0) → ¬ (b = 113 ∧ 0 ≤ r ∧ r < 48) → uqq b r = s b r := fun b r q1 q2 q3 q4 q5 => (gk b r q3 q4 (by omega)).trans (g b r (by omega) q2)
    exact ⟨tp, sp, D, T, S, E, K, L, sz, vw2, rf2, sl2, yr2, la2, ll2, n2, c2, 0, Hs, ia, zr, kf, kd, on, ot, mu, ab, h1.of (fun b r q => G b r (by omega) (by omega) (by omega) (by omega) (by omega)), h2.of (fun b r q => G b r (by omega) (by omega) (by omega) (by omega) (by omega)), h3.of (fun b r q => G b r (by omega) (by omega) (by omega) (by omega) (by omega)), ⟨dA.of (fun b r q1 q2 => gk b r (by omega) (by omega) (by omega)), dR, a3⟩, ⟨pA.of (fun b r q => gk b r (by omega) (by omega) (by omega)), pU, fun i hi => by omega, fun i hi => by omega⟩, h6.of (fun b r q => G b r (by omega) (by omega) (by omega) (by omega) (by omega)), h7.of (fun b r q => G b r (by omega) (by omega) (by omega) (by omega) (by omega))⟩
  · have y0 : ia = 0 := by have := h6.2.2.1; omega
    refine m_backN (h6.1.trans y0) ⟨⟨_, rfl⟩, s, rfl, ?_⟩
    exact r_backN (h6.2.1.trans y0) ⟨_, rfl, ⟨tp, hI.of (th_rs tt)⟩, rfl⟩
theorem rds_known {zr : Nat} {x : Int} (h : IRd zr kf kd on ot mu ab s) (hx : -1 ≤ x ∧ x ≤ zr) : IRd zr x kd on ot mu ab (up (up (up s 75 7 x) 94 0 0) 94 51 x) := by
  obtain ⟨⟨a1, a2, a3⟩, ⟨b1, b2, b3⟩, h3⟩ := h
  refine ⟨⟨by rw [up_f (by omega), up_f (by omega), up_f (by omega)]; exact a1, by rw [up_f (by omega), up_f (by omega), up_e], fun i i0 i1 => ?_⟩, ⟨by rw [up_f (by omega), up_f (by omega), up_f (by omega)]; exact b1, up_e, fun i i0 i1 => ?_⟩, h3.1, hx.1, hx.2, h3.2.2.2⟩
  · have e : ∀ b : Nat, 76 ≤ b → b ≤ 80 → up (up (up s 75 7 x) 94 0 0) 94 51 x b i = s b i := fun b q1 q2 => by rw [up_f (by omega), up_f (by omega), up_f (by omega)]
    rw [e 76 (by omega) (by omega), e 77 (by omega) (by omega), e 78 (by omega) (by omega), e 79 (by omega) (by omega), e 80 (by omega) (by omega)]
    exact a3 i i0 i1
  · have e : ∀ b : Nat, 124 ≤ b → b ≤ 128 → up (up (up s 75 7 x) 94 0 0) 94 51 x b i = s b i := fun b q1 q2 => by rw [up_f (by omega), up_f (by omega), up_f (by omega)]
    rw [e 124 (by omega) (by omega), e 125 (by omega) (by omega), e 126 (by omega) (by omega), e 127 (by omega) (by omega), e 128 (by omega) (by omega)]
    exact b3 i i0 i1
theorem INV_rd {zr2 : Nat} {kf2 : Int} {kd2 on2 ot2 mu2 ab2 : Int → Int} (tt : tp = 37 ∨ tp = 45) (h1 : IT sz s) (h2 : IFt s) (h3 : IS tp sp D T S E K L s) (h4 : ID D.1 vw rf sl yr la ll n c s) (h5 : IP D.1 zqq Hs rf sl yr la s) (h6 : II D.1 ia s) (g : ∀ (b : Nat) (r : Int), ¬ (b = 75 ∧ (r = 6 ∨ r = 7)) → ¬ (76 ≤ b ∧ b ≤ 80) → ¬ (b = 94 ∧ (r = 0 ∨ r = 50 ∨ r = 51)) → ¬ (124 ≤ b ∧ b ≤ 128) → uqq b r = s b r) (h7 : IRd zr2 kf2 kd2 on2 ot2 mu2 ab2 uqq) : INV uqq :=
  ⟨tp, sp, D, T, S, E, K, L, sz, vw, rf, sl, yr, la, ll, n, c, zqq, Hs, ia, zr2, kf2, kd2, on2, ot2, mu2, ab2, h1.of (fun b r q => g b r (by omega) (by omega) (by omega) (by omega)), h2.of (fun b r q => g b r (by omega) (by omega) (by omega) (by omega)), h3.of (fun b r q => g b r (by omega) (by omega) (by omega) (by omega)), h4.of (fun b r q => g b r (by omega) (by omega) (by omega) (by omega)), h5.of (fun b r q => g b r (by omega) (by omega) (by omega) (by omega)), h6.of (fun b r q => g b r (by omega) (by omega) (by omega) (by omega)), h7⟩
theorem p_known (hI : INV s) (hd : 200 ≤ d) {x : Int} (hx : iR x) : PR d h0 s 36 172 [vI x] vI := by
  obtain ⟨tp, hI⟩ := hI
  have tt := hI.told.1
  have hS := hI.told.2.1
  have hT := hI.told.2.2
  obtain ⟨sp, D, T, S, E, K, L, sz, vw, rf, sl, yr, la, ll, n, c, zqq, Hs, ia, zr, kf, kd, on, ot, mu, ab, h1, h2, h3, h4, h5, h6, h7⟩ := id hI
  refine m_known (by omega) h7.1.1 h7.2.2.1 hx ⟨⟨_, rfl⟩, _, rfl, ?_⟩
  have e50 : (if -1 ≤ x ∧ x ≤ zr then up s 75 7 x else s) 94 50 = zr := by
    split
    · rw [up_a (by decide)]
      exact h7.2.1.1
    · exact h7.2.1.1
  refine r_known e50 h7.2.2.1 hx ⟨_, rfl, ?_, rfl⟩
  by_cases y : -1 ≤ x ∧ x ≤ zr
  · rw [if_pos y, if_pos y]
    exact INV_rd tt h1 h2 h3 h4 h5 h6 (fun b r q1 q2 q3 q4 => by rw [up_f (by omega), up_f (by omega), up_f (by omega)]) (rds_known h7 y)
  · rw [if_neg y, if_neg y]
    exact ⟨tp, hI.of (th_rs tt)⟩
end INV4
