/-! INV: pairs: readings put; the tape -/
section INV5
variable {d : Nat} {h0 : pheap} {tp sp : Nat} {s tqq uqq : St} {D : Nat × (Int → Int)} {T : Nat × (Int → Int) × (Int → Int)} {S E : Int × Int} {K : KS} {L : (Int → Int) × (Int → Int)} {sz vw rf sl yr la ll D1 : Int} {n zqq : Nat} {c : Int → Int} {Hs : Hst} {ia kf : Int} {kd on ot mu ab : Int → Int} {x1 x2 x3 x4 x5 y3 y4 y5 : Int}
theorem rds_lo {b : Nat} {i : Int} (h1 : b < 94 ∨ (95 ≤ b ∧ b ≤ 123) ∨ 128 < b) : rnS (up s 94 0 0) zqq x1 x2 y3 y4 y5 b i = s b i := by
  unfold rnS
  rw [up_f (by omega), up_f (by omega), up_f (by omega), up_f (by omega), up_f (by omega), up_f (by omega), up_f (by omega)]
theorem rds_hi {b : Nat} {i : Int} (h1 : ¬ (b = 75 ∧ i = 6)) (h2 : ¬ (76 ≤ b ∧ b ≤ 80 ∧ i = zqq)) : rcS s zqq x1 x2 x3 x4 x5 b i = s b i := by
  unfold rcS
  rw [up_f (by omega), up_f (by omega), up_f (by omega), up_f (by omega), up_f (by omega), up_f (by omega)]
theorem rds_nh {b : Nat} {i : Int} (h1 : ¬ (b = 94 ∧ (i = 0 ∨ i = 50))) (h2 : ¬ (124 ≤ b ∧ b ≤ 128 ∧ i = zqq)) : rnS (up s 94 0 0) zqq x1 x2 y3 y4 y5 b i = s b i := by
  unfold rnS
  rw [up_f (by omega), up_f (by omega), up_f (by omega), up_f (by omega), up_f (by omega), up_f (by omega), up_f (by omega)]
theorem updF_n {f : Int → Int} {x : Int} {i : Int} (h : i ≠ zqq) : updF f zqq x i = f i := by
  unfold updF
  rw [if_neg h]
theorem updF_z {f : Int → Int} {x : Int} : updF f zqq x zqq = x := by
  unfold updF
  rw [if_pos rfl]
theorem rds_put (h : IRd zqq kf kd on ot mu ab s) (hz : zqq < 24) (h3 : x1 ≠ 2 → y3 = x3 ∧ y4 = x4 ∧ y5 = x5) (hk : (0 ≤ x1 ∧ x1 ≤ 2) ∧ (x1 ≠ 2 → 0 ≤ x2 ∧ x2 < 6 ∧ 0 ≤ x3 ∧ x3 < 6 ∧ -48 ≤ x4 ∧ x4 ≤ 48 ∧ (x5 = 0 ∨ x5 = 1)) ∧ (x1 = 0 → 0 ≤ x4) ∧ (x1 = 1 → x2 ≠ x3) ∧ (x1 = 2 → 0 ≤ x2 ∧ x2 < zqq)) : IRd (zqq + 1) kf (updF kd zqq x1) (updF on zqq x2) (updF ot zqq x3) (updF mu zqq x4) (updF ab zqq x5) (rnS (up (rcS s zqq x1 x2 x3 x4 x5) 94 0 0) zqq x1 x2 y3 y4 y5) := by
  obtain ⟨⟨a1, a2, a3⟩, ⟨b1, b2, b3⟩, h5⟩ := h
  refine ⟨⟨?_, ?_, fun i i0 i1 => ?_⟩, ⟨?_, ?_, fun i i0 i1 => ?_⟩, by omega, h5.2.1, by have := h5.2.2.1; omega, fun i i0 i1 => ?_⟩
  · rw [rds_lo (by omega)]
    unfold rcS
    rw [up_e]
    rfl
  · rw [rds_lo (by omega), rds_hi (by omega) (by omega)]
    exact a2
  · rw [rds_lo (by omega), rds_lo (by omega), rds_lo (by omega), rds_lo (by omega), rds_lo (by omega)]
    by_cases q : i = zqq
    · subst q
      rw [updF_z, updF_z, updF_z, updF_z, updF_z]
      unfold rcS
      exact ⟨by rw [up_a (by decide), up_a (by decide), up_a (by decide), up_a (by decide), up_a (by decide), up_e], by rw [up_a (by decide), up_a (by decide), up_a (by decide), up_a (by decide), up_e], fun _ => ⟨by rw [up_a (by decide), up_a (by decide), up_a (by decide), up_e], by rw [up_a (by decide), up_a (by decide), up_e], by rw [up_a (by decide), up_e]⟩⟩
    · rw [updF_n q, updF_n q, updF_n q, updF_n q, updF_n q, rds_hi (by omega) (by omega), rds_hi (by omega) (by omega), rds_hi (by omega) (by omega), rds_hi (by omega) (by omega), rds_hi (by omega) (by omega)]
      exact a3 i i0 (by omega)
  · unfold rnS
    rw [up_e]
    rfl
  · rw [rds_nh (by omega) (by omega), rds_hi (by omega) (by omega)]
    exact b2
  · by_cases q : i = zqq
    · subst q
      rw [updF_z, updF_z, updF_z, updF_z, updF_z]
      unfold rnS
      refine ⟨by rw [up_a (by decide), up_a (by decide), up_a (by decide), up_a (by decide), up_a (by decide), up_e], by rw [up_a (by decide), up_a (by decide), up_a (by decide), up_a (by decide), up_e], fun e => ?_⟩
      obtain ⟨e3, e4, e5⟩ := h3 e
      exact ⟨by rw [up_a (by decide), up_a (by decide), up_a (by decide), up_e]; exact e3, by rw [up_a (by decide), up_a (by decide), up_e]; exact e4, by rw [up_a (by decide), up_e]; exact e5⟩
    · rw [updF_n q, updF_n q, updF_n q, updF_n q, updF_n q, rds_nh (by omega) (by omega), rds_hi (by omega) (by omega), rds_nh (by omega) (by omega), rds_hi (by omega) (by omega), rds_nh (by omega) (by omega), rds_hi (by omega) (by omega), rds_nh (by omega) (by omega), rds_hi (by omega) (by omega), rds_nh (by omega) (by omega), rds_hi (by omega) (by omega)]
      exact b3 i i0 (by omega)
  · by_cases q : i = zqq
    · subst q
      rw [updF_z, updF_z, updF_z, updF_z, updF_z]
      exact hk
    · rw [updF_n q, updF_n q, updF_n q, updF_n q, updF_n q]
      exact h5.2.2.2 i i0 (by omega)
theorem INV_put {zr : Nat} (tt : tp = 37 ∨ tp = 45) (h1 : IT sz s) (h2 : IFt s) (h3 : IS tp sp D T S E K L s) (h4 : ID D.1 vw rf sl yr la ll n c s) (h5 : IP D.1 zqq Hs rf sl yr la s) (h6 : II D.1 ia s) (h : IRd zr kf kd on ot mu ab s) (hz : zr < 24) (h3 : x1 ≠ 2 → y3 = x3 ∧ y4 = x4 ∧ y5 = x5) (hk : (0 ≤ x1 ∧ x1 ≤ 2) ∧ (x1 ≠ 2 → 0 ≤ x2 ∧ x2 < 6 ∧ 0 ≤ x3 ∧ x3 < 6 ∧ -48 ≤ x4 ∧ x4 ≤ 48 ∧ (x5 = 0 ∨ x5 = 1)) ∧ (x1 = 0 → 0 ≤ x4) ∧ (x1 = 1 → x2 ≠ x3) ∧ (x1 = 2 → 0 ≤ x2 ∧ x2 < zr)) : INV (rnS (up (rcS s zr x1 x2 x3 x4 x5) 94 0 0) zr x1 x2 y3 y4 y5) :=
  INV_rd tt h1 h2 (by assumption) h4 h5 h6 (fun b r q1 q2 q3 q4 => by rw [rds_nh (by omega) (by omega), rds_hi (by omega) (by omega)]) (rds_put h hz h3 hk)
theorem iand_255 (x : Int) : 0 ≤ i_and x 255 ∧ i_and x 255 < 256 := by
  unfold i_and
  have e1 : (Int32.ofInt x &&& Int32.ofInt 255).toBitVec.toNat = ((x % 4294967296).toNat % 256) := by
    rw [Int32.toBitVec_and, BitVec.toNat_and, Int32.toBitVec_ofInt, Int32.toBitVec_ofInt, BitVec.toNat_ofInt, BitVec.toNat_ofInt]
    have : ((255 : Int) % ((2 ^ 32 : Nat) : Int)).toNat = 2 ^ 8 - 1 := by decide
    rw [this, Nat.and_two_pow_sub_one_eq_mod]
    rfl
  rw [← Int32.toInt_toBitVec, BitVec.toInt_eq_toNat_of_lt]
  · omega
  · omega
theorem rbB_R (vqq : Int) (k : Nat) : 0 ≤ rbB vqq k ∧ rbB vqq k < 256 := by
  unfold rbB
  exact iand_255 _
theorem p_read (hI : INV s) (hd : 200 ≤ d) {m x y o : Int} (hm : iR m) (hx : iR x) (hy : iR y) (ho : o = 0 ∨ o = 1) : PR d h0 s 33 169 [vI m, vI x, vI y, vI o] vI := by
  obtain ⟨tp, hI⟩ := hI
  have tt := hI.told.1
  have hS := hI.told.2.1
  have hT := hI.told.2.2
  obtain ⟨sp, D, T, S, E, K, L, sz, vw, rf, sl, yr, la, ll, n, c, zqq, Hs, ia, zr, kf, kd, on, ot, mu, ab, h1, h2, h3, h4, h5, h6, h7⟩ := id hI
  have zz := h7.2.2.1
  have d6 := h3.dr
  refine m_read (z := zr) (by omega) hS hT h3.dc h3.dr2 h7.1.1 zz hm hx hy ho (fun y => ⟨⟨_, rfl⟩, _, rfl, ?_⟩) (fun y => ⟨⟨_, rfl⟩, s, rfl, ?_⟩)
  · refine r_read (z := zr) (by omega) (by rw [rds_hi (by omega) (by omega)]; exact h3.dn) h3.dr2 (by rw [rds_hi (by omega) (by omega)]; exact h7.2.1.1) zz hm hx hy ho (fun _ => ⟨_, rfl, ?_, rfl⟩) (fun y2 => absurd y y2)
    exact INV_put tt h1 h2 h3 h4 h5 h6 h7 y.2 (fun e => ⟨rfl, rfl, rfl⟩) (by omega)
  · exact r_read (z := zr) (by omega) h3.dn h3.dr2 h7.2.1.1 zz hm hx hy ho (fun y2 => absurd y2 y) (fun _ => ⟨_, rfl, ⟨tp, hI.of (th_rs tt)⟩, rfl⟩)
theorem p_readBond (hI : INV s) (hd : 200 ≤ d) {m x y o : Int} (hm : iR m) (hx : iR x) (hy : iR y) (ho : o = 0 ∨ o = 1) : PR d h0 s 34 170 [vI m, vI x, vI y, vI o] vI := by
  obtain ⟨tp, hI⟩ := hI
  have tt := hI.told.1
  have hS := hI.told.2.1
  have hT := hI.told.2.2
  obtain ⟨sp, D, T, S, E, K, L, sz, vw, rf, sl, yr, la, ll, n, c, zqq, Hs, ia, zr, kf, kd, on, ot, mu, ab, h1, h2, h3, h4, h5, h6, h7⟩ := id hI
  have zz := h7.2.2.1
  have d6 := h3.dr
  refine m_readBond (z := zr) (by omega) hS hT h3.dc h3.dr2 h7.1.1 zz hm hx hy ho (fun y => ⟨⟨_, rfl⟩, _, rfl, ?_⟩) (fun y => ⟨⟨_, rfl⟩, s, rfl, ?_⟩)
  · refine r_readBond (z := zr) (by omega) (by rw [rds_hi (by omega) (by omega)]; exact h3.dn) h3.dr2 (by rw [rds_hi (by omega) (by omega)]; exact h7.2.1.1) zz hm hx hy ho (fun _ => ⟨_, rfl, ?_, rfl⟩) (fun y2 => absurd y y2)
    exact INV_put tt h1 h2 h3 h4 h5 h6 h7 y.2 (fun e => ⟨rfl, rfl, rfl⟩) (by omega)
  · exact r_readBond (z := zr) (by omega) h3.dn h3.dr2 h7.2.1.1 zz hm hx hy ho (fun y2 => absurd y2 y) (fun _ => ⟨_, rfl, ⟨tp, hI.of (th_rs tt)⟩, rfl⟩)
theorem p_strike (hI : INV s) (hd : 200 ≤ d) {x : Int} (hx : iR x) : PR d h0 s 35 171 [vI x] vI := by
  obtain ⟨tp, hI⟩ := hI
  have tt := hI.told.1
  have hS := hI.told.2.1
  have hT := hI.told.2.2
  obtain ⟨sp, D, T, S, E, K, L, sz, vw, rf, sl, yr, la, ll, n, c, zqq, Hs, ia, zr, kf, kd, on, ot, mu, ab, h1, h2, h3, h4, h5, h6, h7⟩ := id hI
  have zz := h7.2.2.1
  have d6 := h3.dr
  refine m_strike (z := zr) (by omega) h7.1.1 zz hx (fun y => ⟨⟨_, rfl⟩, _, rfl, ?_⟩) (fun y => ⟨⟨_, rfl⟩, s, rfl, ?_⟩)
  · refine r_strike (z := zr) (by omega) (by rw [rds_hi (by omega) (by omega)]; exact h7.2.1.1) zz hx (fun _ => ⟨_, rfl, ?_, rfl⟩) (fun y2 => absurd y y2)
    exact INV_put tt h1 h2 h3 h4 h5 h6 h7 y.2 (fun e => absurd rfl e) (by omega)
  · exact r_strike (z := zr) (by omega) h7.2.1.1 zz hx (fun y2 => absurd y2 y) (fun _ => ⟨_, rfl, ⟨tp, hI.of (th_rs tt)⟩, rfl⟩)
theorem p_feed (hI : INV s) (hd : 200 ≤ d) {x1 x2 x3 x4 x5 : Int} (hx1 : iR x1) (hx2 : iR x2) (hx3 : iR x3) (hx4 : iR x4) (hx5 : iR x5) : PR d h0 s 7 59 [vI x1, vI x2, vI x3, vI x4, vI x5] vI := by
  obtain ⟨tp, hI⟩ := hI
  have tt := hI.told.1
  have hS := hI.told.2.1
  have hT := hI.told.2.2
  obtain ⟨sp, D, T, S, E, K, L, sz, vw, rf, sl, yr, la, ll, n, c, zqq, Hs, ia, zr, kf, kd, on, ot, mu, ab, h1, h2, h3, h4, h5, h6, h7⟩ := id hI
  refine m_feed (by omega) h1.2.1 h1.1 (fun tqq t1qq t2qq t3qq gt => ⟨⟨_, rfl⟩, tqq, rfl, ?_⟩)
  refine r_feed ((gt 94 2 (by omega) (by omega)).trans h1.2.2.1) h1.1 (fun uqq u1qq u2qq u3qq gu => ⟨uqq, rfl, ?_, rfl⟩)
  have G : ∀ (b : Nat) (r : Int), ¬ b = 34 → ¬ (b = 33 ∧ r = 1) → ¬ b = 95 → ¬ (b = 94 ∧ r = 2) → ¬ (b = 94 ∧ r = 0) → uqq b r = s b r := fun b r q1 q2 q3 q4 q5 => (gu b r q3 q4 q5).trans (gt b r q1 q2)
  have z0qq := h1.1
  refine ⟨tp, sp, D, T, S, E, K, L, (if sz ≤ 680 then sz + 20 else sz), vw, rf, sl, yr, la, ll, n, c, zqq, Hs, ia, zr, kf, kd, on, ot, mu, ab, ⟨by split <;> omega, (gu 33 1 (by omega) (by omega) (by omega)).trans t1qq, u1qq, fun i i0 i1 => ?_⟩, h2.of (fun b r q => G b r (by omega) (by omega) (by omega) (by omega) (by omega)), h3.of (fun b r q => G b r (by omega) (by omega) (by omega) (by omega) (by omega)), h4.of (fun b r q => G b r (by omega) (by omega) (by omega) (by omega) (by omega)), h5.of (fun b r q => G b r (by omega) (by omega) (by omega) (by omega) (by omega)), h6.of (fun b r q => G b r (by omega) (by omega) (by omega) (by omega) (by omega)), h7.of (fun b r q => G b r (by omega) (by omega) (by omega) (by omega) (by omega))⟩
  rw [gu 34 i (by omega) (by omega) (by omega)]
  by_cases q : i < sz
  · rw [t2qq i q, u2qq i q, gt 95 i (by omega) (by omega)]
    exact h1.2.2.2 i i0 q
  · have y : sz ≤ 680 := by
      split at i1 <;> omega
    rw [if_pos y] at i1
    obtain ⟨j, hj⟩ : ∃ j : Nat, i = sz + j := ⟨(i - sz).toNat, by omega⟩
    subst hj
    rw [t3qq y j (by omega), u3qq y j (by omega), cbB_rbB]
    exact ⟨rfl, rbB_R _ _⟩
end INV5
