/-! INV: pairs: the text -/
section INV6
variable {d : Nat} {h0 : pheap} {tp sp : Nat} {s tqq uqq : St} {D : Nat × (Int → Int)} {T : Nat × (Int → Int) × (Int → Int)} {S E : Int × Int} {K : KS} {L : (Int → Int) × (Int → Int)} {sz vw rf sl yr la ll D1 : Int} {n zqq N : Nat} {c : Int → Int} {Hs : Hst} {ia kf f pl : Int} {kd on ot mu ab : Int → Int}
theorem TSN.low (h : TSN D T S E K L s) (x : XI D T S E K L) (g : ∀ (b : Nat) (r : Int), (b = 96 ∧ r < 5) ∨ (b = 97 ∧ r < 6) ∨ ((b = 98 ∨ b = 99) ∧ r < 24) ∨ ((b = 100 ∨ b = 101) ∧ r < 3) ∨ ((b = 102 ∨ b = 103) ∧ r < 64) → tqq b r = s b r) : TSN D T S E K L tqq := by
  obtain ⟨⟨a1, a2, a3, a4, a5⟩, b1, c1, d1, e⟩ := h
  have x1 := x.1.1
  have x2 := x.2.1.1
  have x3 := x.2.2.2.2.1
  refine ⟨⟨(g _ _ (by omega)).trans a1, (g _ _ (by omega)).trans a2, (g _ _ (by omega)).trans a3, (g _ _ (by omega)).trans a4, (g _ _ (by omega)).trans a5⟩, fun i i0 i1 => (g _ _ (by omega)).trans (b1 i i0 i1), fun i i0 i1 => ⟨(g _ _ (by omega)).trans (c1 i i0 i1).1, (g _ _ (by omega)).trans (c1 i i0 i1).2⟩, fun i i0 i1 => ⟨(g _ _ (by omega)).trans (d1 i i0 i1).1, (g _ _ (by omega)).trans (d1 i i0 i1).2⟩, fun i i0 i1 => ?_⟩
  rw [g 102 i (by omega), g 103 i (by omega)]
  exact e i i0 i1
theorem lD_L0 {m : Nat} (h : m ≤ 6) : lD (L0 m) m := fun x x0 x1 e => by
  have := (L0_f ⟨m, by omega⟩).2.2.2 ⟨x.toNat, by omega⟩
  simp only [Int.toNat_of_nonneg x0] at this
  rw [this] at e
  split at e
  · omega
  · omega
/-- INV behind a text that is refused -/
theorem INV_no (h3 : IS tp sp D T S E K L s) (h2 : IFt s) (h4 : ID D.1 vw rf sl yr la ll n c s) (h5 : IP D.1 zqq Hs rf sl yr la s) (h6 : II D.1 ia s) {zr : Nat} (h7 : IRd zr kf kd on ot mu ab s) (a : TXF sp f pl s tqq) (b : TRF f pl tqq uqq) : INV uqq := by
  obtain ⟨a1, a2, a3, a4⟩ := a
  obtain ⟨b1, b2, b3, b4, b5⟩ := b
  have tt := h3.1
  have lo : ∀ (b : Nat) (r : Int), b < 94 → uqq b r = tqq b r := fun b r q => b5 b r (by omega) (by omega) (by omega) (by omega) (by omega) (by omega)
  have G : ∀ (b : Nat) (r : Int), ¬ b = 33 → ¬ b = 35 → ¬ b = 36 → ¬ (sp ≤ b ∧ b ≤ sp + 7) → ¬ (b = 32 ∧ (r = 4 ∨ r = 5)) → ¬ (b = 94 ∧ (r = 0 ∨ r = 2 ∨ 11 ≤ r ∧ r ≤ 23)) → ¬ (b = 96 ∧ 5 ≤ r) → ¬ (b = 97 ∧ 6 ≤ r) → ¬ ((b = 98 ∨ b = 99) ∧ 24 ≤ r) → ¬ ((b = 100 ∨ b = 101) ∧ 3 ≤ r) → ¬ ((b = 102 ∨ b = 103) ∧ 64 ≤ r) → uqq b r = s b r := fun b r q1 q2 q3 q4 q5 q6 q7 q8 q9 q10 q11 => (b5 b r q6 q7 q8 q9 q10 q11).trans (a4 b r q1 q2 q3 q4 q5)
  have G2 : ∀ (b : Nat) (r : Int), 53 ≤ b → ¬ (94 ≤ b ∧ b ≤ 103) → uqq b r = s b r := fun b r q1 q2 => G b r (by omega) (by omega) (by omega) (by omega) (by omega) (by omega) (by omega) (by omega) (by omega) (by omega) (by omega)
  have G3 : ∀ r : Int, ¬ (r = 0 ∨ r = 2 ∨ 11 ≤ r ∧ r ≤ 23) → uqq 94 r = s 94 r := fun r q => G 94 r (by omega) (by omega) (by omega) (by omega) (by omega) (by omega) (by omega) (by omega) (by omega) (by omega) (by omega)
  have G4 : ∀ r : Int, ¬ (r = 4 ∨ r = 5) → uqq 32 r = s 32 r := fun r q => G 32 r (by omega) (by omega) (by omega) (by omega) (by omega) (by omega) (by omega) (by omega) (by omega) (by omega) (by omega)
  refine ⟨tp, sp, D, T, S, E, K, L, 0, vw, rf, sl, yr, la, ll, n, c, zqq, Hs, ia, zr, kf, kd, on, ot, mu, ab, ⟨by decide, (lo 33 1 (by omega)).trans a3, b2, fun i i0 i1 => by omega⟩, ⟨?_, ?_, (G3 45 (by omega)).trans h2.2.2⟩, ⟨h3.1, (G4 2 (by omega)).trans h3.2.1, (G4 3 (by omega)).trans h3.2.2.1, h3.2.2.2.1.of6 (fun b r q1 q2 q3 => G b r (by omega) (by omega) (by omega) (by omega) (by omega) (by omega) (by omega) (by omega) (by omega) (by omega) (by omega)), h3.2.2.2.2.1.low h3.2.2.2.2.2 (fun b r q => G b r (by omega) (by omega) (by omega) (by omega) (by omega) (by omega) (by omega) (by omega) (by omega) (by omega) (by omega)), h3.2.2.2.2.2⟩, h4.of (fun b r q => G2 b r (by omega) (by omega)), h5.of (fun b r q => ?_), h6.of (fun b r q => ?_), h7.of (fun b r q => ?_)⟩
  · rw [lo 32 4 (by omega), a1, b3]
  · rw [lo 32 5 (by omega), a2, b4]
  · by_cases q9 : b = 94
    · subst q9
      exact G3 r (by omega)
    · exact G2 b r (by omega) (by omega)
  · by_cases q9 : b = 94
    · subst q9
      exact G3 r (by omega)
    · by_cases q8 : b = 32
      · subst q8
        exact G4 r (by omega)
      · exact G2 b r (by omega) (by omega)
  · by_cases q9 : b = 94
    · subst q9
      exact G3 r (by omega)
    · exact G2 b r (by omega) (by omega)
theorem st_f {b : Nat} {r : Int} (h : ¬ (106 ≤ b ∧ b ≤ 112)) : strt 0 s b r = s b r := by
  unfold strt
  rw [up_f (by omega), up_f (by omega), up_f (by omega), up_f (by omega), up_f (by omega), up_f (by omega), up_f (by omega)]
/-- INV behind a text that is taken -/
theorem INV_yes (tt : (tp = 37 ∧ sp = 45) ∨ (tp = 45 ∧ sp = 37)) (h45 : s 94 45 = 0) (x : XI D T S E K L) (a : TXC sp tp D T S E K L N s tqq) (b : TRC D T S E K L tqq uqq) : INV (strt 0 uqq) := by
  obtain ⟨a1, a2, a3, a4, a5, a6, a7, a8, a9, a10, a11, a12, a13, a14⟩ := a
  obtain ⟨⟨b1, b2, b3, b4, b5, b6, b7, b8⟩, ⟨c1, c2, c3, c4, c5⟩, d1, d2, d3, d4, b9⟩ := b
  have lo : ∀ (b : Nat) (r : Int), b < 94 → strt 0 uqq b r = tqq b r := fun b r q => (st_f (by omega)).trans (b9 b r (by omega) (by omega))
  have hi : ∀ (b : Nat) (r : Int), 94 ≤ b → b ≤ 103 → strt 0 uqq b r = uqq b r := fun b r q1 q2 => st_f (by omega)
  have dr := x.1.1
  have er := x.2.2.2.1.2
  have s0 := L0_R (D := (D.1 : Int)) ⟨by omega, by omega⟩
  have e111 : strt 0 uqq 111 0 = L0 D.1 := by
    unfold strt L0
    rw [up_a (by decide), up_e, c1]
  have n0 : ∀ i : Int, 0 ≤ i → i < ((0 : Nat) : Int) → False := fun i i0 i1 => by omega
  refine ⟨sp, tp, D, T, S, E, K, L, 0, 0, 0, 0, 0, E.2, L0 D.1, 0, c00, 0, (fun _ => (0, 0, 0, c00)), 0, 0, -1, c00, c00, c00, c00, c00, ⟨by decide, (lo 33 1 (by omega)).trans a6, (hi 94 2 (by omega) (by omega)).trans b2, fun i i0 i1 => by omega⟩, ⟨?_, ?_, ?_⟩, ⟨by omega, (lo 32 2 (by omega)).trans a1, (lo 32 3 (by omega)).trans a2, a7.of6 (fun b r q1 q2 q3 => lo b r (by omega)), ⟨⟨(hi _ _ (by omega) (by omega)).trans c1, (hi _ _ (by omega) (by omega)).trans c2, (hi _ _ (by omega) (by omega)).trans c3, (hi _ _ (by omega) (by omega)).trans c4, (hi _ _ (by omega) (by omega)).trans c5⟩, fun i i0 i1 => (hi _ _ (by omega) (by omega)).trans (d1 i i0 i1), fun i i0 i1 => ⟨(hi _ _ (by omega) (by omega)).trans (d2 i i0 i1).1, (hi _ _ (by omega) (by omega)).trans (d2 i i0 i1).2⟩, fun i i0 i1 => ⟨(hi _ _ (by omega) (by omega)).trans (d3 i i0 i1).1, (hi _ _ (by omega) (by omega)).trans (d3 i i0 i1).2⟩, fun i i0 i1 => ?_⟩, x⟩, ⟨a9.of (fun b r q1 q2 => lo b r (by omega)), ⟨?_, ?_, ?_, ?_, ?_, s0, by decide, fun i i0 i1 => (n0 i i0 i1).elim, e111, ?_, fun i i0 i1 => (n0 i i0 i1).elim⟩, ⟨by decide, by decide, ⟨er.1, by omega⟩, lD_L0 dr, by decide⟩⟩, ⟨⟨by decide, (lo 70 4 (by omega)).trans a10, ?_, ?_, fun i hi => by omega⟩, ⟨by decide, (hi 94 36 (by omega) (by omega)).trans b6, fun i hi => by omega⟩, fun i hi => by omega, fun i hi => by omega⟩, ⟨(lo 32 8 (by omega)).trans a5, (hi 94 35 (by omega) (by omega)).trans b5, Or.inl rfl, fun y => by omega⟩, ⟨⟨(lo 75 6 (by omega)).trans a12, (lo 75 7 (by omega)).trans a13, fun i i0 i1 => (n0 i i0 i1).elim⟩, ⟨(hi 94 50 (by omega) (by omega)).trans b7, (hi 94 51 (by omega) (by omega)).trans b8, fun i i0 i1 => (n0 i i0 i1).elim⟩, by decide, by decide, by decide, fun i i0 i1 => (n0 i i0 i1).elim⟩⟩
  · rw [lo 32 4 (by omega), a3, hi 94 20 (by omega) (by omega), b3]
  · rw [lo 32 5 (by omega), a4, hi 94 21 (by omega) (by omega), b4]
  · rw [hi 94 45 (by omega) (by omega), b9 94 45 (by omega) (by omega), a14 94 45 (by omega) (by omega) (by omega) (by omega) (by omega) (by omega) (by omega) (by omega)]
    exact h45
  · rw [hi 102 i (by omega) (by omega), hi 103 i (by omega) (by omega)]
    exact d4 i i0 i1
  · unfold strt
    rw [up_a (by decide), up_a (by decide), up_e]
  · unfold strt
    rw [up_a (by decide), up_a (by decide), up_a (by decide), up_a (by decide), up_e]
  · unfold strt
    rw [up_a (by decide), up_a (by decide), up_a (by decide), up_e]
  · unfold strt
    rw [up_a (by decide), up_a (by decide), up_a (by decide), up_a (by decide), up_a (by decide), up_a (by decide), up_e]
  · unfold strt
    rw [up_a (by decide), up_a (by decide), up_a (by decide), up_a (by decide), up_a (by decide), up_e]
    exact c4
  · unfold strt
    rw [up_e]
    rfl
  · rw [lo 70 5 (by omega), a11]
    decide
  · rw [lo 70 5 (by omega), a11]
    decide
theorem p_text (hI : INV s) (hd : 200 ≤ d) {x : Int} (hx : iR x) : PR d h0 s 8 88 [vI x] vI := by
  obtain ⟨tp, hI⟩ := hI
  have tt := hI.told.1
  have hS := hI.told.2.1
  have hT := hI.told.2.2
  obtain ⟨sp, D, T, S, E, K, L, sz, vw, rf, sl, yr, la, ll, n, c, zqq, Hs, ia, zr, kf, kd, on, ot, mu, ab, h1, h2, h3, h4, h5, h6, h7⟩ := id hI
  have tq := h3.1
  have hS2 : isSc sp := by
    rcases tq with y | y
    · rw [y.2]
      exact isc_45
    · rw [y.2]
      exact isc_37
  have hB : ∀ i : Int, 0 ≤ i → i < sz → s 95 i = s 95 i ∧ 0 ≤ s 95 i ∧ s 95 i < 256 := fun i i0 i1 => ⟨rfl, (h1.2.2.2 i i0 i1).2⟩
  refine m_text (B := s 95) (sp := sp) (by omega) (by omega) tt (by omega) hS2 hS h3.2.1 h3.2.2.1 h1.2.1 h1.1 h1.2.2.2 hx (fun y => ⟨⟨_, rfl⟩, s, rfl, ?_⟩) (fun y f pl X en hf tqq a => ⟨⟨_, rfl⟩, tqq, rfl, ?_⟩) (fun y q D2 T2 S2 E2 K2 L2 N en x2 tqq a => ⟨⟨_, rfl⟩, tqq, rfl, ?_⟩)
  · exact r_text (B := s 95) (by omega) h1.2.2.1 h1.1 hB hx (fun _ => ⟨_, rfl, ⟨tp, hI.of (th_rs tt)⟩, rfl⟩) (fun y2 => absurd y (by omega)) (fun y2 => absurd y (by omega))
  · have g : ∀ (b : Nat) (r : Int), 94 ≤ b → tqq b r = s b r := fun b r q => a.2.2.2 b r (by omega) (by omega) (by omega) (by omega) (by omega)
    refine r_text (B := s 95) (by omega) ((g 94 2 (by omega)).trans h1.2.2.1) h1.1 (fun i i0 i1 => ⟨g 95 i (by omega), (hB i i0 i1).2⟩) hx (fun y2 => absurd y (by omega)) (fun _ f2 pl2 X2 en2 hf2 uqq b => ⟨uqq, rfl, ?_, rfl⟩) (fun _ q D2 T2 S2 E2 K2 L2 N en2 x2 uqq b => ?_)
    · have e := tEnd_one en en2
      have e1 : f2 = f := (congrArg (fun r => r.1) e).symm
      have e2 : pl2 = pl := (congrArg (fun r => r.2.1) e).symm
      subst e1
      subst e2
      exact INV_no h3 h2 h4 h5 h6 h7 a b
    · have e := tEnd_one en en2
      have e1 : f = -1 := congrArg (fun r => r.1) e
      exact absurd e1 hf.2
  · have g : ∀ (b : Nat) (r : Int), (b = 94 ∨ b = 95) → tqq b r = s b r := fun b r q => a.2.2.2.2.2.2.2.2.2.2.2.2.2 b r (by omega) (by omega) (by omega) (by omega) (by omega) (by omega) (by omega) (by omega)
    refine r_text (B := s 95) (by omega) ((g 94 2 (by omega)).trans h1.2.2.1) h1.1 (fun i i0 i1 => ⟨g 95 i (by omega), (hB i i0 i1).2⟩) hx (fun y2 => absurd y (by omega)) (fun _ f2 pl2 X2 en2 hf2 uqq b => ?_) (fun _ q9 D9 T9 S9 E9 K9 L9 N9 en2 x9 uqq b => ?_)
    · have e := tEnd_one en en2
      have e1 : -1 = f2 := congrArg (fun r => r.1) e
      omega
    · have e := tEnd_one en en2
      simp only [Prod.mk.injEq] at e
      obtain ⟨_, _, rfl, rfl, rfl, rfl, rfl, rfl, rfl, rfl⟩ := e
      exact ⟨_, rfl, INV_yes h3.1 h2.2.2 x2 a b, rfl⟩
end INV6
