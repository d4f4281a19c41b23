/-! INV: what stands between two calls, over both sides -/
section INV1
variable {tp sp : Nat} {s tqq : St} {D : Nat × (Int → Int)} {T : Nat × (Int → Int) × (Int → Int)} {S E : Int × Int} {K : KS} {L : (Int → Int) × (Int → Int)} {sz vw rf sl yr la ll D1 : Int} {n zqq : Nat} {c : Int → Int} {Hs : Hst} {ia kf : Int} {kd on ot mu ab : Int → Int}
def IT (sz : Int) (s : St) : Prop := (0 ≤ sz ∧ sz ≤ 700) ∧ s 33 1 = sz ∧ s 94 2 = sz ∧ ∀ i : Int, 0 ≤ i → i < sz → i_and (s 34 i) 255 = s 95 i ∧ 0 ≤ s 95 i ∧ s 95 i < 256
def IFt (s : St) : Prop := s 32 4 = s 94 20 ∧ s 32 5 = s 94 21 ∧ s 94 45 = 0
def TSN (D : Nat × (Int → Int)) (T : Nat × (Int → Int) × (Int → Int)) (S E : Int × Int) (K : KS) (L : (Int → Int) × (Int → Int)) (s : St) : Prop := (s 96 0 = D.1 ∧ s 96 1 = T.1 ∧ s 96 2 = S.2 ∧ s 96 3 = E.2 ∧ s 96 4 = K.1) ∧ (∀ i : Int, 0 ≤ i → i < D.1 → s 97 i = D.2 i) ∧ (∀ i : Int, 0 ≤ i → i < T.1 → s 98 i = T.2.1 i ∧ s 99 i = T.2.2 i) ∧ (∀ r : Int, 0 ≤ r → r < 3 → s 100 r = L.1 r ∧ s 101 r = L.2 r) ∧ ∀ i : Int, 0 ≤ i → i < K.1 → kR (K.2 i) (s 102 i) (s 103 i)
def IS (tp sp : Nat) (D : Nat × (Int → Int)) (T : Nat × (Int → Int) × (Int → Int)) (S E : Int × Int) (K : KS) (L : (Int → Int) × (Int → Int)) (s : St) : Prop := ((tp = 37 ∧ sp = 45) ∨ (tp = 45 ∧ sp = 37)) ∧ s 32 2 = (tp : Int) + 1 ∧ s 32 3 = (sp : Int) + 1 ∧ TSC tp D T S E K L s ∧ TSN D T S E K L s ∧ XI D T S E K L
def rgD (D1 vw yr la ll : Int) (n : Nat) : Prop := (-9999 ≤ vw ∧ vw ≤ 9999) ∧ (0 ≤ yr ∧ yr ≤ 9900) ∧ (0 ≤ la ∧ la < 2147483648) ∧ lD ll D1 ∧ n ≤ 48
def ID (D1 vw rf sl yr la ll : Int) (n : Nat) (c : Int → Int) (s : St) : Prop := DA 53 vw rf sl yr la ll n c s ∧ DR 0 vw rf sl yr la ll n c s ∧ rgD D1 vw yr la ll n
def IP (D1 : Int) (zqq : Nat) (Hs : Hst) (rf sl yr la : Int) (s : St) : Prop := PAs zqq Hs s ∧ PUs zqq Hs rf sl yr la s ∧ hOk zqq Hs ∧ ∀ i, i < zqq → lD (Hs i).2.1 D1
def II (D1 ia : Int) (s : St) : Prop := s 32 8 = ia ∧ s 94 35 = ia ∧ (ia = 0 ∨ ia = 1) ∧ (ia = 1 → ∃ (vw rf sl yr la ll : Int) (n : Nat) (c : Int → Int), DA 58 vw rf sl yr la ll n c s ∧ DR 2 vw rf sl yr la ll n c s ∧ rgD D1 vw yr la ll n)
def IRd (zqq : Nat) (kf : Int) (kd on ot mu ab : Int → Int) (s : St) : Prop := RC zqq kf kd on ot mu ab s ∧ RN zqq kf kd on ot mu ab s ∧ okR zqq kf kd on ot mu ab
def INVt (tp : Nat) (s : St) : Prop := ∃ (sp : Nat) (D : Nat × (Int → Int)) (T : Nat × (Int → Int) × (Int → Int)) (S E : Int × Int) (K : KS) (L : (Int → Int) × (Int → Int)) (sz vw rf sl yr la ll : Int) (n : Nat) (c : Int → Int) (zqq : Nat) (Hs : Hst) (ia : Int) (zr : Nat) (kf : Int) (kd on ot mu ab : Int → Int), IT sz s ∧ IFt s ∧ IS tp sp D T S E K L s ∧ ID D.1 vw rf sl yr la ll n c s ∧ IP D.1 zqq Hs rf sl yr la s ∧ II D.1 ia s ∧ IRd zr kf kd on ot mu ab s
def INV (s : St) : Prop := ∃ tp, INVt tp s
theorem IT.of (h : IT sz s) (g : ∀ (b : Nat) (r : Int), (b = 33 ∧ r = 1) ∨ b = 34 ∨ b = 95 ∨ (b = 94 ∧ r = 2) → tqq b r = s b r) : IT sz tqq := ⟨h.1, (g 33 1 (by omega)).trans h.2.1, (g 94 2 (by omega)).trans h.2.2.1, fun i i0 i1 => by
  rw [g 34 i (by omega), g 95 i (by omega)]
  exact h.2.2.2 i i0 i1⟩
theorem IFt.of (h : IFt s) (g : ∀ (b : Nat) (r : Int), (b = 32 ∧ (r = 4 ∨ r = 5)) ∨ (b = 94 ∧ (r = 20 ∨ r = 21 ∨ r = 45)) → tqq b r = s b r) : IFt tqq := by
  unfold IFt
  rw [g 32 4 (by omega), g 32 5 (by omega), g 94 20 (by omega), g 94 21 (by omega), g 94 45 (by omega)]
  exact h
theorem TSC.of6 (h : TSC tp D T S E K L s) (g : ∀ (b : Nat) (r : Int), tp ≤ b → b ≤ tp + 6 → ¬ (b = tp ∧ r = 15) → tqq b r = s b r) : TSC tp D T S E K L tqq := by
  obtain ⟨⟨a1, a2⟩, ⟨b1, b2⟩, ⟨c1, c2, c3, c4⟩, ⟨d1, d2⟩, e⟩ := h
  refine ⟨⟨(g _ 1 (by omega) (by omega) (by omega)).trans a1, fun i i0 i1 => (g _ i (by omega) (by omega) (by omega)).trans (a2 i i0 i1)⟩, ⟨(g _ 4 (by omega) (by omega) (by omega)).trans b1, fun i i0 i1 => ⟨(g _ i (by omega) (by omega) (by omega)).trans (b2 i i0 i1).1, (g _ i (by omega) (by omega) (by omega)).trans (b2 i i0 i1).2⟩⟩, ⟨(g _ 5 (by omega) (by omega) (by omega)).trans c1, (g _ 6 (by omega) (by omega) (by omega)).trans c2, (g _ 7 (by omega) (by omega) (by omega)).trans c3, (g _ 8 (by omega) (by omega) (by omega)).trans c4⟩, ⟨(g _ 11 (by omega) (by omega) (by omega)).trans d1, fun i i0 i1 => (g _ i (by omega) (by omega) (by omega)).trans (d2 i i0 i1)⟩, fun r r0 r1 => ⟨(g _ r (by omega) (by omega) (by omega)).trans (e r r0 r1).1, (g _ r (by omega) (by omega) (by omega)).trans (e r r0 r1).2⟩⟩
theorem TSN.of (h : TSN D T S E K L s) (g : ∀ (b : Nat) (r : Int), 96 ≤ b ∧ b ≤ 103 → tqq b r = s b r) : TSN D T S E K L tqq := by
  obtain ⟨⟨a1, a2, a3, a4, a5⟩, b1, c1, d1, e⟩ := h
  refine ⟨⟨(g _ _ (by omega)).trans a1, (g _ _ (by omega)).trans a2, (g _ _ (by omega)).trans a3, (g _ _ (by omega)).trans a4, (g _ _ (by omega)).trans a5⟩, fun i i0 i1 => (g _ _ (by omega)).trans (b1 i i0 i1), fun i i0 i1 => ⟨(g _ _ (by omega)).trans (c1 i i0 i1).1, (g _ _ (by omega)).trans (c1 i i0 i1).2⟩, fun i i0 i1 => ⟨(g _ _ (by omega)).trans (d1 i i0 i1).1, (g _ _ (by omega)).trans (d1 i i0 i1).2⟩, fun i i0 i1 => ?_⟩
  rw [g 102 i (by omega), g 103 i (by omega)]
  exact e i i0 i1
theorem IS.of (h : IS tp sp D T S E K L s) (g : ∀ (b : Nat) (r : Int), (b = 32 ∧ (r = 2 ∨ r = 3)) ∨ (tp ≤ b ∧ b ≤ tp + 6 ∧ ¬ (b = tp ∧ r = 15)) ∨ (96 ≤ b ∧ b ≤ 103) → tqq b r = s b r) : IS tp sp D T S E K L tqq := by
  obtain ⟨h1, h2, h3, h4, h5, h6⟩ := h
  exact ⟨h1, (g 32 2 (by omega)).trans h2, (g 32 3 (by omega)).trans h3, h4.of6 (fun b r q1 q2 q3 => g b r (by omega)), h5.of (fun b r q => g b r (by omega)), h6⟩
theorem DA.of {a : Nat} (h : DA a vw rf sl yr la ll n c s) (g : ∀ (b : Nat) (r : Int), a ≤ b → b ≤ a + 4 → tqq b r = s b r) : DA a vw rf sl yr la ll n c tqq := by
  obtain ⟨a1, a2, a3, a4, a5, a6⟩ := h
  exact ⟨(g _ _ (by omega) (by omega)).trans a1, (g _ _ (by omega) (by omega)).trans a2, (g _ _ (by omega) (by omega)).trans a3, (g _ _ (by omega) (by omega)).trans a4, (g _ _ (by omega) (by omega)).trans a5, PLout a6 (fun b q1 q2 r => g b r (by omega) (by omega))⟩
theorem DR.of {f : Int} (h : DR f vw rf sl yr la ll n c s) (g : ∀ (b : Nat) (r : Int), (106 ≤ b ∧ b ≤ 112 ∧ r = f) ∨ (b = 113 ∧ 48 * f ≤ r ∧ r < 48 * f + 48) → tqq b r = s b r) : DR f vw rf sl yr la ll n c tqq := by
  obtain ⟨r1, r2, r3, r4, r5, q1, q2, q3, q4, q5, q6⟩ := h
  exact ⟨(g _ _ (by omega)).trans r1, (g _ _ (by omega)).trans r2, (g _ _ (by omega)).trans r3, (g _ _ (by omega)).trans r4, (g _ _ (by omega)).trans r5, q1, q2, q3, (g _ _ (by omega)).trans q4, (g _ _ (by omega)).trans q5, fun i i0 i1 => (g _ _ (by omega)).trans (q6 i i0 i1)⟩
theorem ID.of (h : ID D1 vw rf sl yr la ll n c s) (g : ∀ (b : Nat) (r : Int), (53 ≤ b ∧ b ≤ 57) ∨ (106 ≤ b ∧ b ≤ 112 ∧ r = 0) ∨ (b = 113 ∧ 0 ≤ r ∧ r < 48) → tqq b r = s b r) : ID D1 vw rf sl yr la ll n c tqq := ⟨h.1.of (fun b r q1 q2 => g b r (by omega)), h.2.1.of (fun b r q => g b r (by omega)), h.2.2⟩
theorem PAs.of (h : PAs zqq Hs s) (g : ∀ (b : Nat) (r : Int), 70 ≤ b ∧ b ≤ 74 → tqq b r = s b r) : PAs zqq Hs tqq := by
  obtain ⟨h1, h2, h3, h4, h5⟩ := h
  refine ⟨h1, (g _ _ (by omega)).trans h2, by rw [g 70 5 (by omega)]; exact h3, by rw [g 70 5 (by omega)]; exact h4, fun i hi => ?_⟩
  rw [g 70 5 (by omega), g 74 _ (by omega), g 73 _ (by omega), g 72 _ (by omega)]
  refine ⟨(h5 i hi).1, (h5 i hi).2.1, (h5 i hi).2.2.1, fun j j0 j1 => ?_⟩
  rw [g 71 _ (by omega)]
  exact (h5 i hi).2.2.2 j j0 j1
theorem PUs.of (h : PUs zqq Hs rf sl yr la s) (g : ∀ (b : Nat) (r : Int), (b = 94 ∧ r = 36) ∨ (106 ≤ b ∧ b ≤ 112 ∧ 3 ≤ r ∧ r ≤ 22) ∨ (b = 113 ∧ 144 ≤ r) → tqq b r = s b r) : PUs zqq Hs rf sl yr la tqq := by
  obtain ⟨h1, h2, h3⟩ := h
  exact ⟨h1, (g _ _ (by omega)).trans h2, fun i hi => (h3 i hi).of (fun b r q => g b r (by omega))⟩
theorem IP.of (h : IP D1 zqq Hs rf sl yr la s) (g : ∀ (b : Nat) (r : Int), (70 ≤ b ∧ b ≤ 74) ∨ (b = 94 ∧ r = 36) ∨ (106 ≤ b ∧ b ≤ 112 ∧ 3 ≤ r ∧ r ≤ 22) ∨ (b = 113 ∧ 144 ≤ r) → tqq b r = s b r) : IP D1 zqq Hs rf sl yr la tqq := ⟨h.1.of (fun b r q => g b r (by omega)), h.2.1.of (fun b r q => g b r (by omega)), h.2.2⟩
theorem II.of (h : II D1 ia s) (g : ∀ (b : Nat) (r : Int), (b = 32 ∧ r = 8) ∨ (b = 94 ∧ r = 35) ∨ (58 ≤ b ∧ b ≤ 62) ∨ (106 ≤ b ∧ b ≤ 112 ∧ r = 2) ∨ (b = 113 ∧ 96 ≤ r ∧ r < 144) → tqq b r = s b r) : II D1 ia tqq := ⟨(g _ _ (by omega)).trans h.1, (g _ _ (by omega)).trans h.2.1, h.2.2.1, fun y => by
  obtain ⟨vw, rf, sl, yr, la, ll, n, c, a1, a2, a3⟩ := h.2.2.2 y
  exact ⟨vw, rf, sl, yr, la, ll, n, c, a1.of (fun b r q1 q2 => g b r (by omega)), a2.of (fun b r q => g b r (by omega)), a3⟩⟩
theorem IRd.of (h : IRd zqq kf kd on ot mu ab s) (g : ∀ (b : Nat) (r : Int), (b = 75 ∧ (r = 6 ∨ r = 7)) ∨ (76 ≤ b ∧ b ≤ 80) ∨ (b = 94 ∧ (r = 50 ∨ r = 51)) ∨ (124 ≤ b ∧ b ≤ 128) → tqq b r = s b r) : IRd zqq kf kd on ot mu ab tqq := by
  obtain ⟨⟨a1, a2, a3⟩, ⟨b1, b2, b3⟩, h3⟩ := h
  refine ⟨⟨(g _ _ (by omega)).trans a1, (g _ _ (by omega)).trans a2, fun i i0 i1 => ?_⟩, ⟨(g _ _ (by omega)).trans b1, (g _ _ (by omega)).trans b2, fun i i0 i1 => ?_⟩, h3⟩
  · rw [g 76 i (by omega), g 77 i (by omega), g 78 i (by omega), g 79 i (by omega), g 80 i (by omega)]
    exact a3 i i0 i1
  · rw [g 124 i (by omega), g 125 i (by omega), g 126 i (by omega), g 127 i (by omega), g 128 i (by omega)]
    exact b3 i i0 i1
/-- what INV reads -/
def rdI (tp b : Nat) (r : Int) : Prop := ((b = 33 ∧ r = 1) ∨ b = 34 ∨ b = 95 ∨ (b = 94 ∧ r = 2)) ∨ ((b = 32 ∧ (r = 4 ∨ r = 5)) ∨ (b = 94 ∧ (r = 20 ∨ r = 21 ∨ r = 45))) ∨ ((b = 32 ∧ (r = 2 ∨ r = 3)) ∨ (tp ≤ b ∧ b ≤ tp + 6 ∧ ¬ (b = tp ∧ r = 15)) ∨ (96 ≤ b ∧ b ≤ 103)) ∨ ((53 ≤ b ∧ b ≤ 57) ∨ (106 ≤ b ∧ b ≤ 112 ∧ r = 0) ∨ (b = 113 ∧ 0 ≤ r ∧ r < 48)) ∨ ((70 ≤ b ∧ b ≤ 74) ∨ (b = 94 ∧ r = 36) ∨ (106 ≤ b ∧ b ≤ 112 ∧ 3 ≤ r ∧ r ≤ 22) ∨ (b = 113 ∧ 144 ≤ r)) ∨ ((b = 32 ∧ r = 8) ∨ (b = 94 ∧ r = 35) ∨ (58 ≤ b ∧ b ≤ 62) ∨ (106 ≤ b ∧ b ≤ 112 ∧ r = 2) ∨ (b = 113 ∧ 96 ≤ r ∧ r < 144)) ∨ ((b = 75 ∧ (r = 6 ∨ r = 7)) ∨ (76 ≤ b ∧ b ≤ 80) ∨ (b = 94 ∧ (r = 50 ∨ r = 51)) ∨ (124 ≤ b ∧ b ≤ 128))
theorem INVt.of (h : INVt tp s) (g : ∀ (b : Nat) (r : Int), rdI tp b r → tqq b r = s b r) : INVt tp tqq := by
  obtain ⟨sp, D, T, S, E, K, L, sz, vw, rf, sl, yr, la, ll, n, c, zqq, Hs, ia, zr, kf, kd, on, ot, mu, ab, h1, h2, h3, h4, h5, h6, h7⟩ := h
  have g1 := h1.of (tqq := tqq) (fun b r q => g b r (Or.inl q))
  have g2 := h2.of (tqq := tqq) (fun b r q => g b r (Or.inr (Or.inl q)))
  have g3 := h3.of (tqq := tqq) (fun b r q => g b r (Or.inr (Or.inr (Or.inl q))))
  have g4 := h4.of (tqq := tqq) (fun b r q => g b r (Or.inr (Or.inr (Or.inr (Or.inl q)))))
  have g5 := h5.of (tqq := tqq) (fun b r q => g b r (Or.inr (Or.inr (Or.inr (Or.inr (Or.inl q))))))
  have g6 := h6.of (tqq := tqq) (fun b r q => g b r (Or.inr (Or.inr (Or.inr (Or.inr (Or.inr (Or.inl q)))))))
  have g7 := h7.of (tqq := tqq) (fun b r q => g b r (Or.inr (Or.inr (Or.inr (Or.inr (Or.inr (Or.inr q)))))))
  exact ⟨sp, D, T, S, E, K, L, sz, vw, rf, sl, yr, la, ll, n, c, zqq, Hs, ia, zr, kf, kd, on, ot, mu, ab, g1, g2, g3, g4, g5, g6, g7⟩
theorem INVt.told (h : INVt tp s) : (tp = 37 ∨ tp = 45) ∧ isSc tp ∧ s 32 2 = (tp : Int) + 1 := by
  obtain ⟨sp, D, T, S, E, K, L, sz, vw, rf, sl, yr, la, ll, n, c, zqq, Hs, ia, zr, kf, kd, on, ot, mu, ab, h1, h2, ⟨h3, h4, _⟩, _⟩ := h
  refine ⟨by omega, ?_, h4⟩
  rcases h3 with y | y
  · rw [y.1]
    exact isc_37
  · rw [y.1]
    exact isc_45
theorem INVt.lc (h : INVt tp s) (g : lkC tp s tqq) : INVt tp tqq := by
  have tt := h.told.1
  refine h.of (fun b r q => g b r ?_ ?_ ?_ ?_)
  all_goals
    rcases q with q | q | q | q | q | q | q <;> omega
theorem INVt.ln (h : INVt tp s) (g : lkN s tqq) : INVt tp tqq := by
  have tt := h.told.1
  refine h.of (fun b r q => g b r ?_ ?_ ?_ ?_ ?_ ?_ ?_)
  all_goals
    rcases q with q | q | q | q | q | q | q <;> omega
theorem INVt.th (h : INVt tp s) : INVt tp (up s 94 0 0) := by
  have tt := h.told.1
  refine h.of (fun b r q => up_f ?_)
  rcases q with q | q | q | q | q | q | q <;> omega
theorem INVt.fr (h : INVt tp s) (g : lfr s tqq) : INVt tp tqq := by
  have tt := h.told.1
  refine h.of (fun b r q => g b ?_ r ?_)
  all_goals
    rcases q with q | q | q | q | q | q | q <;> omega
end INV1
