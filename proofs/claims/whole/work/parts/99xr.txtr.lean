/-! TEXT: the reference's lines: a line -/
section TXR
variable {d : Nat} {h0 h : pheap} {s tqq uqq : St} {Q : Option pv → pheap → Prop} {B : Int → Int} {n p q N : Nat} {sz : Int} {k vqq : Int} {D : Nat × (Int → Int)} {T : Nat × (Int → Int) × (Int → Int)} {S E : Int × Int} {K : KS} {L : (Int → Int) × (Int → Int)} {X : TS}
theorem TSR.of2 {a : Nat} (h : TSR D T S E K L s) (g : ∀ (b : Nat) (r : Int), 96 ≤ b ∧ b ≤ 103 → tqq b r = s b r) (h11 : tqq 94 11 = a) (ha : TLD a S E L) : TSR D T S E K L tqq := by
  obtain ⟨⟨a1, a2⟩, ⟨b1, b2⟩, ⟨c1, c2⟩, d1, e, _⟩ := h
  refine ⟨⟨(g 96 5 (by omega)).trans a1, fun i i0 i1 => (g 97 _ (by omega)).trans (a2 i i0 i1)⟩, ⟨(g 96 6 (by omega)).trans b1, fun i i0 i1 => ⟨(g 98 _ (by omega)).trans (b2 i i0 i1).1, (g 99 _ (by omega)).trans (b2 i i0 i1).2⟩⟩, ⟨(g 96 7 (by omega)).trans c1, (g 96 8 (by omega)).trans c2⟩, d1.of (fun b r q => g b r (by omega)), fun r r0 r1 => ⟨(g 100 _ (by omega)).trans (e r r0 r1).1, (g 101 _ (by omega)).trans (e r r0 r1).2⟩, a, h11, ha⟩
theorem RK.u96 {i x : Int} (h : RK K s) (hi : i ≠ 9) : RK K (up s 96 i x) := ⟨(up_i (by omega)).trans h.1, fun j j0 j1 => by
  rw [up_a (by decide), up_a (by decide)]
  exact h.2 j j0 j1⟩
theorem RK.oth {b : Nat} {i x : Int} (h : RK K s) (hi : b ≠ 96 ∧ b ≠ 102 ∧ b ≠ 103) : RK K (up s b i x) := h.of (fun c r q => up_a (by omega))
theorem TSR.dan {x y : Int} (h : TSR D T S E K L s) (hy : y = (D.1 : Int) + 1) : TSR (D.1 + 1, updF D.2 D.1 x) T S E K L (up (up s 97 (6 + (D.1 : Int)) x) 96 5 y) := by
  obtain ⟨⟨a1, a2⟩, ⟨b1, b2⟩, ⟨c1, c2⟩, d1, e, a, f1, f2⟩ := h
  subst hy
  refine ⟨⟨by rw [up_e]; rfl, fun i i0 i1 => ?_⟩, ⟨by rw [up_i (by decide), up_a (by decide)]; exact b1, fun i i0 i1 => by rw [up_a (by decide), up_a (by decide), up_a (by decide), up_a (by decide)]; exact b2 i i0 i1⟩, ⟨by rw [up_i (by decide), up_a (by decide)]; exact c1, by rw [up_i (by decide), up_a (by decide)]; exact c2⟩, (d1.oth (by decide)).u96 (by decide), fun i i0 i1 => by rw [up_a (by decide), up_a (by decide), up_a (by decide), up_a (by decide)]; exact e i i0 i1, a, by rw [up_a (by decide), up_a (by decide)]; exact f1, f2⟩
  rw [up_a (by decide)]
  have i1 : i < ((D.1 + 1 : Nat) : Int) := i1
  show _ = updF D.2 D.1 x i
  unfold updF
  by_cases zqq : i = D.1
  · rw [zqq, up_e, if_pos rfl]
  · rw [up_i (by omega), if_neg zqq]
    exact a2 i i0 (by omega)
theorem TSR.tel {x y c : Int} (h : TSR D T S E K L s) (hc : c = (T.1 : Int) + 1) (h98 : tqq 98 (24 + (T.1 : Int)) = x) (g : ∀ (b : Nat) (r : Int), (b = 94 ∧ r = 11) ∨ (96 ≤ b ∧ b ≤ 103 ∧ ¬ (b = 98 ∧ r = 24 + (T.1 : Int))) → tqq b r = s b r) : TSR D (T.1 + 1, updF T.2.1 T.1 x, updF T.2.2 T.1 y) S E K L (up (up tqq 99 (24 + (T.1 : Int)) y) 96 6 c) := by
  obtain ⟨⟨a1, a2⟩, ⟨b1, b2⟩, ⟨c1, c2⟩, d1, e, a, f1, f2⟩ := h
  subst hc
  refine ⟨⟨by rw [up_i (by decide), up_a (by decide), g _ _ (by omega)]; exact a1, fun i i0 i1 => by rw [up_a (by decide), up_a (by decide), g _ _ (by omega)]; exact a2 i i0 i1⟩, ⟨by rw [up_e]; rfl, fun i i0 i1 => ?_⟩, ⟨by rw [up_i (by decide), up_a (by decide), g _ _ (by omega)]; exact c1, by rw [up_i (by decide), up_a (by decide), g _ _ (by omega)]; exact c2⟩, ((d1.of (fun b r q => g b r (by omega))).oth (by decide)).u96 (by decide), fun i i0 i1 => by rw [up_a (by decide), up_a (by decide), up_a (by decide), up_a (by decide), g _ _ (by omega), g _ _ (by omega)]; exact e i i0 i1, a, by rw [up_a (by decide), up_a (by decide), g _ _ (by omega)]; exact f1, f2⟩
  rw [up_a (b := 98) (by decide), up_a (b := 98) (by decide), up_a (b := 99) (by decide)]
  have i1 : i < ((T.1 + 1 : Nat) : Int) := i1
  show _ = updF T.2.1 T.1 x i ∧ _ = updF T.2.2 T.1 y i
  unfold updF
  by_cases zqq : i = T.1
  · rw [zqq, up_e, if_pos rfl, if_pos rfl]
    exact ⟨h98, rfl⟩
  · rw [up_i (by omega), if_neg zqq, if_neg zqq, g _ _ (by omega), g _ _ (by omega)]
    exact b2 i i0 (by omega)
theorem TSR.slip {x : Int} {a : Nat} (h : TSR D T S E K L s) (g : ∀ (b : Nat) (r : Int), 96 ≤ b ∧ b ≤ 103 → tqq b r = s b r) (h11 : tqq 94 11 = ((a ||| 2 ^ 3 : Nat) : Int)) (ha : TLD a S E L) : TSR D T (1, x) E K L (up tqq 96 7 x) := by
  obtain ⟨⟨a1, a2⟩, ⟨b1, b2⟩, ⟨c1, c2⟩, d1, e, _⟩ := h
  exact ⟨⟨by rw [up_i (by decide), g _ _ (by omega)]; exact a1, fun i i0 i1 => by rw [up_a (by decide), g _ _ (by omega)]; exact a2 i i0 i1⟩, ⟨by rw [up_i (by decide), g _ _ (by omega)]; exact b1, fun i i0 i1 => by rw [up_a (by decide), up_a (by decide), g _ _ (by omega), g _ _ (by omega)]; exact b2 i i0 i1⟩, ⟨by rw [up_e], by rw [up_i (by decide), g _ _ (by omega)]; exact c2⟩, (d1.of (fun b r q => g b r (by omega))).u96 (by decide), fun i i0 i1 => by rw [up_a (by decide), up_a (by decide), g _ _ (by omega), g _ _ (by omega)]; exact e i i0 i1, _, by rw [up_a (by decide)]; exact h11, TLD_slip ha⟩
theorem TSR.seed {x : Int} {a : Nat} (h : TSR D T S E K L s) (g : ∀ (b : Nat) (r : Int), 96 ≤ b ∧ b ≤ 103 → tqq b r = s b r) (h11 : tqq 94 11 = ((a ||| 2 ^ 4 : Nat) : Int)) (ha : TLD a S E L) : TSR D T S (1, x) K L (up tqq 96 8 x) := by
  obtain ⟨⟨a1, a2⟩, ⟨b1, b2⟩, ⟨c1, c2⟩, d1, e, _⟩ := h
  exact ⟨⟨by rw [up_i (by decide), g _ _ (by omega)]; exact a1, fun i i0 i1 => by rw [up_a (by decide), g _ _ (by omega)]; exact a2 i i0 i1⟩, ⟨by rw [up_i (by decide), g _ _ (by omega)]; exact b1, fun i i0 i1 => by rw [up_a (by decide), up_a (by decide), g _ _ (by omega), g _ _ (by omega)]; exact b2 i i0 i1⟩, ⟨by rw [up_i (by decide), g _ _ (by omega)]; exact c1, by rw [up_e]⟩, (d1.of (fun b r q => g b r (by omega))).u96 (by decide), fun i i0 i1 => by rw [up_a (by decide), up_a (by decide), g _ _ (by omega), g _ _ (by omega)]; exact e i i0 i1, _, by rw [up_a (by decide)]; exact h11, TLD_seed ha⟩
end TXR
