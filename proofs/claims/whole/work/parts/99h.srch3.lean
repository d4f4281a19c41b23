/-! SEARCH: rows in the order of their codes; seek of the class for LOOSE rows -/
section PC4
variable {d tp : Nat} {h0 : pheap} {s : St} {Q : Option pv → pheap → Prop} {L : Int} {n z K N : Nat} {c c' : Int → Int}
def sfF (F : Nat → Option (List Nat)) : Nat → Nat → Option (List Nat)
  | _, 0 => none
  | j, k + 1 => match F j with
    | some w => some (j :: w)
    | none => sfF F (j + 1) k
/-- the first row of so many codes that is good -/
def sfN (G : (Int → Int) → Nat → Bool) (K : Nat) : Nat → (Int → Int) → Nat → Option (List Nat)
  | 0, c, n => if G c n = true then some [] else none
  | r + 1, c, n => sfF (fun j => sfN G K r (csC c n (j : Int)) (n + 1)) 0 K
def scF (F : Nat → Int) : Nat → Nat → Int
  | _, 0 => 0
  | j, k + 1 => F j + scF F (j + 1) k
/-- how many rows of so many codes are good -/
def scN (G : (Int → Int) → Nat → Bool) (K : Nat) : Nat → (Int → Int) → Nat → Int
  | 0, c, n => if G c n = true then 1 else 0
  | r + 1, c, n => scF (fun j => scN G K r (csC c n (j : Int)) (n + 1)) 0 K
theorem sfF_none {F : Nat → Option (List Nat)} : ∀ (k j : Nat), (∀ i, j ≤ i → i < j + k → F i = none) → sfF F j k = none
  | 0, _, _ => rfl
  | k + 1, j, h => by
    show (match F j with | some w => some (j :: w) | none => sfF F (j + 1) k) = none
    rw [h j (Nat.le_refl j) (by omega)]
    exact sfF_none k (j + 1) (fun i h1 h2 => h i (by omega) (by omega))
theorem scF_none {F : Nat → Int} : ∀ (k j : Nat), (∀ i, j ≤ i → i < j + k → F i = 0) → scF F j k = 0
  | 0, _, _ => rfl
  | k + 1, j, h => by
    show F j + scF F (j + 1) k = 0
    rw [h j (Nat.le_refl j) (by omega), scF_none k (j + 1) (fun i h1 h2 => h i (by omega) (by omega))]
    rfl
/-- what is good brings all home -/
def homeG (L : Int) (G : (Int → Int) → Nat → Bool) : Prop := ∀ c n, G c n = true → tpW L c n = 0
theorem csC_v {q : Int} (v : vC L c n) (hq : 0 ≤ q ∧ q < 2 * (cnt L - 1)) : vC L (csC c n q) (n + 1) := fun i i0 i1 => by
  unfold csC
  split
  · exact hq
  · exact v i i0 (by omega)
theorem tpW_cs {q : Int} (hL : 0 ≤ L ∧ L < 64) (v : vC L c n) (hq : 0 ≤ q ∧ q < 2 * (cnt L - 1)) : tpW L (csC c n q) (n + 1) = tpW L c n + (if wO L c n (q / 2) < wO L c n (q / 2 + 1) then 1 else -1) := by
  have w := tpW_s hL (csC_v v hq)
  have cg := w_cg (L := L) (csC_lt (c := c) (n := n) (q := q))
  unfold tpW at w ⊢
  rw [w, ← cg.1, csC_n]
/-- too many pairs are turned: no row is good -/
theorem prune {G : (Int → Int) → Nat → Bool} (hL : 0 ≤ L ∧ L < 64) (hG : homeG L G) (hK : K = (2 * cnt L - 2).toNat) : ∀ (r : Nat) {c : Int → Int} {n : Nat}, vC L c n → (r : Int) < tpW L c n → sfN G K r c n = none ∧ scN G K r c n = 0
  | 0, c, n, v, h => by
    have : ¬ G c n = true := fun q => by
      have := hG c n q
      omega
    exact ⟨if_neg this, if_neg this⟩
  | r + 1, c, n, v, h => by
    have step : ∀ j, j < K → sfN G K r (csC c n (j : Int)) (n + 1) = none ∧ scN G K r (csC c n (j : Int)) (n + 1) = 0 := fun j hj => by
      have hq : 0 ≤ (j : Int) ∧ (j : Int) < 2 * (cnt L - 1) := by omega
      have t := tpW_cs hL v hq
      refine prune hL hG hK r (csC_v v hq) ?_
      rw [t]
      split <;> omega
    exact ⟨sfF_none K 0 (fun i _ h2 => (step i (by omega)).1), scF_none K 0 (fun i _ h2 => (step i (by omega)).2)⟩
abbrev gdB (L : Int) : (Int → Int) → Nat → Bool := fun c n => decide (tpW L c n = 0 ∧ wC L c n = 0 ∧ lsP c n)
theorem gdB_home : homeG L (gdB L) := fun c n h => (of_decide_eq_true h).1
def skF (s t : St) : Prop := ∀ (b : Nat) (r : Int), ¬ (83 ≤ b ∧ b ≤ 86) → ¬ b = 88 → ¬ b = 89 → ¬ (b = 82 ∧ r = 6) → t b r = s b r
end PC4
