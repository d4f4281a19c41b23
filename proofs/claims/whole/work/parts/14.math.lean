/-! WHAT A PLAIT IS, in numbers: who is LEFT (bits), the codes, who stands where, the bonds -/
theorem fin_lift {p : Int → Prop} (n : Nat) (h : ∀ k : Fin n, p ((k : Nat) : Int)) {x : Int} (h0 : 0 ≤ x) (h1 : x < n) : p x := by
  have := h ⟨x.toNat, by omega⟩
  rw [Int.toNat_of_nonneg h0] at this
  exact this
theorem shr1 {x : Int} (h0 : 0 ≤ x) (h1 : x < 64) : i_shr x 1 = x / 2 := fin_lift (p := fun x => i_shr x 1 = x / 2) 64 (by decide +kernel) h0 h1
theorem and1 {x : Int} (h0 : 0 ≤ x) (h1 : x < 64) : i_and x 1 = x % 2 := fin_lift (p := fun x => i_and x 1 = x % 2) 64 (by decide +kernel) h0 h1
theorem xor1 {x : Int} (h0 : 0 ≤ x) (h1 : x < 64) : i_xor x 1 = x + 1 - 2 * (x % 2) := fin_lift (p := fun x => i_xor x 1 = x + 1 - 2 * (x % 2)) 64 (by decide +kernel) h0 h1
theorem xor_16 : ∀ a b : Fin 16, (i_xor ((a : Nat) : Int) ((b : Nat) : Int) = 1 ↔ ((a : Nat) : Int) = ((b : Nat) : Int) + 1 - 2 * (((b : Nat) : Int) % 2)) ∧ (0 ≤ i_xor ((a : Nat) : Int) ((b : Nat) : Int) ∧ i_xor ((a : Nat) : Int) ((b : Nat) : Int) < 16) := by decide +kernel
theorem xor_is {a b : Int} (ha : 0 ≤ a ∧ a < 16) (hb : 0 ≤ b ∧ b < 16) : (i_xor a b = 1 ↔ a = b + 1 - 2 * (b % 2)) ∧ (0 ≤ i_xor a b ∧ i_xor a b < 16) := by
  have := xor_16 ⟨a.toNat, by omega⟩ ⟨b.toNat, by omega⟩
  simp only [Int.toNat_of_nonneg ha.1, Int.toNat_of_nonneg hb.1] at this
  exact this
/-- a bit -/
def bt (L k : Int) : Int := L / 2 ^ k.toNat % 2
theorem bt_shr_f : ∀ (l : Fin 64) (k : Fin 6), i_and (i_shr ((l : Nat) : Int) ((k : Nat) : Int)) 1 = bt ((l : Nat) : Int) ((k : Nat) : Int) := by decide +kernel
theorem bt_shr {L k : Int} (hL : 0 ≤ L ∧ L < 64) (hk : 0 ≤ k ∧ k < 6) : i_and (i_shr L k) 1 = bt L k := by
  have := bt_shr_f ⟨L.toNat, by omega⟩ ⟨k.toNat, by omega⟩
  simp only [Int.toNat_of_nonneg hL.1, Int.toNat_of_nonneg hk.1] at this
  exact this
theorem bt_R (L k : Int) : 0 ≤ bt L k ∧ bt L k ≤ 1 := by
  unfold bt
  omega
/-- how many of the first k are LEFT; who stands where at first -/
def cntN (L : Int) : Nat → Int
  | 0 => 0
  | k + 1 => cntN L k + bt L k
def ordN (L : Int) : Nat → Int → Int
  | 0 => fun _ => 0
  | k + 1 => fun p => if bt L k = 1 ∧ p = cntN L k then (k : Int) else ordN L k p
def cnt (L : Int) : Int := cntN L 6
theorem cntN_R (L : Int) : ∀ k, 0 ≤ cntN L k ∧ cntN L k ≤ k
  | 0 => by simp [cntN]
  | k + 1 => by
    have := cntN_R L k
    have := bt_R L k
    simp only [cntN]
    omega
theorem cntN_mono (L : Int) (k : Nat) : cntN L k ≤ cntN L (k + 1) := by
  have := bt_R L k
  simp only [cntN]
  omega
theorem cnt_R (L : Int) : 0 ≤ cnt L ∧ cnt L ≤ 6 := cntN_R L 6
/-- who stands at a place behind n crossings -/
def wO (L : Int) (c : Int → Int) : Nat → Int → Int
  | 0 => ordN L 6
  | n + 1 => fun p => if p = c n / 2 then wO L c n (c n / 2 + 1) else if p = c n / 2 + 1 then wO L c n (c n / 2) else wO L c n p
/-- 1 for over, -1 for under -/
def sgn (x : Int) : Int := if x % 2 = 0 then 1 else -1
/-- the bonds behind n crossings: of one and other at 6 * one + other -/
def wB (L : Int) (c : Int → Int) : Nat → Int → Int
  | 0 => fun _ => 0
  | n + 1 => fun j => if j = 6 * wO L c n (c n / 2) + wO L c n (c n / 2 + 1) ∨ j = 6 * wO L c n (c n / 2 + 1) + wO L c n (c n / 2) then wB L c n j + sgn (c n) else wB L c n j
/-- how many pairs are bound, as it is kept -/
def wC (L : Int) (c : Int → Int) : Nat → Int
  | 0 => 0
  | n + 1 => wC L c n - bI (wB L c n (6 * wO L c n (c n / 2) + wO L c n (c n / 2 + 1)) ≠ 0) + bI (wB L c n (6 * wO L c n (c n / 2) + wO L c n (c n / 2 + 1)) + sgn (c n) ≠ 0)
/-- codes that may be danced -/
def vC (L : Int) (c : Int → Int) (n : Nat) : Prop := ∀ i : Int, 0 ≤ i → i < n → 0 ≤ c i ∧ c i < 2 * (cnt L - 1)
theorem vC_less {L : Int} {c : Int → Int} {n m : Nat} (h : vC L c n) (hm : m ≤ n) : vC L c m := fun i h0 h1 => h i h0 (by omega)
theorem w_cg {L : Int} {c c' : Int → Int} : ∀ {n : Nat}, (∀ i : Int, 0 ≤ i → i < n → c i = c' i) → wO L c n = wO L c' n ∧ wB L c n = wB L c' n ∧ wC L c n = wC L c' n
  | 0, _ => ⟨rfl, rfl, rfl⟩
  | n + 1, h => by
    obtain ⟨h1, h2, h3⟩ := w_cg (L := L) (c := c) (c' := c') (n := n) (fun i a b => h i a (by omega))
    have h4 := h n (by omega) (by omega)
    simp only [wO, wB, wC, h1, h2, h3, h4]
    trivial
theorem vC_cg {L : Int} {c c' : Int → Int} {n : Nat} (e : ∀ i : Int, 0 ≤ i → i < n → c i = c' i) (h : vC L c n) : vC L c' n := fun i a b => e i a b ▸ h i a b
theorem ord_f : ∀ l : Fin 64, ∀ p q : Fin 6, (((p : Nat) : Int) < cnt ((l : Nat) : Int) → 0 ≤ ordN ((l : Nat) : Int) 6 ((p : Nat) : Int) ∧ ordN ((l : Nat) : Int) 6 ((p : Nat) : Int) < 6 ∧ bt ((l : Nat) : Int) (ordN ((l : Nat) : Int) 6 ((p : Nat) : Int)) = 1) ∧ (((p : Nat) : Int) < cnt ((l : Nat) : Int) → ((q : Nat) : Int) < ((p : Nat) : Int) → ordN ((l : Nat) : Int) 6 ((q : Nat) : Int) < ordN ((l : Nat) : Int) 6 ((p : Nat) : Int)) := by decide +kernel
theorem ord_is {L p q : Int} (hL : 0 ≤ L ∧ L < 64) (h0 : 0 ≤ p) (h1 : p < cnt L) : (0 ≤ ordN L 6 p ∧ ordN L 6 p < 6 ∧ bt L (ordN L 6 p) = 1) ∧ (0 ≤ q → q < p → ordN L 6 q < ordN L 6 p) := by
  have hc := cnt_R L
  refine ⟨?_, fun hq hqp => ?_⟩
  · have := (ord_f ⟨L.toNat, by omega⟩ ⟨p.toNat, by omega⟩ 0).1
    simp only [Int.toNat_of_nonneg hL.1, Int.toNat_of_nonneg h0] at this
    exact this h1
  · have := (ord_f ⟨L.toNat, by omega⟩ ⟨p.toNat, by omega⟩ ⟨q.toNat, by omega⟩).2
    simp only [Int.toNat_of_nonneg hL.1, Int.toNat_of_nonneg h0, Int.toNat_of_nonneg hq] at this
    exact this h1 hqp
/-- those who stand are dancers that are LEFT, each once -/
theorem wO_R {L : Int} {c : Int → Int} (hL : 0 ≤ L ∧ L < 64) : ∀ {n : Nat}, vC L c n → ∀ p : Int, 0 ≤ p → p < cnt L → 0 ≤ wO L c n p ∧ wO L c n p < 6 ∧ bt L (wO L c n p) = 1
  | 0, _, p, h0, h1 => (ord_is (q := 0) hL h0 h1).1
  | n + 1, v, p, h0, h1 => by
    have ih := wO_R hL (n := n) (vC_less v (by omega))
    have hv := v n (by omega) (by omega)
    simp only [wO]
    split
    · exact ih _ (by omega) (by omega)
    · split
      · exact ih _ (by omega) (by omega)
      · exact ih p h0 h1
theorem wO_inj {L : Int} {c : Int → Int} (hL : 0 ≤ L ∧ L < 64) : ∀ {n : Nat}, vC L c n → ∀ p q : Int, 0 ≤ p → p < cnt L → 0 ≤ q → q < cnt L → wO L c n p = wO L c n q → p = q
  | 0, _, p, q, h0, h1, h2, h3, e => by
    simp only [wO] at e
    rcases Int.lt_trichotomy p q with h | h | h
    · have := (ord_is (q := p) hL h2 h3).2 h0 h
      omega
    · exact h
    · have := (ord_is (q := q) hL h0 h1).2 h2 h
      omega
  | n + 1, v, p, q, h0, h1, h2, h3, e => by
    have ih := wO_inj hL (n := n) (vC_less v (by omega))
    have hv := v n (by omega) (by omega)
    simp only [wO] at e
    split at e <;> rename_i a1
    · split at e <;> rename_i a2
      · omega
      · split at e <;> rename_i a3
        · have := ih _ _ (by omega) (by omega) (by omega) (by omega) e
          omega
        · have := ih _ _ (by omega) (by omega) (by omega) (by omega) e
          omega
    · split at e <;> rename_i a2
      · split at e <;> rename_i a3
        · have := ih _ _ (by omega) (by omega) (by omega) (by omega) e
          omega
        · split at e <;> rename_i a4
          · omega
          · have := ih _ _ (by omega) (by omega) (by omega) (by omega) e
            omega
      · split at e <;> rename_i a3
        · have := ih _ _ (by omega) (by omega) (by omega) (by omega) e
          omega
        · split at e <;> rename_i a4
          · have := ih _ _ (by omega) (by omega) (by omega) (by omega) e
            omega
          · exact ih _ _ h0 h1 h2 h3 e
theorem sgn_R (x : Int) : sgn x = 1 ∨ sgn x = -1 := by
  unfold sgn
  split <;> simp
theorem wB_R {L : Int} {c : Int → Int} : ∀ (n : Nat) (j : Int), -(n : Int) ≤ wB L c n j ∧ wB L c n j ≤ n
  | 0, j => by simp [wB]
  | n + 1, j => by
    have := wB_R (L := L) (c := c) n j
    have := sgn_R (c n)
    simp only [wB]
    split <;> omega
theorem wB_sym {L : Int} {c : Int → Int} (hL : 0 ≤ L ∧ L < 64) : ∀ {n : Nat}, vC L c n → ∀ x y : Int, 0 ≤ x ∧ x < 6 → 0 ≤ y ∧ y < 6 → wB L c n (6 * x + y) = wB L c n (6 * y + x)
  | 0, _, _, _, _, _ => rfl
  | n + 1, v, x, y, hx, hy => by
    have v' := vC_less v (Nat.le_succ n)
    have hv := v n (by omega) (by omega)
    have ih := wB_sym hL v' x y hx hy
    have h1 := wO_R hL v' (c n / 2) (by omega) (by omega)
    have h2 := wO_R hL v' (c n / 2 + 1) (by omega) (by omega)
    simp only [wB, ih]
    have : (6 * x + y = 6 * wO L c n (c n / 2) + wO L c n (c n / 2 + 1) ∨ 6 * x + y = 6 * wO L c n (c n / 2 + 1) + wO L c n (c n / 2)) ↔ (6 * y + x = 6 * wO L c n (c n / 2) + wO L c n (c n / 2 + 1) ∨ 6 * y + x = 6 * wO L c n (c n / 2 + 1) + wO L c n (c n / 2)) := by omega
    simp only [this]
theorem wC_R {L : Int} {c : Int → Int} : ∀ (n : Nat), -(n : Int) ≤ wC L c n ∧ wC L c n ≤ n
  | 0 => by simp [wC]
  | n + 1 => by
    have := wC_R (L := L) (c := c) n
    have := bI_R (wB L c n (6 * wO L c n (c n / 2) + wO L c n (c n / 2 + 1)) ≠ 0)
    have := bI_R (wB L c n (6 * wO L c n (c n / 2) + wO L c n (c n / 2 + 1)) + sgn (c n) ≠ 0)
    simp only [wC]
    omega
