/-! ROWS OF A SCRIPT, BYTES AND THEIR KINDS; whether two coils are as one -/
section TX
variable {d a e tp : Nat} {h0 h : pheap} {s : St} {Q : Option pv → pheap → Prop}
theorem m_isAs (hC : isCo a) (hE : isCo e) (hb1 : B60 (s (a + 1))) (hb2 : B60 (s (e + 1))) (k : Q (some (vI (bI (∀ r : Fin 12, s (a + 1) ((r : Nat) : Int) = s (e + 1) ((r : Nat) : Int))))) (HP h0 s)) : wpM PP d 186 [vR a, vR e] (HP h0 s) Q := by
  have ha := hC.1.1
  have he := hE.1.1
  have L1 : ∀ N : Nat, ∀ (i : Int), (N = 12 - i.toNat) → (0 ≤ i ∧ i ≤ 12) → (∀ j : Int, 0 ≤ j → j < i → s (a + 1) j = s (e + 1) j) →  wp PP d mb186 (mb186.getD 1 []) [some (vR a), some (vR e), some (vI i)] [] (HP h0 s) Q := by
    refine s_ind (fun N ih => ?_)
    intro i hn hi g
    refine x_iload rfl ?_
    refine x_aload rfl ?_
    refine h_getR hC.1 rfl (by omega) ?_
    refine h_alen 12 hC.2 (by decide) rfl ?_
    refine n_icmp_ge ⟨by omega, by omega⟩ ⟨by omega, by omega⟩ (fun c1 => ?_) (fun c1 => ?_)
    · refine x_ci ?_
      refine x_zret (by first | exact bI_01 _ | omega) ?_
      first
        | (exfalso; omega)
        | exact cB0 k (ex_all (P := fun i => s (a + 1) i = s (e + 1) i) hi.1 (by omega) c3)
        | exact cB1 k (all_fin (P := fun i => s (a + 1) i = s (e + 1) i) (fun j h1 h2 => g j h1 (by omega)))
    · refine x_iload rfl ?_
      refine x_aload rfl ?_
      refine h_getR hE.1 rfl (by omega) ?_
      refine h_alen 12 hE.2 (by decide) rfl ?_
      refine n_icmp_ge ⟨by omega, by omega⟩ ⟨by omega, by omega⟩ (fun c2 => ?_) (fun c2 => ?_)
      · refine x_ci ?_
        refine x_zret (by first | exact bI_01 _ | omega) ?_
        first
          | (exfalso; omega)
          | exact cB0 k (ex_all (P := fun i => s (a + 1) i = s (e + 1) i) hi.1 (by omega) c3)
          | exact cB1 k (all_fin (P := fun i => s (a + 1) i = s (e + 1) i) (fun j h1 h2 => g j h1 (by omega)))
      · refine x_aload rfl ?_
        refine h_getR hC.1 rfl (by omega) ?_
        refine x_iload rfl ?_
        refine h_lald hC.2 ⟨by omega, by omega⟩ (by decide) ?_
        refine x_aload rfl ?_
        refine h_getR hE.1 rfl (by omega) ?_
        refine x_iload rfl ?_
        refine h_lald hE.2 ⟨by omega, by omega⟩ (by decide) ?_
        have b1 := hb1 i (by omega) (by omega)
        have b2 := hb2 i (by omega) (by omega)
        refine n_lif_eq ⟨by omega, by omega⟩ ⟨by omega, by omega⟩ (fun c3 => ?_) (fun c3 => ?_)
        · refine n_iinc [some (vR _), some (vR _), some (vI _)] rfl rfl ?_
          refine x_goto ?_
          refine ih (12 - (i + 1).toNat) (by omega) (i + 1) rfl (by omega) (fun j h1 h2 => ?_)
          by_cases q : j = i
          · rw [q]
            exact c3
          · exact g j h1 (by omega)
        · refine x_ci ?_
          refine x_zret (by first | exact bI_01 _ | omega) ?_
          first
            | (exfalso; omega)
            | exact cB0 k (ex_all (P := fun i => s (a + 1) i = s (e + 1) i) hi.1 (by omega) c3)
            | exact cB1 k (all_fin (P := fun i => s (a + 1) i = s (e + 1) i) (fun j h1 h2 => g j h1 (by omega)))
  refine n_at (m := 186) (q := mr186) (kn := (0, 2)) [some (vR _), some (vR _), none] mb186 rfl rfl (h_rcv hC.1) (Nat.le_of_ble_eq_true rfl) rfl rfl ?_
  refine x_ci ?_
  refine n_istore [some (vR _), some (vR _), some (vI _)] (Nat.le_of_ble_eq_true rfl) rfl ?_
  refine x_fall ?_
  exact L1 12 0 rfl (by omega) (fun j h1 h2 => by omega)
theorem m_addDancer (hS : isSc tp) {x D : Int} (h1 : s tp 1 = D) (hD : 0 ≤ D ∧ D < 6) (k : Q none (HP h0 (up (up s (tp + 1) D x) tp 1 (D + 1)))) : wpM PP d 245 [vR tp, vI x] (HP h0 s) Q := by
  have ha := hS.1.1
  refine n_at (m := 245) (q := mr245) (kn := (0, 2)) [some (vR _), some (vI _)] mb245 rfl rfl (h_rcv hS.1) (Nat.le_of_ble_eq_true rfl) rfl rfl ?_
  refine x_aload rfl ?_
  refine h_getI 1 hS.1 rfl rfl ?_
  rw [h1]
  refine n_if_lt ⟨by omega, by omega⟩ (fun c1 => ?_) (fun c1 => ?_)
  · refine x_ret ?_
    first | (exfalso; omega) | exact k
  · refine x_aload rfl ?_
    refine h_getI 1 hS.1 rfl rfl ?_
    rw [h1]
    refine x_aload rfl ?_
    refine h_getR hS.1 rfl (by omega) ?_
    refine h_alen 6 hS.2.1 (by decide) rfl ?_
    refine n_icmp_ge ⟨by omega, by omega⟩ ⟨by omega, by omega⟩ (fun c2 => ?_) (fun c2 => ?_)
    · refine x_ret ?_
      first | (exfalso; omega) | exact k
    · refine x_aload rfl ?_
      refine h_getR hS.1 rfl (by omega) ?_
      refine x_aload rfl ?_
      refine h_getI 1 hS.1 rfl rfl ?_
      rw [h1]
      refine x_iload rfl ?_
      refine h_iast hS.2.1 ⟨by omega, by omega⟩ (by decide) ?_
      refine x_aload rfl ?_
      refine x_dupR ?_
      refine h_getI 1 hS.1 rfl rfl ?_
      rw [up_a (b := tp) (by omega), h1]
      refine x_ci ?_
      refine x_iadd ?_
      refine h_putI 1 hS.1 rfl rfl ?_
      refine x_fall ?_
      refine x_ret ?_
      first | (exfalso; omega) | exact k
theorem m_addTelling (hS : isSc tp) {x y K : Int} (h1 : s tp 4 = K) (hK : 0 ≤ K ∧ K < 24) (k : Q none (HP h0 (up (up (up s (tp + 2) K x) (tp + 3) K y) tp 4 (K + 1)))) : wpM PP d 246 [vR tp, vI x, vI y] (HP h0 s) Q := by
  have ha := hS.1.1
  refine n_at (m := 246) (q := mr246) (kn := (0, 3)) [some (vR _), some (vI _), some (vI _)] mb246 rfl rfl (h_rcv hS.1) (Nat.le_of_ble_eq_true rfl) rfl rfl ?_
  refine x_aload rfl ?_
  refine h_getI 4 hS.1 rfl rfl ?_
  rw [h1]
  refine n_if_lt ⟨by omega, by omega⟩ (fun c1 => ?_) (fun c1 => ?_)
  · refine x_ret ?_
    first | (exfalso; omega) | exact k
  · refine x_aload rfl ?_
    refine h_getI 4 hS.1 rfl rfl ?_
    rw [h1]
    refine x_aload rfl ?_
    refine h_getR hS.1 rfl (by omega) ?_
    refine h_alen 24 hS.2.2.1 (by decide) rfl ?_
    refine n_icmp_ge ⟨by omega, by omega⟩ ⟨by omega, by omega⟩ (fun c2 => ?_) (fun c2 => ?_)
    · refine x_ret ?_
      first | (exfalso; omega) | exact k
    · refine x_aload rfl ?_
      refine h_getI 4 hS.1 rfl rfl ?_
      rw [h1]
      refine x_aload rfl ?_
      refine h_getR hS.1 rfl (by omega) ?_
      refine h_alen 24 hS.2.2.2.1 (by decide) rfl ?_
      refine n_icmp_ge ⟨by omega, by omega⟩ ⟨by omega, by omega⟩ (fun c3 => ?_) (fun c3 => ?_)
      · refine x_ret ?_
        first | (exfalso; omega) | exact k
      · refine x_aload rfl ?_
        refine h_getR hS.1 rfl (by omega) ?_
        refine x_aload rfl ?_
        refine h_getI 4 hS.1 rfl rfl ?_
        rw [h1]
        refine x_iload rfl ?_
        refine h_iast hS.2.2.1 ⟨by omega, by omega⟩ (by decide) ?_
        refine x_aload rfl ?_
        refine h_getR hS.1 rfl (by omega) ?_
        refine x_aload rfl ?_
        refine h_getI 4 hS.1 rfl rfl ?_
        rw [up_a (b := tp) (by omega), h1]
        refine x_iload rfl ?_
        refine h_iast hS.2.2.2.1 ⟨by omega, by omega⟩ (by decide) ?_
        refine x_aload rfl ?_
        refine x_dupR ?_
        refine h_getI 4 hS.1 rfl rfl ?_
        rw [up_a (b := tp) (by omega), up_a (b := tp) (by omega), h1]
        refine x_ci ?_
        refine x_iadd ?_
        refine h_putI 4 hS.1 rfl rfl ?_
        refine x_fall ?_
        refine x_ret ?_
        first | (exfalso; omega) | exact k
theorem m_setLaw (hS : isSc tp) {r x kn : Int} (h1 : s tp 11 = kn) (hr : 0 ≤ r ∧ r < 3) (k : Q none (HP h0 (up (up s (tp + 5) r x) (tp + 6) r kn))) : wpM PP d 250 [vR tp, vI r, vI x] (HP h0 s) Q := by
  have ha := hS.1.1
  refine n_at (m := 250) (q := mr250) (kn := (0, 3)) [some (vR _), some (vI _), some (vI _)] mb250 rfl rfl (h_rcv hS.1) (Nat.le_of_ble_eq_true rfl) rfl rfl ?_
  refine x_iload rfl ?_
  refine n_if_lt ⟨by omega, by omega⟩ (fun c1 => ?_) (fun c1 => ?_)
  · refine x_ret ?_
    first | (exfalso; omega) | exact k
  · refine x_iload rfl ?_
    refine x_aload rfl ?_
    refine h_getR hS.1 rfl (by omega) ?_
    refine h_alen 3 hS.2.2.2.2.2.1 (by decide) rfl ?_
    refine n_icmp_ge ⟨by omega, by omega⟩ ⟨by omega, by omega⟩ (fun c2 => ?_) (fun c2 => ?_)
    · refine x_ret ?_
      first | (exfalso; omega) | exact k
    · refine x_iload rfl ?_
      refine x_aload rfl ?_
      refine h_getR hS.1 rfl (by omega) ?_
      refine h_alen 3 hS.2.2.2.2.2.2.1 (by decide) rfl ?_
      refine n_icmp_ge ⟨by omega, by omega⟩ ⟨by omega, by omega⟩ (fun c3 => ?_) (fun c3 => ?_)
      · refine x_ret ?_
        first | (exfalso; omega) | exact k
      · refine x_aload rfl ?_
        refine h_getR hS.1 rfl (by omega) ?_
        refine x_iload rfl ?_
        refine x_iload rfl ?_
        refine h_iast hS.2.2.2.2.2.1 ⟨by omega, by omega⟩ (by decide) ?_
        refine x_aload rfl ?_
        refine h_getR hS.1 rfl (by omega) ?_
        refine x_iload rfl ?_
        refine x_aload rfl ?_
        refine h_getI 11 hS.1 rfl rfl ?_
        rw [up_a (b := tp) (by omega), h1]
        refine h_iast hS.2.2.2.2.2.2.1 ⟨by omega, by omega⟩ (by decide) ?_
        refine x_fall ?_
        refine x_ret ?_
        first | (exfalso; omega) | exact k
theorem m_addKnot (hS : isSc tp) {x kn : Int} (h1 : s tp 11 = kn) (hK : 0 ≤ kn ∧ kn < 64) (k : Q (some (vI 1)) (HP h0 (up (up s (tp + 4) kn x) tp 11 (kn + 1)))) : wpM PP d 251 [vR tp, vI x] (HP h0 s) Q := by
  have ha := hS.1.1
  refine n_at (m := 251) (q := mr251) (kn := (0, 2)) [some (vR _), some (vI _)] mb251 rfl rfl (h_rcv hS.1) (Nat.le_of_ble_eq_true rfl) rfl rfl ?_
  refine x_aload rfl ?_
  refine h_getI 11 hS.1 rfl rfl ?_
  rw [h1]
  refine n_if_lt ⟨by omega, by omega⟩ (fun c1 => ?_) (fun c1 => ?_)
  · refine x_ci ?_
    refine x_zret (by first | exact bI_01 _ | omega) ?_
    first | (exfalso; omega) | exact k
  · refine x_aload rfl ?_
    refine h_getI 11 hS.1 rfl rfl ?_
    rw [h1]
    refine x_aload rfl ?_
    refine h_getR hS.1 rfl (by omega) ?_
    refine h_alen 64 hS.2.2.2.2.1 (by decide) rfl ?_
    refine n_icmp_lt ⟨by omega, by omega⟩ ⟨by omega, by omega⟩ (fun c2 => ?_) (fun c2 => ?_)
    · refine x_aload rfl ?_
      refine h_getR hS.1 rfl (by omega) ?_
      refine x_aload rfl ?_
      refine h_getI 11 hS.1 rfl rfl ?_
      rw [h1]
      refine x_iload rfl ?_
      refine h_iast hS.2.2.2.2.1 ⟨by omega, by omega⟩ (by decide) ?_
      refine x_aload rfl ?_
      refine x_dupR ?_
      refine h_getI 11 hS.1 rfl rfl ?_
      rw [up_a (b := tp) (by omega), h1]
      refine x_ci ?_
      refine x_iadd ?_
      refine h_putI 11 hS.1 rfl rfl ?_
      refine x_ci ?_
      refine x_zret (by first | exact bI_01 _ | omega) ?_
      first | (exfalso; omega) | exact k
    · refine x_fall ?_
      refine x_ci ?_
      refine x_zret (by first | exact bI_01 _ | omega) ?_
      first | (exfalso; omega) | exact k
theorem m_clear (hS : isSc tp) (k : ∀ t, (∀ r : Int, 0 ≤ r → r < 3 → t (tp + 5) r = 0 ∧ t (tp + 6) r = 0) → (∀ (b : Nat) (r : Int), ¬ b = tp + 5 → ¬ b = tp + 6 → t b r = (up (up (up (up (up (up (up (up s tp 1 0) tp 4 0) tp 5 0) tp 6 0) tp 7 0) tp 8 0) tp 9 0) tp 11 0) b r) → Q none (HP h0 t)) : wpM PP d 243 [vR tp] (HP h0 s) Q := by
  have ha := hS.1.1
  have L1 : ∀ N : Nat, ∀ (i : Int) (t : St), (N = 3 - i.toNat) → (0 ≤ i ∧ i ≤ 3) → (∀ r : Int, 0 ≤ r → r < i → t (tp + 5) r = 0 ∧ t (tp + 6) r = 0) → (∀ (b : Nat) (r : Int), ¬ b = tp + 5 → ¬ b = tp + 6 → t b r = (up (up (up (up (up (up (up (up s tp 1 0) tp 4 0) tp 5 0) tp 6 0) tp 7 0) tp 8 0) tp 9 0) tp 11 0) b r) →  wp PP d mb243 (mb243.getD 1 []) [some (vR tp), some (vI i)] [] (HP h0 t) Q := by
    refine s_ind (fun N ih => ?_)
    intro i t hn hi g1 g2
    refine x_iload rfl ?_
    refine x_aload rfl ?_
    refine h_getR hS.1 rfl (by omega) ?_
    refine h_alen 3 hS.2.2.2.2.2.1 (by decide) rfl ?_
    refine n_icmp_ge ⟨by omega, by omega⟩ ⟨by omega, by omega⟩ (fun c1 => ?_) (fun c1 => ?_)
    · refine x_ret ?_
      exact k t (fun r h1 h2 => g1 r h1 (by omega)) g2
    · refine x_iload rfl ?_
      refine x_aload rfl ?_
      refine h_getR hS.1 rfl (by omega) ?_
      refine h_alen 3 hS.2.2.2.2.2.2.1 (by decide) rfl ?_
      refine n_icmp_ge ⟨by omega, by omega⟩ ⟨by omega, by omega⟩ (fun c2 => ?_) (fun c2 => ?_)
      · refine x_ret ?_
        exact k t (fun r h1 h2 => g1 r h1 (by omega)) g2
      · refine x_aload rfl ?_
        refine h_getR hS.1 rfl (by omega) ?_
        refine x_iload rfl ?_
        refine x_ci ?_
        refine h_iast hS.2.2.2.2.2.1 ⟨by omega, by omega⟩ (by decide) ?_
        refine x_aload rfl ?_
        refine h_getR hS.1 rfl (by omega) ?_
        refine x_iload rfl ?_
        refine x_ci ?_
        refine h_iast hS.2.2.2.2.2.2.1 ⟨by omega, by omega⟩ (by decide) ?_
        refine n_iinc [some (vR _), some (vI _)] rfl rfl ?_
        refine x_goto ?_
        refine ih (3 - (i + 1).toNat) (by omega) (i + 1) _ rfl (by omega) (fun r h1 h2 => ?_) (fun b r w1 w2 => ?_)
        · rw [up_a (by omega), up_at, up_at]
          by_cases q : r = i
          · rw [if_pos q, if_pos q]
            exact ⟨rfl, rfl⟩
          · rw [if_neg q, if_neg q, up_a (by omega)]
            exact g1 r h1 (by omega)
        · rw [up_a (by omega), up_a (by omega)]
          exact g2 b r w1 w2
  refine n_at (m := 243) (q := mr243) (kn := (0, 1)) [some (vR _), none] mb243 rfl rfl (h_rcv hS.1) (Nat.le_of_ble_eq_true rfl) rfl rfl ?_
  refine x_aload rfl ?_
  refine x_ci ?_
  refine h_putI 1 hS.1 rfl rfl ?_
  refine x_aload rfl ?_
  refine x_ci ?_
  refine h_putI 4 hS.1 rfl rfl ?_
  refine x_aload rfl ?_
  refine x_ci ?_
  refine h_putI 5 hS.1 rfl rfl ?_
  refine x_aload rfl ?_
  refine x_ci ?_
  refine h_putZ 6 hS.1 rfl rfl (by first | exact bI_01 _ | omega) ?_
  refine x_aload rfl ?_
  refine x_ci ?_
  refine h_putI 7 hS.1 rfl rfl ?_
  refine x_aload rfl ?_
  refine x_ci ?_
  refine h_putZ 8 hS.1 rfl rfl (by first | exact bI_01 _ | omega) ?_
  refine x_aload rfl ?_
  refine x_ci ?_
  refine h_putI 9 hS.1 rfl rfl ?_
  refine x_aload rfl ?_
  refine x_ci ?_
  refine h_putI 11 hS.1 rfl rfl ?_
  refine x_ci ?_
  refine n_istore [some (vR _), some (vI _)] (Nat.le_of_ble_eq_true rfl) rfl ?_
  refine x_fall ?_
  refine L1 3 0 _ rfl (by omega) (fun r h1 h2 => by omega) (fun _ _ _ _ => rfl)
/-- the first place of a number in a row, or -1 -/
def fndN (f : Int → Int) (x : Int) : Nat → Int
  | 0 => -1
  | n + 1 => if fndN f x n = -1 then (if f n = x then (n : Int) else -1) else fndN f x n
theorem fnd_no {f : Int → Int} {x : Int} : ∀ n : Nat, (∀ i : Int, 0 ≤ i → i < n → f i ≠ x) → fndN f x n = -1
  | 0, _ => rfl
  | n + 1, h => by
    simp only [fndN]
    rw [if_pos (fnd_no n (fun i i0 i1 => h i i0 (by omega))), if_neg (h n (by omega) (by omega))]
theorem fnd_at {f : Int → Int} {x : Int} {i : Nat} (h : ∀ j : Int, 0 ≤ j → j < i → f j ≠ x) (hi : f i = x) : ∀ n : Nat, i < n → fndN f x n = i
  | 0, h1 => by omega
  | n + 1, h1 => by
    simp only [fndN]
    by_cases q : i = n
    · subst q
      rw [if_pos (fnd_no i h), if_pos hi]
    · rw [fnd_at h hi n (by omega), if_neg (by omega)]
theorem m_numberOf (hS : isSc tp) {x : Int} {D : Nat} {f : Int → Int} (h1 : s tp 1 = D) (hD : D ≤ 6) (hf : ∀ i : Int, 0 ≤ i → i < D → s (tp + 1) i = f i) (hfr : ∀ i : Int, 0 ≤ i → i < D → iR (f i)) (hx : iR x) (k : Q (some (vI (fndN f x D))) (HP h0 s)) : wpM PP d 244 [vR tp, vI x] (HP h0 s) Q := by
  have ha := hS.1.1
  have L1 : ∀ N : Nat, ∀ (j : Nat) (i : Int), (i = j) → (N = D - j ∧ j ≤ D) → (∀ q : Int, 0 ≤ q → q < i → f q ≠ x) →  wp PP d mb244 (mb244.getD 1 []) [some (vR tp), some (vI x), some (vI i)] [] (HP h0 s) Q := by
    refine s_ind (fun N ih => ?_)
    intro j i hj hn g
    refine x_iload rfl ?_
    refine x_aload rfl ?_
    refine h_getI 1 hS.1 rfl rfl ?_
    rw [h1]
    refine n_icmp_ge ⟨by omega, by omega⟩ ⟨by omega, by omega⟩ (fun c1 => ?_) (fun c1 => ?_)
    · refine x_ci ?_
      refine x_iret ?_
      first
        | (exfalso; omega)
        | (refine cI k (fnd_no D (fun q h1 h2 => g q h1 (by omega))))
        | (refine cI k ?_
           rw [fnd_at (i := j) (fun q h1 h2 => g q h1 (by omega)) (by rw [← hj]; assumption) D (by omega)]
           omega)
    · refine x_iload rfl ?_
      refine x_aload rfl ?_
      refine h_getR hS.1 rfl (by omega) ?_
      refine h_alen 6 hS.2.1 (by decide) rfl ?_
      refine n_icmp_ge ⟨by omega, by omega⟩ ⟨by omega, by omega⟩ (fun c2 => ?_) (fun c2 => ?_)
      · refine x_ci ?_
        refine x_iret ?_
        first
          | (exfalso; omega)
          | (refine cI k (fnd_no D (fun q h1 h2 => g q h1 (by omega))))
          | (refine cI k ?_
             rw [fnd_at (i := j) (fun q h1 h2 => g q h1 (by omega)) (by rw [← hj]; assumption) D (by omega)]
             omega)
      · refine x_aload rfl ?_
        refine h_getR hS.1 rfl (by omega) ?_
        refine x_iload rfl ?_
        refine h_iald hS.2.1 ⟨by omega, by omega⟩ (by decide) ?_
        rw [hf i (by omega) (by omega)]
        have ff := hfr i (by omega) (by omega)
        refine x_iload rfl ?_
        refine n_icmp_ne ⟨by omega, by omega⟩ ⟨by omega, by omega⟩ (fun c3 => ?_) (fun c3 => ?_)
        · refine n_iinc [some (vR _), some (vI _), some (vI _)] rfl rfl ?_
          refine x_goto ?_
          refine ih (D - (j + 1)) (by omega) (j + 1) _ (by omega) (by omega) (fun q h1 h2 => ?_)
          by_cases z : q = i
          · rw [z]
            assumption
          · exact g q h1 (by omega)
        · refine x_iload rfl ?_
          refine x_iret ?_
          first
            | (exfalso; omega)
            | (refine cI k (fnd_no D (fun q h1 h2 => g q h1 (by omega))))
            | (refine cI k ?_
               rw [fnd_at (i := j) (fun q h1 h2 => g q h1 (by omega)) (by rw [← hj]; assumption) D (by omega)]
               omega)
  refine n_at (m := 244) (q := mr244) (kn := (0, 2)) [some (vR _), some (vI _), none] mb244 rfl rfl (h_rcv hS.1) (Nat.le_of_ble_eq_true rfl) rfl rfl ?_
  refine x_ci ?_
  refine n_istore [some (vR _), some (vI _), some (vI _)] (Nat.le_of_ble_eq_true rfl) rfl ?_
  refine x_fall ?_
  refine L1 D 0 0 rfl (by omega) (fun q h1 h2 => by omega)
theorem r_found {o x : Int} {D : Nat} {f : Int → Int} (ho : 0 ≤ o ∧ o ≤ 6) (hD : D ≤ 6) (hf : ∀ i : Int, 0 ≤ i → i < D → s 97 (o + i) = f i) (hfr : ∀ i : Int, 0 ≤ i → i < D → iR (f i)) (hx : iR x) (k : Q (some (vI (fndN f x D))) (HP h0 s)) : wpM PP d 72 [vR 97, vI o, vI D, vI x] (HP h0 s) Q := by
  have L1 : ∀ N : Nat, ∀ (j : Nat) (i : Int), (i = j) → (N = D - j ∧ j ≤ D) → (∀ q : Int, 0 ≤ q → q < i → f q ≠ x) →  wp PP d mb72 (mb72.getD 1 []) [some (vR 97), some (vI o), some (vI D), some (vI x), some (vI i)] [] (HP h0 s) Q := by
    refine s_ind (fun N ih => ?_)
    intro j i hj hn g
    refine x_iload rfl ?_
    refine x_iload rfl ?_
    refine n_icmp_ge ⟨by omega, by omega⟩ ⟨by omega, by omega⟩ (fun c1 => ?_) (fun c1 => ?_)
    · refine x_ci ?_
      refine x_iret ?_
      first
        | (exfalso; omega)
        | (refine cI k (fnd_no D (fun q h1 h2 => g q h1 (by omega))))
        | (refine cI k ?_
           rw [fnd_at (i := j) (fun q h1 h2 => g q h1 (by omega)) (by rw [← hj]; assumption) D (by omega)]
           omega)
    · refine x_aload rfl ?_
      refine x_iload rfl ?_
      refine x_iload rfl ?_
      refine x_iadd ?_
      refine h_iald sc_97 ⟨by omega, by omega⟩ (by decide) ?_
      rw [hf i (by omega) (by omega)]
      have ff := hfr i (by omega) (by omega)
      refine x_iload rfl ?_
      refine n_icmp_ne ⟨by omega, by omega⟩ ⟨by omega, by omega⟩ (fun c2 => ?_) (fun c2 => ?_)
      · refine n_iinc [some (vR _), some (vI _), some (vI _), some (vI _), some (vI _)] rfl rfl ?_
        refine x_goto ?_
        refine ih (D - (j + 1)) (by omega) (j + 1) _ (by omega) (by omega) (fun q h1 h2 => ?_)
        by_cases z : q = i
        · rw [z]
          assumption
        · exact g q h1 (by omega)
      · refine x_iload rfl ?_
        refine x_iret ?_
        first
          | (exfalso; omega)
          | (refine cI k (fnd_no D (fun q h1 h2 => g q h1 (by omega))))
          | (refine cI k ?_
             rw [fnd_at (i := j) (fun q h1 h2 => g q h1 (by omega)) (by rw [← hj]; assumption) D (by omega)]
             omega)
  refine n_at (m := 72) (q := mr72) (kn := (1, 4)) [some (vR _), some (vI _), some (vI _), some (vI _), none] mb72 rfl rfl rfl (Nat.le_of_ble_eq_true rfl) rfl rfl ?_
  refine x_ci ?_
  refine n_istore [some (vR _), some (vI _), some (vI _), some (vI _), some (vI _)] (Nat.le_of_ble_eq_true rfl) rfl ?_
  refine x_fall ?_
  refine L1 D 0 0 rfl (by omega) (fun q h1 h2 => by omega)
theorem m_isBlank {x : Int} (hx : iR x) (k : Q (some (vI (bI (x = 10 ∨ x = 32)))) h) : wpM PP d 299 [vI x] h Q := by
  refine n_at (m := 299) (q := mr299) (kn := (1, 1)) [some (vI _)] mb299 rfl rfl rfl (Nat.le_of_ble_eq_true rfl) rfl rfl ?_
  refine x_iload rfl ?_
  refine x_ci ?_
  refine n_icmp_eq ⟨by omega, by omega⟩ ⟨by omega, by omega⟩ (fun c1 => ?_) (fun c1 => ?_)
  · refine x_ci ?_
    refine x_goto ?_
    refine x_zret (by first | exact bI_01 _ | omega) ?_
    exact cB1 k (by omega)
  · refine x_iload rfl ?_
    refine x_ci ?_
    refine n_icmp_ne ⟨by omega, by omega⟩ ⟨by omega, by omega⟩ (fun c2 => ?_) (fun c2 => ?_)
    · refine x_ci ?_
      refine x_fall ?_
      refine x_zret (by first | exact bI_01 _ | omega) ?_
      exact cB0 k (by omega)
    · refine x_fall ?_
      refine x_ci ?_
      refine x_goto ?_
      refine x_zret (by first | exact bI_01 _ | omega) ?_
      exact cB1 k (by omega)
theorem m_isLetter {x : Int} (hx : iR x) (k : Q (some (vI (bI (97 ≤ x ∧ x ≤ 122)))) h) : wpM PP d 300 [vI x] h Q := by
  refine n_at (m := 300) (q := mr300) (kn := (1, 1)) [some (vI _)] mb300 rfl rfl rfl (Nat.le_of_ble_eq_true rfl) rfl rfl ?_
  refine x_iload rfl ?_
  refine x_ci ?_
  refine n_icmp_lt ⟨by omega, by omega⟩ ⟨by omega, by omega⟩ (fun c1 => ?_) (fun c1 => ?_)
  · refine x_ci ?_
    refine x_fall ?_
    refine x_zret (by first | exact bI_01 _ | omega) ?_
    exact cB0 k (by omega)
  · refine x_iload rfl ?_
    refine x_ci ?_
    refine n_icmp_gt ⟨by omega, by omega⟩ ⟨by omega, by omega⟩ (fun c2 => ?_) (fun c2 => ?_)
    · refine x_ci ?_
      refine x_fall ?_
      refine x_zret (by first | exact bI_01 _ | omega) ?_
      exact cB0 k (by omega)
    · refine x_ci ?_
      refine x_goto ?_
      refine x_zret (by first | exact bI_01 _ | omega) ?_
      exact cB1 k (by omega)
theorem m_isDigit2 {x : Int} (hx : iR x) (k : Q (some (vI (bI (48 ≤ x ∧ x ≤ 57)))) h) : wpM PP d 301 [vI x] h Q := by
  refine n_at (m := 301) (q := mr301) (kn := (1, 1)) [some (vI _)] mb301 rfl rfl rfl (Nat.le_of_ble_eq_true rfl) rfl rfl ?_
  refine x_iload rfl ?_
  refine x_ci ?_
  refine n_icmp_lt ⟨by omega, by omega⟩ ⟨by omega, by omega⟩ (fun c1 => ?_) (fun c1 => ?_)
  · refine x_ci ?_
    refine x_fall ?_
    refine x_zret (by first | exact bI_01 _ | omega) ?_
    exact cB0 k (by omega)
  · refine x_iload rfl ?_
    refine x_ci ?_
    refine n_icmp_gt ⟨by omega, by omega⟩ ⟨by omega, by omega⟩ (fun c2 => ?_) (fun c2 => ?_)
    · refine x_ci ?_
      refine x_fall ?_
      refine x_zret (by first | exact bI_01 _ | omega) ?_
      exact cB0 k (by omega)
    · refine x_ci ?_
      refine x_goto ?_
      refine x_zret (by first | exact bI_01 _ | omega) ?_
      exact cB1 k (by omega)
theorem r_isSmall {x : Int} (hx : iR x) (k : Q (some (vI (bI (97 ≤ x ∧ x ≤ 122)))) h) : wpM PP d 61 [vI x] h Q := by
  refine n_at (m := 61) (q := mr61) (kn := (1, 1)) [some (vI _)] mb61 rfl rfl rfl (Nat.le_of_ble_eq_true rfl) rfl rfl ?_
  refine x_iload rfl ?_
  refine x_ci ?_
  refine n_icmp_lt ⟨by omega, by omega⟩ ⟨by omega, by omega⟩ (fun c1 => ?_) (fun c1 => ?_)
  · refine x_ci ?_
    refine x_fall ?_
    refine x_zret (by first | exact bI_01 _ | omega) ?_
    exact cB0 k (by omega)
  · refine x_iload rfl ?_
    refine x_ci ?_
    refine n_icmp_gt ⟨by omega, by omega⟩ ⟨by omega, by omega⟩ (fun c2 => ?_) (fun c2 => ?_)
    · refine x_ci ?_
      refine x_fall ?_
      refine x_zret (by first | exact bI_01 _ | omega) ?_
      exact cB0 k (by omega)
    · refine x_ci ?_
      refine x_goto ?_
      refine x_zret (by first | exact bI_01 _ | omega) ?_
      exact cB1 k (by omega)
theorem r_isDigit {x : Int} (hx : iR x) (k : Q (some (vI (bI (48 ≤ x ∧ x ≤ 57)))) h) : wpM PP d 62 [vI x] h Q := by
  refine n_at (m := 62) (q := mr62) (kn := (1, 1)) [some (vI _)] mb62 rfl rfl rfl (Nat.le_of_ble_eq_true rfl) rfl rfl ?_
  refine x_iload rfl ?_
  refine x_ci ?_
  refine n_icmp_lt ⟨by omega, by omega⟩ ⟨by omega, by omega⟩ (fun c1 => ?_) (fun c1 => ?_)
  · refine x_ci ?_
    refine x_fall ?_
    refine x_zret (by first | exact bI_01 _ | omega) ?_
    exact cB0 k (by omega)
  · refine x_iload rfl ?_
    refine x_ci ?_
    refine n_icmp_gt ⟨by omega, by omega⟩ ⟨by omega, by omega⟩ (fun c2 => ?_) (fun c2 => ?_)
    · refine x_ci ?_
      refine x_fall ?_
      refine x_zret (by first | exact bI_01 _ | omega) ?_
      exact cB0 k (by omega)
    · refine x_ci ?_
      refine x_goto ?_
      refine x_zret (by first | exact bI_01 _ | omega) ?_
      exact cB1 k (by omega)
theorem m_byteAt {x en sz : Int} {tb : Int → Int} (hx : iR x) (h2 : s 33 2 = en) (h1 : s 33 1 = sz) (hen : 0 ≤ en ∧ en ≤ sz) (hsz : sz ≤ 700) (hb : ∀ i : Int, 0 ≤ i → i < sz → i_and (s 34 i) 255 = tb i) (k : Q (some (vI (if 0 ≤ x ∧ x < en then tb x else -1))) (HP h0 s)) : wpM PP d 298 [vR 33, vI x] (HP h0 s) Q := by
  refine n_at (m := 298) (q := mr298) (kn := (0, 2)) [some (vR _), some (vI _)] mb298 rfl rfl (h_rcv sc_33) (Nat.le_of_ble_eq_true rfl) rfl rfl ?_
  refine x_iload rfl ?_
  refine n_if_lt ⟨by omega, by omega⟩ (fun c1 => ?_) (fun c1 => ?_)
  · refine x_ci ?_
    refine x_fall ?_
    refine x_iret ?_
    first
      | exact cI k (if_pos ⟨by omega, by omega⟩)
      | exact cI k (if_neg (by omega))
  · refine x_iload rfl ?_
    refine x_aload rfl ?_
    refine h_getI 2 sc_33 rfl rfl ?_
    rw [h2]
    refine n_icmp_ge ⟨by omega, by omega⟩ ⟨by omega, by omega⟩ (fun c2 => ?_) (fun c2 => ?_)
    · refine x_ci ?_
      refine x_fall ?_
      refine x_iret ?_
      first
        | exact cI k (if_pos ⟨by omega, by omega⟩)
        | exact cI k (if_neg (by omega))
    · refine x_iload rfl ?_
      refine x_aload rfl ?_
      refine h_getI 1 sc_33 rfl rfl ?_
      rw [h1]
      refine n_icmp_ge ⟨by omega, by omega⟩ ⟨by omega, by omega⟩ (fun c3 => ?_) (fun c3 => ?_)
      · refine x_ci ?_
        refine x_fall ?_
        refine x_iret ?_
        first
          | exact cI k (if_pos ⟨by omega, by omega⟩)
          | exact cI k (if_neg (by omega))
      · refine x_iload rfl ?_
        refine x_aload rfl ?_
        refine h_getR sc_33 rfl (by omega) ?_
        refine h_alen 700 sc_34 (by decide) rfl ?_
        refine n_icmp_ge ⟨by omega, by omega⟩ ⟨by omega, by omega⟩ (fun c4 => ?_) (fun c4 => ?_)
        · refine x_ci ?_
          refine x_fall ?_
          refine x_iret ?_
          first
            | exact cI k (if_pos ⟨by omega, by omega⟩)
            | exact cI k (if_neg (by omega))
        · refine x_aload rfl ?_
          refine h_getR sc_33 rfl (by omega) ?_
          refine x_iload rfl ?_
          refine h_bald1 sc_34 ⟨by omega, by omega⟩ (by decide) ?_
          refine x_ci ?_
          refine x_iand ?_
          rw [hb x (by omega) (by omega)]
          refine x_goto ?_
          refine x_iret ?_
          first
            | exact cI k (if_pos ⟨by omega, by omega⟩)
            | exact cI k (if_neg (by omega))
theorem r_here {x en : Int} {tb : Int → Int} (h14 : s 94 14 = x) (h13 : s 94 13 = en) (hx : 0 ≤ x ∧ x ≤ 700) (hen : 0 ≤ en ∧ en ≤ 700) (hb : ∀ i : Int, 0 ≤ i → i < en → s 95 i = tb i) (k : Q (some (vI (if 0 ≤ x ∧ x < en then tb x else -1))) (HP h0 s)) : wpM PP d 60 [vR 94] (HP h0 s) Q := by
  refine n_at (m := 60) (q := mr60) (kn := (0, 1)) [some (vR _)] mb60 rfl rfl (h_rcv sc_94) (Nat.le_of_ble_eq_true rfl) rfl rfl ?_
  refine x_aload rfl ?_
  refine h_getI 14 sc_94 rfl rfl ?_
  rw [h14]
  refine x_aload rfl ?_
  refine h_getI 13 sc_94 rfl rfl ?_
  rw [h13]
  refine n_icmp_ge ⟨by omega, by omega⟩ ⟨by omega, by omega⟩ (fun c1 => ?_) (fun c1 => ?_)
  · refine x_ci ?_
    refine x_fall ?_
    refine x_iret ?_
    first
      | exact cI k (if_pos ⟨by omega, by omega⟩)
      | exact cI k (if_neg (by omega))
  · refine x_aload rfl ?_
    refine h_getR sc_94 rfl (by omega) ?_
    refine x_aload rfl ?_
    refine h_getI 14 sc_94 rfl rfl ?_
    rw [h14]
    refine h_iald sc_95 ⟨by omega, by omega⟩ (by decide) ?_
    rw [hb x (by omega) (by omega)]
    refine x_goto ?_
    refine x_iret ?_
    first
      | exact cI k (if_pos ⟨by omega, by omega⟩)
      | exact cI k (if_neg (by omega))
end TX
