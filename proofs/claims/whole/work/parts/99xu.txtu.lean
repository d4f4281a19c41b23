/-! TEXT: the reference's text -/
section TXU
variable {d : Nat} {h0 h : pheap} {s tqq uqq : St} {Q : Option pv → pheap → Prop} {B : Int → Int} {n p q N : Nat} {sz : Int} {k vqq : Int} {D : Nat × (Int → Int)} {T : Nat × (Int → Int) × (Int → Int)} {S E : Int × Int} {K : KS} {L : (Int → Int) × (Int → Int)} {X : TS}
theorem r_half {a nn m : Nat} (hC : isC a (.inl (0, nn))) (hn : nn = 2 * m) (hm : 0 < m ∧ m ≤ 64) (k1 : ∀ tqq, (∀ j : Int, 0 ≤ j → j < m → tqq a j = s a ((m : Int) + j)) → (∀ (c : Nat) (r : Int), ¬ (c = a ∧ 0 ≤ r ∧ r < m) → tqq c r = s c r) → Q none (HP h0 tqq)) : wpM PP d 87 [vR a] (HP h0 s) Q := by
  have L1 : ∀ N : Nat, ∀ (i : Int) (tqq : St), (N = m - i.toNat ∧ 0 ≤ i ∧ i ≤ m) → (∀ j : Int, 0 ≤ j → j < i → tqq a j = s a ((m : Int) + j)) → (∀ (c : Nat) (r : Int), ¬ (c = a ∧ 0 ≤ r ∧ r < i) → tqq c r = s c r) →  wp PP d mb87 (mb87.getD 1 []) [some (vR a), some (vI (m : Int)), some (vI i)] [] (HP h0 tqq) Q := by
    refine s_ind (fun N ih => ?_)
    intro i tqq hM g1 g2
    refine x_iload rfl ?_
    refine x_iload rfl ?_
    refine n_icmp_ge ⟨by omega, by omega⟩ ⟨by omega, by omega⟩ (fun c1 => ?_) (fun c1 => ?_)
    · refine x_ret ?_
      exact k1 tqq (fun j j0 j1 => g1 j j0 (by omega)) (fun c r y => g2 c r (by omega))
    · refine x_aload rfl ?_
      refine x_iload rfl ?_
      refine x_aload rfl ?_
      refine x_iload rfl ?_
      refine x_iload rfl ?_
      refine x_iadd ?_
      refine h_iald hC ⟨by omega, by omega⟩ (by first | decide | omega) ?_
      refine h_iast hC ⟨by omega, by omega⟩ (by first | decide | omega) ?_
      refine n_iinc [some (vR _), some (vI _), some (vI _)] rfl rfl ?_
      refine x_goto ?_
      refine ih (m - (i.toNat + 1)) (by omega) (i + 1) _ (by omega) (fun j j0 j1 => ?_) (fun c r y => ?_)
      · by_cases zqq : j = i
        · rw [zqq, up_e]
          exact g2 _ _ (by omega)
        · rw [up_i zqq]
          exact g1 j j0 (by omega)
      · rw [up_f (by omega)]
        exact g2 c r (by omega)
  refine n_at (m := 87) (q := mr87) (kn := (1, 1)) [some (vR _), none, none] mb87 rfl rfl rfl (Nat.le_of_ble_eq_true rfl) rfl rfl ?_
  refine x_aload rfl ?_
  refine h_alen nn hC (by first | decide | omega) rfl ?_
  refine x_ci ?_
  refine n_idiv ⟨by omega, by omega⟩ ⟨by omega, by omega⟩ ?_
  refine t_I (m : Int) (by omega) ?_
  refine n_istore [some (vR _), some (vI _), _] (Nat.le_of_ble_eq_true rfl) rfl ?_
  refine x_ci ?_
  refine n_istore [some (vR _), some (vI _), some (vI _)] (Nat.le_of_ble_eq_true rfl) rfl ?_
  refine x_fall ?_
  exact L1 m 0 s (by omega) (fun j j0 j1 => by omega) (fun c r y => rfl)
theorem r_begins (hd : 1 ≤ d) (k1 : Q none (HP h0 (strt 0 s))) : wpM PP d 96 [vR 94] (HP h0 s) Q := by
  refine n_at (m := 96) (q := mr96) (kn := (0, 1)) [some (vR _)] mb96 rfl rfl (h_rcv sc_94) (Nat.le_of_ble_eq_true rfl) rfl rfl ?_
  refine x_aload rfl ?_
  refine x_ci ?_
  refine n_call [vR _, vI _] [] (by omega) (Nat.le_of_ble_eq_true rfl) rfl rfl (Nat.le_of_ble_eq_true rfl) ?_
  refine r_starts (by omega) ?_
  show wp PP _ _ _ [some (vR _)] [] _ _
  refine x_ret ?_
  exact k1
end TXU
