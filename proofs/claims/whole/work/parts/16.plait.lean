/-! THE PLAIT AT WORK -/
section PW
variable {d a : Nat} {h0 h : pheap} {s : St} {Q : Option pv → pheap → Prop}
def turned (a : Nat) (p m o1 o2 b1 : Int) (s s' : St) : Prop := (∀ b j, b ≠ a → b ≠ a + 2 → b ≠ a + 3 → s' b j = s b j) ∧ (s' a 3 = s a 3 ∧ s' a 4 = s a 4 ∧ s' a 5 = s a 5) ∧ s' a 6 = s a 6 - bI (b1 ≠ 0) + bI (b1 + m ≠ 0) ∧ (∀ q, s' (a + 2) q = if q = p then o2 else if q = p + 1 then o1 else s (a + 2) q) ∧ (∀ j, s' (a + 3) j = if j = 6 * o1 + o2 ∨ j = 6 * o2 + o1 then b1 + m else s (a + 3) j)
theorem m_turn (hP : isPl a) (hd : 1 ≤ d) {p m o1 o2 b1 : Int} (hp : 0 ≤ p ∧ p < 5) (hm : iR m) (e1 : s (a + 2) p = o1) (e2 : s (a + 2) (p + 1) = o2) (e3 : s (a + 3) (6 * o1 + o2) = b1) (h1 : 0 ≤ o1 ∧ o1 < 6) (h2 : 0 ≤ o2 ∧ o2 < 6) (h3 : -100 ≤ b1 ∧ b1 ≤ 100) (h4 : -10 ≤ m ∧ m ≤ 10) (k : ∀ t, turned a p m o1 o2 b1 s t → Q none (HP h0 t)) : wpM PP d 213 [vR a, vI p, vI m] (HP h0 s) Q := by
  have ha := hP.1.1
  refine n_at (m := 213) (q := mr213) (kn := (0, 3)) [some (vR _), some (vI _), some (vI _), none, none, none, none] mb213 rfl rfl (h_rcv hP.1) (Nat.le_of_ble_eq_true rfl) rfl rfl ?_
  refine x_iload rfl ?_
  refine n_if_lt ⟨by omega, by omega⟩ (fun c1 => ?_) (fun c1 => ?_)
  · refine x_ret ?_
    first
      | (exfalso; omega)
      | (refine k _ ⟨fun b j h1 h2 h3 => by simp [up, h1, h2, h3], by simp [up], ?_, fun q => ?_, fun j => ?_⟩
         · first
             | rw [bI_t (c := b1 ≠ 0) (by omega), bI_t (c := b1 + m ≠ 0) (by omega)]
             | rw [bI_t (c := b1 ≠ 0) (by omega), bI_f (c := b1 + m ≠ 0) (by omega)]
             | rw [bI_f (c := b1 ≠ 0) (by omega), bI_t (c := b1 + m ≠ 0) (by omega)]
             | rw [bI_f (c := b1 ≠ 0) (by omega), bI_f (c := b1 + m ≠ 0) (by omega)]
           simp [up]
         · simp only [up]
           simp
           repeat' split
           all_goals first | rfl | omega
         · simp only [up]
           simp
           repeat' split
           all_goals first | rfl | omega)
  · refine x_iload rfl ?_
    refine x_ci ?_
    refine x_iadd ?_
    refine x_aload rfl ?_
    refine h_getR hP.1 rfl (by omega) ?_
    refine h_alen 6 hP.2.2.1 (by decide) rfl ?_
    refine n_icmp_lt ⟨by omega, by omega⟩ ⟨by omega, by omega⟩ (fun c2 => ?_) (fun c2 => ?_)
    · refine x_aload rfl ?_
      refine h_getR hP.1 rfl (by omega) ?_
      refine x_iload rfl ?_
      refine h_iald hP.2.2.1 ⟨by omega, by omega⟩ (by decide) ?_
      refine t_I o1 e1 ?_
      refine n_istore [some (vR _), some (vI _), some (vI _), some (vI _), _, _, _] (Nat.le_of_ble_eq_true rfl) rfl ?_
      refine x_aload rfl ?_
      refine h_getR hP.1 rfl (by omega) ?_
      refine x_iload rfl ?_
      refine x_ci ?_
      refine x_iadd ?_
      refine h_iald hP.2.2.1 ⟨by omega, by omega⟩ (by decide) ?_
      refine t_I o2 e2 ?_
      refine n_istore [some (vR _), some (vI _), some (vI _), some (vI _), some (vI _), _, _] (Nat.le_of_ble_eq_true rfl) rfl ?_
      refine x_aload rfl ?_
      refine h_getR hP.1 rfl (by omega) ?_
      refine x_iload rfl ?_
      refine x_iload rfl ?_
      refine h_iast hP.2.2.1 ⟨by omega, by omega⟩ (by decide) ?_
      refine x_aload rfl ?_
      refine h_getR hP.1 rfl (by omega) ?_
      refine x_iload rfl ?_
      refine x_ci ?_
      refine x_iadd ?_
      refine x_iload rfl ?_
      refine h_iast hP.2.2.1 ⟨by omega, by omega⟩ (by decide) ?_
      refine x_iload rfl ?_
      refine x_ci ?_
      refine x_imul ?_
      refine x_iload rfl ?_
      refine x_iadd ?_
      refine t_I (6 * o1 + o2) (by omega) ?_
      refine n_istore [some (vR _), some (vI _), some (vI _), some (vI _), some (vI _), some (vI _), _] (Nat.le_of_ble_eq_true rfl) rfl ?_
      refine x_iload rfl ?_
      refine x_ci ?_
      refine x_imul ?_
      refine x_iload rfl ?_
      refine x_iadd ?_
      refine t_I (6 * o2 + o1) (by omega) ?_
      refine n_istore [some (vR _), some (vI _), some (vI _), some (vI _), some (vI _), some (vI _), some (vI _)] (Nat.le_of_ble_eq_true rfl) rfl ?_
      refine x_iload rfl ?_
      refine n_if_lt ⟨by omega, by omega⟩ (fun c3 => ?_) (fun c3 => ?_)
      · refine x_ret ?_
        first
          | (exfalso; omega)
          | (refine k _ ⟨fun b j h1 h2 h3 => by simp [up, h1, h2, h3], by simp [up], ?_, fun q => ?_, fun j => ?_⟩
             · first
                 | rw [bI_t (c := b1 ≠ 0) (by omega), bI_t (c := b1 + m ≠ 0) (by omega)]
                 | rw [bI_t (c := b1 ≠ 0) (by omega), bI_f (c := b1 + m ≠ 0) (by omega)]
                 | rw [bI_f (c := b1 ≠ 0) (by omega), bI_t (c := b1 + m ≠ 0) (by omega)]
                 | rw [bI_f (c := b1 ≠ 0) (by omega), bI_f (c := b1 + m ≠ 0) (by omega)]
               simp [up]
             · simp only [up]
               simp
               repeat' split
               all_goals first | rfl | omega
             · simp only [up]
               simp
               repeat' split
               all_goals first | rfl | omega)
      · refine x_iload rfl ?_
        refine x_aload rfl ?_
        refine h_getR hP.1 rfl (by omega) ?_
        refine h_alen 36 hP.2.2.2 (by decide) rfl ?_
        refine n_icmp_ge ⟨by omega, by omega⟩ ⟨by omega, by omega⟩ (fun c4 => ?_) (fun c4 => ?_)
        · refine x_ret ?_
          first
            | (exfalso; omega)
            | (refine k _ ⟨fun b j h1 h2 h3 => by simp [up, h1, h2, h3], by simp [up], ?_, fun q => ?_, fun j => ?_⟩
               · first
                   | rw [bI_t (c := b1 ≠ 0) (by omega), bI_t (c := b1 + m ≠ 0) (by omega)]
                   | rw [bI_t (c := b1 ≠ 0) (by omega), bI_f (c := b1 + m ≠ 0) (by omega)]
                   | rw [bI_f (c := b1 ≠ 0) (by omega), bI_t (c := b1 + m ≠ 0) (by omega)]
                   | rw [bI_f (c := b1 ≠ 0) (by omega), bI_f (c := b1 + m ≠ 0) (by omega)]
                 simp [up]
               · simp only [up]
                 simp
                 repeat' split
                 all_goals first | rfl | omega
               · simp only [up]
                 simp
                 repeat' split
                 all_goals first | rfl | omega)
        · refine x_iload rfl ?_
          refine n_if_lt ⟨by omega, by omega⟩ (fun c5 => ?_) (fun c5 => ?_)
          · refine x_ret ?_
            first
              | (exfalso; omega)
              | (refine k _ ⟨fun b j h1 h2 h3 => by simp [up, h1, h2, h3], by simp [up], ?_, fun q => ?_, fun j => ?_⟩
                 · first
                     | rw [bI_t (c := b1 ≠ 0) (by omega), bI_t (c := b1 + m ≠ 0) (by omega)]
                     | rw [bI_t (c := b1 ≠ 0) (by omega), bI_f (c := b1 + m ≠ 0) (by omega)]
                     | rw [bI_f (c := b1 ≠ 0) (by omega), bI_t (c := b1 + m ≠ 0) (by omega)]
                     | rw [bI_f (c := b1 ≠ 0) (by omega), bI_f (c := b1 + m ≠ 0) (by omega)]
                   simp [up]
                 · simp only [up]
                   simp
                   repeat' split
                   all_goals first | rfl | omega
                 · simp only [up]
                   simp
                   repeat' split
                   all_goals first | rfl | omega)
          · refine x_iload rfl ?_
            refine x_aload rfl ?_
            refine h_getR hP.1 rfl (by omega) ?_
            refine h_alen 36 hP.2.2.2 (by decide) rfl ?_
            refine n_icmp_lt ⟨by omega, by omega⟩ ⟨by omega, by omega⟩ (fun c6 => ?_) (fun c6 => ?_)
            · refine x_aload rfl ?_
              refine x_dupR ?_
              refine h_getI 6 hP.1 rfl rfl ?_
              refine x_aload rfl ?_
              refine h_getR hP.1 rfl (by omega) ?_
              refine x_iload rfl ?_
              refine h_iald hP.2.2.2 ⟨by omega, by omega⟩ (by decide) ?_
              refine t_I b1 (by simp [up, e3]) ?_
              refine n_if_eq ⟨by omega, by omega⟩ (fun c7 => ?_) (fun c7 => ?_)
              · refine x_ci ?_
                refine x_fall ?_
                refine n_call [vI _] [vI _, vR _] (by omega) (Nat.le_of_ble_eq_true rfl) rfl rfl (Nat.le_of_ble_eq_true rfl) ?_
                refine m_bit (by first | exact bI_01 _ | omega) ?_
                show wp PP _ _ _ [some (vR _), some (vI _), some (vI _), some (vI _), some (vI _), some (vI _), some (vI _)] [vI _, vI _, vR _] _ _
                refine x_isub ?_
                refine h_putI 6 hP.1 rfl rfl ?_
                refine x_aload rfl ?_
                refine h_getR hP.1 rfl (by omega) ?_
                refine x_iload rfl ?_
                refine x_dup2 ?_
                refine h_iald hP.2.2.2 ⟨by omega, by omega⟩ (by decide) ?_
                refine x_iload rfl ?_
                refine x_iadd ?_
                refine h_iast hP.2.2.2 ⟨by omega, by omega⟩ (by decide) ?_
                refine x_aload rfl ?_
                refine h_getR hP.1 rfl (by omega) ?_
                refine x_iload rfl ?_
                refine x_aload rfl ?_
                refine h_getR hP.1 rfl (by omega) ?_
                refine x_iload rfl ?_
                refine h_iald hP.2.2.2 ⟨by omega, by omega⟩ (by decide) ?_
                refine h_iast hP.2.2.2 ⟨by omega, by omega⟩ (by decide) ?_
                refine x_aload rfl ?_
                refine x_dupR ?_
                refine h_getI 6 hP.1 rfl rfl ?_
                refine x_aload rfl ?_
                refine h_getR hP.1 rfl (by omega) ?_
                refine x_iload rfl ?_
                refine h_iald hP.2.2.2 ⟨by omega, by omega⟩ (by decide) ?_
                refine t_I (b1 + m) (by simp [up, e3]) ?_
                refine n_if_eq ⟨by omega, by omega⟩ (fun c8 => ?_) (fun c8 => ?_)
                · refine x_ci ?_
                  refine x_fall ?_
                  refine n_call [vI _] [vI _, vR _] (by omega) (Nat.le_of_ble_eq_true rfl) rfl rfl (Nat.le_of_ble_eq_true rfl) ?_
                  refine m_bit (by first | exact bI_01 _ | omega) ?_
                  show wp PP _ _ _ [some (vR _), some (vI _), some (vI _), some (vI _), some (vI _), some (vI _), some (vI _)] [vI _, vI _, vR _] _ _
                  refine x_iadd ?_
                  refine h_putI 6 hP.1 rfl rfl ?_
                  refine x_ret ?_
                  first
                    | (exfalso; omega)
                    | (refine k _ ⟨fun b j h1 h2 h3 => by simp [up, h1, h2, h3], by simp [up], ?_, fun q => ?_, fun j => ?_⟩
                       · first
                           | rw [bI_t (c := b1 ≠ 0) (by omega), bI_t (c := b1 + m ≠ 0) (by omega)]
                           | rw [bI_t (c := b1 ≠ 0) (by omega), bI_f (c := b1 + m ≠ 0) (by omega)]
                           | rw [bI_f (c := b1 ≠ 0) (by omega), bI_t (c := b1 + m ≠ 0) (by omega)]
                           | rw [bI_f (c := b1 ≠ 0) (by omega), bI_f (c := b1 + m ≠ 0) (by omega)]
                         simp [up]
                       · simp only [up]
                         simp
                         repeat' split
                         all_goals first | rfl | omega
                       · simp only [up]
                         simp
                         repeat' split
                         all_goals first | rfl | omega)
                · refine x_ci ?_
                  refine x_goto ?_
                  refine n_call [vI _] [vI _, vR _] (by omega) (Nat.le_of_ble_eq_true rfl) rfl rfl (Nat.le_of_ble_eq_true rfl) ?_
                  refine m_bit (by first | exact bI_01 _ | omega) ?_
                  show wp PP _ _ _ [some (vR _), some (vI _), some (vI _), some (vI _), some (vI _), some (vI _), some (vI _)] [vI _, vI _, vR _] _ _
                  refine x_iadd ?_
                  refine h_putI 6 hP.1 rfl rfl ?_
                  refine x_ret ?_
                  first
                    | (exfalso; omega)
                    | (refine k _ ⟨fun b j h1 h2 h3 => by simp [up, h1, h2, h3], by simp [up], ?_, fun q => ?_, fun j => ?_⟩
                       · first
                           | rw [bI_t (c := b1 ≠ 0) (by omega), bI_t (c := b1 + m ≠ 0) (by omega)]
                           | rw [bI_t (c := b1 ≠ 0) (by omega), bI_f (c := b1 + m ≠ 0) (by omega)]
                           | rw [bI_f (c := b1 ≠ 0) (by omega), bI_t (c := b1 + m ≠ 0) (by omega)]
                           | rw [bI_f (c := b1 ≠ 0) (by omega), bI_f (c := b1 + m ≠ 0) (by omega)]
                         simp [up]
                       · simp only [up]
                         simp
                         repeat' split
                         all_goals first | rfl | omega
                       · simp only [up]
                         simp
                         repeat' split
                         all_goals first | rfl | omega)
              · refine x_ci ?_
                refine x_goto ?_
                refine n_call [vI _] [vI _, vR _] (by omega) (Nat.le_of_ble_eq_true rfl) rfl rfl (Nat.le_of_ble_eq_true rfl) ?_
                refine m_bit (by first | exact bI_01 _ | omega) ?_
                show wp PP _ _ _ [some (vR _), some (vI _), some (vI _), some (vI _), some (vI _), some (vI _), some (vI _)] [vI _, vI _, vR _] _ _
                refine x_isub ?_
                refine h_putI 6 hP.1 rfl rfl ?_
                refine x_aload rfl ?_
                refine h_getR hP.1 rfl (by omega) ?_
                refine x_iload rfl ?_
                refine x_dup2 ?_
                refine h_iald hP.2.2.2 ⟨by omega, by omega⟩ (by decide) ?_
                refine x_iload rfl ?_
                refine x_iadd ?_
                refine h_iast hP.2.2.2 ⟨by omega, by omega⟩ (by decide) ?_
                refine x_aload rfl ?_
                refine h_getR hP.1 rfl (by omega) ?_
                refine x_iload rfl ?_
                refine x_aload rfl ?_
                refine h_getR hP.1 rfl (by omega) ?_
                refine x_iload rfl ?_
                refine h_iald hP.2.2.2 ⟨by omega, by omega⟩ (by decide) ?_
                refine h_iast hP.2.2.2 ⟨by omega, by omega⟩ (by decide) ?_
                refine x_aload rfl ?_
                refine x_dupR ?_
                refine h_getI 6 hP.1 rfl rfl ?_
                refine x_aload rfl ?_
                refine h_getR hP.1 rfl (by omega) ?_
                refine x_iload rfl ?_
                refine h_iald hP.2.2.2 ⟨by omega, by omega⟩ (by decide) ?_
                refine t_I (b1 + m) (by simp [up, e3]) ?_
                refine n_if_eq ⟨by omega, by omega⟩ (fun c8 => ?_) (fun c8 => ?_)
                · refine x_ci ?_
                  refine x_fall ?_
                  refine n_call [vI _] [vI _, vR _] (by omega) (Nat.le_of_ble_eq_true rfl) rfl rfl (Nat.le_of_ble_eq_true rfl) ?_
                  refine m_bit (by first | exact bI_01 _ | omega) ?_
                  show wp PP _ _ _ [some (vR _), some (vI _), some (vI _), some (vI _), some (vI _), some (vI _), some (vI _)] [vI _, vI _, vR _] _ _
                  refine x_iadd ?_
                  refine h_putI 6 hP.1 rfl rfl ?_
                  refine x_ret ?_
                  first
                    | (exfalso; omega)
                    | (refine k _ ⟨fun b j h1 h2 h3 => by simp [up, h1, h2, h3], by simp [up], ?_, fun q => ?_, fun j => ?_⟩
                       · first
                           | rw [bI_t (c := b1 ≠ 0) (by omega), bI_t (c := b1 + m ≠ 0) (by omega)]
                           | rw [bI_t (c := b1 ≠ 0) (by omega), bI_f (c := b1 + m ≠ 0) (by omega)]
                           | rw [bI_f (c := b1 ≠ 0) (by omega), bI_t (c := b1 + m ≠ 0) (by omega)]
                           | rw [bI_f (c := b1 ≠ 0) (by omega), bI_f (c := b1 + m ≠ 0) (by omega)]
                         simp [up]
                       · simp only [up]
                         simp
                         repeat' split
                         all_goals first | rfl | omega
                       · simp only [up]
                         simp
                         repeat' split
                         all_goals first | rfl | omega)
                · refine x_ci ?_
                  refine x_goto ?_
                  refine n_call [vI _] [vI _, vR _] (by omega) (Nat.le_of_ble_eq_true rfl) rfl rfl (Nat.le_of_ble_eq_true rfl) ?_
                  refine m_bit (by first | exact bI_01 _ | omega) ?_
                  show wp PP _ _ _ [some (vR _), some (vI _), some (vI _), some (vI _), some (vI _), some (vI _), some (vI _)] [vI _, vI _, vR _] _ _
                  refine x_iadd ?_
                  refine h_putI 6 hP.1 rfl rfl ?_
                  refine x_ret ?_
                  first
                    | (exfalso; omega)
                    | (refine k _ ⟨fun b j h1 h2 h3 => by simp [up, h1, h2, h3], by simp [up], ?_, fun q => ?_, fun j => ?_⟩
                       · first
                           | rw [bI_t (c := b1 ≠ 0) (by omega), bI_t (c := b1 + m ≠ 0) (by omega)]
                           | rw [bI_t (c := b1 ≠ 0) (by omega), bI_f (c := b1 + m ≠ 0) (by omega)]
                           | rw [bI_f (c := b1 ≠ 0) (by omega), bI_t (c := b1 + m ≠ 0) (by omega)]
                           | rw [bI_f (c := b1 ≠ 0) (by omega), bI_f (c := b1 + m ≠ 0) (by omega)]
                         simp [up]
                       · simp only [up]
                         simp
                         repeat' split
                         all_goals first | rfl | omega
                       · simp only [up]
                         simp
                         repeat' split
                         all_goals first | rfl | omega)
            · refine x_fall ?_
              refine x_ret ?_
              first
                | (exfalso; omega)
                | (refine k _ ⟨fun b j h1 h2 h3 => by simp [up, h1, h2, h3], by simp [up], ?_, fun q => ?_, fun j => ?_⟩
                   · first
                       | rw [bI_t (c := b1 ≠ 0) (by omega), bI_t (c := b1 + m ≠ 0) (by omega)]
                       | rw [bI_t (c := b1 ≠ 0) (by omega), bI_f (c := b1 + m ≠ 0) (by omega)]
                       | rw [bI_f (c := b1 ≠ 0) (by omega), bI_t (c := b1 + m ≠ 0) (by omega)]
                       | rw [bI_f (c := b1 ≠ 0) (by omega), bI_f (c := b1 + m ≠ 0) (by omega)]
                     simp [up]
                   · simp only [up]
                     simp
                     repeat' split
                     all_goals first | rfl | omega
                   · simp only [up]
                     simp
                     repeat' split
                     all_goals first | rfl | omega)
    · refine x_fall ?_
      refine x_ret ?_
      first
        | (exfalso; omega)
        | (refine k _ ⟨fun b j h1 h2 h3 => by simp [up, h1, h2, h3], by simp [up], ?_, fun q => ?_, fun j => ?_⟩
           · first
               | rw [bI_t (c := b1 ≠ 0) (by omega), bI_t (c := b1 + m ≠ 0) (by omega)]
               | rw [bI_t (c := b1 ≠ 0) (by omega), bI_f (c := b1 + m ≠ 0) (by omega)]
               | rw [bI_f (c := b1 ≠ 0) (by omega), bI_t (c := b1 + m ≠ 0) (by omega)]
               | rw [bI_f (c := b1 ≠ 0) (by omega), bI_f (c := b1 + m ≠ 0) (by omega)]
             simp [up]
           · simp only [up]
             simp
             repeat' split
             all_goals first | rfl | omega
           · simp only [up]
             simp
             repeat' split
             all_goals first | rfl | omega)
/-- the plait at a: L is LEFT, n codes c, all that hangs on them -/
def PL (a : Nat) (L : Int) (n : Nat) (c : Int → Int) (s : St) : Prop := (0 ≤ L ∧ L < 64) ∧ n ≤ 52 ∧ vC L c n ∧ s a 3 = L ∧ s a 4 = cnt L ∧ s a 5 = n ∧ s a 6 = wC L c n ∧ (∀ i : Int, 0 ≤ i → i < n → s (a + 1) i = c i) ∧ (∀ p, 0 ≤ p → p < cnt L → s (a + 2) p = wO L c n p) ∧ (∀ j, 0 ≤ j → j < 36 → s (a + 3) j = wB L c n j)
def fr (a : Nat) (s t : St) : Prop := ∀ b : Nat, (b < a ∨ a + 3 < b) → ∀ j, t b j = s b j
theorem fr_rfl {a : Nat} {s : St} : fr a s s := fun _ _ _ => rfl
theorem fr_tr {a : Nat} {s t u : St} (h1 : fr a s t) (h2 : fr a t u) : fr a s u := fun b h j => (h2 b h j).trans (h1 b h j)
variable {L : Int} {n : Nat} {c c' : Int → Int}
theorem PL.hL (h : PL a L n c s) : 0 ≤ L ∧ L < 64 := h.1
theorem PL.hn (h : PL a L n c s) : n ≤ 52 := h.2.1
theorem PL.v (h : PL a L n c s) : vC L c n := h.2.2.1
theorem PL.left (h : PL a L n c s) : s a 3 = L := h.2.2.2.1
theorem PL.count (h : PL a L n c s) : s a 4 = cnt L := h.2.2.2.2.1
theorem PL.size (h : PL a L n c s) : s a 5 = n := h.2.2.2.2.2.1
theorem PL.bound (h : PL a L n c s) : s a 6 = wC L c n := h.2.2.2.2.2.2.1
theorem PL.code (h : PL a L n c s) {i : Int} (h0 : 0 ≤ i) (h1 : i < n) : s (a + 1) i = c i := h.2.2.2.2.2.2.2.1 i h0 h1
theorem PL.order (h : PL a L n c s) {p : Int} (h0 : 0 ≤ p) (h1 : p < cnt L) : s (a + 2) p = wO L c n p := h.2.2.2.2.2.2.2.2.1 p h0 h1
theorem PL.bond (h : PL a L n c s) {j : Int} (h0 : 0 ≤ j) (h1 : j < 36) : s (a + 3) j = wB L c n j := h.2.2.2.2.2.2.2.2.2 j h0 h1
theorem PL.cg (h : PL a L n c s) (e : ∀ i : Int, 0 ≤ i → i < n → c i = c' i) : PL a L n c' s := by
  obtain ⟨e1, e2, e3⟩ := w_cg (L := L) e
  exact ⟨h.hL, h.hn, vC_cg e h.v, h.left, h.count, h.size, e3 ▸ h.bound, fun i a b => (h.code a b).trans (e i a b), fun p a b => e1 ▸ h.order a b, fun j a b => e2 ▸ h.bond a b⟩
theorem PL.far {b : Nat} {t : St} (h : PL a L n c s) (f : fr b s t) (hb : b + 3 < a ∨ a + 3 < b) : PL a L n c t := by
  have f0 := f a (by omega)
  have f1 := f (a + 1) (by omega)
  have f2 := f (a + 2) (by omega)
  have f3 := f (a + 3) (by omega)
  exact ⟨h.hL, h.hn, h.v, (f0 3).trans h.left, (f0 4).trans h.count, (f0 5).trans h.size, (f0 6).trans h.bound, fun i p q => (f1 i).trans (h.code p q), fun i p q => (f2 i).trans (h.order p q), fun i p q => (f3 i).trans (h.bond p q)⟩
theorem PL.step {t : St} {x o1 o2 b1 : Int} (h : PL a L n c s) (hn : n < 52) (hx : c n = x) (hv : 0 ≤ x ∧ x < 2 * (cnt L - 1)) (e1 : o1 = wO L c n (x / 2)) (e2 : o2 = wO L c n (x / 2 + 1)) (e3 : b1 = wB L c n (6 * o1 + o2))
    (ht : turned a (x / 2) (sgn x) o1 o2 b1 (up (up s (a + 1) n x) a 5 (n + 1)) t) : PL a L (n + 1) c t ∧ fr a s t ∧ (∀ i : Int, i ≠ n → t (a + 1) i = s (a + 1) i) := by
  obtain ⟨t1, ⟨t2, t3, t4⟩, t5, t6, t7⟩ := ht
  have hL := h.hL
  have hc := cnt_R L
  have vv : vC L c (n + 1) := fun i h1 h2 => by
    by_cases q : i = n
    · rw [q, hx]
      exact hv
    · exact h.v i h1 (by omega)
  have r1 := wO_R hL h.v (x / 2) (by omega) (by omega)
  have r2 := wO_R hL h.v (x / 2 + 1) (by omega) (by omega)
  rw [← e1] at r1
  rw [← e2] at r2
  have sy := wB_sym hL h.v o1 o2 ⟨r1.1, r1.2.1⟩ ⟨r2.1, r2.2.1⟩
  refine ⟨⟨hL, by omega, vv, ?_, ?_, ?_, ?_, ?_, ?_, ?_⟩, ?_, ?_⟩
  · rw [t2]
    simp [up, h.left]
  · rw [t3]
    simp [up, h.count]
  · rw [t4]
    simp [up]
  · rw [t5]
    simp only [wC, hx, ← e1, ← e2, ← e3]
    simp [up, h.bound]
  · intro i h1 h2
    rw [t1 (a + 1) i (by omega) (by omega) (by omega)]
    by_cases q : i = n
    · simp [up, q, hx]
    · simp [up, q]
      exact h.code h1 (by omega)
  · intro p h1 h2
    rw [t6]
    simp only [wO, hx, ← e1, ← e2]
    split
    · rfl
    · split
      · rfl
      · simp [up]
        exact h.order h1 h2
  · intro j h1 h2
    rw [t7]
    simp only [wB, hx, ← e1, ← e2]
    split
    · rename_i q
      rcases q with q | q
      · rw [q, ← e3]
      · rw [q, ← sy, ← e3]
    · simp [up]
      exact h.bond h1 h2
  · intro b hb j
    rw [t1 b j (by omega) (by omega) (by omega)]
    rw [up_a (by omega), up_a (by omega)]
  · intro i hi
    rw [t1 (a + 1) i (by omega) (by omega) (by omega), up_a (by omega), up_i hi]
theorem m_add (hP : isPl a) (hd : 11 ≤ d) (hp : PL a L n c s) (hn : n < 52) {x : Int} (hx : c n = x) (hv : 0 ≤ x ∧ x < 2 * (cnt L - 1)) (k : ∀ t, PL a L (n + 1) c t → fr a s t → (∀ i : Int, i ≠ n → t (a + 1) i = s (a + 1) i) → Q none (HP h0 t)) : wpM PP d 211 [vR a, vI x] (HP h0 s) Q := by
  have ha := hP.1.1
  have hc := cnt_R L
  have q3 := hp.left
  have q4 := hp.count
  have q5 := hp.size
  have hL := hp.hL
  have r1 := wO_R hL hp.v (x / 2) (by omega) (by omega)
  have r2 := wO_R hL hp.v (x / 2 + 1) (by omega) (by omega)
  have sb := wB_R (L := L) (c := c) n (6 * wO L c n (x / 2) + wO L c n (x / 2 + 1))
  refine n_at (m := 211) (q := mr211) (kn := (0, 2)) [some (vR _), some (vI _)] mb211 rfl rfl (h_rcv hP.1) (Nat.le_of_ble_eq_true rfl) rfl rfl ?_
  refine x_aload rfl ?_
  refine x_iload rfl ?_
  refine n_call [vR _, vI _] [] (by omega) (Nat.le_of_ble_eq_true rfl) rfl rfl (Nat.le_of_ble_eq_true rfl) ?_
  refine m_hasCode hP (by omega) (by first | assumption | omega | (simp [up]; omega)) ⟨by omega, by omega⟩ ?_
  show wp PP _ _ _ [some (vR _), some (vI _)] [vI _] _ _
  refine z_if_eq (fun c1 => ?_) (fun c1 => ?_)
  · refine x_ret ?_
    first
      | (exfalso; omega)
      | (obtain ⟨w1, w2, w3⟩ := hp.step hn hx hv rfl rfl rfl (by rw [hs]; exact ht)
         exact k t w1 w2 w3)
  · refine x_aload rfl ?_
    refine h_getI 5 hP.1 rfl rfl ?_
    refine n_if_lt ⟨by omega, by omega⟩ (fun c2 => ?_) (fun c2 => ?_)
    · refine x_ret ?_
      first
        | (exfalso; omega)
        | (obtain ⟨w1, w2, w3⟩ := hp.step hn hx hv rfl rfl rfl (by rw [hs]; exact ht)
           exact k t w1 w2 w3)
    · refine x_aload rfl ?_
      refine h_getI 5 hP.1 rfl rfl ?_
      refine x_aload rfl ?_
      refine h_getR hP.1 rfl (by omega) ?_
      refine h_alen 52 hP.2.1 (by decide) rfl ?_
      refine n_icmp_ge ⟨by omega, by omega⟩ ⟨by omega, by omega⟩ (fun c3 => ?_) (fun c3 => ?_)
      · refine x_ret ?_
        first
          | (exfalso; omega)
          | (obtain ⟨w1, w2, w3⟩ := hp.step hn hx hv rfl rfl rfl (by rw [hs]; exact ht)
             exact k t w1 w2 w3)
      · refine x_aload rfl ?_
        refine h_getR hP.1 rfl (by omega) ?_
        refine x_aload rfl ?_
        refine h_getI 5 hP.1 rfl rfl ?_
        refine x_iload rfl ?_
        refine h_iast hP.2.1 ⟨by omega, by omega⟩ (by decide) ?_
        refine x_aload rfl ?_
        refine x_dupR ?_
        refine h_getI 5 hP.1 rfl rfl ?_
        refine x_ci ?_
        refine x_iadd ?_
        refine h_putI 5 hP.1 rfl rfl ?_
        refine x_aload rfl ?_
        refine x_iload rfl ?_
        refine n_call [vI _] [vR _] (by omega) (Nat.le_of_ble_eq_true rfl) rfl rfl (Nat.le_of_ble_eq_true rfl) ?_
        refine m_placeOfCode ⟨by omega, by omega⟩ ?_
        show wp PP _ _ _ [some (vR _), some (vI _)] [vI _, vR _] _ _
        refine x_iload rfl ?_
        refine n_call [vI _] [vI _, vR _] (by omega) (Nat.le_of_ble_eq_true rfl) rfl rfl (Nat.le_of_ble_eq_true rfl) ?_
        refine m_isOver ⟨by omega, by omega⟩ ?_
        show wp PP _ _ _ [some (vR _), some (vI _)] [vI _, vI _, vR _] _ _
        refine z_if_eq (fun c4 => ?_) (fun c4 => ?_)
        · refine x_ci ?_
          refine x_fall ?_
          refine n_call [vR _, vI _, vI _] [] (by omega) (Nat.le_of_ble_eq_true rfl) rfl rfl (Nat.le_of_ble_eq_true rfl) ?_
          refine m_turn hP (by omega) (p := x / 2) (m := (-1)) (o1 := wO L c n (x / 2)) (o2 := wO L c n (x / 2 + 1)) (b1 := wB L c n (6 * wO L c n (x / 2) + wO L c n (x / 2 + 1))) (by omega) (by decide) ?_ ?_ ?_ ⟨r1.1, r1.2.1⟩ ⟨r2.1, r2.2.1⟩ (by omega) (by decide) ?_
          · rw [up_a (by omega), up_a (by omega), hp.order (by omega) (by omega)]
          · rw [up_a (by omega), up_a (by omega), hp.order (by omega) (by omega)]
          · rw [up_a (by omega), up_a (by omega), hp.bond (by omega) (by omega)]
          intro t ht
          have hs : sgn x = -1 := by
            unfold sgn
            exact if_neg (by assumption)
          rw [up_a (b := a) (a := a + 1) (by omega), q5] at ht
          show wp PP _ _ _ [some (vR _), some (vI _)] [] _ _
          refine x_fall ?_
          refine x_ret ?_
          first
            | (exfalso; omega)
            | (obtain ⟨w1, w2, w3⟩ := hp.step hn hx hv rfl rfl rfl (by rw [hs]; exact ht)
               exact k t w1 w2 w3)
        · refine x_ci ?_
          refine x_goto ?_
          refine n_call [vR _, vI _, vI _] [] (by omega) (Nat.le_of_ble_eq_true rfl) rfl rfl (Nat.le_of_ble_eq_true rfl) ?_
          refine m_turn hP (by omega) (p := x / 2) (m := (1)) (o1 := wO L c n (x / 2)) (o2 := wO L c n (x / 2 + 1)) (b1 := wB L c n (6 * wO L c n (x / 2) + wO L c n (x / 2 + 1))) (by omega) (by decide) ?_ ?_ ?_ ⟨r1.1, r1.2.1⟩ ⟨r2.1, r2.2.1⟩ (by omega) (by decide) ?_
          · rw [up_a (by omega), up_a (by omega), hp.order (by omega) (by omega)]
          · rw [up_a (by omega), up_a (by omega), hp.order (by omega) (by omega)]
          · rw [up_a (by omega), up_a (by omega), hp.bond (by omega) (by omega)]
          intro t ht
          have hs : sgn x = 1 := by
            unfold sgn
            exact if_pos (by assumption)
          rw [up_a (b := a) (a := a + 1) (by omega), q5] at ht
          show wp PP _ _ _ [some (vR _), some (vI _)] [] _ _
          refine x_fall ?_
          refine x_ret ?_
          first
            | (exfalso; omega)
            | (obtain ⟨w1, w2, w3⟩ := hp.step hn hx hv rfl rfl rfl (by rw [hs]; exact ht)
               exact k t w1 w2 w3)
theorem m_begin (hP : isPl a) (hd : 1 ≤ d) {w : Int} (hw : 0 ≤ w ∧ w < 64) (k : ∀ t, PL a w 0 c t → (∀ i, t (a + 1) i = s (a + 1) i) → fr a s t → Q none (HP h0 t)) : wpM PP d 199 [vR a, vI w] (HP h0 s) Q := by
  have ha := hP.1.1
  have L2 : ∀ N : Nat, ∀ (i : Int) (t : St), (N = 36 - i.toNat) → (0 ≤ i ∧ i ≤ 36) → (t a 3 = w ∧ t a 4 = cnt w ∧ t a 5 = 0 ∧ t a 6 = 0 ∧ (∀ p, 0 ≤ p → p < cnt w → t (a + 2) p = ordN w 6 p) ∧ (∀ q, 0 ≤ q → q < i → t (a + 3) q = 0) ∧ (∀ b i, b ≠ a → b ≠ a + 2 → b ≠ a + 3 → t b i = s b i)) →  wp PP d mb199 (mb199.getD 4 []) [some (vR a), some (vI w), some (vI i)] [] (HP h0 t) Q := by
    refine s_ind (fun N ih => ?_)
    intro i t hn hr hi
    obtain ⟨w3, w4, w5, w6, w7, w8, w9⟩ := hi
    refine x_iload rfl ?_
    refine x_aload rfl ?_
    refine h_getR hP.1 rfl (by omega) ?_
    refine h_alen 36 hP.2.2.2 (by decide) rfl ?_
    refine n_icmp_ge ⟨by omega, by omega⟩ ⟨by omega, by omega⟩ (fun c1 => ?_) (fun c1 => ?_)
    · refine x_ret ?_
      refine k t ⟨hw, by omega, fun i p q => by omega, w3, w4, w5, w6, fun i p q => by omega, w7, fun j p q => w8 j p (by omega)⟩ (fun i => w9 (a + 1) i (by omega) (by omega) (by omega)) (fun b hb j => w9 b j (by omega) (by omega) (by omega))
    · refine x_aload rfl ?_
      refine h_getR hP.1 rfl (by omega) ?_
      refine x_iload rfl ?_
      refine x_ci ?_
      refine h_iast hP.2.2.2 ⟨by omega, by omega⟩ (by decide) ?_
      refine n_iinc [some (vR _), some (vI _), some (vI _)] rfl rfl ?_
      refine x_goto ?_
      refine ih (36 - (i + 1).toNat) (by omega) (i + 1) _ rfl (by omega) ⟨?_, ?_, ?_, ?_, ?_, ?_, ?_⟩
      · simp [up, w3]
      · simp [up, w4]
      · simp [up, w5]
      · simp [up, w6]
      · intro p p1 p2
        simp [up]
        exact w7 p p1 p2
      · intro q q1 q2
        rw [up_at]
        split
        · rfl
        · exact w8 q q1 (by omega)
      · intro b i h1 h2 h3
        simp [up, h3]
        exact w9 b i h1 h2 h3
  have L1 : ∀ N : Nat, ∀ (j : Nat) (i : Int) (t : St), (i = j) → (N = 6 - j ∧ j ≤ 6) → (t a 3 = w ∧ t a 4 = cntN w j ∧ t a 5 = 0 ∧ t a 6 = 0 ∧ (∀ p, 0 ≤ p → p < cntN w j → t (a + 2) p = ordN w j p) ∧ (∀ b i, b ≠ a → b ≠ a + 2 → t b i = s b i)) →  wp PP d mb199 (mb199.getD 1 []) [some (vR a), some (vI w), some (vI i)] [] (HP h0 t) Q := by
    refine s_ind (fun N ih => ?_)
    intro j i t hj hn hi
    obtain ⟨w3, w4, w5, w6, w7, w8⟩ := hi
    have b1 := bt_R w j
    have b2 := cntN_R w j
    have b3 := cntN_R w (j + 1)
    have e3 : (j : Int) = i := hj.symm
    refine x_iload rfl ?_
    refine x_ci ?_
    refine n_icmp_ge ⟨by omega, by omega⟩ ⟨by omega, by omega⟩ (fun c1 => ?_) (fun c1 => ?_)
    · refine x_ci ?_
      refine n_istore [some (vR _), some (vI _), some (vI _)] (Nat.le_of_ble_eq_true rfl) rfl ?_
      refine x_fall ?_
      have hj6 : j = 6 := by omega
      subst hj6
      refine L2 36 0 _ rfl (by omega) ⟨w3, w4, w5, w6, w7, fun q q1 q2 => by omega, fun b i h1 h2 h3 => w8 b i h1 h2⟩
    · refine x_aload rfl ?_
      refine x_iload rfl ?_
      refine n_call [vR _, vI _] [] (by omega) (Nat.le_of_ble_eq_true rfl) rfl rfl (Nat.le_of_ble_eq_true rfl) ?_
      refine m_isLeft hP (by first | assumption | omega | (simp [up]; omega)) ⟨by omega, by omega⟩ ?_
      show wp PP _ _ _ [some (vR _), some (vI _), some (vI _)] [vI _] _ _
      refine z_if_eq (fun c2 => ?_) (fun c2 => ?_)
      · refine n_iinc [some (vR _), some (vI _), some (vI _)] rfl rfl ?_
        refine x_goto ?_
        have hb : bt w j = 0 := by
          rw [w3, hj] at c2
          omega
        refine ih (6 - (j + 1)) (by omega) (j + 1) _ _ (by omega) (by omega) ⟨?_, ?_, ?_, ?_, ?_, ?_⟩
        · exact w3
        · simp only [cntN]
          omega
        · exact w5
        · exact w6
        · intro p p1 p2
          simp only [cntN] at p2
          simp only [ordN]
          rw [if_neg (by omega)]
          exact w7 p p1 (by omega)
        · exact w8
      · refine x_aload rfl ?_
        refine h_getI 4 hP.1 rfl rfl ?_
        refine x_aload rfl ?_
        refine h_getR hP.1 rfl (by omega) ?_
        refine h_alen 6 hP.2.2.1 (by decide) rfl ?_
        refine n_icmp_ge ⟨by omega, by omega⟩ ⟨by omega, by omega⟩ (fun c3 => ?_) (fun c3 => ?_)
        · refine n_iinc [some (vR _), some (vI _), some (vI _)] rfl rfl ?_
          refine x_goto ?_
          exfalso
          omega
        · refine x_aload rfl ?_
          refine h_getR hP.1 rfl (by omega) ?_
          refine x_aload rfl ?_
          refine h_getI 4 hP.1 rfl rfl ?_
          refine x_iload rfl ?_
          refine h_iast hP.2.2.1 ⟨by omega, by omega⟩ (by decide) ?_
          refine x_aload rfl ?_
          refine x_dupR ?_
          refine h_getI 4 hP.1 rfl rfl ?_
          refine x_ci ?_
          refine x_iadd ?_
          refine h_putI 4 hP.1 rfl rfl ?_
          refine x_fall ?_
          refine n_iinc [some (vR _), some (vI _), some (vI _)] rfl rfl ?_
          refine x_goto ?_
          have hb : bt w j = 1 := by
            rw [w3, hj] at c2
            exact c2.2.2
          refine ih (6 - (j + 1)) (by omega) (j + 1) _ _ (by omega) (by omega) ⟨?_, ?_, ?_, ?_, ?_, ?_⟩
          · simp [up, w3]
          · simp [up, w4, cntN, hb]
          · simp [up, w5]
          · simp [up, w6]
          · intro p p1 p2
            simp only [cntN] at p2
            simp only [ordN]
            rw [up_a (by omega), up_at, w4]
            by_cases q : p = cntN w j
            · rw [if_pos q, if_pos ⟨hb, q⟩, hj]
            · rw [if_neg q, if_neg (fun z => q z.2)]
              exact w7 p p1 (by omega)
          · intro b i h1 h2
            simp [up, h1, h2, w8 b i h1 h2]
  refine n_at (m := 199) (q := mr199) (kn := (0, 2)) [some (vR _), some (vI _), none] mb199 rfl rfl (h_rcv hP.1) (Nat.le_of_ble_eq_true rfl) rfl rfl ?_
  refine x_aload rfl ?_
  refine x_iload rfl ?_
  refine h_putI 3 hP.1 rfl rfl ?_
  refine x_aload rfl ?_
  refine x_ci ?_
  refine h_putI 4 hP.1 rfl rfl ?_
  refine x_aload rfl ?_
  refine x_ci ?_
  refine h_putI 5 hP.1 rfl rfl ?_
  refine x_aload rfl ?_
  refine x_ci ?_
  refine h_putI 6 hP.1 rfl rfl ?_
  refine x_ci ?_
  refine n_istore [some (vR _), some (vI _), some (vI _)] (Nat.le_of_ble_eq_true rfl) rfl ?_
  refine x_fall ?_
  refine L1 6 0 0 _ rfl (by omega) ⟨?_, ?_, ?_, ?_, ?_, ?_⟩
  · simp [up]
  · simp [up, cntN]
  · simp [up]
  · simp [up]
  · intro p p1 p2
    simp only [cntN] at p2
    omega
  · intro b i h1 h2
    simp [up, h1]
theorem m_takeFrom {b : Nat} (hP : isPl a) (hB : isPl b) (hab : b + 3 < a ∨ a + 3 < b) (hd : 12 ≤ d) (hp : PL b L n c s) (k : ∀ t, PL a L n c t → fr a s t → Q none (HP h0 t)) : wpM PP d 200 [vR a, vR b] (HP h0 s) Q := by
  have ha := hP.1.1
  have hb := hB.1.1
  have L1 : ∀ N : Nat, ∀ (j : Nat) (i : Int) (t : St), (i = j) → (N = n - j ∧ j ≤ n) → (PL a L j c t) → (fr a s t) →  wp PP d mb200 (mb200.getD 1 []) [some (vR a), some (vR b), some (vI i)] [] (HP h0 t) Q := by
    refine s_ind (fun N ih => ?_)
    intro j i t hj hn g1 g3
    have g4 : PL b L n c t := hp.far g3 (by omega)
    have g5 := g4.size
    have g6 := g4.hn
    have g7 := g1.v
    have g8 : j < n → t (b + 1) i = c i := fun q => g4.code (by omega) (by omega)
    have g9 : j < n → 0 ≤ c i ∧ c i < 2 * (cnt L - 1) := fun q => g4.v i (by omega) (by omega)
    have g10 : c j = c i := by rw [hj]
    refine x_iload rfl ?_
    refine x_aload rfl ?_
    refine h_getI 5 hB.1 rfl rfl ?_
    refine n_icmp_ge ⟨by omega, by omega⟩ ⟨by omega, by omega⟩ (fun c1 => ?_) (fun c1 => ?_)
    · refine x_ret ?_
      have e : j = n := by omega
      subst e
      exact k t g1 g3
    · refine x_aload rfl ?_
      refine x_aload rfl ?_
      refine x_iload rfl ?_
      refine n_call [vR _, vI _] [vR _] (by omega) (Nat.le_of_ble_eq_true rfl) rfl rfl (Nat.le_of_ble_eq_true rfl) ?_
      refine m_codeAt hB ⟨by omega, by omega⟩ ?_
      show wp PP _ _ _ [some (vR _), some (vR _), some (vI _)] [vI _, vR _] _ _
      refine n_call [vR _, vI _] [] (by omega) (Nat.le_of_ble_eq_true rfl) rfl rfl (Nat.le_of_ble_eq_true rfl) ?_
      refine m_add (c := c) (n := j) hP (by omega) g1 (by omega) (by omega) (by omega) (fun u u1 u2 u3 => ?_)
      show wp PP _ _ _ [some (vR _), some (vR _), some (vI _)] [] _ _
      refine n_iinc [some (vR _), some (vR _), some (vI _)] rfl rfl ?_
      refine x_goto ?_
      refine ih (n - (j + 1)) (by omega) (j + 1) _ _ (by omega) (by omega) u1 (fr_tr g3 u2)
  refine n_at (m := 200) (q := mr200) (kn := (0, 2)) [some (vR _), some (vR _), none] mb200 rfl rfl (h_rcv hP.1) (Nat.le_of_ble_eq_true rfl) rfl rfl ?_
  refine x_aload rfl ?_
  refine x_aload rfl ?_
  refine h_getI 3 hB.1 rfl rfl ?_
  refine n_call [vR _, vI _] [] (by omega) (Nat.le_of_ble_eq_true rfl) rfl rfl (Nat.le_of_ble_eq_true rfl) ?_
  refine m_begin (c := c) hP (by omega) ?_ (fun t g1 g2 g3 => ?_)
  · have := hp.left
    have := hp.hL
    omega
  show wp PP _ _ _ [some (vR _), some (vR _), _] [] _ _
  refine x_ci ?_
  refine n_istore [some (vR _), some (vR _), some (vI _)] (Nat.le_of_ble_eq_true rfl) rfl ?_
  refine x_fall ?_
  rw [hp.left] at g1
  refine L1 n 0 0 t rfl (by omega) g1 g3
theorem m_walk (hP : isPl a) (hd : 12 ≤ d) (h3 : s a 3 = L) (hL : 0 ≤ L ∧ L < 64) (h5 : s a 5 = n) (hn5 : n ≤ 52) (hv : vC L c n) (hc : ∀ q : Int, 0 ≤ q → q < n → s (a + 1) q = c q) (k : ∀ t, PL a L n c t → fr a s t → Q none (HP h0 t)) : wpM PP d 201 [vR a] (HP h0 s) Q := by
  have ha := hP.1.1
  have L1 : ∀ N : Nat, ∀ (j : Nat) (i : Int) (t : St), (i = j) → (N = n - j ∧ j ≤ n) → (PL a L j c t) → (fr a s t) → (∀ q : Int, j ≤ q → q < n → t (a + 1) q = c q) →  wp PP d mb201 (mb201.getD 1 []) [some (vR a), some (vI n), some (vI i)] [] (HP h0 t) Q := by
    refine s_ind (fun N ih => ?_)
    intro j i t hj hn g1 g3 g4
    have g8 : j < n → t (a + 1) i = c i := fun q => g4 i (by omega) (by omega)
    have g9 : j < n → 0 ≤ c i ∧ c i < 2 * (cnt L - 1) := fun q => hv i (by omega) (by omega)
    have g10 : c j = c i := by rw [hj]
    refine x_iload rfl ?_
    refine x_iload rfl ?_
    refine n_icmp_ge ⟨by omega, by omega⟩ ⟨by omega, by omega⟩ (fun c1 => ?_) (fun c1 => ?_)
    · refine x_ret ?_
      have e : j = n := by omega
      subst e
      exact k t g1 g3
    · refine x_aload rfl ?_
      refine x_aload rfl ?_
      refine x_iload rfl ?_
      refine n_call [vR _, vI _] [vR _] (by omega) (Nat.le_of_ble_eq_true rfl) rfl rfl (Nat.le_of_ble_eq_true rfl) ?_
      refine m_codeAt hP ⟨by omega, by omega⟩ ?_
      show wp PP _ _ _ [some (vR _), some (vI _), some (vI _)] [vI _, vR _] _ _
      refine n_call [vR _, vI _] [] (by omega) (Nat.le_of_ble_eq_true rfl) rfl rfl (Nat.le_of_ble_eq_true rfl) ?_
      refine m_add (c := c) (n := j) hP (by omega) g1 (by omega) (by omega) (by omega) (fun u u1 u2 u3 => ?_)
      show wp PP _ _ _ [some (vR _), some (vI _), some (vI _)] [] _ _
      refine n_iinc [some (vR _), some (vI _), some (vI _)] rfl rfl ?_
      refine x_goto ?_
      refine ih (n - (j + 1)) (by omega) (j + 1) _ _ (by omega) (by omega) u1 (fr_tr g3 u2) (fun q q1 q2 => ?_)
      rw [u3 q (by omega)]
      exact g4 q (by omega) q2
  refine n_at (m := 201) (q := mr201) (kn := (0, 1)) [some (vR _), none, none] mb201 rfl rfl (h_rcv hP.1) (Nat.le_of_ble_eq_true rfl) rfl rfl ?_
  refine x_aload rfl ?_
  refine h_getI 5 hP.1 rfl rfl ?_
  refine t_I (n : Int) h5 ?_
  refine n_istore [some (vR _), some (vI _), _] (Nat.le_of_ble_eq_true rfl) rfl ?_
  refine x_aload rfl ?_
  refine x_aload rfl ?_
  refine h_getI 3 hP.1 rfl rfl ?_
  refine n_call [vR _, vI _] [] (by omega) (Nat.le_of_ble_eq_true rfl) rfl rfl (Nat.le_of_ble_eq_true rfl) ?_
  refine m_begin (c := c) hP (by omega) (by omega) (fun t g1 g2 g3 => ?_)
  show wp PP _ _ _ [some (vR _), some (vI _), _] [] _ _
  refine x_ci ?_
  refine n_istore [some (vR _), some (vI _), some (vI _)] (Nat.le_of_ble_eq_true rfl) rfl ?_
  refine x_fall ?_
  rw [h3] at g1
  refine L1 n 0 0 t rfl (by omega) g1 g3 (fun q q1 q2 => ?_)
  rw [g2 q]
  exact hc q (by omega) q2
end PW
