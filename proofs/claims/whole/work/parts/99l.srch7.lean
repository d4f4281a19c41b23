/-! SEARCH, the reference: areHome of any dance danced aside -/
section PR1
variable {d : Nat} {h0 : pheap} {s : St} {Q : Option pv → pheap → Prop} {L f : Int} {n : Nat} {c : Int → Int}
theorem r_areHomeS (hf : 0 ≤ f ∧ f < 23) (hd : 1 ≤ d) (hL : 0 ≤ L ∧ L < 64) (hv : vC L c n) (r1 : s 111 f = L) (hs : SD L c n s) (k : Q (some (vI (bI (tpO (wO L c n) (cnt L).toNat (cnt L).toNat = 0)))) (HP h0 s)) : wpM PP d 108 [vR 94, vI f] (HP h0 s) Q := by
  have hct := cnt_R L
  have L1 : ∀ N : Nat, ∀ (i : Int), (1 ≤ i ∧ i ≤ 7) → (N = (cnt L).toNat - i.toNat) → (∀ q : Int, 1 ≤ q → q < i → wO L c n (q - 1) ≤ wO L c n q) →  wp PP d mb108 (mb108.getD 1 []) [some (vR 94), some (vI f), some (vI i)] [] (HP h0 s) Q := by
    refine s_ind (fun N ih => ?_)
    intro i hj hn2 g
    have g1 : i < cnt L → s 114 i = wO L c n i ∧ s 114 (i - 1) = wO L c n (i - 1) := fun zqq => ⟨hs.1 _ (by omega) zqq, hs.1 _ (by omega) (by omega)⟩
    have o1 : i < cnt L → _ := fun zqq => wO_R hL hv i (by omega) zqq
    have o2 : i < cnt L → _ := fun zqq => wO_R hL hv (i - 1) (by omega) (by omega)
    refine x_iload rfl ?_
    refine x_aload rfl ?_
    refine h_getR sc_94 rfl (by omega) ?_
    refine x_iload rfl ?_
    refine h_iald sc_111 ⟨by omega, by omega⟩ (by decide) ?_
    refine n_call [vI _] [vI _] (by omega) (Nat.le_of_ble_eq_true rfl) rfl rfl (Nat.le_of_ble_eq_true rfl) ?_
    rw [r1]
    refine r_bitsOf hL ?_
    show wp PP _ _ _ [some (vR _), some (vI _), some (vI _)] [vI _, vI _] _ _
    refine n_icmp_ge ⟨by omega, by omega⟩ ⟨by omega, by omega⟩ (fun c1 => ?_) (fun c1 => ?_)
    · refine x_ci ?_
      refine x_zret (by first | exact bI_01 _ | omega) ?_
      first
        | exact cB0 k (tp_not (k := i) (by omega) (by omega) (by omega))
        | exact cB1 k (tp_home (fun q q0 q1 => g q q0 (by omega)))
    · refine x_aload rfl ?_
      refine h_getR sc_94 rfl (by omega) ?_
      refine x_iload rfl ?_
      refine x_ci ?_
      refine x_isub ?_
      refine h_iald sc_114 ⟨by omega, by omega⟩ (by decide) ?_
      have o1 := o1 (by omega)
      have o2 := o2 (by omega)
      have g1 := g1 (by omega)
      rw [g1.2]
      refine x_aload rfl ?_
      refine h_getR sc_94 rfl (by omega) ?_
      refine x_iload rfl ?_
      refine h_iald sc_114 ⟨by omega, by omega⟩ (by decide) ?_
      rw [g1.1]
      refine n_icmp_le ⟨by omega, by omega⟩ ⟨by omega, by omega⟩ (fun c2 => ?_) (fun c2 => ?_)
      · refine n_iinc [some (vR _), some (vI _), some (vI _)] rfl rfl ?_
        refine x_goto ?_
        refine ih ((cnt L).toNat - (i + 1).toNat) (by omega) (i + 1) (by omega) (by omega) (fun q q0 q1 => ?_)
        by_cases e : q = i
        · subst e
          exact c2
        · exact g q q0 (by omega)
      · refine x_ci ?_
        refine x_zret (by first | exact bI_01 _ | omega) ?_
        first
          | exact cB0 k (tp_not (k := i) (by omega) (by omega) (by omega))
          | exact cB1 k (tp_home (fun q q0 q1 => g q q0 (by omega)))
  refine n_at (m := 108) (q := mr108) (kn := (0, 2)) [some (vR _), some (vI _), none] mb108 rfl rfl (h_rcv sc_94) (Nat.le_of_ble_eq_true rfl) rfl rfl ?_
  refine x_ci ?_
  refine n_istore [some (vR _), some (vI _), some (vI _)] (Nat.le_of_ble_eq_true rfl) rfl ?_
  refine x_fall ?_
  refine L1 ((cnt L).toNat - 1) 1 (by omega) (by omega) (fun q q0 q1 => by omega)
end PR1
