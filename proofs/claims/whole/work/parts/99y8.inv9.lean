/-! THE DANCER of the class, when it doesn't throw -/
section INV9
variable {d tp : Nat} {h0 : pheap} {s tqq uqq : St} {Q : Option pv → pheap → Prop} {L : Int} {n : Nat} {c : Int → Int}
/-- class.dancer's blocks, but for what throws (where it throws no more is told) -/
def cdB : List (List PI) := [[(5, [0], 0), (3, [1], 0), (120, [44, 2], 0), (101, [1, 1], 0)], [(3, [2], 0), (105, [10, 2, 3, 6, 7, 8, 9], 0)], [(5, [0], 0), (60, [6, 10], 0), (60, [0, 1], 0), (3, [1], 0), (120, [202, 2], 0), (120, [46, 1], 0), (111, [0], 0)], [(5, [0], 0), (60, [6, 10], 0), (60, [0, 1], 0), (3, [1], 0), (120, [202, 2], 0), (101, [0, 4], 0), (5, [0], 0), (60, [6, 10], 0), (60, [0, 1], 0), (3, [1], 0), (120, [209, 2], 0), (100, [5], 0)], [(0, [], -2), (107, [5], 0)], [(111, [0], 0)], [(5, [0], 0), (60, [6, 10], 0), (60, [0, 1], 0), (3, [1], 0), (0, [], 1), (120, [220, 3], 0), (111, [0], 0)], [(5, [0], 0), (60, [6, 10], 0), (60, [0, 1], 0), (3, [1], 0), (0, [], 0), (120, [220, 3], 0), (111, [0], 0)], [(5, [0], 0), (60, [6, 10], 0), (60, [0, 1], 0), (3, [1], 0), (0, [], -1), (120, [226, 3], 0), (120, [46, 1], 0), (111, [0], 0)], [(5, [0], 0), (60, [6, 10], 0), (60, [0, 1], 0), (3, [1], 0), (120, [225, 2], 0), (111, [0], 0)], []]
theorem w_dancer (hd : 10 ≤ d) (hp : PL 54 L n c s) (hS : isSc tp) (hT : s 32 2 = (tp : Int) + 1) {D x wqq : Int} (h1 : s tp 1 = D) (hD6 : 0 ≤ D ∧ D ≤ 6) (hx : 0 ≤ x ∧ x < D) (hw : 0 ≤ wqq ∧ wqq ≤ 5) (k : Q (some (vI (dnA L n c x wqq))) (HP h0 s)) : wp PP d cdB (cdB.getD 0 []) [some (vR 32), some (vI x), some (vI wqq)] [] (HP h0 s) Q := by
  have hL := hp.1
  have b01 := bt_R L x
  refine x_aload rfl ?_
  refine x_iload rfl ?_
  refine n_call [vR _, vI _] [] (by omega) (Nat.le_of_ble_eq_true rfl) rfl rfl (Nat.le_of_ble_eq_true rfl) ?_
  refine m_isDancer hS hT h1 hD6 (by omega) ?_
  show wp PP _ _ _ [some (vR _), some (vI _), some (vI _)] [vI _] _ _
  refine z_if_ne (fun c1 => ?_) (fun c1 => ?_)
  · refine x_iload rfl ?_
    refine n_tsw 6 rfl ⟨by omega, by omega⟩ (fun c2 => ?_) (And.intro (fun c2 => ?_) (And.intro (fun c2 => ?_) (And.intro (fun c2 => ?_) (And.intro (fun c2 => ?_) (And.intro (fun c2 => ?_) (And.intro (fun c2 => ?_) trivial))))))
    · exfalso
      omega
    · refine x_aload rfl ?_
      refine h_getR sc_32 rfl (by omega) ?_
      refine h_getR sc_53 rfl (by omega) ?_
      refine x_iload rfl ?_
      refine n_call [vR _, vI _] [] (by omega) (Nat.le_of_ble_eq_true rfl) rfl rfl (Nat.le_of_ble_eq_true rfl) ?_
      refine m_isLeft pl_54 (by rw [hp.2.2.2.1]; exact hL) (by omega) ?_
      rw [hp.2.2.2.1]
      show wp PP _ _ _ [some (vR _), some (vI _), some (vI _)] [vI _] _ _
      refine n_call [vI _] [] (by omega) (Nat.le_of_ble_eq_true rfl) rfl rfl (Nat.le_of_ble_eq_true rfl) ?_
      refine m_bit (bI_01 _) ?_
      show wp PP _ _ _ [some (vR _), some (vI _), some (vI _)] [vI _] _ _
      refine x_iret ?_
      unfold dnA at k
      rw [if_pos (by omega)] at k
      rw [show bI (0 ≤ x ∧ x < 6 ∧ bt L x = 1) = bt L x from by unfold bI; split <;> omega]
      exact k
    · refine x_aload rfl ?_
      refine h_getR sc_32 rfl (by omega) ?_
      refine h_getR sc_53 rfl (by omega) ?_
      refine x_iload rfl ?_
      refine n_call [vR _, vI _] [] (by omega) (Nat.le_of_ble_eq_true rfl) rfl rfl (Nat.le_of_ble_eq_true rfl) ?_
      refine m_isLeft pl_54 (by rw [hp.2.2.2.1]; exact hL) (by omega) ?_
      rw [hp.2.2.2.1]
      show wp PP _ _ _ [some (vR _), some (vI _), some (vI _)] [vI _] _ _
      refine z_if_eq (fun c3 => ?_) (fun c3 => ?_)
      · refine x_ci ?_
        refine x_fall ?_
        refine x_iret ?_
        unfold dnA at k
        rw [if_neg (by omega), if_pos (by omega)] at k
        rw [if_neg (by omega)] at k
        exact k
      · refine x_aload rfl ?_
        refine h_getR sc_32 rfl (by omega) ?_
        refine h_getR sc_53 rfl (by omega) ?_
        refine x_iload rfl ?_
        refine n_call [vR _, vI _] [] (by omega) (Nat.le_of_ble_eq_true rfl) rfl rfl (Nat.le_of_ble_eq_true rfl) ?_
        refine m_placeOf pl_54 (by omega) hp (by omega) ?_
        show wp PP _ _ _ [some (vR _), some (vI _), some (vI _)] [vI _] _ _
        refine x_goto ?_
        refine x_iret ?_
        unfold dnA at k
        rw [if_neg (by omega), if_pos (by omega)] at k
        rw [if_pos (by omega)] at k
        exact k
    · refine x_aload rfl ?_
      refine h_getR sc_32 rfl (by omega) ?_
      refine h_getR sc_53 rfl (by omega) ?_
      refine x_iload rfl ?_
      refine x_ci ?_
      unfold dnA at k
      rw [if_neg (by omega), if_neg (by omega), if_pos (by omega)] at k
      refine n_call [vR _, vI _, vI _] [] (by omega) (Nat.le_of_ble_eq_true rfl) rfl rfl (Nat.le_of_ble_eq_true rfl) ?_
      by_cases zqq : bt L x = 1
      · refine m_passes pl_54 (by omega) hp (by omega) ⟨by omega, by omega, zqq⟩ ?_
        show wp PP _ _ _ _ [vI _] _ _
        refine x_iret ?_
        exact cI k (by omega)
      · rw [wP_no hL zqq n hp.2.2.1] at k
        refine m_passesNo pl_54 (by omega) hp ⟨by omega, by omega⟩ zqq ?_
        show wp PP _ _ _ _ [vI _] _ _
        refine x_iret ?_
        exact cI k (by omega)
    · refine x_aload rfl ?_
      refine h_getR sc_32 rfl (by omega) ?_
      refine h_getR sc_53 rfl (by omega) ?_
      refine x_iload rfl ?_
      refine x_ci ?_
      unfold dnA at k
      rw [if_neg (by omega), if_neg (by omega), if_neg (by omega), if_pos (by omega)] at k
      refine n_call [vR _, vI _, vI _] [] (by omega) (Nat.le_of_ble_eq_true rfl) rfl rfl (Nat.le_of_ble_eq_true rfl) ?_
      by_cases zqq : bt L x = 1
      · refine m_passes pl_54 (by omega) hp (by omega) ⟨by omega, by omega, zqq⟩ ?_
        show wp PP _ _ _ _ [vI _] _ _
        refine x_iret ?_
        exact cI k (by omega)
      · rw [wP_no hL zqq n hp.2.2.1] at k
        refine m_passesNo pl_54 (by omega) hp ⟨by omega, by omega⟩ zqq ?_
        show wp PP _ _ _ _ [vI _] _ _
        refine x_iret ?_
        exact cI k (by omega)
    · refine x_aload rfl ?_
      refine h_getR sc_32 rfl (by omega) ?_
      refine h_getR sc_53 rfl (by omega) ?_
      refine x_iload rfl ?_
      refine x_ci ?_
      refine n_call [vR _, vI _, vI _] [] (by omega) (Nat.le_of_ble_eq_true rfl) rfl rfl (Nat.le_of_ble_eq_true rfl) ?_
      refine m_isFree pl_54 (by omega) hp (by omega) ?_
      show wp PP _ _ _ [some (vR _), some (vI _), some (vI _)] [vI _] _ _
      refine n_call [vI _] [] (by omega) (Nat.le_of_ble_eq_true rfl) rfl rfl (Nat.le_of_ble_eq_true rfl) ?_
      refine m_bit (bI_01 _) ?_
      show wp PP _ _ _ [some (vR _), some (vI _), some (vI _)] [vI _] _ _
      refine x_iret ?_
      unfold dnA at k
      rw [if_neg (by omega), if_neg (by omega), if_neg (by omega), if_neg (by omega), if_pos (by omega)] at k
      exact k
    · refine x_aload rfl ?_
      refine h_getR sc_32 rfl (by omega) ?_
      refine h_getR sc_53 rfl (by omega) ?_
      refine x_iload rfl ?_
      refine n_call [vR _, vI _] [] (by omega) (Nat.le_of_ble_eq_true rfl) rfl rfl (Nat.le_of_ble_eq_true rfl) ?_
      refine m_boundTo pl_54 (by omega) hp (by omega) ?_
      show wp PP _ _ _ [some (vR _), some (vI _), some (vI _)] [vI _] _ _
      refine x_iret ?_
      unfold dnA at k
      rw [if_neg (by omega), if_neg (by omega), if_neg (by omega), if_neg (by omega), if_neg (by omega)] at k
      exact k
  · exact absurd hx c1
end INV9
