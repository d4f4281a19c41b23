/-! NAMED, KNOWN, both sides -/
section PW2
variable {d tp : Nat} {h0 h : pheap} {s : St} {Q : Option pv → pheap → Prop} {z : Nat} {kf : Int}
theorem m_named (hd : 1 ≤ d) (hS : isSc tp) (hT : s 32 2 = (tp : Int) + 1) {x : Int} {D : Nat} {f : Int → Int} (h1 : s tp 1 = D) (hD : D ≤ 6) (hf : ∀ i : Int, 0 ≤ i → i < D → s (tp + 1) i = f i) (hfr : ∀ i : Int, 0 ≤ i → i < D → iR (f i)) (hx : iR x) (k : Q (some (vI (fndN f x D))) (HP h0 s)) : wpM PP d 10 [vR 32, vI x] (HP h0 s) Q := by
  refine n_at (m := 10) (q := mr10) (kn := (0, 2)) [some (vR _), some (vI _)] mb10 rfl rfl (h_rcv sc_32) (Nat.le_of_ble_eq_true rfl) rfl rfl ?_
  refine x_aload rfl ?_
  refine h_getB 2 sc_32 rfl rfl hT ?_
  refine x_iload rfl ?_
  refine n_call [vR _, vI _] [] (by omega) (Nat.le_of_ble_eq_true rfl) rfl rfl (Nat.le_of_ble_eq_true rfl) ?_
  refine m_numberOf hS h1 hD hf hfr hx ?_
  show wp PP _ _ _ [some (vR _), some (vI _)] [vI _] _ _
  refine x_iret ?_
  exact k
theorem r_named (hd : 1 ≤ d) {x : Int} {D : Nat} {f : Int → Int} (h1 : s 96 0 = D) (hD : D ≤ 6) (hf : ∀ i : Int, 0 ≤ i → i < D → s 97 i = f i) (hfr : ∀ i : Int, 0 ≤ i → i < D → iR (f i)) (hx : iR x) (k : Q (some (vI (fndN f x D))) (HP h0 (up s 94 0 0))) : wpM PP d 90 [vR 94, vI x] (HP h0 s) Q := by
  refine n_at (m := 90) (q := mr90) (kn := (0, 2)) [some (vR _), some (vI _)] mb90 rfl rfl (h_rcv sc_94) (Nat.le_of_ble_eq_true rfl) rfl rfl ?_
  refine x_aload rfl ?_
  refine x_ci ?_
  refine h_putI 0 sc_94 rfl rfl ?_
  refine x_aload rfl ?_
  refine h_getR sc_94 rfl (by omega) ?_
  refine x_ci ?_
  refine x_aload rfl ?_
  refine h_getR sc_94 rfl (by omega) ?_
  refine x_ci ?_
  refine h_iald sc_96 ⟨by omega, by omega⟩ (by decide) ?_
  rw [up_a (by decide), h1]
  refine x_iload rfl ?_
  refine n_call [vR _, vI _, vI _, vI _] [] (by omega) (Nat.le_of_ble_eq_true rfl) rfl rfl (Nat.le_of_ble_eq_true rfl) ?_
  refine r_found (o := 0) (f := f) (by omega) hD (fun i i0 i1 => ?_) hfr hx ?_
  · rw [up_a (by decide), Int.zero_add]
    exact hf i i0 i1
  show wp PP _ _ _ [some (vR _), some (vI _)] [vI _] _ _
  refine x_iret ?_
  exact k
theorem m_chooseKnown {x : Int} (h6 : s 75 6 = z) (hz : z ≤ 24) (hx : iR x) (k : Q (some (vI (bI (-1 ≤ x ∧ x ≤ z)))) (HP h0 (if -1 ≤ x ∧ x ≤ z then up s 75 7 x else s))) : wpM PP d 237 [vR 75, vI x] (HP h0 s) Q := by
  refine n_at (m := 237) (q := mr237) (kn := (0, 2)) [some (vR _), some (vI _)] mb237 rfl rfl (h_rcv sc_75) (Nat.le_of_ble_eq_true rfl) rfl rfl ?_
  refine x_iload rfl ?_
  refine x_ci ?_
  refine n_icmp_lt ⟨by omega, by omega⟩ ⟨by omega, by omega⟩ (fun c1 => ?_) (fun c1 => ?_)
  · refine x_ci ?_
    refine x_zret (by first | exact bI_01 _ | omega) ?_
    first
      | (rw [bI_t (c := -1 ≤ x ∧ x ≤ z) (by omega), if_pos (show -1 ≤ x ∧ x ≤ z by omega)] at k
         exact k)
      | (rw [bI_f (c := -1 ≤ x ∧ x ≤ z) (by omega), if_neg (show ¬ (-1 ≤ x ∧ x ≤ z) by omega)] at k
         exact k)
  · refine x_iload rfl ?_
    refine x_aload rfl ?_
    refine h_getI 6 sc_75 rfl rfl ?_
    rw [h6]
    refine n_icmp_le ⟨by omega, by omega⟩ ⟨by omega, by omega⟩ (fun c2 => ?_) (fun c2 => ?_)
    · refine x_aload rfl ?_
      refine x_iload rfl ?_
      refine h_putI 7 sc_75 rfl rfl ?_
      refine x_ci ?_
      refine x_zret (by first | exact bI_01 _ | omega) ?_
      first
        | (rw [bI_t (c := -1 ≤ x ∧ x ≤ z) (by omega), if_pos (show -1 ≤ x ∧ x ≤ z by omega)] at k
           exact k)
        | (rw [bI_f (c := -1 ≤ x ∧ x ≤ z) (by omega), if_neg (show ¬ (-1 ≤ x ∧ x ≤ z) by omega)] at k
           exact k)
    · refine x_fall ?_
      refine x_ci ?_
      refine x_zret (by first | exact bI_01 _ | omega) ?_
      first
        | (rw [bI_t (c := -1 ≤ x ∧ x ≤ z) (by omega), if_pos (show -1 ≤ x ∧ x ≤ z by omega)] at k
           exact k)
        | (rw [bI_f (c := -1 ≤ x ∧ x ≤ z) (by omega), if_neg (show ¬ (-1 ≤ x ∧ x ≤ z) by omega)] at k
           exact k)
theorem m_known (hd : 1 ≤ d) {x : Int} (h6 : s 75 6 = z) (hz : z ≤ 24) (hx : iR x) (k : Q (some (vI (bI (-1 ≤ x ∧ x ≤ z)))) (HP h0 (if -1 ≤ x ∧ x ≤ z then up s 75 7 x else s))) : wpM PP d 36 [vR 32, vI x] (HP h0 s) Q := by
  refine n_at (m := 36) (q := mr36) (kn := (0, 2)) [some (vR _), some (vI _)] mb36 rfl rfl (h_rcv sc_32) (Nat.le_of_ble_eq_true rfl) rfl rfl ?_
  refine x_aload rfl ?_
  refine h_getR sc_32 rfl (by omega) ?_
  refine x_iload rfl ?_
  refine n_call [vR _, vI _] [] (by omega) (Nat.le_of_ble_eq_true rfl) rfl rfl (Nat.le_of_ble_eq_true rfl) ?_
  refine m_chooseKnown h6 hz hx ?_
  show wp PP _ _ _ [some (vR _), some (vI _)] [vI _] _ _
  refine x_zret (by first | exact bI_01 _ | omega) ?_
  exact k
theorem r_known {x : Int} (h6 : s 94 50 = z) (hz : z ≤ 24) (hx : iR x) (k : Q (some (vI (bI (-1 ≤ x ∧ x ≤ z)))) (HP h0 (if -1 ≤ x ∧ x ≤ z then up (up s 94 0 0) 94 51 x else up s 94 0 0))) : wpM PP d 172 [vR 94, vI x] (HP h0 s) Q := by
  refine n_at (m := 172) (q := mr172) (kn := (0, 2)) [some (vR _), some (vI _)] mb172 rfl rfl (h_rcv sc_94) (Nat.le_of_ble_eq_true rfl) rfl rfl ?_
  refine x_aload rfl ?_
  refine x_ci ?_
  refine h_putI 0 sc_94 rfl rfl ?_
  refine x_iload rfl ?_
  refine x_ci ?_
  refine n_icmp_lt ⟨by omega, by omega⟩ ⟨by omega, by omega⟩ (fun c1 => ?_) (fun c1 => ?_)
  · refine x_ci ?_
    refine x_zret (by first | exact bI_01 _ | omega) ?_
    first
      | (rw [bI_t (c := -1 ≤ x ∧ x ≤ z) (by omega), if_pos (show -1 ≤ x ∧ x ≤ z by omega)] at k
         exact k)
      | (rw [bI_f (c := -1 ≤ x ∧ x ≤ z) (by omega), if_neg (show ¬ (-1 ≤ x ∧ x ≤ z) by omega)] at k
         exact k)
  · refine x_iload rfl ?_
    refine x_aload rfl ?_
    refine h_getI 50 sc_94 rfl rfl ?_
    rw [up_i (by decide), h6]
    refine n_icmp_le ⟨by omega, by omega⟩ ⟨by omega, by omega⟩ (fun c2 => ?_) (fun c2 => ?_)
    · refine x_aload rfl ?_
      refine x_iload rfl ?_
      refine h_putI 51 sc_94 rfl rfl ?_
      refine x_ci ?_
      refine x_zret (by first | exact bI_01 _ | omega) ?_
      first
        | (rw [bI_t (c := -1 ≤ x ∧ x ≤ z) (by omega), if_pos (show -1 ≤ x ∧ x ≤ z by omega)] at k
           exact k)
        | (rw [bI_f (c := -1 ≤ x ∧ x ≤ z) (by omega), if_neg (show ¬ (-1 ≤ x ∧ x ≤ z) by omega)] at k
           exact k)
    · refine x_fall ?_
      refine x_ci ?_
      refine x_zret (by first | exact bI_01 _ | omega) ?_
      first
        | (rw [bI_t (c := -1 ≤ x ∧ x ≤ z) (by omega), if_pos (show -1 ≤ x ∧ x ≤ z by omega)] at k
           exact k)
        | (rw [bI_f (c := -1 ≤ x ∧ x ≤ z) (by omega), if_neg (show ¬ (-1 ≤ x ∧ x ≤ z) by omega)] at k
           exact k)
end PW2
