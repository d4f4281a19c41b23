/-! READ, READBOND, STRIKE, the reference -/
section PR8
variable {d tp : Nat} {h0 h : pheap} {s : St} {Q : Option pv → pheap → Prop} {z : Nat}
theorem r_strike (hd : 1 ≤ d) {x : Int} (h6 : s 94 50 = z) (hz : z ≤ 24) (hx : iR x) (kY : (0 ≤ x ∧ x < z) ∧ z < 24 → Q (some (vI z)) (HP h0 (rnS (up s 94 0 0) z 2 x (-1) 0 0))) (kN : ¬ ((0 ≤ x ∧ x < z) ∧ z < 24) → Q (some (vI (-1))) (HP h0 (up s 94 0 0))) : wpM PP d 171 [vR 94, vI x] (HP h0 s) Q := by
  refine n_at (m := 171) (q := mr171) (kn := (0, 2)) [some (vR _), some (vI _)] mb171 rfl rfl (h_rcv sc_94) (Nat.le_of_ble_eq_true rfl) rfl rfl ?_
  refine x_aload rfl ?_
  refine x_ci ?_
  refine h_putI 0 sc_94 rfl rfl ?_
  refine x_iload rfl ?_
  refine n_if_lt ⟨by omega, by omega⟩ (fun c1 => ?_) (fun c1 => ?_)
  · refine x_ci ?_
    refine x_iret ?_
    first
      | exact kY ⟨⟨by omega, by omega⟩, by omega⟩
      | exact kN (fun q => by omega)
  · refine x_iload rfl ?_
    refine x_aload rfl ?_
    refine h_getI 50 sc_94 rfl rfl ?_
    rw [up_i (by decide), h6]
    refine n_icmp_ge ⟨by omega, by omega⟩ ⟨by omega, by omega⟩ (fun c2 => ?_) (fun c2 => ?_)
    · refine x_ci ?_
      refine x_iret ?_
      first
        | exact kY ⟨⟨by omega, by omega⟩, by omega⟩
        | exact kN (fun q => by omega)
    · refine x_aload rfl ?_
      refine h_getI 50 sc_94 rfl rfl ?_
      rw [up_i (by decide), h6]
      refine x_ci ?_
      refine n_icmp_ne ⟨by omega, by omega⟩ ⟨by omega, by omega⟩ (fun c3 => ?_) (fun c3 => ?_)
      · refine x_aload rfl ?_
        refine x_ci ?_
        refine x_iload rfl ?_
        refine x_ci ?_
        refine x_ci ?_
        refine x_ci ?_
        refine n_call [vR _, vI _, vI _, vI _, vI _, vI _] [] (by omega) (Nat.le_of_ble_eq_true rfl) rfl rfl (Nat.le_of_ble_eq_true rfl) ?_
        refine r_noted (z := z) ((up_i (by decide)).trans h6) (by omega) (by decide) ?_
        show wp PP _ _ _ [some (vR _), some (vI _)] [vI _] _ _
        refine x_iret ?_
        first
          | exact kY ⟨⟨by omega, by omega⟩, by omega⟩
          | exact kN (fun q => by omega)
      · refine x_fall ?_
        refine x_ci ?_
        refine x_iret ?_
        first
          | exact kY ⟨⟨by omega, by omega⟩, by omega⟩
          | exact kN (fun q => by omega)
theorem r_read (hd : 1 ≤ d) {n x w i : Int} {D : Int} (h1 : s 96 0 = D) (hD : 0 ≤ D ∧ D ≤ 6) (h6 : s 94 50 = z) (hz : z ≤ 24) (hn : iR n) (hx : iR x) (hw : iR w) (h5 : i = 0 ∨ i = 1) (kY : ((0 ≤ n ∧ n ≤ 48) ∧ (0 ≤ x ∧ x < D) ∧ (0 ≤ w ∧ w < 6)) ∧ z < 24 → Q (some (vI z)) (HP h0 (rnS (up s 94 0 0) z 0 x w n i))) (kN : ¬ (((0 ≤ n ∧ n ≤ 48) ∧ (0 ≤ x ∧ x < D) ∧ (0 ≤ w ∧ w < 6)) ∧ z < 24) → Q (some (vI (-1))) (HP h0 (up s 94 0 0))) : wpM PP d 169 [vR 94, vI n, vI x, vI w, vI i] (HP h0 s) Q := by
  refine n_at (m := 169) (q := mr169) (kn := (0, 5)) [some (vR _), some (vI _), some (vI _), some (vI _), some (vI _)] mb169 rfl rfl (h_rcv sc_94) (Nat.le_of_ble_eq_true rfl) rfl rfl ?_
  refine x_aload rfl ?_
  refine x_ci ?_
  refine h_putI 0 sc_94 rfl rfl ?_
  refine x_iload rfl ?_
  refine n_if_lt ⟨by omega, by omega⟩ (fun c1 => ?_) (fun c1 => ?_)
  · refine x_ci ?_
    refine x_iret ?_
    first
      | exact kY ⟨⟨⟨by omega, by omega⟩, ⟨by omega, by omega⟩, ⟨by omega, by omega⟩⟩, by omega⟩
      | exact kN (fun q => by omega)
  · refine x_iload rfl ?_
    refine x_ci ?_
    refine n_icmp_gt ⟨by omega, by omega⟩ ⟨by omega, by omega⟩ (fun c2 => ?_) (fun c2 => ?_)
    · refine x_ci ?_
      refine x_iret ?_
      first
        | exact kY ⟨⟨⟨by omega, by omega⟩, ⟨by omega, by omega⟩, ⟨by omega, by omega⟩⟩, by omega⟩
        | exact kN (fun q => by omega)
    · refine x_aload rfl ?_
      refine x_iload rfl ?_
      refine n_call [vR _, vI _] [] (by omega) (Nat.le_of_ble_eq_true rfl) rfl rfl (Nat.le_of_ble_eq_true rfl) ?_
      refine r_isDancer (by rw [up_a (by decide), h1]; exact hD) ⟨by omega, by omega⟩ ?_
      rw [up_a (b := 96) (by decide), h1]
      show wp PP _ _ _ [some (vR _), some (vI _), some (vI _), some (vI _), some (vI _)] [vI _] _ _
      refine z_if_eq (fun c3 => ?_) (fun c3 => ?_)
      · refine x_ci ?_
        refine x_iret ?_
        first
          | exact kY ⟨⟨⟨by omega, by omega⟩, ⟨by omega, by omega⟩, ⟨by omega, by omega⟩⟩, by omega⟩
          | exact kN (fun q => by omega)
      · refine x_iload rfl ?_
        refine n_if_lt ⟨by omega, by omega⟩ (fun c4 => ?_) (fun c4 => ?_)
        · refine x_ci ?_
          refine x_iret ?_
          first
            | exact kY ⟨⟨⟨by omega, by omega⟩, ⟨by omega, by omega⟩, ⟨by omega, by omega⟩⟩, by omega⟩
            | exact kN (fun q => by omega)
        · refine x_iload rfl ?_
          refine x_ci ?_
          refine n_icmp_gt ⟨by omega, by omega⟩ ⟨by omega, by omega⟩ (fun c5 => ?_) (fun c5 => ?_)
          · refine x_ci ?_
            refine x_iret ?_
            first
              | exact kY ⟨⟨⟨by omega, by omega⟩, ⟨by omega, by omega⟩, ⟨by omega, by omega⟩⟩, by omega⟩
              | exact kN (fun q => by omega)
          · refine x_aload rfl ?_
            refine h_getI 50 sc_94 rfl rfl ?_
            rw [up_i (by decide), h6]
            refine x_ci ?_
            refine n_icmp_ne ⟨by omega, by omega⟩ ⟨by omega, by omega⟩ (fun c6 => ?_) (fun c6 => ?_)
            · refine x_aload rfl ?_
              refine x_ci ?_
              refine x_iload rfl ?_
              refine x_iload rfl ?_
              refine x_iload rfl ?_
              refine x_iload rfl ?_
              refine n_call [vR _, vI _, vI _, vI _, vI _, vI _] [] (by omega) (Nat.le_of_ble_eq_true rfl) rfl rfl (Nat.le_of_ble_eq_true rfl) ?_
              refine r_noted (z := z) ((up_i (by decide)).trans h6) (by omega) h5 ?_
              show wp PP _ _ _ [some (vR _), some (vI _), some (vI _), some (vI _), some (vI _)] [vI _] _ _
              refine x_iret ?_
              first
                | exact kY ⟨⟨⟨by omega, by omega⟩, ⟨by omega, by omega⟩, ⟨by omega, by omega⟩⟩, by omega⟩
                | exact kN (fun q => by omega)
            · refine x_fall ?_
              refine x_ci ?_
              refine x_iret ?_
              first
                | exact kY ⟨⟨⟨by omega, by omega⟩, ⟨by omega, by omega⟩, ⟨by omega, by omega⟩⟩, by omega⟩
                | exact kN (fun q => by omega)
theorem r_readBond (hd : 1 ≤ d) {n x w i : Int} {D : Int} (h1 : s 96 0 = D) (hD : 0 ≤ D ∧ D ≤ 6) (h6 : s 94 50 = z) (hz : z ≤ 24) (hn : iR n) (hx : iR x) (hw : iR w) (h5 : i = 0 ∨ i = 1) (kY : ((0 ≤ n ∧ n < D) ∧ (0 ≤ x ∧ x < D) ∧ ¬ n = x ∧ (-48 ≤ w ∧ w ≤ 48)) ∧ z < 24 → Q (some (vI z)) (HP h0 (rnS (up s 94 0 0) z 1 n x w i))) (kN : ¬ (((0 ≤ n ∧ n < D) ∧ (0 ≤ x ∧ x < D) ∧ ¬ n = x ∧ (-48 ≤ w ∧ w ≤ 48)) ∧ z < 24) → Q (some (vI (-1))) (HP h0 (up s 94 0 0))) : wpM PP d 170 [vR 94, vI n, vI x, vI w, vI i] (HP h0 s) Q := by
  refine n_at (m := 170) (q := mr170) (kn := (0, 5)) [some (vR _), some (vI _), some (vI _), some (vI _), some (vI _)] mb170 rfl rfl (h_rcv sc_94) (Nat.le_of_ble_eq_true rfl) rfl rfl ?_
  refine x_aload rfl ?_
  refine x_ci ?_
  refine h_putI 0 sc_94 rfl rfl ?_
  refine x_aload rfl ?_
  refine x_iload rfl ?_
  refine n_call [vR _, vI _] [] (by omega) (Nat.le_of_ble_eq_true rfl) rfl rfl (Nat.le_of_ble_eq_true rfl) ?_
  refine r_isDancer (by rw [up_a (by decide), h1]; exact hD) ⟨by omega, by omega⟩ ?_
  rw [up_a (b := 96) (by decide), h1]
  show wp PP _ _ _ [some (vR _), some (vI _), some (vI _), some (vI _), some (vI _)] [vI _] _ _
  refine z_if_eq (fun c1 => ?_) (fun c1 => ?_)
  · refine x_ci ?_
    refine x_iret ?_
    first
      | exact kY ⟨⟨⟨by omega, by omega⟩, ⟨by omega, by omega⟩, by omega, ⟨by omega, by omega⟩⟩, by omega⟩
      | exact kN (fun q => by omega)
  · refine x_aload rfl ?_
    refine x_iload rfl ?_
    refine n_call [vR _, vI _] [] (by omega) (Nat.le_of_ble_eq_true rfl) rfl rfl (Nat.le_of_ble_eq_true rfl) ?_
    refine r_isDancer (by rw [up_a (by decide), h1]; exact hD) ⟨by omega, by omega⟩ ?_
    rw [up_a (b := 96) (by decide), h1]
    show wp PP _ _ _ [some (vR _), some (vI _), some (vI _), some (vI _), some (vI _)] [vI _] _ _
    refine z_if_eq (fun c2 => ?_) (fun c2 => ?_)
    · refine x_ci ?_
      refine x_iret ?_
      first
        | exact kY ⟨⟨⟨by omega, by omega⟩, ⟨by omega, by omega⟩, by omega, ⟨by omega, by omega⟩⟩, by omega⟩
        | exact kN (fun q => by omega)
    · refine x_iload rfl ?_
      refine x_iload rfl ?_
      refine n_icmp_eq ⟨by omega, by omega⟩ ⟨by omega, by omega⟩ (fun c3 => ?_) (fun c3 => ?_)
      · refine x_ci ?_
        refine x_iret ?_
        first
          | exact kY ⟨⟨⟨by omega, by omega⟩, ⟨by omega, by omega⟩, by omega, ⟨by omega, by omega⟩⟩, by omega⟩
          | exact kN (fun q => by omega)
      · refine x_iload rfl ?_
        refine x_ci ?_
        refine n_icmp_lt ⟨by omega, by omega⟩ ⟨by omega, by omega⟩ (fun c4 => ?_) (fun c4 => ?_)
        · refine x_ci ?_
          refine x_iret ?_
          first
            | exact kY ⟨⟨⟨by omega, by omega⟩, ⟨by omega, by omega⟩, by omega, ⟨by omega, by omega⟩⟩, by omega⟩
            | exact kN (fun q => by omega)
        · refine x_iload rfl ?_
          refine x_ci ?_
          refine n_icmp_gt ⟨by omega, by omega⟩ ⟨by omega, by omega⟩ (fun c5 => ?_) (fun c5 => ?_)
          · refine x_ci ?_
            refine x_iret ?_
            first
              | exact kY ⟨⟨⟨by omega, by omega⟩, ⟨by omega, by omega⟩, by omega, ⟨by omega, by omega⟩⟩, by omega⟩
              | exact kN (fun q => by omega)
          · refine x_aload rfl ?_
            refine h_getI 50 sc_94 rfl rfl ?_
            rw [up_i (by decide), h6]
            refine x_ci ?_
            refine n_icmp_ne ⟨by omega, by omega⟩ ⟨by omega, by omega⟩ (fun c6 => ?_) (fun c6 => ?_)
            · refine x_aload rfl ?_
              refine x_ci ?_
              refine x_iload rfl ?_
              refine x_iload rfl ?_
              refine x_iload rfl ?_
              refine x_iload rfl ?_
              refine n_call [vR _, vI _, vI _, vI _, vI _, vI _] [] (by omega) (Nat.le_of_ble_eq_true rfl) rfl rfl (Nat.le_of_ble_eq_true rfl) ?_
              refine r_noted (z := z) ((up_i (by decide)).trans h6) (by omega) h5 ?_
              show wp PP _ _ _ [some (vR _), some (vI _), some (vI _), some (vI _), some (vI _)] [vI _] _ _
              refine x_iret ?_
              first
                | exact kY ⟨⟨⟨by omega, by omega⟩, ⟨by omega, by omega⟩, by omega, ⟨by omega, by omega⟩⟩, by omega⟩
                | exact kN (fun q => by omega)
            · refine x_fall ?_
              refine x_ci ?_
              refine x_iret ?_
              first
                | exact kY ⟨⟨⟨by omega, by omega⟩, ⟨by omega, by omega⟩, by omega, ⟨by omega, by omega⟩⟩, by omega⟩
                | exact kN (fun q => by omega)
end PR8
