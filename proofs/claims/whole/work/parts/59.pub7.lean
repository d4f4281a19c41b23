/-! READ, READBOND, STRIKE, both sides -/
section PR7
variable {d tp : Nat} {h0 h : pheap} {s : St} {Q : Option pv → pheap → Prop} {z : Nat}
def rcS (s : St) (z : Nat) (x1 x2 x3 x4 x5 : Int) : St := up (up (up (up (up (up s 76 z x1) 77 z x2) 78 z x3) 79 z x4) 80 z x5) 75 6 (z + 1)
def rnS (s : St) (z : Nat) (x1 x2 x3 x4 x5 : Int) : St := up (up (up (up (up (up s 124 z x1) 125 z x2) 126 z x3) 127 z x4) 128 z x5) 94 50 (z + 1)
theorem m_rputG {x1 x2 x3 x4 x5 : Int} (hd : 1 ≤ d) (h6 : s 75 6 = z) (hz : z ≤ 24) (h5 : x5 = 0 ∨ x5 = 1) (kY : z < 24 → Q (some (vI z)) (HP h0 (rcS s z x1 x2 x3 x4 x5))) (kN : ¬ z < 24 → Q (some (vI (-1))) (HP h0 s)) : wpM PP d 235 [vR 75, vI x1, vI x2, vI x3, vI x4, vI x5] (HP h0 s) Q := by
  by_cases q : z < 24
  · exact m_rput hd h6 q h5 (kY q)
  · exact m_rputNo hd (by omega) (kN q)
theorem m_putPlace (hd : 2 ≤ d) {n x w i : Int} (h6 : s 75 6 = z) (hz : z ≤ 24) (h5 : i = 0 ∨ i = 1) (kY : z < 24 → Q (some (vI z)) (HP h0 (rcS s z 0 x w n i))) (kN : ¬ z < 24 → Q (some (vI (-1))) (HP h0 s)) : wpM PP d 232 [vR 75, vI n, vI x, vI w, vI i] (HP h0 s) Q := by
  refine n_at (m := 232) (q := mr232) (kn := (0, 5)) [some (vR _), some (vI _), some (vI _), some (vI _), some (vI _)] mb232 rfl rfl (h_rcv sc_75) (Nat.le_of_ble_eq_true rfl) rfl rfl ?_
  refine x_aload rfl ?_
  refine x_ci ?_
  refine x_iload rfl ?_
  refine x_iload rfl ?_
  refine x_iload rfl ?_
  refine x_iload rfl ?_
  refine n_call [vR _, vI _, vI _, vI _, vI _, vI _] [] (by omega) (Nat.le_of_ble_eq_true rfl) rfl rfl (Nat.le_of_ble_eq_true rfl) ?_
  refine m_rputG (z := z) (by omega) h6 hz h5 (fun hz1 => ?_) (fun hz1 => ?_)
  · show wp PP _ _ _ _ [vI _] _ _
    refine x_iret ?_
    exact kY hz1
  · show wp PP _ _ _ _ [vI _] _ _
    refine x_iret ?_
    exact kN hz1
theorem m_putBond (hd : 2 ≤ d) {n x w i : Int} (h6 : s 75 6 = z) (hz : z ≤ 24) (h5 : i = 0 ∨ i = 1) (kY : z < 24 → Q (some (vI z)) (HP h0 (rcS s z 1 n x w i))) (kN : ¬ z < 24 → Q (some (vI (-1))) (HP h0 s)) : wpM PP d 233 [vR 75, vI n, vI x, vI w, vI i] (HP h0 s) Q := by
  refine n_at (m := 233) (q := mr233) (kn := (0, 5)) [some (vR _), some (vI _), some (vI _), some (vI _), some (vI _)] mb233 rfl rfl (h_rcv sc_75) (Nat.le_of_ble_eq_true rfl) rfl rfl ?_
  refine x_aload rfl ?_
  refine x_ci ?_
  refine x_iload rfl ?_
  refine x_iload rfl ?_
  refine x_iload rfl ?_
  refine x_iload rfl ?_
  refine n_call [vR _, vI _, vI _, vI _, vI _, vI _] [] (by omega) (Nat.le_of_ble_eq_true rfl) rfl rfl (Nat.le_of_ble_eq_true rfl) ?_
  refine m_rputG (z := z) (by omega) h6 hz h5 (fun hz1 => ?_) (fun hz1 => ?_)
  · show wp PP _ _ _ _ [vI _] _ _
    refine x_iret ?_
    exact kY hz1
  · show wp PP _ _ _ _ [vI _] _ _
    refine x_iret ?_
    exact kN hz1
theorem m_putStrike (hd : 2 ≤ d) {x : Int} (h6 : s 75 6 = z) (hz : z ≤ 24) (hx : iR x) (kY : (0 ≤ x ∧ x < z) ∧ z < 24 → Q (some (vI z)) (HP h0 (rcS s z 2 x 0 0 1))) (kN : ¬ ((0 ≤ x ∧ x < z) ∧ z < 24) → Q (some (vI (-1))) (HP h0 s)) : wpM PP d 234 [vR 75, vI x] (HP h0 s) Q := by
  refine n_at (m := 234) (q := mr234) (kn := (0, 2)) [some (vR _), some (vI _)] mb234 rfl rfl (h_rcv sc_75) (Nat.le_of_ble_eq_true rfl) rfl rfl ?_
  refine x_iload rfl ?_
  refine n_if_lt ⟨by omega, by omega⟩ (fun c1 => ?_) (fun c1 => ?_)
  · refine x_ci ?_
    refine x_goto ?_
    refine x_iret ?_
    exact kN (by omega)
  · refine x_iload rfl ?_
    refine x_aload rfl ?_
    refine h_getI 6 sc_75 rfl rfl ?_
    rw [h6]
    refine n_icmp_lt ⟨by omega, by omega⟩ ⟨by omega, by omega⟩ (fun c2 => ?_) (fun c2 => ?_)
    · refine x_aload rfl ?_
      refine x_ci ?_
      refine x_iload rfl ?_
      refine x_ci ?_
      refine x_ci ?_
      refine x_ci ?_
      refine n_call [vR _, vI _, vI _, vI _, vI _, vI _] [] (by omega) (Nat.le_of_ble_eq_true rfl) rfl rfl (Nat.le_of_ble_eq_true rfl) ?_
      refine m_rputG (z := z) (by omega) h6 hz (by decide) (fun hz1 => ?_) (fun hz1 => ?_)
      · show wp PP _ _ _ _ [vI _] _ _
        refine x_fall ?_
        refine x_iret ?_
        exact kY ⟨⟨by omega, by omega⟩, hz1⟩
      · show wp PP _ _ _ _ [vI _] _ _
        refine x_fall ?_
        refine x_iret ?_
        exact kN (by omega)
    · refine x_fall ?_
      refine x_ci ?_
      refine x_goto ?_
      refine x_iret ?_
      exact kN (by omega)
theorem m_strike (hd : 3 ≤ d) {x : Int} (h6 : s 75 6 = z) (hz : z ≤ 24) (hx : iR x) (kY : (0 ≤ x ∧ x < z) ∧ z < 24 → Q (some (vI z)) (HP h0 (rcS s z 2 x 0 0 1))) (kN : ¬ ((0 ≤ x ∧ x < z) ∧ z < 24) → Q (some (vI (-1))) (HP h0 s)) : wpM PP d 35 [vR 32, vI x] (HP h0 s) Q := by
  refine n_at (m := 35) (q := mr35) (kn := (0, 2)) [some (vR _), some (vI _)] mb35 rfl rfl (h_rcv sc_32) (Nat.le_of_ble_eq_true rfl) rfl rfl ?_
  refine x_aload rfl ?_
  refine h_getR sc_32 rfl (by omega) ?_
  refine x_iload rfl ?_
  refine n_call [vR _, vI _] [] (by omega) (Nat.le_of_ble_eq_true rfl) rfl rfl (Nat.le_of_ble_eq_true rfl) ?_
  refine m_putStrike (by omega) h6 hz hx (fun hy => ?_) (fun hy => ?_)
  · show wp PP _ _ _ _ [vI _] _ _
    refine x_iret ?_
    exact kY hy
  · show wp PP _ _ _ _ [vI _] _ _
    refine x_iret ?_
    exact kN hy
theorem m_read (hd : 3 ≤ d) {n x w i : Int} (hS : isSc tp) (hT : s 32 2 = (tp : Int) + 1) {D : Int} (h1 : s tp 1 = D) (hD : 0 ≤ D ∧ D ≤ 6) (h6 : s 75 6 = z) (hz : z ≤ 24) (hn : iR n) (hx : iR x) (hw : iR w) (h5 : i = 0 ∨ i = 1) (kY : ((0 ≤ n ∧ n ≤ 48) ∧ (0 ≤ x ∧ x < D) ∧ (0 ≤ w ∧ w < 6)) ∧ z < 24 → Q (some (vI z)) (HP h0 (rcS s z 0 x w n i))) (kN : ¬ (((0 ≤ n ∧ n ≤ 48) ∧ (0 ≤ x ∧ x < D) ∧ (0 ≤ w ∧ w < 6)) ∧ z < 24) → Q (some (vI (-1))) (HP h0 s)) : wpM PP d 33 [vR 32, vI n, vI x, vI w, vI i] (HP h0 s) Q := by
  refine n_at (m := 33) (q := mr33) (kn := (0, 5)) [some (vR _), some (vI _), some (vI _), some (vI _), some (vI _)] mb33 rfl rfl (h_rcv sc_32) (Nat.le_of_ble_eq_true rfl) rfl rfl ?_
  refine x_iload rfl ?_
  refine n_if_lt ⟨by omega, by omega⟩ (fun c1 => ?_) (fun c1 => ?_)
  · refine x_ci ?_
    refine x_iret ?_
    exact kN (fun q => by omega)
  · refine x_iload rfl ?_
    refine x_ci ?_
    refine n_icmp_gt ⟨by omega, by omega⟩ ⟨by omega, by omega⟩ (fun c2 => ?_) (fun c2 => ?_)
    · refine x_ci ?_
      refine x_iret ?_
      exact kN (fun q => by omega)
    · refine x_aload rfl ?_
      refine x_iload rfl ?_
      refine n_call [vR _, vI _] [] (by omega) (Nat.le_of_ble_eq_true rfl) rfl rfl (Nat.le_of_ble_eq_true rfl) ?_
      refine m_isDancer hS hT h1 hD ⟨by omega, by omega⟩ ?_
      show wp PP _ _ _ [some (vR _), some (vI _), some (vI _), some (vI _), some (vI _)] [vI _] _ _
      refine z_if_eq (fun c3 => ?_) (fun c3 => ?_)
      · refine x_ci ?_
        refine x_iret ?_
        exact kN (fun q => by omega)
      · refine x_iload rfl ?_
        refine n_if_lt ⟨by omega, by omega⟩ (fun c4 => ?_) (fun c4 => ?_)
        · refine x_ci ?_
          refine x_iret ?_
          exact kN (fun q => by omega)
        · refine x_iload rfl ?_
          refine x_ci ?_
          refine n_icmp_lt ⟨by omega, by omega⟩ ⟨by omega, by omega⟩ (fun c5 => ?_) (fun c5 => ?_)
          · refine x_aload rfl ?_
            refine h_getR sc_32 rfl (by omega) ?_
            refine x_iload rfl ?_
            refine x_iload rfl ?_
            refine x_iload rfl ?_
            refine x_iload rfl ?_
            refine n_call [vR _, vI _, vI _, vI _, vI _] [] (by omega) (Nat.le_of_ble_eq_true rfl) rfl rfl (Nat.le_of_ble_eq_true rfl) ?_
            refine m_putPlace (by omega) h6 hz h5 (fun hy => ?_) (fun hy => ?_)
            · show wp PP _ _ _ _ [vI _] _ _
              refine x_iret ?_
              exact kY ⟨⟨⟨by omega, by omega⟩, ⟨by omega, by omega⟩, ⟨by omega, by omega⟩⟩, hy⟩
            · show wp PP _ _ _ _ [vI _] _ _
              refine x_iret ?_
              exact kN (fun q => hy q.2)
          · refine x_fall ?_
            refine x_ci ?_
            refine x_iret ?_
            exact kN (fun q => by omega)
theorem m_readBond (hd : 3 ≤ d) {n x w i : Int} (hS : isSc tp) (hT : s 32 2 = (tp : Int) + 1) {D : Int} (h1 : s tp 1 = D) (hD : 0 ≤ D ∧ D ≤ 6) (h6 : s 75 6 = z) (hz : z ≤ 24) (hn : iR n) (hx : iR x) (hw : iR w) (h5 : i = 0 ∨ i = 1) (kY : ((0 ≤ n ∧ n < D) ∧ (0 ≤ x ∧ x < D) ∧ ¬ n = x ∧ (-48 ≤ w ∧ w ≤ 48)) ∧ z < 24 → Q (some (vI z)) (HP h0 (rcS s z 1 n x w i))) (kN : ¬ (((0 ≤ n ∧ n < D) ∧ (0 ≤ x ∧ x < D) ∧ ¬ n = x ∧ (-48 ≤ w ∧ w ≤ 48)) ∧ z < 24) → Q (some (vI (-1))) (HP h0 s)) : wpM PP d 34 [vR 32, vI n, vI x, vI w, vI i] (HP h0 s) Q := by
  refine n_at (m := 34) (q := mr34) (kn := (0, 5)) [some (vR _), some (vI _), some (vI _), some (vI _), some (vI _)] mb34 rfl rfl (h_rcv sc_32) (Nat.le_of_ble_eq_true rfl) rfl rfl ?_
  refine x_aload rfl ?_
  refine x_iload rfl ?_
  refine n_call [vR _, vI _] [] (by omega) (Nat.le_of_ble_eq_true rfl) rfl rfl (Nat.le_of_ble_eq_true rfl) ?_
  refine m_isDancer hS hT h1 hD ⟨by omega, by omega⟩ ?_
  show wp PP _ _ _ [some (vR _), some (vI _), some (vI _), some (vI _), some (vI _)] [vI _] _ _
  refine z_if_eq (fun c1 => ?_) (fun c1 => ?_)
  · refine x_ci ?_
    refine x_iret ?_
    exact kN (fun q => by omega)
  · refine x_aload rfl ?_
    refine x_iload rfl ?_
    refine n_call [vR _, vI _] [] (by omega) (Nat.le_of_ble_eq_true rfl) rfl rfl (Nat.le_of_ble_eq_true rfl) ?_
    refine m_isDancer hS hT h1 hD ⟨by omega, by omega⟩ ?_
    show wp PP _ _ _ [some (vR _), some (vI _), some (vI _), some (vI _), some (vI _)] [vI _] _ _
    refine z_if_eq (fun c2 => ?_) (fun c2 => ?_)
    · refine x_ci ?_
      refine x_iret ?_
      exact kN (fun q => by omega)
    · refine x_iload rfl ?_
      refine x_iload rfl ?_
      refine n_icmp_eq ⟨by omega, by omega⟩ ⟨by omega, by omega⟩ (fun c3 => ?_) (fun c3 => ?_)
      · refine x_ci ?_
        refine x_iret ?_
        exact kN (fun q => by omega)
      · refine x_iload rfl ?_
        refine x_ci ?_
        refine n_icmp_lt ⟨by omega, by omega⟩ ⟨by omega, by omega⟩ (fun c4 => ?_) (fun c4 => ?_)
        · refine x_ci ?_
          refine x_iret ?_
          exact kN (fun q => by omega)
        · refine x_iload rfl ?_
          refine x_ci ?_
          refine n_icmp_le ⟨by omega, by omega⟩ ⟨by omega, by omega⟩ (fun c5 => ?_) (fun c5 => ?_)
          · refine x_aload rfl ?_
            refine h_getR sc_32 rfl (by omega) ?_
            refine x_iload rfl ?_
            refine x_iload rfl ?_
            refine x_iload rfl ?_
            refine x_iload rfl ?_
            refine n_call [vR _, vI _, vI _, vI _, vI _] [] (by omega) (Nat.le_of_ble_eq_true rfl) rfl rfl (Nat.le_of_ble_eq_true rfl) ?_
            refine m_putBond (by omega) h6 hz h5 (fun hy => ?_) (fun hy => ?_)
            · show wp PP _ _ _ _ [vI _] _ _
              refine x_iret ?_
              exact kY ⟨⟨⟨by omega, by omega⟩, ⟨by omega, by omega⟩, by omega, ⟨by omega, by omega⟩⟩, hy⟩
            · show wp PP _ _ _ _ [vI _] _ _
              refine x_iret ?_
              exact kN (fun q => hy q.2)
          · refine x_fall ?_
            refine x_ci ?_
            refine x_iret ?_
            exact kN (fun q => by omega)
end PR7
