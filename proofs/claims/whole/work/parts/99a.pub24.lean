/-! TIED -/
section PB6
variable {d tp : Nat} {h0 : pheap} {s : St} {Q : Option pv → pheap → Prop} {L : Int} {n zqq K N : Nat} {c c' : Int → Int}
abbrev TDS : Type := Int × Nat × (Int → Int)
/-- all but three let go, one by one -/
def tdS (x1 x2 x3 : Int) (Y : TDS) : Nat → TDS
  | 0 => Y
  | j + 1 => if ((j : Int) ≠ x1 ∧ (j : Int) ≠ x2 ∧ (j : Int) ≠ x3) ∧ bt (tdS x1 x2 x3 Y j).1 j = 1 then (clr (tdS x1 x2 x3 Y j).1 j, rk (tdS x1 x2 x3 Y j).1 (tdS x1 x2 x3 Y j).2.2 (cntN (tdS x1 x2 x3 Y j).1 j) (tdS x1 x2 x3 Y j).2.1, rc (tdS x1 x2 x3 Y j).1 (tdS x1 x2 x3 Y j).2.2 (cntN (tdS x1 x2 x3 Y j).1 j) (tdS x1 x2 x3 Y j).2.1) else tdS x1 x2 x3 Y j
abbrev tdP (L x1 x2 x3 : Int) : Prop := (x1 ≠ x2 ∧ x1 ≠ x3 ∧ x2 ≠ x3) ∧ (0 ≤ x1 ∧ x1 < 6 ∧ bt L x1 = 1) ∧ (0 ≤ x2 ∧ x2 < 6 ∧ bt L x2 = 1) ∧ (0 ≤ x3 ∧ x3 < 6 ∧ bt L x3 = 1)
abbrev tdB (L : Int) (n : Nat) (c : Int → Int) (x1 x2 x3 : Int) : Prop := wB L c n (6 * x1 + x2) = 0 ∧ wB L c n (6 * x1 + x3) = 0 ∧ wB L c n (6 * x2 + x3) = 0
abbrev tdQ (L : Int) (n : Nat) (c : Int → Int) (x1 x2 x3 : Int) : Prop := tdB L n c x1 x2 x3 ∧ ¬ lsP (tdS x1 x2 x3 (L, n, c) 6).2.2 (tdS x1 x2 x3 (L, n, c) 6).2.1
theorem tdS_y {x1 x2 x3 : Int} {Y : TDS} {j : Nat} (h : ((j : Int) ≠ x1 ∧ (j : Int) ≠ x2 ∧ (j : Int) ≠ x3) ∧ bt (tdS x1 x2 x3 Y j).1 j = 1) : tdS x1 x2 x3 Y (j + 1) = (clr (tdS x1 x2 x3 Y j).1 j, rk (tdS x1 x2 x3 Y j).1 (tdS x1 x2 x3 Y j).2.2 (cntN (tdS x1 x2 x3 Y j).1 j) (tdS x1 x2 x3 Y j).2.1, rc (tdS x1 x2 x3 Y j).1 (tdS x1 x2 x3 Y j).2.2 (cntN (tdS x1 x2 x3 Y j).1 j) (tdS x1 x2 x3 Y j).2.1) := if_pos h
theorem tdS_n {x1 x2 x3 : Int} {Y : TDS} {j : Nat} (h : ¬ (((j : Int) ≠ x1 ∧ (j : Int) ≠ x2 ∧ (j : Int) ≠ x3) ∧ bt (tdS x1 x2 x3 Y j).1 j = 1)) : tdS x1 x2 x3 Y (j + 1) = tdS x1 x2 x3 Y j := if_neg h
theorem m_tied (hd : 15 ≤ d) (hp : PL 54 L n c s) {x1 x2 x3 : Int} (hx1 : iR x1) (hx2 : iR x2) (hx3 : iR x3) (kY : tdP L x1 x2 x3 → ∀ tqq, lkC tp s tqq → Q (some (vI (bI (tdQ L n c x1 x2 x3)))) (HP h0 tqq)) (kN : ¬ tdP L x1 x2 x3 → Q (some (vI (-1))) (HP h0 s)) : wpM PP d 30 [vR 32, vI x1, vI x2, vI x3] (HP h0 s) Q := by
  have hn := hp.hn
  have LL : (htd : tdP L x1 x2 x3) → (hbd : tdB L n c x1 x2 x3) → ∀ uqq : St, PL 64 L n c uqq → (∀ b : Nat, (b < 64 ∨ 67 < b) → ∀ r, uqq b r = s b r) → wp PP d mb30 (mb30.getD 5 []) [some (vR 32), some (vI x1), some (vI x2), some (vI x3), some (vR 54), some (vI 0)] [] (HP h0 uqq) Q := by
    intro htd hbd u0qq h1 h2
    have L1 : ∀ M : Nat, ∀ (j : Nat) (jj : Int) (tqq : St), (jj = j) → (M = 6 - j ∧ j ≤ 6) → (PL 64 (tdS x1 x2 x3 (L, n, c) j).1 (tdS x1 x2 x3 (L, n, c) j).2.1 (tdS x1 x2 x3 (L, n, c) j).2.2 tqq) → (∀ b : Nat, (b < 64 ∨ 67 < b) → ∀ r, tqq b r = s b r) →  wp PP d mb30 (mb30.getD 5 []) [some (vR 32), some (vI x1), some (vI x2), some (vI x3), some (vR 54), some (vI jj)] [] (HP h0 tqq) Q := by
      refine s_ind (fun M ih => ?_)
      intro j jj tqq hjj hM g1 g2
      subst hjj
      have btR := bt_R (tdS x1 x2 x3 (L, n, c) j).1 j
      refine x_iload rfl ?_
      refine x_ci ?_
      refine n_icmp_ge ⟨by omega, by omega⟩ ⟨by omega, by omega⟩ (fun c1 => ?_) (fun c1 => ?_)
      · refine x_aload rfl ?_
        refine h_getR sc_32 rfl (by omega) ?_
        refine x_aload rfl ?_
        refine h_getR sc_32 rfl (by omega) ?_
        refine h_getR sc_63 rfl (by omega) ?_
        refine n_call [vR _, vR _] [] (by omega) (Nat.le_of_ble_eq_true rfl) rfl rfl (Nat.le_of_ble_eq_true rfl) ?_
        have e6 : j = 6 := by omega
        subst e6
        refine m_straightens co_90 pl_64 (by omega) (by omega) g1 (fun i hi => wR_B60 (by have := g1.hn; omega) (fun q q0 q1 => g1.v.ten q q0 (by omega))) (fun vqq v1qq v2qq => ?_)
        show wp PP _ _ _ [some (vR _), some (vI _), some (vI _), some (vI _), some (vR _), some (vI _)] [vI _] _ _
        refine z_if_ne (fun c2 => ?_) (fun c2 => ?_)
        · refine x_ci ?_
          refine x_fall ?_
          refine n_call [vI _] [] (by omega) (Nat.le_of_ble_eq_true rfl) rfl rfl (Nat.le_of_ble_eq_true rfl) ?_
          refine m_bit (by first | exact bI_01 _ | omega) ?_
          show wp PP _ _ _ [some (vR _), some (vI _), some (vI _), some (vI _), some (vR _), some (vI _)] [vI _] _ _
          refine x_iret ?_
          first
            | exact cB1 (kY htd vqq (fun b r q1 q2 q3 q4 => (v2qq b (by omega) r).trans (g2 b (by omega) r))) ⟨hbd, by assumption⟩
            | exact cB0 (kY htd vqq (fun b r q1 q2 q3 q4 => (v2qq b (by omega) r).trans (g2 b (by omega) r))) (fun q => q.2 (by assumption))
        · refine x_ci ?_
          refine x_goto ?_
          refine n_call [vI _] [] (by omega) (Nat.le_of_ble_eq_true rfl) rfl rfl (Nat.le_of_ble_eq_true rfl) ?_
          refine m_bit (by first | exact bI_01 _ | omega) ?_
          show wp PP _ _ _ [some (vR _), some (vI _), some (vI _), some (vI _), some (vR _), some (vI _)] [vI _] _ _
          refine x_iret ?_
          first
            | exact cB1 (kY htd vqq (fun b r q1 q2 q3 q4 => (v2qq b (by omega) r).trans (g2 b (by omega) r))) ⟨hbd, by assumption⟩
            | exact cB0 (kY htd vqq (fun b r q1 q2 q3 q4 => (v2qq b (by omega) r).trans (g2 b (by omega) r))) (fun q => q.2 (by assumption))
      · refine x_iload rfl ?_
        refine x_iload rfl ?_
        refine n_icmp_eq ⟨by omega, by omega⟩ ⟨by omega, by omega⟩ (fun c2 => ?_) (fun c2 => ?_)
        · refine n_iinc [some (vR _), some (vI _), some (vI _), some (vI _), some (vR _), some (vI _)] rfl rfl ?_
          refine x_goto ?_
          refine ih (6 - (j + 1)) (by omega) (j + 1) _ tqq (by omega) (by omega) ?_ g2
          rw [tdS_n (by omega)]
          exact g1
        · refine x_iload rfl ?_
          refine x_iload rfl ?_
          refine n_icmp_eq ⟨by omega, by omega⟩ ⟨by omega, by omega⟩ (fun c3 => ?_) (fun c3 => ?_)
          · refine n_iinc [some (vR _), some (vI _), some (vI _), some (vI _), some (vR _), some (vI _)] rfl rfl ?_
            refine x_goto ?_
            refine ih (6 - (j + 1)) (by omega) (j + 1) _ tqq (by omega) (by omega) ?_ g2
            rw [tdS_n (by omega)]
            exact g1
          · refine x_iload rfl ?_
            refine x_iload rfl ?_
            refine n_icmp_eq ⟨by omega, by omega⟩ ⟨by omega, by omega⟩ (fun c4 => ?_) (fun c4 => ?_)
            · refine n_iinc [some (vR _), some (vI _), some (vI _), some (vI _), some (vR _), some (vI _)] rfl rfl ?_
              refine x_goto ?_
              refine ih (6 - (j + 1)) (by omega) (j + 1) _ tqq (by omega) (by omega) ?_ g2
              rw [tdS_n (by omega)]
              exact g1
            · refine x_aload rfl ?_
              refine h_getR sc_32 rfl (by omega) ?_
              refine h_getR sc_63 rfl (by omega) ?_
              refine x_iload rfl ?_
              refine n_call [vR _, vI _] [] (by omega) (Nat.le_of_ble_eq_true rfl) rfl rfl (Nat.le_of_ble_eq_true rfl) ?_
              refine m_isLeft pl_64 (by rw [g1.left]; exact g1.hL) ⟨by omega, by omega⟩ ?_
              rw [g1.left]
              show wp PP _ _ _ [some (vR _), some (vI _), some (vI _), some (vI _), some (vR _), some (vI _)] [vI _] _ _
              refine z_if_eq (fun c5 => ?_) (fun c5 => ?_)
              · refine n_iinc [some (vR _), some (vI _), some (vI _), some (vI _), some (vR _), some (vI _)] rfl rfl ?_
                refine x_goto ?_
                refine ih (6 - (j + 1)) (by omega) (j + 1) _ tqq (by omega) (by omega) ?_ g2
                rw [tdS_n (by omega)]
                exact g1
              · refine x_aload rfl ?_
                refine h_getR sc_32 rfl (by omega) ?_
                refine h_getR sc_63 rfl (by omega) ?_
                refine x_iload rfl ?_
                refine n_call [vR _, vI _] [] (by omega) (Nat.le_of_ble_eq_true rfl) rfl rfl (Nat.le_of_ble_eq_true rfl) ?_
                refine m_release pl_64 (by omega) g1 (x := (j : Int)) (by omega) (fun uqq u1qq u2qq => ?_)
                rw [show ((j : Nat) : Int).toNat = j by omega] at u1qq
                show wp PP _ _ _ [some (vR _), some (vI _), some (vI _), some (vI _), some (vR _), some (vI _)] [] _ _
                refine x_fall ?_
                refine n_iinc [some (vR _), some (vI _), some (vI _), some (vI _), some (vR _), some (vI _)] rfl rfl ?_
                refine x_goto ?_
                refine ih (6 - (j + 1)) (by omega) (j + 1) _ uqq (by omega) (by omega) ?_ (fun b q r => (u2qq b (by omega) r).trans (g2 b q r))
                rw [tdS_y (by omega)]
                exact u1qq
    exact L1 6 0 0 u0qq rfl (by omega) h1 h2
  refine n_at (m := 30) (q := mr30) (kn := (0, 4)) [some (vR _), some (vI _), some (vI _), some (vI _), none, none] mb30 rfl rfl (h_rcv sc_32) (Nat.le_of_ble_eq_true rfl) rfl rfl ?_
  refine x_aload rfl ?_
  refine h_getR sc_32 rfl (by omega) ?_
  refine h_getR sc_53 rfl (by omega) ?_
  refine n_astore [some (vR _), some (vI _), some (vI _), some (vI _), some (vR _), _] (Nat.le_of_ble_eq_true rfl) rfl ?_
  refine x_iload rfl ?_
  refine x_iload rfl ?_
  refine n_icmp_eq ⟨by omega, by omega⟩ ⟨by omega, by omega⟩ (fun c1 => ?_) (fun c1 => ?_)
  · refine x_ci ?_
    refine x_iret ?_
    first
      | exact kN (fun q => by omega)
      | exact cB0 (kY (by omega) s lkC_rfl) (fun q => by have := q.1; omega)
  · refine x_iload rfl ?_
    refine x_iload rfl ?_
    refine n_icmp_eq ⟨by omega, by omega⟩ ⟨by omega, by omega⟩ (fun c2 => ?_) (fun c2 => ?_)
    · refine x_ci ?_
      refine x_iret ?_
      first
        | exact kN (fun q => by omega)
        | exact cB0 (kY (by omega) s lkC_rfl) (fun q => by have := q.1; omega)
    · refine x_iload rfl ?_
      refine x_iload rfl ?_
      refine n_icmp_eq ⟨by omega, by omega⟩ ⟨by omega, by omega⟩ (fun c3 => ?_) (fun c3 => ?_)
      · refine x_ci ?_
        refine x_iret ?_
        first
          | exact kN (fun q => by omega)
          | exact cB0 (kY (by omega) s lkC_rfl) (fun q => by have := q.1; omega)
      · refine x_aload rfl ?_
        refine x_iload rfl ?_
        refine n_call [vR _, vI _] [] (by omega) (Nat.le_of_ble_eq_true rfl) rfl rfl (Nat.le_of_ble_eq_true rfl) ?_
        refine m_isLeft pl_54 (by rw [hp.left]; exact hp.hL) ⟨by omega, by omega⟩ ?_
        rw [hp.left]
        show wp PP _ _ _ [some (vR _), some (vI _), some (vI _), some (vI _), some (vR _), _] [vI _] _ _
        refine z_if_eq (fun c4 => ?_) (fun c4 => ?_)
        · refine x_ci ?_
          refine x_iret ?_
          first
            | exact kN (fun q => by omega)
            | exact cB0 (kY (by omega) s lkC_rfl) (fun q => by have := q.1; omega)
        · refine x_aload rfl ?_
          refine x_iload rfl ?_
          refine n_call [vR _, vI _] [] (by omega) (Nat.le_of_ble_eq_true rfl) rfl rfl (Nat.le_of_ble_eq_true rfl) ?_
          refine m_isLeft pl_54 (by rw [hp.left]; exact hp.hL) ⟨by omega, by omega⟩ ?_
          rw [hp.left]
          show wp PP _ _ _ [some (vR _), some (vI _), some (vI _), some (vI _), some (vR _), _] [vI _] _ _
          refine z_if_eq (fun c5 => ?_) (fun c5 => ?_)
          · refine x_ci ?_
            refine x_iret ?_
            first
              | exact kN (fun q => by omega)
              | exact cB0 (kY (by omega) s lkC_rfl) (fun q => by have := q.1; omega)
          · refine x_aload rfl ?_
            refine x_iload rfl ?_
            refine n_call [vR _, vI _] [] (by omega) (Nat.le_of_ble_eq_true rfl) rfl rfl (Nat.le_of_ble_eq_true rfl) ?_
            refine m_isLeft pl_54 (by rw [hp.left]; exact hp.hL) ⟨by omega, by omega⟩ ?_
            rw [hp.left]
            show wp PP _ _ _ [some (vR _), some (vI _), some (vI _), some (vI _), some (vR _), _] [vI _] _ _
            refine z_if_ne (fun c6 => ?_) (fun c6 => ?_)
            · refine x_aload rfl ?_
              refine x_iload rfl ?_
              refine x_iload rfl ?_
              refine n_call [vR _, vI _, vI _] [] (by omega) (Nat.le_of_ble_eq_true rfl) rfl rfl (Nat.le_of_ble_eq_true rfl) ?_
              have wr1 := wB_R (L := L) (c := c) n (6 * x1 + x2)
              refine m_bondOf (x := x1) (y := x2) pl_54 (by omega) (by rw [hp.left]; exact hp.hL) (by rw [hp.left]; omega) (by rw [hp.left]; omega) ?_
              rw [hp.bond (j := 6 * x1 + x2) (by omega) (by omega)]
              show wp PP _ _ _ [some (vR _), some (vI _), some (vI _), some (vI _), some (vR _), _] [vI _] _ _
              refine n_if_ne ⟨by omega, by omega⟩ (fun c7 => ?_) (fun c7 => ?_)
              · refine x_ci ?_
                refine x_iret ?_
                first
                  | exact kN (fun q => by omega)
                  | exact cB0 (kY (by omega) s lkC_rfl) (fun q => by have := q.1; omega)
              · refine x_aload rfl ?_
                refine x_iload rfl ?_
                refine x_iload rfl ?_
                refine n_call [vR _, vI _, vI _] [] (by omega) (Nat.le_of_ble_eq_true rfl) rfl rfl (Nat.le_of_ble_eq_true rfl) ?_
                have wr2 := wB_R (L := L) (c := c) n (6 * x1 + x3)
                refine m_bondOf (x := x1) (y := x3) pl_54 (by omega) (by rw [hp.left]; exact hp.hL) (by rw [hp.left]; omega) (by rw [hp.left]; omega) ?_
                rw [hp.bond (j := 6 * x1 + x3) (by omega) (by omega)]
                show wp PP _ _ _ [some (vR _), some (vI _), some (vI _), some (vI _), some (vR _), _] [vI _] _ _
                refine n_if_ne ⟨by omega, by omega⟩ (fun c8 => ?_) (fun c8 => ?_)
                · refine x_ci ?_
                  refine x_iret ?_
                  first
                    | exact kN (fun q => by omega)
                    | exact cB0 (kY (by omega) s lkC_rfl) (fun q => by have := q.1; omega)
                · refine x_aload rfl ?_
                  refine x_iload rfl ?_
                  refine x_iload rfl ?_
                  refine n_call [vR _, vI _, vI _] [] (by omega) (Nat.le_of_ble_eq_true rfl) rfl rfl (Nat.le_of_ble_eq_true rfl) ?_
                  have wr3 := wB_R (L := L) (c := c) n (6 * x2 + x3)
                  refine m_bondOf (x := x2) (y := x3) pl_54 (by omega) (by rw [hp.left]; exact hp.hL) (by rw [hp.left]; omega) (by rw [hp.left]; omega) ?_
                  rw [hp.bond (j := 6 * x2 + x3) (by omega) (by omega)]
                  show wp PP _ _ _ [some (vR _), some (vI _), some (vI _), some (vI _), some (vR _), _] [vI _] _ _
                  refine n_if_eq ⟨by omega, by omega⟩ (fun c9 => ?_) (fun c9 => ?_)
                  · refine x_aload rfl ?_
                    refine h_getR sc_32 rfl (by omega) ?_
                    refine h_getR sc_63 rfl (by omega) ?_
                    refine x_aload rfl ?_
                    refine n_call [vR _, vR _] [] (by omega) (Nat.le_of_ble_eq_true rfl) rfl rfl (Nat.le_of_ble_eq_true rfl) ?_
                    refine m_takeFrom pl_64 pl_54 (by omega) (by omega) hp (fun uqq u1qq u2qq => ?_)
                    show wp PP _ _ _ [some (vR _), some (vI _), some (vI _), some (vI _), some (vR _), _] [] _ _
                    refine x_ci ?_
                    refine n_istore [some (vR _), some (vI _), some (vI _), some (vI _), some (vR _), some (vI _)] (Nat.le_of_ble_eq_true rfl) rfl ?_
                    refine x_fall ?_
                    exact LL (by omega) ⟨by omega, by omega, by omega⟩ uqq u1qq (fun b q r => u2qq b (by omega) r)
                  · refine x_fall ?_
                    refine x_ci ?_
                    refine x_iret ?_
                    first
                      | exact kN (fun q => by omega)
                      | exact cB0 (kY (by omega) s lkC_rfl) (fun q => by have := q.1; omega)
            · refine x_fall ?_
              refine x_ci ?_
              refine x_iret ?_
              first
                | exact kN (fun q => by omega)
                | exact cB0 (kY (by omega) s lkC_rfl) (fun q => by have := q.1; omega)
end PB6
