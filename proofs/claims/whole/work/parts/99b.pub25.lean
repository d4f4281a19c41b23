/-! TIED of the reference -/
section PB7
variable {d tp : Nat} {h0 : pheap} {s : St} {Q : Option pv → pheap → Prop} {L : Int} {n zqq K N : Nat} {c c' : Int → Int}
theorem r_tied (hd : 14 ≤ d) (hr0 : RD 0 L n c s) {D : Int} (h1 : s 96 0 = D) (hD6 : 0 ≤ D ∧ D ≤ 6) (hlD : lD L D) {x1 x2 x3 : Int} (hx1 : iR x1) (hx2 : iR x2) (hx3 : iR x3) (kY : tdP L x1 x2 x3 → ∀ tqq, lkN s tqq → Q (some (vI (bI (tdQ L n c x1 x2 x3)))) (HP h0 tqq)) (kN : ¬ tdP L x1 x2 x3 → Q (some (vI (-1))) (HP h0 (up s 94 0 0))) : wpM PP d 164 [vR 94, vI x1, vI x2, vI x3] (HP h0 s) Q := by
  obtain ⟨hL, hn, hv, r1, r2, r3⟩ := hr0
  have hr0 : RD 0 L n c s := ⟨hL, hn, hv, r1, r2, r3⟩
  have hct := cnt_R L
  have LL : (htd : tdP L x1 x2 x3) → (hbd : tdB L n c x1 x2 x3) → ∀ uqq : St, RD 1 L n c uqq → (∀ (b : Nat) (r : Int), ¬ (114 ≤ b ∧ b ≤ 117) → ¬ (b = 94 ∧ r = 0) → ¬ (106 ≤ b ∧ b ≤ 112 ∧ r = 1) → ¬ (b = 113 ∧ 48 ≤ r ∧ r < 96) → uqq b r = s b r) → wp PP d mb164 (mb164.getD 5 []) [some (vR 94), some (vI x1), some (vI x2), some (vI x3), some (vI 0)] [] (HP h0 uqq) Q := by
    intro htd hbd u0qq h1 h2
    have L1 : ∀ M : Nat, ∀ (j : Nat) (jj : Int) (tqq : St), (jj = j) → (M = 6 - j ∧ j ≤ 6) → (RD 1 (tdS x1 x2 x3 (L, n, c) j).1 (tdS x1 x2 x3 (L, n, c) j).2.1 (tdS x1 x2 x3 (L, n, c) j).2.2 tqq) → ((∀ (b : Nat) (r : Int), ¬ (114 ≤ b ∧ b ≤ 117) → ¬ (b = 94 ∧ r = 0) → ¬ (106 ≤ b ∧ b ≤ 112 ∧ r = 1) → ¬ (b = 113 ∧ 48 ≤ r ∧ r < 96) → tqq b r = s b r)) →  wp PP d mb164 (mb164.getD 5 []) [some (vR 94), some (vI x1), some (vI x2), some (vI x3), some (vI jj)] [] (HP h0 tqq) Q := by
      refine s_ind (fun M ih => ?_)
      intro j jj tqq hjj hM g1 g2
      subst hjj
      have btR := bt_R (tdS x1 x2 x3 (L, n, c) j).1 j
      refine x_iload rfl ?_
      refine x_ci ?_
      refine n_icmp_ge ⟨by omega, by omega⟩ ⟨by omega, by omega⟩ (fun c1 => ?_) (fun c1 => ?_)
      · refine x_aload rfl ?_
        refine x_ci ?_
        refine n_call [vR _, vI _] [] (by omega) (Nat.le_of_ble_eq_true rfl) rfl rfl (Nat.le_of_ble_eq_true rfl) ?_
        have e6 : j = 6 := by omega
        subst e6
        refine r_isLooseNow (g := 1) (by omega) (by omega) g1 (fun vqq v1qq => ?_)
        show wp PP _ _ _ [some (vR _), some (vI _), some (vI _), some (vI _), some (vI _)] [vI _] _ _
        refine z_if_eq (fun c2 => ?_) (fun c2 => ?_)
        · refine x_ci ?_
          refine x_fall ?_
          refine x_iret ?_
          first
            | exact cB1 (kY htd vqq (fun b r q1 q2 q3 q4 q5 q6 q7 => by rw [v1qq b r (by omega) (by omega) (by omega) (by omega)]; exact g2 b r (by omega) (by omega) (by omega) (by omega))) ⟨hbd, by assumption⟩
            | exact cB0 (kY htd vqq (fun b r q1 q2 q3 q4 q5 q6 q7 => by rw [v1qq b r (by omega) (by omega) (by omega) (by omega)]; exact g2 b r (by omega) (by omega) (by omega) (by omega))) (fun q => q.2 (by assumption))
        · refine x_ci ?_
          refine x_goto ?_
          refine x_iret ?_
          first
            | exact cB1 (kY htd vqq (fun b r q1 q2 q3 q4 q5 q6 q7 => by rw [v1qq b r (by omega) (by omega) (by omega) (by omega)]; exact g2 b r (by omega) (by omega) (by omega) (by omega))) ⟨hbd, by assumption⟩
            | exact cB0 (kY htd vqq (fun b r q1 q2 q3 q4 q5 q6 q7 => by rw [v1qq b r (by omega) (by omega) (by omega) (by omega)]; exact g2 b r (by omega) (by omega) (by omega) (by omega))) (fun q => q.2 (by assumption))
      · refine x_aload rfl ?_
        refine x_ci ?_
        refine x_iload rfl ?_
        refine n_call [vR _, vI _, vI _] [] (by omega) (Nat.le_of_ble_eq_true rfl) rfl rfl (Nat.le_of_ble_eq_true rfl) ?_
        refine r_isLeft (f := 1) (by omega) (by rw [g1.2.2.2.1]; exact g1.1) (by omega) ?_
        rw [g1.2.2.2.1]
        show wp PP _ _ _ [some (vR _), some (vI _), some (vI _), some (vI _), some (vI _)] [vI _] _ _
        refine z_if_eq (fun c2 => ?_) (fun c2 => ?_)
        · refine n_iinc [some (vR _), some (vI _), some (vI _), some (vI _), some (vI _)] rfl rfl ?_
          refine x_goto ?_
          refine ih (6 - (j + 1)) (by omega) (j + 1) _ tqq (by omega) (by omega) ?_ g2
          rw [tdS_n (by omega)]
          exact g1
        · refine x_iload rfl ?_
          refine x_iload rfl ?_
          refine n_icmp_eq ⟨by omega, by omega⟩ ⟨by omega, by omega⟩ (fun c3 => ?_) (fun c3 => ?_)
          · refine n_iinc [some (vR _), some (vI _), some (vI _), some (vI _), some (vI _)] rfl rfl ?_
            refine x_goto ?_
            refine ih (6 - (j + 1)) (by omega) (j + 1) _ tqq (by omega) (by omega) ?_ g2
            rw [tdS_n (by omega)]
            exact g1
          · refine x_iload rfl ?_
            refine x_iload rfl ?_
            refine n_icmp_eq ⟨by omega, by omega⟩ ⟨by omega, by omega⟩ (fun c4 => ?_) (fun c4 => ?_)
            · refine n_iinc [some (vR _), some (vI _), some (vI _), some (vI _), some (vI _)] rfl rfl ?_
              refine x_goto ?_
              refine ih (6 - (j + 1)) (by omega) (j + 1) _ tqq (by omega) (by omega) ?_ g2
              rw [tdS_n (by omega)]
              exact g1
            · refine x_iload rfl ?_
              refine x_iload rfl ?_
              refine n_icmp_eq ⟨by omega, by omega⟩ ⟨by omega, by omega⟩ (fun c5 => ?_) (fun c5 => ?_)
              · refine n_iinc [some (vR _), some (vI _), some (vI _), some (vI _), some (vI _)] rfl rfl ?_
                refine x_goto ?_
                refine ih (6 - (j + 1)) (by omega) (j + 1) _ tqq (by omega) (by omega) ?_ g2
                rw [tdS_n (by omega)]
                exact g1
              · refine x_aload rfl ?_
                refine x_ci ?_
                refine x_iload rfl ?_
                refine n_call [vR _, vI _, vI _] [] (by omega) (Nat.le_of_ble_eq_true rfl) rfl rfl (Nat.le_of_ble_eq_true rfl) ?_
                refine r_letsGo2 (f := 1) (by omega) (by omega) g1 (x := (j : Int)) (by omega) (fun uqq u1qq u2qq => ?_)
                rw [show ((j : Nat) : Int).toNat = j by omega] at u1qq
                show wp PP _ _ _ [some (vR _), some (vI _), some (vI _), some (vI _), some (vI _)] [] _ _
                refine x_fall ?_
                refine n_iinc [some (vR _), some (vI _), some (vI _), some (vI _), some (vI _)] rfl rfl ?_
                refine x_goto ?_
                refine ih (6 - (j + 1)) (by omega) (j + 1) _ uqq (by omega) (by omega) ?_ (fun b r q1 q2 q3 q4 => (u2qq b r (by omega) (by omega) (by omega)).trans (g2 b r q1 q2 q3 q4))
                rw [tdS_y (by omega)]
                exact u1qq
    exact L1 6 0 0 u0qq rfl (by omega) h1 h2
  refine n_at (m := 164) (q := mr164) (kn := (0, 4)) [some (vR _), some (vI _), some (vI _), some (vI _), none] mb164 rfl rfl (h_rcv sc_94) (Nat.le_of_ble_eq_true rfl) rfl rfl ?_
  refine x_aload rfl ?_
  refine x_ci ?_
  refine h_putI 0 sc_94 rfl rfl ?_
  refine x_aload rfl ?_
  refine x_iload rfl ?_
  refine n_call [vR _, vI _] [] (by omega) (Nat.le_of_ble_eq_true rfl) rfl rfl (Nat.le_of_ble_eq_true rfl) ?_
  refine r_isLeftNow (L := L) (by omega) ((up_a (by decide)).trans h1) hD6 hlD ((up_a (by decide)).trans r1) hL ⟨by omega, by omega⟩ ?_
  show wp PP _ _ _ [some (vR _), some (vI _), some (vI _), some (vI _), _] [vI _] _ _
  refine z_if_eq (fun c1 => ?_) (fun c1 => ?_)
  · refine x_ci ?_
    refine x_iret ?_
    first
      | exact kN (fun q => by omega)
      | exact cB0 (kY (by omega) tqq (fun b r q1 q2 q3 q4 q5 q6 q7 => g b r (by omega) (by omega))) (fun q => by have := q.1; omega)
  · refine x_aload rfl ?_
    refine x_iload rfl ?_
    refine n_call [vR _, vI _] [] (by omega) (Nat.le_of_ble_eq_true rfl) rfl rfl (Nat.le_of_ble_eq_true rfl) ?_
    refine r_isLeftNow (L := L) (by omega) ((up_a (by decide)).trans h1) hD6 hlD ((up_a (by decide)).trans r1) hL ⟨by omega, by omega⟩ ?_
    show wp PP _ _ _ [some (vR _), some (vI _), some (vI _), some (vI _), _] [vI _] _ _
    refine z_if_eq (fun c2 => ?_) (fun c2 => ?_)
    · refine x_ci ?_
      refine x_iret ?_
      first
        | exact kN (fun q => by omega)
        | exact cB0 (kY (by omega) tqq (fun b r q1 q2 q3 q4 q5 q6 q7 => g b r (by omega) (by omega))) (fun q => by have := q.1; omega)
    · refine x_aload rfl ?_
      refine x_iload rfl ?_
      refine n_call [vR _, vI _] [] (by omega) (Nat.le_of_ble_eq_true rfl) rfl rfl (Nat.le_of_ble_eq_true rfl) ?_
      refine r_isLeftNow (L := L) (by omega) ((up_a (by decide)).trans h1) hD6 hlD ((up_a (by decide)).trans r1) hL ⟨by omega, by omega⟩ ?_
      show wp PP _ _ _ [some (vR _), some (vI _), some (vI _), some (vI _), _] [vI _] _ _
      refine z_if_eq (fun c3 => ?_) (fun c3 => ?_)
      · refine x_ci ?_
        refine x_iret ?_
        first
          | exact kN (fun q => by omega)
          | exact cB0 (kY (by omega) tqq (fun b r q1 q2 q3 q4 q5 q6 q7 => g b r (by omega) (by omega))) (fun q => by have := q.1; omega)
      · refine x_iload rfl ?_
        refine x_iload rfl ?_
        refine n_icmp_eq ⟨by omega, by omega⟩ ⟨by omega, by omega⟩ (fun c4 => ?_) (fun c4 => ?_)
        · refine x_ci ?_
          refine x_iret ?_
          first
            | exact kN (fun q => by omega)
            | exact cB0 (kY (by omega) tqq (fun b r q1 q2 q3 q4 q5 q6 q7 => g b r (by omega) (by omega))) (fun q => by have := q.1; omega)
        · refine x_iload rfl ?_
          refine x_iload rfl ?_
          refine n_icmp_eq ⟨by omega, by omega⟩ ⟨by omega, by omega⟩ (fun c5 => ?_) (fun c5 => ?_)
          · refine x_ci ?_
            refine x_iret ?_
            first
              | exact kN (fun q => by omega)
              | exact cB0 (kY (by omega) tqq (fun b r q1 q2 q3 q4 q5 q6 q7 => g b r (by omega) (by omega))) (fun q => by have := q.1; omega)
          · refine x_iload rfl ?_
            refine x_iload rfl ?_
            refine n_icmp_ne ⟨by omega, by omega⟩ ⟨by omega, by omega⟩ (fun c6 => ?_) (fun c6 => ?_)
            · refine x_aload rfl ?_
              refine x_ci ?_
              refine n_call [vR _, vI _] [] (by omega) (Nat.le_of_ble_eq_true rfl) rfl rfl (Nat.le_of_ble_eq_true rfl) ?_
              refine r_standsAll (f := 0) (by omega) (by omega) (RD.up hr0 (by decide)) (fun tqq t1qq t2qq => ?_)
              have g : ∀ (b : Nat) (r : Int), ¬ (114 ≤ b ∧ b ≤ 117) → ¬ (b = 94 ∧ r = 0) → tqq b r = s b r := fun b r q1 q2 => by
                rw [t2qq b (by omega) r, up_f (by omega)]
              have hr1 : RD 0 L n c tqq := ⟨hL, hn, hv, (g 111 0 (by omega) (by omega)).trans r1, (g 112 0 (by omega) (by omega)).trans r2, fun i i0 i1 => (g 113 _ (by omega) (by omega)).trans (r3 i i0 i1)⟩
              show wp PP _ _ _ [some (vR _), some (vI _), some (vI _), some (vI _), _] [] _ _
              refine x_aload rfl ?_
              refine h_getR sc_94 rfl (by omega) ?_
              refine x_ci ?_
              refine x_iload rfl ?_
              refine x_imul ?_
              refine x_iload rfl ?_
              refine x_iadd ?_
              refine h_iald sc_115 ⟨by omega, by omega⟩ (by decide) ?_
              have wr := wB_R (L := L) (c := c) n (6 * x1 + x2)
              rw [t1qq.2.1 _ (by omega) (by omega)]
              refine n_if_ne ⟨by omega, by omega⟩ (fun c7 => ?_) (fun c7 => ?_)
              · refine x_ci ?_
                refine x_iret ?_
                first
                  | exact kN (fun q => by omega)
                  | exact cB0 (kY (by omega) tqq (fun b r q1 q2 q3 q4 q5 q6 q7 => g b r (by omega) (by omega))) (fun q => by have := q.1; omega)
              · refine x_aload rfl ?_
                refine h_getR sc_94 rfl (by omega) ?_
                refine x_ci ?_
                refine x_iload rfl ?_
                refine x_imul ?_
                refine x_iload rfl ?_
                refine x_iadd ?_
                refine h_iald sc_115 ⟨by omega, by omega⟩ (by decide) ?_
                have wr := wB_R (L := L) (c := c) n (6 * x1 + x3)
                rw [t1qq.2.1 _ (by omega) (by omega)]
                refine n_if_ne ⟨by omega, by omega⟩ (fun c8 => ?_) (fun c8 => ?_)
                · refine x_ci ?_
                  refine x_iret ?_
                  first
                    | exact kN (fun q => by omega)
                    | exact cB0 (kY (by omega) tqq (fun b r q1 q2 q3 q4 q5 q6 q7 => g b r (by omega) (by omega))) (fun q => by have := q.1; omega)
                · refine x_aload rfl ?_
                  refine h_getR sc_94 rfl (by omega) ?_
                  refine x_ci ?_
                  refine x_iload rfl ?_
                  refine x_imul ?_
                  refine x_iload rfl ?_
                  refine x_iadd ?_
                  refine h_iald sc_115 ⟨by omega, by omega⟩ (by decide) ?_
                  have wr := wB_R (L := L) (c := c) n (6 * x2 + x3)
                  rw [t1qq.2.1 _ (by omega) (by omega)]
                  refine n_if_eq ⟨by omega, by omega⟩ (fun c9 => ?_) (fun c9 => ?_)
                  · refine x_aload rfl ?_
                    refine x_ci ?_
                    refine x_ci ?_
                    refine n_call [vR _, vI _, vI _] [] (by omega) (Nat.le_of_ble_eq_true rfl) rfl rfl (Nat.le_of_ble_eq_true rfl) ?_
                    refine r_copies (to := 1) (as := 0) (n := n) (by omega) (by omega) (by omega) ((g 112 0 (by omega) (by omega)).trans r2) hn (fun uqq u1qq => ?_)
                    show wp PP _ _ _ [some (vR _), some (vI _), some (vI _), some (vI _), _] [] _ _
                    refine x_ci ?_
                    refine n_istore [some (vR _), some (vI _), some (vI _), some (vI _), some (vI _)] (Nat.le_of_ble_eq_true rfl) rfl ?_
                    refine x_fall ?_
                    refine LL (by omega) ⟨by omega, by omega, by omega⟩ uqq (u1qq.rd hr1) (fun b r q1 q2 q3 q4 => ?_)
                    rw [u1qq.1 b r q3 (by omega)]
                    exact g b r q1 q2
                  · refine x_fall ?_
                    refine x_ci ?_
                    refine x_iret ?_
                    first
                      | exact kN (fun q => by omega)
                      | exact cB0 (kY (by omega) tqq (fun b r q1 q2 q3 q4 q5 q6 q7 => g b r (by omega) (by omega))) (fun q => by have := q.1; omega)
            · refine x_fall ?_
              refine x_ci ?_
              refine x_iret ?_
              first
                | exact kN (fun q => by omega)
                | exact cB0 (kY (by omega) tqq (fun b r q1 q2 q3 q4 q5 q6 q7 => g b r (by omega) (by omega))) (fun q => by have := q.1; omega)
end PB7
