/-! SEARCH, the reference: danceBack, looseRows -/
section PR4
variable {d : Nat} {h0 : pheap} {s : St} {Q : Option pv → pheap → Prop} {L : Int} {n k N : Nat} {c c' : Int → Int}
theorem lF_k {tqq : St} (h : lF s tqq) : lkN s tqq := fun b r q1 _ _ _ _ _ _ => h b r (by omega) (by omega) (by omega) (by omega) (by omega)
theorem rfr_k {tqq : St} (h : rfr s tqq) : lkN s tqq := lF_k (rfr_lF h)
theorem up0_k {x : Int} : lkN s (up s 94 0 x) := fun b r _ _ _ _ q5 _ _ => up_f (by omega)
theorem r_danceBack (hd : 20 ≤ d) (hr0 : RD 0 L n c s) {wqq : Int} (hw : iR wqq) (kY : 0 ≤ wqq ∧ wqq ≤ 3 → ∀ tqq, lkN s tqq → Q (some (vI (bkA (shF (fun r => sfN (gdB L) (kOf L) r c n) 0 4) wqq))) (HP h0 tqq)) (kN : ¬ (0 ≤ wqq ∧ wqq ≤ 3) → Q (some (vI (-1))) (HP h0 (up s 94 0 0))) : wpM PP d 157 [vR 94, vI wqq] (HP h0 s) Q := by
  have hct := cnt_R L
  obtain ⟨hL, hn, hv, r1, r2, r3⟩ := hr0
  obtain ⟨N, hNL⟩ : ∃ N : Nat, cnt L = N := ⟨(cnt L).toNat, by omega⟩
  have hN : N ≤ 6 := by omega
  have h2 : 2 ≤ N ∨ n = 0 := by
    by_cases e : 2 ≤ N
    · exact Or.inl e
    · exact Or.inr (hv.none (by omega))
  have L1 : ∀ M : Nat, ∀ (j : Nat) (jj : Int) (tqq : St), (jj = j) → (0 ≤ wqq ∧ wqq ≤ 3) → (M = 4 - j ∧ j ≤ 4) → (SB L c n tqq) → (FQ N 0 n (qW N hN c n) tqq) → (tqq 94 41 = N) → (lkN s tqq) → (shF (fun r => sfN (gdB L) (kOf L) r c n) 0 4 = shF (fun r => sfN (gdB L) (kOf L) r c n) j (4 - j)) →  wp PP d mb157 (mb157.getD 3 []) [some (vR 94), some (vI wqq), some (vI jj)] [] (HP h0 tqq) Q := by
    refine s_ind (fun M ih => ?_)
    intro j jj tqq hjj hw3 hM g1 g2 g3 g4 g5
    subst hjj
    refine x_iload rfl ?_
    refine x_ci ?_
    refine n_icmp_gt ⟨by omega, by omega⟩ ⟨by omega, by omega⟩ (fun c1 => ?_) (fun c1 => ?_)
    · refine x_ci ?_
      refine x_iret ?_
      have ej : 4 - j = 0 := by omega
      refine cI (kY (by omega) tqq g4) ?_
      rw [g5, ej]
      rfl
    · refine x_aload rfl ?_
      refine x_ci ?_
      refine x_iload rfl ?_
      refine n_call [vR _, vI _, vI _] [] (by omega) (Nat.le_of_ble_eq_true rfl) rfl rfl (Nat.le_of_ble_eq_true rfl) ?_
      show wpM PP _ _ [vR 94, vI ((0 : Nat) : Int), vI _] _ _
      refine r_loosens (K := kOf L) (qq := qW N hN c n) (c := c) (dep := 0) hL hNL rfl j (by omega) (by omega) hv (by omega) (by omega) g1 rfl g2 (by omega) (fun i hi => by omega) ((g4 111 0 (by omega) (by omega) (by omega) (by omega) (by omega) (by omega) (by omega)).trans r1) g3 (fun w2qq fw uqq u1qq u2qq u3qq => ?_) (fun fn uqq u1qq u2qq u3qq u4qq => ?_)
      · have eb : bkA (shF (fun r => sfN (gdB L) (kOf L) r c n) 0 4) wqq = if wqq = 0 then (j : Int) else if 0 < wqq ∧ wqq ≤ j then ((w2qq.getD (wqq.toNat - 1) 0 : Nat) : Int) else -2 := by
          rw [g5, show 4 - j = (3 - j) + 1 by omega, shF_y (S := (fun r => sfN (gdB L) (kOf L) r c n)) (j := j) fw]
          rfl
        show wp PP _ _ _ _ [vI _] _ _
        refine n_if_eq ⟨by omega, by omega⟩ (fun zqq => by omega) (fun _ => ?_)
        refine x_iload rfl ?_
        refine n_if_ne ⟨by omega, by omega⟩ (fun c2 => ?_) (fun c2 => ?_)
        · refine x_iload rfl ?_
          refine x_iload rfl ?_
          refine n_icmp_gt ⟨by omega, by omega⟩ ⟨by omega, by omega⟩ (fun c3 => ?_) (fun c3 => ?_)
          · refine x_ci ?_
            refine x_fall ?_
            refine x_iret ?_
            first
              | (exfalso; omega)
              | (refine cI (kY (by omega) uqq (lkN_tr g4 (lF_k u3qq))) ?_
                 rw [eb, if_pos (by omega)])
              | (refine cI (kY (by omega) uqq (lkN_tr g4 (lF_k u3qq))) ?_
                 rw [eb, if_neg (by omega), if_neg (by omega)])
              | (refine cI (kY (by omega) uqq (lkN_tr g4 (lF_k u3qq))) ?_
                 have := u1qq (wqq.toNat - 1) (by omega)
                 rw [show ((0 + (wqq.toNat - 1) : Nat) : Int) = wqq - 1 by omega] at this
                 rw [eb, if_neg (by omega), if_pos (by omega), this])
          · refine x_aload rfl ?_
            refine h_getR sc_94 rfl (by omega) ?_
            refine x_iload rfl ?_
            refine x_ci ?_
            refine x_isub ?_
            refine h_iald sc_122 ⟨by omega, by omega⟩ (by decide) ?_
            refine x_goto ?_
            refine x_iret ?_
            first
              | (exfalso; omega)
              | (refine cI (kY (by omega) uqq (lkN_tr g4 (lF_k u3qq))) ?_
                 rw [eb, if_pos (by omega)])
              | (refine cI (kY (by omega) uqq (lkN_tr g4 (lF_k u3qq))) ?_
                 rw [eb, if_neg (by omega), if_neg (by omega)])
              | (refine cI (kY (by omega) uqq (lkN_tr g4 (lF_k u3qq))) ?_
                 have := u1qq (wqq.toNat - 1) (by omega)
                 rw [show ((0 + (wqq.toNat - 1) : Nat) : Int) = wqq - 1 by omega] at this
                 rw [eb, if_neg (by omega), if_pos (by omega), this])
        · refine x_iload rfl ?_
          refine x_goto ?_
          refine x_iret ?_
          first
            | (exfalso; omega)
            | (refine cI (kY (by omega) uqq (lkN_tr g4 (lF_k u3qq))) ?_
               rw [eb, if_pos (by omega)])
            | (refine cI (kY (by omega) uqq (lkN_tr g4 (lF_k u3qq))) ?_
               rw [eb, if_neg (by omega), if_neg (by omega)])
            | (refine cI (kY (by omega) uqq (lkN_tr g4 (lF_k u3qq))) ?_
               have := u1qq (wqq.toNat - 1) (by omega)
               rw [show ((0 + (wqq.toNat - 1) : Nat) : Int) = wqq - 1 by omega] at this
               rw [eb, if_neg (by omega), if_pos (by omega), this])
      · show wp PP _ _ _ _ [vI _] _ _
        refine n_if_eq ⟨by omega, by omega⟩ (fun _ => ?_) (fun zqq => absurd rfl zqq)
        refine n_iinc [some (vR _), some (vI _), some (vI _)] rfl rfl ?_
        refine x_goto ?_
        refine ih (4 - (j + 1)) (by omega) (j + 1) _ uqq (by omega) hw3 (by omega) u1qq u2qq ?_ (lkN_tr g4 (lF_k u4qq)) ?_
        · exact (u4qq 94 41 (by omega) (by omega) (by omega) (by omega) (by omega)).trans g3
        · rw [g5, show 4 - j = 4 - (j + 1) + 1 by omega]
          exact shF_n (S := (fun r => sfN (gdB L) (kOf L) r c n)) (j := j) fn
  refine n_at (m := 157) (q := mr157) (kn := (0, 2)) [some (vR _), some (vI _), none] mb157 rfl rfl (h_rcv sc_94) (Nat.le_of_ble_eq_true rfl) rfl rfl ?_
  refine x_aload rfl ?_
  refine x_ci ?_
  refine h_putI 0 sc_94 rfl rfl ?_
  refine x_iload rfl ?_
  refine n_if_lt ⟨by omega, by omega⟩ (fun c1 => ?_) (fun c1 => ?_)
  · refine x_ci ?_
    refine x_iret ?_
    exact kN (by omega)
  · refine x_iload rfl ?_
    refine x_ci ?_
    refine n_icmp_le ⟨by omega, by omega⟩ ⟨by omega, by omega⟩ (fun c2 => ?_) (fun c2 => ?_)
    · refine x_aload rfl ?_
      refine x_ci ?_
      refine x_ci ?_
      refine n_call [vR _, vI _, vI _] [] (by omega) (Nat.le_of_ble_eq_true rfl) rfl rfl (Nat.le_of_ble_eq_true rfl) ?_
      have hr' : RD 0 L n c (up s 94 0 0) := RD.up ⟨hL, hn, hv, r1, r2, r3⟩ (by decide)
      refine r_formOf (f := 0) (g := 0) (by omega) (by omega) hN hNL (by omega) hr' (fun tqq t1qq t2qq t3qq => ?_)
      show wp PP _ _ _ [some (vR _), some (vI _), _] [] _ _
      refine x_aload rfl ?_
      refine x_ci ?_
      refine n_call [vR _, vI _] [] (by omega) (Nat.le_of_ble_eq_true rfl) rfl rfl (Nat.le_of_ble_eq_true rfl) ?_
      have hr2 : RD 0 L n c tqq := ⟨hL, hn, hv, (t3qq 111 0 (by omega) (by omega) (by omega) (by omega)).trans hr'.2.2.2.1, (t3qq 112 0 (by omega) (by omega) (by omega) (by omega)).trans hr'.2.2.2.2.1, fun i i0 i1 => (t3qq 113 _ (by omega) (by omega) (by omega) (by omega)).trans (hr'.2.2.2.2.2 i i0 i1)⟩
      refine r_standsAll (f := 0) (by omega) (by omega) hr2 (fun uqq u1qq u2qq => ?_)
      show wp PP _ _ _ [some (vR _), some (vI _), _] [] _ _
      refine x_ci ?_
      refine n_istore [some (vR _), some (vI _), some (vI _)] (Nat.le_of_ble_eq_true rfl) rfl ?_
      refine x_fall ?_
      refine L1 4 0 0 uqq rfl (by omega) (by omega) u1qq.sb (FQ.of t1qq (fun b r hb => u2qq b (by omega) r)) ((u2qq 94 (by omega) 41).trans t2qq) (fun b r q1 q2 q3 q4 q5 q6 q7 => ?_) rfl
      rw [u2qq b (by omega) r, t3qq b r (by omega) (by omega) (by omega) (by omega), up_f (by omega)]
    · refine x_fall ?_
      refine x_ci ?_
      refine x_iret ?_
      exact kN (by omega)
theorem r_looseRows (hd : 20 ≤ d) (hr0 : RD 0 L n c s) {wqq : Int} (hw : iR wqq) (kY : 0 ≤ wqq ∧ wqq ≤ 4 → ∀ tqq, lkN s tqq → Q (some (vI (lrA L wqq.toNat))) (HP h0 tqq)) (kN : ¬ (0 ≤ wqq ∧ wqq ≤ 4) → Q (some (vI (-1))) (HP h0 (up s 94 0 0))) : wpM PP d 159 [vR 94, vI wqq] (HP h0 s) Q := by
  have hct := cnt_R L
  obtain ⟨hL, hn, hv, r1, r2, r3⟩ := hr0
  obtain ⟨N, hNL⟩ : ∃ N : Nat, cnt L = N := ⟨(cnt L).toNat, by omega⟩
  have hN : N ≤ 6 := by omega
  refine n_at (m := 159) (q := mr159) (kn := (0, 2)) [some (vR _), some (vI _)] mb159 rfl rfl (h_rcv sc_94) (Nat.le_of_ble_eq_true rfl) rfl rfl ?_
  refine x_aload rfl ?_
  refine x_ci ?_
  refine h_putI 0 sc_94 rfl rfl ?_
  refine x_iload rfl ?_
  refine n_if_lt ⟨by omega, by omega⟩ (fun c1 => ?_) (fun c1 => ?_)
  · refine x_ci ?_
    refine x_iret ?_
    first
      | exact kN (by omega)
      | (refine cI (kY (by omega) vqq (fun b q q1 q2 q3 q4 q5 q6 q7 => ?_)) (by simp [lrA])
         rw [v4qq b q (by omega) (by omega) (by omega) (by omega) (by omega), u2qq b (by omega) q, t2qq b q (by omega) (by omega), up_f (by omega), up_f (by omega)])
  · refine x_iload rfl ?_
    refine x_ci ?_
    refine n_icmp_le ⟨by omega, by omega⟩ ⟨by omega, by omega⟩ (fun c2 => ?_) (fun c2 => ?_)
    · refine x_aload rfl ?_
      refine x_aload rfl ?_
      refine h_getR sc_94 rfl (by omega) ?_
      refine x_ci ?_
      refine h_iald sc_111 ⟨by omega, by omega⟩ (by decide) ?_
      refine n_call [vI _] [vR _] (by omega) (Nat.le_of_ble_eq_true rfl) rfl rfl (Nat.le_of_ble_eq_true rfl) ?_
      rw [up_a (b := 111) (by decide), r1]
      refine r_bitsOf hL ?_
      rw [hNL]
      show wp PP _ _ _ [some (vR _), some (vI _)] [vI _, vR _] _ _
      refine h_putI 41 sc_94 rfl rfl ?_
      refine x_aload rfl ?_
      refine x_ci ?_
      refine n_call [vR _, vI _] [] (by omega) (Nat.le_of_ble_eq_true rfl) rfl rfl (Nat.le_of_ble_eq_true rfl) ?_
      refine r_clears (N := N) (f := 0) (by omega) (fun tqq t1qq t2qq => ?_)
      show wp PP _ _ _ [some (vR _), some (vI _)] [] _ _
      refine x_aload rfl ?_
      refine x_ci ?_
      refine x_ci ?_
      refine n_call [vR _, vI _, vI _] [] (by omega) (Nat.le_of_ble_eq_true rfl) rfl rfl (Nat.le_of_ble_eq_true rfl) ?_
      show wpM PP _ _ [vR 94, vI _, vI ((0 : Nat) : Int)] _ _
      refine r_stands (f := 0) (L := L) (c := c00) (m := 0) (by omega) (by omega) hL ?_ (by omega) (fun i i0 i1 => by omega) (fun i i0 i1 => by omega) (fun uqq u1qq u2qq => ?_)
      · rw [t2qq 111 0 (by omega) (by omega), up_a (by decide), up_a (by decide)]
        exact r1
      show wp PP _ _ _ [some (vR _), some (vI _)] [] _ _
      refine x_aload rfl ?_
      refine x_ci ?_
      refine x_iload rfl ?_
      refine n_call [vR _, vI _, vI _] [] (by omega) (Nat.le_of_ble_eq_true rfl) rfl rfl (Nat.le_of_ble_eq_true rfl) ?_
      obtain ⟨r, hr⟩ : ∃ r : Nat, wqq = r := ⟨wqq.toNat, by omega⟩
      subst hr
      show wpM PP _ _ [vR 94, vI ((0 : Nat) : Int), vI _] _ _
      refine r_looseFrom (N := N) (n := 0) (hN := hN) (K := kOf L) (qq := q0 N) (c := c00) (dep := 0) hL hNL rfl r (by omega) (by omega) (fun i i0 i1 => by omega) (by omega) (by omega) u1qq.sb rfl (FQ.of (FQ_0 t1qq) (fun b r hb => u2qq b (by omega) r)) (by omega) (fun i hi => by omega) ?_ ?_ (fun vqq v1qq v2qq v3qq v4qq => ?_)
      · rw [u2qq 111 (by omega) 0, t2qq 111 0 (by omega) (by omega), up_a (by decide), up_a (by decide)]
        exact r1
      · rw [u2qq 94 (by omega) 41, t2qq 94 41 (by omega) (by omega), up_e]
      show wp PP _ _ _ [some (vR _), some (vI _)] [vI _] _ _
      refine x_iret ?_
      first
        | exact kN (by omega)
        | (refine cI (kY (by omega) vqq (fun b q q1 q2 q3 q4 q5 q6 q7 => ?_)) (by simp [lrA])
           rw [v4qq b q (by omega) (by omega) (by omega) (by omega) (by omega), u2qq b (by omega) q, t2qq b q (by omega) (by omega), up_f (by omega), up_f (by omega)])
    · refine x_fall ?_
      refine x_ci ?_
      refine x_iret ?_
      first
        | exact kN (by omega)
        | (refine cI (kY (by omega) vqq (fun b q q1 q2 q3 q4 q5 q6 q7 => ?_)) (by simp [lrA])
           rw [v4qq b q (by omega) (by omega) (by omega) (by omega) (by omega), u2qq b (by omega) q, t2qq b q (by omega) (by omega), up_f (by omega), up_f (by omega)])
end PR4
