/-! CHANCE of the reference -/
section PB3
variable {d tp : Nat} {h0 : pheap} {s : St} {Q : Option pv → pheap → Prop} {L : Int} {n zqq K N : Nat} {c c' : Int → Int} {vw rf sl yr la : Int}
/-- what chance may change -/
def chF (s tqq : St) : Prop := ∀ (b : Nat) (r : Int), ¬ (114 ≤ b ∧ b ≤ 117) → ¬ (b = 94 ∧ (r = 0 ∨ r = 47)) → ¬ (106 ≤ b ∧ b ≤ 112 ∧ r = 1) → ¬ (b = 113 ∧ 48 ≤ r ∧ r < 96) → tqq b r = s b r
theorem r_chance (hd : 13 ≤ d) (hr0 : RD 0 L n c s) {x m : Int} (hx : iR x) (hm : iR m) (kY : chP L x m → ∀ tqq, lkN s tqq → Q (some (vI (chH L x m.toNat 10))) (HP h0 tqq)) (kN : ¬ chP L x m → Q (some (vI (-1))) (HP h0 (up s 94 0 0))) : wpM PP d 177 [vR 94, vI x, vI m] (HP h0 s) Q := by
  obtain ⟨hL, hn, hv, r1, r2, r3⟩ := hr0
  have hr0 : RD 0 L n c s := ⟨hL, hn, hv, r1, r2, r3⟩
  have hct := cnt_R L
  have LL : ∀ (m : Nat) (t00 : St), (hx0 : 0 ≤ x) → (hm1 : 1 ≤ m ∧ m ≤ 48) → (hct2 : 2 ≤ cnt L) →  t00 94 47 = x → t00 111 1 = L → chF s t00 → (kL : ∀ tqq, chF s tqq → Q (some (vI (chH L x m 10))) (HP h0 tqq)) → wp PP d mb177 (mb177.getD 3 []) [some (vR 94), some (vI x), some (vI m), some (vI 0), some (vI 0), none] [] (HP h0 t00) Q := by
    intro m t00 hx0 hm1 hct2 h470 h1110 gF0 kL
    have L1 : ∀ M : Nat, ∀ {o5 : Option pv} (i : Nat) (ii : Int) (o : Int) (t0qq : St), (ii = i) → (M = 10 - i ∧ i ≤ 10) → (o = chH L x m i) → (t0qq 94 47 = chX x m i) → (t0qq 111 1 = L) → (chF s t0qq) →  wp PP d mb177 (mb177.getD 3 []) [some (vR 94), some (vI x), some (vI m), some (vI o), some (vI ii), o5] [] (HP h0 t0qq) Q := by
      refine s_ind (fun M ih => ?_)
      intro o5 i ii o t0qq hii hM ho h47 h111 gF
      subst hii
      obtain ⟨y, hy⟩ : ∃ y, y = chX x m i := ⟨_, rfl⟩
      refine x_iload rfl ?_
      refine x_ci ?_
      refine n_icmp_ge ⟨by omega, by omega⟩ ⟨by omega, by omega⟩ (fun c1 => ?_) (fun c1 => ?_)
      · refine x_iload rfl ?_
        refine x_iret ?_
        have e : i = 10 := by omega
        rw [ho, e]
        exact kL t0qq gF
      · refine x_aload rfl ?_
        refine h_getR sc_94 rfl (by omega) ?_
        refine x_ci ?_
        refine x_iload rfl ?_
        refine h_iast sc_112 ⟨by omega, by omega⟩ (by decide) ?_
        refine x_ci ?_
        refine n_istore [some (vR _), some (vI _), some (vI _), some (vI _), some (vI _), some (vI _)] (Nat.le_of_ble_eq_true rfl) rfl ?_
        refine x_fall ?_
        have L2 : ∀ M2 : Nat, ∀ (j : Nat) (jj : Int) (tqq : St), (jj = j) → (M2 = m - j ∧ j ≤ m) → (tqq 94 47 = fsN y j) → (tqq 112 1 = m) → (∀ q : Int, 0 ≤ q → q < j → tqq 113 (48 + q) = fsC L y q.toNat) → ((∀ (b : Nat) (r : Int), ¬ (114 ≤ b ∧ b ≤ 117) → ¬ (b = 94 ∧ (r = 0 ∨ r = 47)) → ¬ (106 ≤ b ∧ b ≤ 112 ∧ r = 1 ∧ b ≠ 111) → ¬ (b = 113 ∧ 48 ≤ r ∧ r < 96) → tqq b r = t0qq b r)) →  wp PP d mb177 (mb177.getD 4 []) [some (vR 94), some (vI x), some (vI m), some (vI o), some (vI i), some (vI jj)] [] (HP h0 tqq) Q := by
          refine s_ind (fun M2 ih2 => ?_)
          intro j jj tqq hjj hM2 g2 gm g1 g3
          subst hjj
          refine x_iload rfl ?_
          refine x_iload rfl ?_
          refine n_icmp_ge ⟨by omega, by omega⟩ ⟨by omega, by omega⟩ (fun c1 => ?_) (fun c1 => ?_)
          · refine x_aload rfl ?_
            refine x_ci ?_
            refine n_call [vR _, vI _] [] (by omega) (Nat.le_of_ble_eq_true rfl) rfl rfl (Nat.le_of_ble_eq_true rfl) ?_
            have hrr : RD 1 L m (fsK L y 0 c00) tqq := ⟨hL, by omega, fun q q0 q1 => ?_, (g3 111 1 (by omega) (by omega) (by omega) (by omega)).trans h111, gm, fun q q0 q1 => ?_⟩
            rotate_left
            · unfold fsK
              rw [if_neg (by omega), show (q - ((0 : Nat) : Int)).toNat = q.toNat by omega]
              exact fsC_R hct2 q.toNat
            · rw [show (48 : Int) * 1 + q = 48 + q by omega, g1 q q0 (by omega)]
              unfold fsK
              rw [if_neg (by omega), show (q - ((0 : Nat) : Int)).toNat = q.toNat by omega]
            refine r_standsAll (f := 1) (by omega) (by omega) hrr (fun vqq v1qq v2qq => ?_)
            have fv : ∀ (b : Nat) (r : Int), ¬ (114 ≤ b ∧ b ≤ 117) → vqq b r = tqq b r := fun b r q => v2qq b (by omega) r
            have hr1 : RD 1 L m (fsK L y 0 c00) vqq := ⟨hL, hrr.2.1, hrr.2.2.1, (fv 111 1 (by omega)).trans hrr.2.2.2.1, (fv 112 1 (by omega)).trans hrr.2.2.2.2.1, fun q q0 q1 => (fv 113 _ (by omega)).trans (hrr.2.2.2.2.2 q q0 q1)⟩
            show wp PP _ _ _ [some (vR _), some (vI _), some (vI _), some (vI _), some (vI _), some (vI _)] [] _ _
            refine x_iload rfl ?_
            refine x_aload rfl ?_
            refine x_ci ?_
            refine n_call [vR _, vI _] [vI _] (by omega) (Nat.le_of_ble_eq_true rfl) rfl rfl (Nat.le_of_ble_eq_true rfl) ?_
            refine r_areHome (f := 1) (by omega) (by omega) hr1 v1qq ?_
            show wp PP _ _ _ [some (vR _), some (vI _), some (vI _), some (vI _), some (vI _), some (vI _)] [vI _, vI _] _ _
            refine z_if_eq (fun c2 => ?_) (fun c2 => ?_)
            · refine x_ci ?_
              refine x_fall ?_
              refine x_iadd ?_
              refine n_istore [some (vR _), some (vI _), some (vI _), some (vI _), some (vI _), some (vI _)] (Nat.le_of_ble_eq_true rfl) rfl ?_
              refine n_iinc [some (vR _), some (vI _), some (vI _), some (vI _), some (vI _), some (vI _)] rfl rfl ?_
              refine x_goto ?_
              refine ih (10 - (i + 1)) (by omega) (i + 1) _ _ vqq (by omega) (by omega) ?_ ?_ ?_ (fun b r q1 q2 q3 q4 => ?_)
              · simp only [chH]
                rw [ho, ← hy]
                rw [bI_f (by assumption)]
              · show vqq 94 47 = fsN (chX x m i) m
                rw [fv 94 47 (by omega), ← hy, show m = j by omega]
                exact g2
              · exact (fv 111 1 (by omega)).trans ((g3 111 1 (by omega) (by omega) (by omega) (by omega)).trans h111)
              · rw [fv b r q1, g3 b r q1 q2 (by omega) q4]
                exact gF b r q1 q2 q3 q4
            · refine x_ci ?_
              refine x_goto ?_
              refine x_iadd ?_
              refine n_istore [some (vR _), some (vI _), some (vI _), some (vI _), some (vI _), some (vI _)] (Nat.le_of_ble_eq_true rfl) rfl ?_
              refine n_iinc [some (vR _), some (vI _), some (vI _), some (vI _), some (vI _), some (vI _)] rfl rfl ?_
              refine x_goto ?_
              refine ih (10 - (i + 1)) (by omega) (i + 1) _ _ vqq (by omega) (by omega) ?_ ?_ ?_ (fun b r q1 q2 q3 q4 => ?_)
              · simp only [chH]
                rw [ho, ← hy]
                rw [bI_t (by assumption)]
              · show vqq 94 47 = fsN (chX x m i) m
                rw [fv 94 47 (by omega), ← hy, show m = j by omega]
                exact g2
              · exact (fv 111 1 (by omega)).trans ((g3 111 1 (by omega) (by omega) (by omega) (by omega)).trans h111)
              · rw [fv b r q1, g3 b r q1 q2 (by omega) q4]
                exact gF b r q1 q2 q3 q4
          · refine x_aload rfl ?_
            refine h_getR sc_94 rfl (by omega) ?_
            refine x_ci ?_
            refine x_iload rfl ?_
            refine x_iadd ?_
            refine x_aload rfl ?_
            refine x_ci ?_
            refine n_call [vR _, vI _] [vI _, vR _] (by omega) (Nat.le_of_ble_eq_true rfl) rfl rfl (Nat.le_of_ble_eq_true rfl) ?_
            refine r_feastCode (f := 1) (v := fsN y j) (by omega) (by omega) hL hct2 ((g3 111 1 (by omega) (by omega) (by omega) (by omega)).trans h111) g2 ?_
            refine t_I (fsC L y j) (by unfold fsC; rfl) ?_
            have fcR := fsC_R (L := L) (x := y) hct2 j
            rw [show nxN (fsN y j) = fsN y (j + 1) from rfl]
            show wp PP _ _ _ [some (vR _), some (vI _), some (vI _), some (vI _), some (vI _), some (vI _)] [vI _, vI _, vR _] _ _
            refine h_iast sc_113 ⟨by omega, by omega⟩ (by decide) ?_
            refine n_iinc [some (vR _), some (vI _), some (vI _), some (vI _), some (vI _), some (vI _)] rfl rfl ?_
            refine x_goto ?_
            refine ih2 (m - (j + 1)) (by omega) (j + 1) _ _ (by omega) (by omega) ?_ ?_ ?_ (fun b r q1 q2 q3 q4 => ?_)
            · rw [up_a (by decide), up_e]
            · rw [up_a (by decide), up_a (by decide)]
              exact gm
            · intro q q0 q1
              by_cases e : q = j
              · rw [e, up_e]
                congr 1
              · rw [up_i (by omega), up_a (by decide)]
                exact g1 q q0 (by omega)
            · rw [up_f (by omega), up_f (by omega)]
              exact g3 b r q1 q2 q3 q4
        refine L2 m 0 0 _ rfl (by omega) ?_ up_e (fun q q0 q1 => by omega) (fun b r q1 q2 q3 q4 => ?_)
        · rw [up_a (by decide), h47, hy]
          rfl
        · rw [up_f (by omega)]
    exact L1 10 0 0 0 t00 rfl (by omega) rfl h470 h1110 gF0
  refine n_at (m := 177) (q := mr177) (kn := (0, 3)) [some (vR _), some (vI _), some (vI _), none, none, none] mb177 rfl rfl (h_rcv sc_94) (Nat.le_of_ble_eq_true rfl) rfl rfl ?_
  refine x_aload rfl ?_
  refine x_ci ?_
  refine h_putI 0 sc_94 rfl rfl ?_
  refine x_iload rfl ?_
  refine n_if_lt ⟨by omega, by omega⟩ (fun c1 => ?_) (fun c1 => ?_)
  · refine x_ci ?_
    refine x_iret ?_
    exact kN (fun q => by omega)
  · refine x_iload rfl ?_
    refine x_ci ?_
    refine n_icmp_lt ⟨by omega, by omega⟩ ⟨by omega, by omega⟩ (fun c2 => ?_) (fun c2 => ?_)
    · refine x_ci ?_
      refine x_iret ?_
      exact kN (fun q => by omega)
    · refine x_iload rfl ?_
      refine x_ci ?_
      refine n_icmp_gt ⟨by omega, by omega⟩ ⟨by omega, by omega⟩ (fun c3 => ?_) (fun c3 => ?_)
      · refine x_ci ?_
        refine x_iret ?_
        exact kN (fun q => by omega)
      · refine x_aload rfl ?_
        refine h_getR sc_94 rfl (by omega) ?_
        refine x_ci ?_
        refine h_iald sc_111 ⟨by omega, by omega⟩ (by decide) ?_
        refine n_call [vI _] [] (by omega) (Nat.le_of_ble_eq_true rfl) rfl rfl (Nat.le_of_ble_eq_true rfl) ?_
        refine t_bits L ((up_a (by decide)).trans r1) hL ?_
        show wp PP _ _ _ [some (vR _), some (vI _), some (vI _), _, _, _] [vI _] _ _
        refine x_ci ?_
        refine n_icmp_ge ⟨by omega, by omega⟩ ⟨by omega, by omega⟩ (fun c4 => ?_) (fun c4 => ?_)
        · refine x_aload rfl ?_
          refine x_iload rfl ?_
          refine h_putI 47 sc_94 rfl rfl ?_
          refine x_ci ?_
          refine n_istore [some (vR _), some (vI _), some (vI _), some (vI _), _, _] (Nat.le_of_ble_eq_true rfl) rfl ?_
          refine x_aload rfl ?_
          refine x_ci ?_
          refine x_ci ?_
          refine n_call [vR _, vI _, vI _] [] (by omega) (Nat.le_of_ble_eq_true rfl) rfl rfl (Nat.le_of_ble_eq_true rfl) ?_
          refine r_copies (to := 1) (as := 0) (n := n) (by omega) (by omega) (by omega) ((up_a (by decide)).trans ((up_a (by decide)).trans r2)) hn (fun tqq t1qq => ?_)
          show wp PP _ _ _ [some (vR _), some (vI _), some (vI _), some (vI _), _, _] [] _ _
          refine x_ci ?_
          refine n_istore [some (vR _), some (vI _), some (vI _), some (vI _), some (vI _), _] (Nat.le_of_ble_eq_true rfl) rfl ?_
          refine x_fall ?_
          obtain ⟨mm, hmm⟩ : ∃ mm : Nat, m = mm := ⟨m.toNat, by omega⟩
          subst hmm
          refine LL mm tqq (by omega) (by omega) (by omega) ?_ ?_ (fun b r q1 q2 q3 q4 => ?_) (fun uqq g => kY ⟨by omega, by omega, by omega, by omega⟩ uqq (fun b r q1 q2 q3 q4 q5 q6 q7 => g b r (by omega) (by omega) (by omega) (by omega)))
          · rw [t1qq.1 94 47 (by omega) (by omega), up_e]
          · rw [t1qq.2.1 111 (by omega) (by omega), up_a (by decide), up_a (by decide), r1]
          · rw [t1qq.1 b r q3 (by omega), up_f (by omega), up_f (by omega)]
        · refine x_fall ?_
          refine x_ci ?_
          refine x_iret ?_
          exact kN (fun q => by omega)
end PB3
