/-! TEXT: the reference's reader: a part; an E whole -/
section TXG
variable {d : Nat} {h0 h : pheap} {s tqq uqq : St} {Q : Option pv → pheap → Prop} {B : Int → Int} {n m p : Nat} {k vqq c : Int} {pl nx : Nat} {W V : List Int} {K K0 : KS}
theorem tot_13 : tot (13 :: W) K = tot W K ∧ opn (13 :: W) = opn W + 1 := by
  have e : opn (13 :: W) = opn W + 1 := by
    rw [opn_s, if_pos rfl]
    omega
  unfold tot
  rw [e, List.length_cons]
  omega
theorem r_primary {M : Nat} (hb : bOk B n) (hEx : ∀ M2, M2 < M → RFS B n 81 1 1 25 M2) : RFS B n 86 7 7 20 M := by
  intro d p m b W K K0 h0 s Q hM0 hd hp hE hI hm hm0 hno hT kS kF
  have op0 := hI.2.2.2.2.2.1
  have tt0 := hI.2.2.2.2.1
  have dd0 : 0 ≤ dD W K := by
    unfold dD
    omega
  refine n_at (m := 86) (q := mr86) (kn := (0, 1)) [some (vR _), none] mb86 rfl rfl (h_rcv sc_94) (Nat.le_of_ble_eq_true rfl) rfl rfl ?_
  refine x_aload rfl ?_
  refine h_getI 18 sc_94 rfl rfl ?_
  rw [hE.2.2.1]
  refine n_if_eq ⟨by omega, by omega⟩ (fun _ => ?_) (fun c9 => by exfalso; omega)
  refine x_aload rfl ?_
  refine x_ci ?_
  refine n_call [vR _, vI _] [] (by omega) (Nat.le_of_ble_eq_true rfl) rfl rfl (Nat.le_of_ble_eq_true rfl) ?_
  show wpM PP _ _ [vR 94, vI (chS 13)] _ _
  refine r_isSign hE.2.2.1 hE.2.1 (tkR_is hb) (by omega) ?_
  show wp PP _ _ _ [some (vR _), _] [vI _] _ _
  refine z_if_eq (fun c1 => ?_) (fun c1 => ?_)
  · have ts := TKN_s hE.2.1 (tkR_is hb)
    refine x_aload rfl ?_
    refine h_getI 16 sc_94 rfl rfl ?_
    refine x_ci ?_
    refine n_icmp_ne ⟨by omega, by omega⟩ ⟨by omega, by omega⟩ (fun c2 => ?_) (fun c2 => ?_)
    · refine x_ci ?_
      refine x_fall ?_
      have c2 : ¬ tkK B n p = 2 := fun zqq => by omega
      refine n_istore [some (vR _), some (vI _)] (Nat.le_of_ble_eq_true rfl) rfl ?_
      refine x_iload rfl ?_
      refine n_if_eq ⟨by omega, by omega⟩ (fun _ => ?_) (fun c9 => by exfalso; omega)
      refine x_iload rfl ?_
      refine n_if_ne ⟨by omega, by omega⟩ (fun c9 => by exfalso; omega) (fun _ => ?_)
      refine x_aload rfl ?_
      refine h_getI 16 sc_94 rfl rfl ?_
      refine n_if_ne ⟨by omega, by omega⟩ (fun c3 => ?_) (fun c3 => ?_)
      · refine x_aload rfl ?_
        refine x_ci ?_
        refine n_call [vR _, vI _] [] (by omega) (Nat.le_of_ble_eq_true rfl) rfl rfl (Nat.le_of_ble_eq_true rfl) ?_
        refine r_wrong hE.2.2.1 hE.2.1.2.1 ?_
        show wp PP _ _ _ [some (vR _), some (vI _)] [] _ _
        refine x_fall ?_
        have en := eEnd_stop (eS_8 (W := W) (K := K) (vqq := tkV B n p) (k := tkK B n p) hm c1 (fun y => hno (by omega) ⟨y.2.2, y.1, y.2.1⟩) c2 (by omega)) (by omega)
        rw [if_neg (show ¬ (1 : Int) = -1 by decide)] at en
        obtain ⟨wqq, hw⟩ : ∃ wqq, wqq = up (up s 94 18 1) 94 19 ((tkP B n p : Nat) : Int) := ⟨_, rfl⟩
        rw [← hw]
        have f18 : wqq 94 18 = 1 := by rw [hw, up_i (by decide), up_e]
        have f19 : wqq 94 19 = ((tkP B n p : Nat) : Int) := by rw [hw, up_e]
        have hf : iR (wqq 94 18) ∧ wqq 94 18 ≠ 0 := by rw [f18]; omega
        have wF : qFw s wqq := by
          rw [hw]
          exact qFw_up (qFw_up (qF.w qF_rfl) (by omega)) (by omega)
        refine x_aload rfl ?_
        refine n_call [vR _] [] (by omega) (Nat.le_of_ble_eq_true rfl) rfl rfl (Nat.le_of_ble_eq_true rfl) ?_
        refine f_knot hf ?_
        show wp PP _ _ _ [some (vR _), some (vI _)] [] _ _
        refine x_aload rfl ?_
        refine x_iload rfl ?_
        refine n_if_eq ⟨by omega, by omega⟩ (fun _ => ?_) (fun c9 => by exfalso; omega)
        refine x_ci ?_
        refine x_fall ?_
        refine x_iload rfl ?_
        refine n_if_eq ⟨by omega, by omega⟩ (fun _ => ?_) (fun c9 => by exfalso; omega)
        refine x_aload rfl ?_
        refine h_getI 17 sc_94 rfl rfl ?_
        refine x_ci ?_
        refine x_isub ?_
        refine x_fall ?_
        refine n_call [vR _, vI _, vI _] [] (by omega) (Nat.le_of_ble_eq_true rfl) rfl rfl (Nat.le_of_ble_eq_true rfl) ?_
        refine f_puts hf ?_
        show wp PP _ _ _ [some (vR _), some (vI _)] [] _ _
        refine x_aload rfl ?_
        refine n_call [vR _] [] (by omega) (Nat.le_of_ble_eq_true rfl) rfl rfl (Nat.le_of_ble_eq_true rfl) ?_
        refine f_goOn hf ?_
        show wp PP _ _ _ [some (vR _), some (vI _)] [] _ _
        refine x_ret ?_
        exact kF 1 _ _ wqq (Or.inl rfl) en f18 f19 wF
      · refine x_aload rfl ?_
        refine h_getI 17 sc_94 rfl rfl ?_
        refine x_ci ?_
        refine n_icmp_ge ⟨by omega, by omega⟩ ⟨by omega, by omega⟩ (fun c4 => ?_) (fun c4 => ?_)
        · have tn := tkE_R (B := B) hp (by omega) (by omega)
          have tR : 0 ≤ tot W K ∧ tot W K ≤ 64 := ⟨by
            have := opn_le W
            unfold tot
            omega, tt0⟩
          refine x_aload rfl ?_
          refine n_call [vR _] [] (by omega) (Nat.le_of_ble_eq_true rfl) rfl rfl (Nat.le_of_ble_eq_true rfl) ?_
          refine r_knot (by omega) hE.2.2.1 hE.2.1.2.1 hE.2.2.2.1 (by omega) (fun y => ?_) (fun y => ?_)
          · show wp PP _ _ _ _ [] _ _
            refine x_aload rfl ?_
            refine x_iload rfl ?_
            refine n_if_eq ⟨by omega, by omega⟩ (fun _ => ?_) (fun c9 => by exfalso; omega)
            refine x_ci ?_
            refine x_fall ?_
            refine x_iload rfl ?_
            refine n_if_eq ⟨by omega, by omega⟩ (fun _ => ?_) (fun c9 => by exfalso; omega)
            refine x_aload rfl ?_
            refine h_getI 17 sc_94 rfl rfl ?_
            rw [up_i (by decide), (hE.2.1.2.2.2.2.2.2.1 (by omega)).2]
            refine x_ci ?_
            refine x_isub ?_
            refine x_fall ?_
            refine n_call [vR _, vI _, vI _] [] (by omega) (Nat.le_of_ble_eq_true rfl) rfl rfl (Nat.le_of_ble_eq_true rfl) ?_
            have k64 : K.1 < 64 := by
              have := opn_le W
              unfold tot at y
              omega
            refine r_puts (x := (10000 + (tkV B n p - 12))) (by omega) ((up_i (by decide)).trans hE.2.2.1) (hE.2.2.2.2.2.of (fun b r hb9 => up_f (by omega))) k64 (Or.inr (Or.inl ⟨by omega, by omega, rfl, by omega⟩)) (fun x x1 x2 => ?_)
            show wp PP _ _ _ [some (vR _), some (vI _)] [] _ _
            refine x_aload rfl ?_
            refine n_call [vR _] [] (by omega) (Nat.le_of_ble_eq_true rfl) rfl rfl (Nat.le_of_ble_eq_true rfl) ?_
            refine r_goOn (p := tkE B n p) (by omega) ((x2 94 18 (by omega) (by omega)).trans ((up_i (by decide)).trans hE.2.2.1)) (hE.1.of ((x2 94 13 (by omega) (by omega)).trans (up_i (by decide))) (fun r => (x2 95 r (by omega) (by omega)).trans (up_a (by decide)))) hb ((x2 94 14 (by omega) (by omega)).trans ((up_i (by decide)).trans hE.2.1.1)) tn.2 (fun uqq u1qq u2qq => ?_)
            show wp PP _ _ _ [some (vR _), some (vI _)] [] _ _
            refine x_ret ?_
            have es := eS_6 (W := W) (K := K) (vqq := tkV B n p) (k := tkK B n p) hm (by omega) (show tot W K < 64 by omega)
            have ok := eStep_ok (tkR_is hb) (by omega) hI es
            refine kS (tkE B n p) [] (addK K (10000 + (tkV B n p - 12))) uqq (fun r zqq => eEnd_step es zqq) (fun x hx => by cases hx) ok.1 ⟨(hE.1.of ((x2 94 13 (by omega) (by omega)).trans (up_i (by decide))) (fun r => (x2 95 r (by omega) (by omega)).trans (up_a (by decide)))).f u2qq, u1qq, (u2qq 94 18 (by omega)).trans ((x2 94 18 (by omega) (by omega)).trans ((up_i (by decide)).trans hE.2.2.1)), ?_, ?_, x1.of (fun b r hb9 => u2qq b r (by omega))⟩ ⟨fun y => absurd y (by decide), fun y => absurd y (by decide), fun y => absurd y (by decide), fun y => absurd y (by decide), fun y => absurd y (by decide)⟩ ⟨tn.1, tn.2, by have := tot_add (W := W) (K := K) (x := (10000 + (tkV B n p - 12))); show tot W K ≤ tot W _; omega⟩ (qF_tr (qF_up qF_rfl (by omega)) (qF_tr (fun b r q1 q2 q3 q4 => x2 b r (by omega) (by omega)) u2qq.q))
            · rw [u2qq 94 23 (by omega), x2 94 23 (by omega) (by omega), up_e]
              show tot W K + 1 = tot W (addK K _)
              rw [tot_add]
            · rw [u2qq 94 22 (by omega), x2 94 22 (by omega) (by omega), up_i (by decide)]
              exact hE.2.2.2.2.1
          · have en := eEnd_stop (eS_7 (W := W) (K := K) (vqq := tkV B n p) (k := tkK B n p) hm (by omega) (show 64 ≤ tot W K by omega)) (by omega)
            rw [if_neg (show ¬ (2 : Int) = -1 by decide)] at en
            obtain ⟨wqq, hw⟩ : ∃ wqq, wqq = up (up s 94 18 2) 94 19 ((tkP B n p : Nat) : Int) := ⟨_, rfl⟩
            rw [← hw]
            have f18 : wqq 94 18 = 2 := by rw [hw, up_i (by decide), up_e]
            have f19 : wqq 94 19 = ((tkP B n p : Nat) : Int) := by rw [hw, up_e]
            have hf : iR (wqq 94 18) ∧ wqq 94 18 ≠ 0 := by rw [f18]; omega
            have wF : qFw s wqq := by
              rw [hw]
              exact qFw_up (qFw_up (qF.w qF_rfl) (by omega)) (by omega)
            show wp PP _ _ _ _ [] _ _
            refine x_aload rfl ?_
            refine x_iload rfl ?_
            refine n_if_eq ⟨by omega, by omega⟩ (fun _ => ?_) (fun c9 => by exfalso; omega)
            refine x_ci ?_
            refine x_fall ?_
            refine x_iload rfl ?_
            refine n_if_eq ⟨by omega, by omega⟩ (fun _ => ?_) (fun c9 => by exfalso; omega)
            refine x_aload rfl ?_
            refine h_getI 17 sc_94 rfl rfl ?_
            refine x_ci ?_
            refine x_isub ?_
            refine x_fall ?_
            refine n_call [vR _, vI _, vI _] [] (by omega) (Nat.le_of_ble_eq_true rfl) rfl rfl (Nat.le_of_ble_eq_true rfl) ?_
            refine f_puts hf ?_
            show wp PP _ _ _ [some (vR _), some (vI _)] [] _ _
            refine x_aload rfl ?_
            refine n_call [vR _] [] (by omega) (Nat.le_of_ble_eq_true rfl) rfl rfl (Nat.le_of_ble_eq_true rfl) ?_
            refine f_goOn hf ?_
            show wp PP _ _ _ [some (vR _), some (vI _)] [] _ _
            refine x_ret ?_
            exact kF 2 _ _ wqq (Or.inr rfl) en f18 f19 wF
        · refine x_fall ?_
          refine x_aload rfl ?_
          refine x_ci ?_
          refine n_call [vR _, vI _] [] (by omega) (Nat.le_of_ble_eq_true rfl) rfl rfl (Nat.le_of_ble_eq_true rfl) ?_
          refine r_wrong hE.2.2.1 hE.2.1.2.1 ?_
          show wp PP _ _ _ [some (vR _), some (vI _)] [] _ _
          refine x_fall ?_
          have en := eEnd_stop (eS_8 (W := W) (K := K) (vqq := tkV B n p) (k := tkK B n p) hm c1 (fun y => hno (by omega) ⟨y.2.2, y.1, y.2.1⟩) c2 (by omega)) (by omega)
          rw [if_neg (show ¬ (1 : Int) = -1 by decide)] at en
          obtain ⟨wqq, hw⟩ : ∃ wqq, wqq = up (up s 94 18 1) 94 19 ((tkP B n p : Nat) : Int) := ⟨_, rfl⟩
          rw [← hw]
          have f18 : wqq 94 18 = 1 := by rw [hw, up_i (by decide), up_e]
          have f19 : wqq 94 19 = ((tkP B n p : Nat) : Int) := by rw [hw, up_e]
          have hf : iR (wqq 94 18) ∧ wqq 94 18 ≠ 0 := by rw [f18]; omega
          have wF : qFw s wqq := by
            rw [hw]
            exact qFw_up (qFw_up (qF.w qF_rfl) (by omega)) (by omega)
          refine x_aload rfl ?_
          refine n_call [vR _] [] (by omega) (Nat.le_of_ble_eq_true rfl) rfl rfl (Nat.le_of_ble_eq_true rfl) ?_
          refine f_knot hf ?_
          show wp PP _ _ _ [some (vR _), some (vI _)] [] _ _
          refine x_aload rfl ?_
          refine x_iload rfl ?_
          refine n_if_eq ⟨by omega, by omega⟩ (fun _ => ?_) (fun c9 => by exfalso; omega)
          refine x_ci ?_
          refine x_fall ?_
          refine x_iload rfl ?_
          refine n_if_eq ⟨by omega, by omega⟩ (fun _ => ?_) (fun c9 => by exfalso; omega)
          refine x_aload rfl ?_
          refine h_getI 17 sc_94 rfl rfl ?_
          refine x_ci ?_
          refine x_isub ?_
          refine x_fall ?_
          refine n_call [vR _, vI _, vI _] [] (by omega) (Nat.le_of_ble_eq_true rfl) rfl rfl (Nat.le_of_ble_eq_true rfl) ?_
          refine f_puts hf ?_
          show wp PP _ _ _ [some (vR _), some (vI _)] [] _ _
          refine x_aload rfl ?_
          refine n_call [vR _] [] (by omega) (Nat.le_of_ble_eq_true rfl) rfl rfl (Nat.le_of_ble_eq_true rfl) ?_
          refine f_goOn hf ?_
          show wp PP _ _ _ [some (vR _), some (vI _)] [] _ _
          refine x_ret ?_
          exact kF 1 _ _ wqq (Or.inl rfl) en f18 f19 wF
    · refine x_ci ?_
      refine x_goto ?_
      have k2 : tkK B n p = 2 := by omega
      refine n_istore [some (vR _), some (vI _)] (Nat.le_of_ble_eq_true rfl) rfl ?_
      refine x_iload rfl ?_
      refine n_if_eq ⟨by omega, by omega⟩ (fun c9 => by exfalso; omega) (fun _ => ?_)
      refine x_aload rfl ?_
      refine h_getI 17 sc_94 rfl rfl ?_
      have nm := (hE.2.1.2.2.2.2.1 k2).2
      have vr := (tkR_is (B := B) (n := n) (p := p) hb).2.2.1 k2
      have nmR : 0 ≤ s 94 17 ∧ s 94 17 ≤ 1000000 ∧ (9999 < s 94 17 ↔ 9999 < tkV B n p) := by
        unfold nmOk at nm
        omega
      refine x_ci ?_
      refine n_icmp_le ⟨by omega, by omega⟩ ⟨by omega, by omega⟩ (fun c3 => ?_) (fun c3 => ?_)
      · refine x_iload rfl ?_
        refine n_if_ne ⟨by omega, by omega⟩ (fun _ => ?_) (fun c9 => by exfalso; omega)
        have tn := tkE_R (B := B) hp (by omega) (by omega)
        have tR : 0 ≤ tot W K ∧ tot W K ≤ 64 := ⟨by
          have := opn_le W
          unfold tot
          omega, tt0⟩
        refine x_aload rfl ?_
        refine n_call [vR _] [] (by omega) (Nat.le_of_ble_eq_true rfl) rfl rfl (Nat.le_of_ble_eq_true rfl) ?_
        refine r_knot (by omega) hE.2.2.1 hE.2.1.2.1 hE.2.2.2.1 (by omega) (fun y => ?_) (fun y => ?_)
        · show wp PP _ _ _ _ [] _ _
          refine x_aload rfl ?_
          refine x_iload rfl ?_
          refine n_if_eq ⟨by omega, by omega⟩ (fun c9 => by exfalso; omega) (fun _ => ?_)
          refine x_ci ?_
          refine x_goto ?_
          refine x_iload rfl ?_
          refine n_if_eq ⟨by omega, by omega⟩ (fun c9 => by exfalso; omega) (fun _ => ?_)
          refine x_aload rfl ?_
          refine h_getI 17 sc_94 rfl rfl ?_
          rw [up_i (by decide), (hE.2.1.2.2.2.2.1 k2).2.1 (by omega)]
          refine x_goto ?_
          refine n_call [vR _, vI _, vI _] [] (by omega) (Nat.le_of_ble_eq_true rfl) rfl rfl (Nat.le_of_ble_eq_true rfl) ?_
          have k64 : K.1 < 64 := by
            have := opn_le W
            unfold tot at y
            omega
          refine r_puts (x := (tkV B n p)) (by omega) ((up_i (by decide)).trans hE.2.2.1) (hE.2.2.2.2.2.of (fun b r hb9 => up_f (by omega))) k64 (Or.inl ⟨by omega, rfl, rfl⟩) (fun x x1 x2 => ?_)
          show wp PP _ _ _ [some (vR _), some (vI _)] [] _ _
          refine x_aload rfl ?_
          refine n_call [vR _] [] (by omega) (Nat.le_of_ble_eq_true rfl) rfl rfl (Nat.le_of_ble_eq_true rfl) ?_
          refine r_goOn (p := tkE B n p) (by omega) ((x2 94 18 (by omega) (by omega)).trans ((up_i (by decide)).trans hE.2.2.1)) (hE.1.of ((x2 94 13 (by omega) (by omega)).trans (up_i (by decide))) (fun r => (x2 95 r (by omega) (by omega)).trans (up_a (by decide)))) hb ((x2 94 14 (by omega) (by omega)).trans ((up_i (by decide)).trans hE.2.1.1)) tn.2 (fun uqq u1qq u2qq => ?_)
          show wp PP _ _ _ [some (vR _), some (vI _)] [] _ _
          refine x_ret ?_
          have es := eS_4 (W := W) (K := K) (vqq := tkV B n p) hm k2 (show tkV B n p ≤ 9999 ∧ tot W K < 64 from ⟨by omega, by omega⟩)
          have ok := eStep_ok (tkR_is hb) (by omega) hI es
          refine kS (tkE B n p) [] (addK K (tkV B n p)) uqq (fun r zqq => eEnd_step es zqq) (fun x hx => by cases hx) ok.1 ⟨(hE.1.of ((x2 94 13 (by omega) (by omega)).trans (up_i (by decide))) (fun r => (x2 95 r (by omega) (by omega)).trans (up_a (by decide)))).f u2qq, u1qq, (u2qq 94 18 (by omega)).trans ((x2 94 18 (by omega) (by omega)).trans ((up_i (by decide)).trans hE.2.2.1)), ?_, ?_, x1.of (fun b r hb9 => u2qq b r (by omega))⟩ ⟨fun y => absurd y (by decide), fun y => absurd y (by decide), fun y => absurd y (by decide), fun y => absurd y (by decide), fun y => absurd y (by decide)⟩ ⟨tn.1, tn.2, by have := tot_add (W := W) (K := K) (x := (tkV B n p)); show tot W K ≤ tot W _; omega⟩ (qF_tr (qF_up qF_rfl (by omega)) (qF_tr (fun b r q1 q2 q3 q4 => x2 b r (by omega) (by omega)) u2qq.q))
          · rw [u2qq 94 23 (by omega), x2 94 23 (by omega) (by omega), up_e]
            show tot W K + 1 = tot W (addK K _)
            rw [tot_add]
          · rw [u2qq 94 22 (by omega), x2 94 22 (by omega) (by omega), up_i (by decide)]
            exact hE.2.2.2.2.1
        · have en := eEnd_stop (eS_5 (W := W) (K := K) (vqq := tkV B n p) hm k2 (Or.inr (show 64 ≤ tot W K by omega))) (by omega)
          rw [if_neg (show ¬ (2 : Int) = -1 by decide)] at en
          obtain ⟨wqq, hw⟩ : ∃ wqq, wqq = up (up s 94 18 2) 94 19 ((tkP B n p : Nat) : Int) := ⟨_, rfl⟩
          rw [← hw]
          have f18 : wqq 94 18 = 2 := by rw [hw, up_i (by decide), up_e]
          have f19 : wqq 94 19 = ((tkP B n p : Nat) : Int) := by rw [hw, up_e]
          have hf : iR (wqq 94 18) ∧ wqq 94 18 ≠ 0 := by rw [f18]; omega
          have wF : qFw s wqq := by
            rw [hw]
            exact qFw_up (qFw_up (qF.w qF_rfl) (by omega)) (by omega)
          show wp PP _ _ _ _ [] _ _
          refine x_aload rfl ?_
          refine x_iload rfl ?_
          refine n_if_eq ⟨by omega, by omega⟩ (fun c9 => by exfalso; omega) (fun _ => ?_)
          refine x_ci ?_
          refine x_goto ?_
          refine x_iload rfl ?_
          refine n_if_eq ⟨by omega, by omega⟩ (fun c9 => by exfalso; omega) (fun _ => ?_)
          refine x_aload rfl ?_
          refine h_getI 17 sc_94 rfl rfl ?_
          refine x_goto ?_
          refine n_call [vR _, vI _, vI _] [] (by omega) (Nat.le_of_ble_eq_true rfl) rfl rfl (Nat.le_of_ble_eq_true rfl) ?_
          refine f_puts hf ?_
          show wp PP _ _ _ [some (vR _), some (vI _)] [] _ _
          refine x_aload rfl ?_
          refine n_call [vR _] [] (by omega) (Nat.le_of_ble_eq_true rfl) rfl rfl (Nat.le_of_ble_eq_true rfl) ?_
          refine f_goOn hf ?_
          show wp PP _ _ _ [some (vR _), some (vI _)] [] _ _
          refine x_ret ?_
          exact kF 2 _ _ wqq (Or.inr rfl) en f18 f19 wF
      · refine x_aload rfl ?_
        refine x_ci ?_
        refine n_call [vR _, vI _] [] (by omega) (Nat.le_of_ble_eq_true rfl) rfl rfl (Nat.le_of_ble_eq_true rfl) ?_
        refine r_wrong hE.2.2.1 hE.2.1.2.1 ?_
        show wp PP _ _ _ [some (vR _), some (vI _)] [] _ _
        refine x_goto ?_
        have en := eEnd_stop (eS_5 (W := W) (K := K) (vqq := tkV B n p) hm k2 (Or.inl (show 9999 < tkV B n p by omega))) (by omega)
        rw [if_neg (show ¬ (2 : Int) = -1 by decide)] at en
        obtain ⟨wqq, hw⟩ : ∃ wqq, wqq = up (up s 94 18 2) 94 19 ((tkP B n p : Nat) : Int) := ⟨_, rfl⟩
        rw [← hw]
        have f18 : wqq 94 18 = 2 := by rw [hw, up_i (by decide), up_e]
        have f19 : wqq 94 19 = ((tkP B n p : Nat) : Int) := by rw [hw, up_e]
        have hf : iR (wqq 94 18) ∧ wqq 94 18 ≠ 0 := by rw [f18]; omega
        have wF : qFw s wqq := by
          rw [hw]
          exact qFw_up (qFw_up (qF.w qF_rfl) (by omega)) (by omega)
        refine x_aload rfl ?_
        refine n_call [vR _] [] (by omega) (Nat.le_of_ble_eq_true rfl) rfl rfl (Nat.le_of_ble_eq_true rfl) ?_
        refine f_knot hf ?_
        show wp PP _ _ _ [some (vR _), some (vI _)] [] _ _
        refine x_aload rfl ?_
        refine x_iload rfl ?_
        refine n_if_eq ⟨by omega, by omega⟩ (fun c9 => by exfalso; omega) (fun _ => ?_)
        refine x_ci ?_
        refine x_goto ?_
        refine x_iload rfl ?_
        refine n_if_eq ⟨by omega, by omega⟩ (fun c9 => by exfalso; omega) (fun _ => ?_)
        refine x_aload rfl ?_
        refine h_getI 17 sc_94 rfl rfl ?_
        refine x_goto ?_
        refine n_call [vR _, vI _, vI _] [] (by omega) (Nat.le_of_ble_eq_true rfl) rfl rfl (Nat.le_of_ble_eq_true rfl) ?_
        refine f_puts hf ?_
        show wp PP _ _ _ [some (vR _), some (vI _)] [] _ _
        refine x_aload rfl ?_
        refine n_call [vR _] [] (by omega) (Nat.le_of_ble_eq_true rfl) rfl rfl (Nat.le_of_ble_eq_true rfl) ?_
        refine f_goOn hf ?_
        show wp PP _ _ _ [some (vR _), some (vI _)] [] _ _
        refine x_ret ?_
        exact kF 2 _ _ wqq (Or.inr rfl) en f18 f19 wF
  · refine x_aload rfl ?_
    refine h_getI 22 sc_94 rfl rfl ?_
    rw [hE.2.2.2.2.1]
    refine x_ci ?_
    refine n_icmp_ne ⟨by omega, by omega⟩ ⟨by omega, by omega⟩ (fun c2 => ?_) (fun c2 => ?_)
    · refine x_aload rfl ?_
      refine h_getI 18 sc_94 rfl rfl ?_
      rw [hE.2.2.1]
      refine n_if_eq ⟨by omega, by omega⟩ (fun _ => ?_) (fun c9 => by exfalso; omega)
      refine x_aload rfl ?_
      refine x_dupR ?_
      refine h_getI 22 sc_94 rfl rfl ?_
      rw [hE.2.2.2.2.1]
      refine x_ci ?_
      refine x_iadd ?_
      refine h_putI 22 sc_94 rfl rfl ?_
      refine x_aload rfl ?_
      refine n_call [vR _] [] (by omega) (Nat.le_of_ble_eq_true rfl) rfl rfl (Nat.le_of_ble_eq_true rfl) ?_
      have tn := tkE_R (B := B) hp (by omega) (by omega)
      refine r_token (p := tkE B n p) (by omega) (hE.1.of (up_i (by decide)) (fun r => up_a (by decide))) hb ((up_i (by decide)).trans hE.2.1.1) tn.2 (fun uqq u1qq u2qq => ?_)
      have hE2 : RE B n (tkE B n p) (13 :: W) K uqq := ⟨(hE.1.of (up_i (by decide)) (fun r => up_a (by decide))).f u2qq, u1qq, (u2qq 94 18 (by omega)).trans ((up_i (by decide)).trans hE.2.2.1), by rw [u2qq 94 23 (by omega), up_i (by decide), (tot_13 (W := W) (K := K)).1]; exact hE.2.2.2.1, by rw [u2qq 94 22 (by omega), up_e, (tot_13 (W := W) (K := K)).2]; omega, hE.2.2.2.2.2.of (fun b r hb9 => by rw [u2qq b r (by omega), up_f (by omega)])⟩
      have es := eS_0 (W := W) (K := K) hm c1 (show opn W < 8 by omega)
      have ok := eStep_ok (tkR_is hb) (by omega) hI es
      have uF : qF s uqq := qF_tr (qF_up qF_rfl (by omega)) u2qq.q
      have dd : dD (13 :: W) K = dD W K - 8 := by
        unfold dD
        rw [(tot_13 (W := W) (K := K)).1, (tot_13 (W := W) (K := K)).2]
        omega
      show wp PP _ _ _ [some (vR _), _] [] _ _
      refine x_aload rfl ?_
      refine n_call [vR _] [] (by omega) (Nat.le_of_ble_eq_true rfl) rfl rfl (Nat.le_of_ble_eq_true rfl) ?_
      refine hEx (n - tkE B n p) (by omega) (Nat.le_refl _) (by omega) tn.2 hE2 ok.1 (by omega) (fun _ => rfl) (fun y => by omega) (fun x U e => Or.inl (List.cons.inj e).1.symm) (fun p2 V K2 tqq e1 e2 e3 e4 e5 e6 e7 => ?_) (fun f pl K2 wqq hf12 e1 f18 f19 wF => ?_)
      · show wp PP _ _ _ _ [] _ _
        refine x_aload rfl ?_
        refine h_getI 18 sc_94 rfl rfl ?_
        rw [e4.2.2.1]
        refine n_if_ne ⟨by omega, by omega⟩ (fun c9 => by exfalso; omega) (fun _ => ?_)
        refine x_aload rfl ?_
        refine x_ci ?_
        refine n_call [vR _, vI _] [] (by omega) (Nat.le_of_ble_eq_true rfl) rfl rfl (Nat.le_of_ble_eq_true rfl) ?_
        show wpM PP _ _ [vR 94, vI (chS 14)] _ _
        refine r_isSign e4.2.2.1 e4.2.1 (tkR_is hb) (by omega) ?_
        show wp PP _ _ _ [some (vR _), _] [vI _] _ _
        refine z_if_ne (fun c3 => ?_) (fun c3 => ?_)
        · refine x_aload rfl ?_
          refine h_getI 18 sc_94 rfl rfl ?_
          rw [e4.2.2.1]
          refine n_if_eq ⟨by omega, by omega⟩ (fun _ => ?_) (fun c9 => by exfalso; omega)
          refine x_aload rfl ?_
          refine x_dupR ?_
          refine h_getI 22 sc_94 rfl rfl ?_
          rw [e4.2.2.2.2.1]
          refine x_ci ?_
          refine x_isub ?_
          refine h_putI 22 sc_94 rfl rfl ?_
          refine x_aload rfl ?_
          refine n_call [vR _] [] (by omega) (Nat.le_of_ble_eq_true rfl) rfl rfl (Nat.le_of_ble_eq_true rfl) ?_
          have tn2 := tkE_R (B := B) e6.2.1 (by omega) (by omega)
          refine r_token (p := tkE B n p2) (by omega) (e4.1.of (up_i (by decide)) (fun r => up_a (by decide))) hb ((up_i (by decide)).trans e4.2.1.1) tn2.2 (fun wqq w1qq w2qq => ?_)
          show wp PP _ _ _ [some (vR _), _] [] _ _
          refine x_ret ?_
          have st1 : stl 1 (V ++ 13 :: W) K2 = (13 :: W, pps V K2) := by
            rw [stl_pps 1 e2, stl_id (fun x U e => Or.inl (List.cons.inj e).1.symm)]
          have op2 := (tot_pps (W := 13 :: W) (K := K2) (fun x hx => (e2 x hx).1)).2
          have es2 := eO_1 (W := V ++ 13 :: W) (K := K2) (k := tkK B n p2) (vqq := tkV B n p2) ⟨c3.1, c3.2, by rw [op2, (tot_13 (W := W) (K := K)).2]; omega⟩
          rw [st1] at es2
          have ok2 := eStep_ok (tkR_is hb) (by omega) e3 es2
          have tp2 := tot_pps (W := 13 :: W) (K := K2) (fun x hx => (e2 x hx).1)
          refine kS (tkE B n p2) [] (pps V K2) wqq (fun r y => eEnd_step es (e1 r (eEnd_step es2 y))) (fun x hx => by cases hx) ok2.1 ⟨(e4.1.of (up_i (by decide)) (fun r => up_a (by decide))).f w2qq, w1qq, (w2qq 94 18 (by omega)).trans ((up_i (by decide)).trans e4.2.2.1), ?_, ?_, e4.2.2.2.2.2.of (fun b r hb9 => by rw [w2qq b r (by omega), up_f (by omega)])⟩ ⟨fun y => absurd y (by decide), fun y => absurd y (by decide), fun y => absurd y (by decide), fun y => absurd y (by decide), fun y => absurd y (by decide)⟩ ⟨by omega, tn2.2, ?_⟩ (qF_tr uF (qF_tr e7 (qF_tr (qF_up qF_rfl (by omega)) w2qq.q)))
          · rw [w2qq 94 23 (by omega), up_i (by decide), e4.2.2.2.1, (tot_13 (W := W) (K := pps V K2)).1]
            rfl
          · rw [w2qq 94 22 (by omega), up_e, (tot_13 (W := W) (K := K)).2]
            omega
          · have a1 := e6.2.2
            rw [← tp2.1, (tot_13 (W := W) (K := K)).1, (tot_13 (W := W) (K := pps V K2)).1] at a1
            exact a1
        · refine x_aload rfl ?_
          refine x_ci ?_
          refine n_call [vR _, vI _] [] (by omega) (Nat.le_of_ble_eq_true rfl) rfl rfl (Nat.le_of_ble_eq_true rfl) ?_
          refine r_wrong e4.2.2.1 e4.2.1.2.1 ?_
          show wp PP _ _ _ [some (vR _), _] [] _ _
          refine x_fall ?_
          have op2 := (tot_pps (W := 13 :: W) (K := K2) (fun x hx => (e2 x hx).1)).2
          have tr2 := tkR_is (B := B) (n := n) (p := p2) hb
          have es2 : ∃ m2 W2 K3, eStep (tkK B n p2) (tkV B n p2) 2 (V ++ 13 :: W) K2 = (1, m2, W2, K3) := by
            by_cases cm : tkK B n p2 = 5 ∧ 3 ≤ tkV B n p2 ∧ tkV B n p2 ≤ 8
            · have j5 : jsg (tkK B n p2) (tkV B n p2) = tkV B n p2 := by rw [cm.1]; exact jsg_5 (by omega)
              have cg : clo (tkV B n p2) = 4 := by
                have gc : tkV B n p2 = 3 ∨ tkV B n p2 = 4 ∨ tkV B n p2 = 5 ∨ tkV B n p2 = 6 ∨ tkV B n p2 = 7 ∨ tkV B n p2 = 8 := by omega
                rcases gc with zqq | zqq | zqq | zqq | zqq | zqq <;> rw [zqq] <;> decide
              exact ⟨_, _, _, eO_3 (by omega) ⟨by rw [j5]; exact cg, e5.2.2.1 (by omega) cm⟩⟩
            · have a1 := e5.1 (by omega)
              have a2 := e5.2.1 (by omega)
              have a4 := e5.2.2.2.1 (by omega)
              have a5 := e5.2.2.2.2 (by omega)
              have v5qq := tr2.2.2.2.2.2
              refine ⟨_, _, _, eO_2 (by rw [op2, (tot_13 (W := W) (K := K)).2]; omega) (fun y => c3 ⟨y.1, y.2.1⟩) ?_⟩
              unfold jsg
              rw [if_neg (by omega), if_neg (by omega)]
          obtain ⟨m2, W2, K3, es2⟩ := es2
          have en := eEnd_step es (e1 _ (eEnd_stop es2 (by decide)))
          rw [if_neg (show ¬ (1 : Int) = -1 by decide)] at en
          obtain ⟨wqq, hw⟩ : ∃ wqq, wqq = up (up tqq 94 18 1) 94 19 ((tkP B n p2 : Nat) : Int) := ⟨_, rfl⟩
          rw [← hw]
          have f18 : wqq 94 18 = 1 := by rw [hw, up_i (by decide), up_e]
          have f19 : wqq 94 19 = ((tkP B n p2 : Nat) : Int) := by rw [hw, up_e]
          have hf : iR (wqq 94 18) ∧ wqq 94 18 ≠ 0 := by rw [f18]; omega
          have wF : qFw s wqq := by
            rw [hw]
            exact qFw_up (qFw_up (qF.w (qF_tr uF e7)) (by omega)) (by omega)
          refine x_aload rfl ?_
          refine h_getI 18 sc_94 rfl rfl ?_
          rw [f18]
          refine n_if_eq ⟨by omega, by omega⟩ (fun c4 => ?_) (fun c4 => ?_)
          · exfalso
            omega
          · refine x_ret ?_
            exact kF 1 _ _ wqq (Or.inl rfl) en f18 f19 wF
      · have hf : iR (wqq 94 18) ∧ wqq 94 18 ≠ 0 := by rw [f18]; omega
        show wp PP _ _ _ _ [] _ _
        refine x_aload rfl ?_
        refine h_getI 18 sc_94 rfl rfl ?_
        rw [f18]
        refine n_if_ne ⟨by omega, by omega⟩ (fun c3 => ?_) (fun c3 => ?_)
        · refine x_aload rfl ?_
          refine h_getI 18 sc_94 rfl rfl ?_
          rw [f18]
          refine n_if_eq ⟨by omega, by omega⟩ (fun c4 => ?_) (fun c4 => ?_)
          · exfalso
            omega
          · refine x_ret ?_
            first
              | exact kF f pl K2 wqq hf12 (eEnd_step es e1) f18 f19 (qFw_tr uF wF)
              | (exfalso; omega)
        · refine x_aload rfl ?_
          refine x_ci ?_
          refine n_call [vR _, vI _] [] (by omega) (Nat.le_of_ble_eq_true rfl) rfl rfl (Nat.le_of_ble_eq_true rfl) ?_
          refine f_isSign hf ?_
          show wp PP _ _ _ [some (vR _), _] [vI _] _ _
          refine n_if_ne ⟨by omega, by omega⟩ (fun c9 => by exfalso; omega) (fun _ => ?_)
          refine x_aload rfl ?_
          refine x_ci ?_
          refine n_call [vR _, vI _] [] (by omega) (Nat.le_of_ble_eq_true rfl) rfl rfl (Nat.le_of_ble_eq_true rfl) ?_
          refine f_wrong hf ?_
          show wp PP _ _ _ [some (vR _), _] [] _ _
          refine x_fall ?_
          refine x_aload rfl ?_
          refine h_getI 18 sc_94 rfl rfl ?_
          rw [f18]
          refine n_if_eq ⟨by omega, by omega⟩ (fun c4 => ?_) (fun c4 => ?_)
          · exfalso
            omega
          · refine x_ret ?_
            first
              | exact kF f pl K2 wqq hf12 (eEnd_step es e1) f18 f19 (qFw_tr uF wF)
              | (exfalso; omega)
    · refine x_aload rfl ?_
      refine x_ci ?_
      refine n_call [vR _, vI _] [] (by omega) (Nat.le_of_ble_eq_true rfl) rfl rfl (Nat.le_of_ble_eq_true rfl) ?_
      refine r_wrong hE.2.2.1 hE.2.1.2.1 ?_
      show wp PP _ _ _ [some (vR _), _] [] _ _
      refine x_fall ?_
      have en := eEnd_stop (eS_1 (W := W) (K := K) hm c1 (show 8 ≤ opn W by omega)) (by decide)
      rw [if_neg (show ¬ (2 : Int) = -1 by decide)] at en
      obtain ⟨wqq, hw⟩ : ∃ wqq, wqq = up (up s 94 18 2) 94 19 ((tkP B n p : Nat) : Int) := ⟨_, rfl⟩
      rw [← hw]
      have f18 : wqq 94 18 = 2 := by rw [hw, up_i (by decide), up_e]
      have f19 : wqq 94 19 = ((tkP B n p : Nat) : Int) := by rw [hw, up_e]
      have hf : iR (wqq 94 18) ∧ wqq 94 18 ≠ 0 := by rw [f18]; omega
      have wF : qFw s wqq := by
        rw [hw]
        exact qFw_up (qFw_up (qF.w qF_rfl) (by omega)) (by omega)
      refine x_aload rfl ?_
      refine h_getI 18 sc_94 rfl rfl ?_
      rw [f18]
      refine n_if_eq ⟨by omega, by omega⟩ (fun c3 => ?_) (fun c3 => ?_)
      · exfalso
        omega
      · refine x_ret ?_
        exact kF 2 _ _ wqq (Or.inr rfl) en f18 f19 wF
theorem RFS_all (hb : bOk B n) : ∀ M : Nat, RFS B n 86 7 7 20 M ∧ RFS B n 85 6 6 21 M ∧ RFS B n 84 5 5 22 M ∧ RFS B n 83 3 4 23 M ∧ RFS B n 82 2 2 24 M ∧ RFS B n 81 1 1 25 M :=
  s_ind (fun M ih => by
    have h1 : RFS B n 86 7 7 20 M := r_primary hb (fun M2 h => (ih M2 h).2.2.2.2.2)
    have h2 : RFS B n 85 6 6 21 M := r_product hb h1 (fun M2 h => (ih M2 h).1)
    have h3 : RFS B n 84 5 5 22 M := r_sum hb h2 (fun M2 h => (ih M2 h).2.1)
    have h4 : RFS B n 83 3 4 23 M := r_negation hb h3 (fun M2 h => (ih M2 h).2.2.1) (fun M2 h => (ih M2 h).2.2.2.1)
    have h5 : RFS B n 82 2 2 24 M := r_conjunction hb h4 (fun M2 h => (ih M2 h).2.2.2.1)
    exact ⟨h1, h2, h3, h4, h5, r_expression hb h5 (fun M2 h => (ih M2 h).2.2.2.2.1)⟩)
end TXG
