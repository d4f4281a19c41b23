/-! TEXT: the reference's reader: a negation, a comparison -/
section TXF
variable {d : Nat} {h0 h : pheap} {s tqq uqq : St} {Q : Option pv → pheap → Prop} {B : Int → Int} {n m p : Nat} {k vqq c : Int} {pl nx : Nat} {W V : List Int} {K K0 : KS}
theorem r_negation {M : Nat} (hb : bOk B n) (hIn : RFS B n 84 5 5 22 M) (hInS : ∀ M2, M2 < M → RFS B n 84 5 5 22 M2) (hNeg : ∀ M2, M2 < M → RFS B n 83 3 4 23 M2) : RFS B n 83 3 4 23 M := by
  intro d p m b W K K0 h0 s Q hM0 hd hp hE hI hm hm0 hno hT kS kF
  have op0 := hI.2.2.2.2.2.1
  have tt0 := hI.2.2.2.2.1
  have dd0 : 0 ≤ dD W K := by
    unfold dD
    omega
  refine n_at (m := 83) (q := mr83) (kn := (0, 1)) [some (vR _), none] mb83 rfl rfl (h_rcv sc_94) (Nat.le_of_ble_eq_true rfl) rfl rfl ?_
  refine x_aload rfl ?_
  refine x_ci ?_
  refine n_call [vR _, vI _] [] (by omega) (Nat.le_of_ble_eq_true rfl) rfl rfl (Nat.le_of_ble_eq_true rfl) ?_
  refine r_isWord hE.2.2.1 hE.2.1 (tkR_is hb) (by omega) ?_
  show wp PP _ _ _ [some (vR _), _] [vI _] _ _
  refine z_if_eq (fun c1 => ?_) (fun c1 => ?_)
  · refine x_aload rfl ?_
    refine n_call [vR _] [] (by omega) (Nat.le_of_ble_eq_true rfl) rfl rfl (Nat.le_of_ble_eq_true rfl) ?_
    refine hIn hM0 (by omega) hp hE hI hm (fun y => by omega) (fun _ y => c1 y.2) (topL_le hT (by omega)) (fun p1 V K2 tqq gR gV gI gE gL g6 gF => ?_) (fun f pl K2 wqq hf12 e1 f18 f19 wF => ?_)
    · have ts := TKN_s gE.2.1 (tkR_is hb)
      have ts17 : iR (tqq 94 17) ∨ True := Or.inr trivial
      show wp PP _ _ _ _ [] _ _
      refine x_aload rfl ?_
      refine h_getI 18 sc_94 rfl rfl ?_
      rw [gE.2.2.1]
      refine n_if_ne ⟨by omega, by omega⟩ (fun c2 => ?_) (fun c2 => ?_)
      · refine x_ret ?_
        refine kS p1 V K2 tqq gR (fun x hx => ⟨(gV x hx).1, by have := (gV x hx).2; omega⟩) gI gE ⟨fun y => gL.1 (by omega), fun y => gL.2.1 (by omega), fun _ y => ?_, fun y => absurd y (by decide), fun y => absurd y (by decide)⟩ g6 gF
        exfalso
        have e9 := (gE.2.1.2.2.2.2.2.2.2 y.1)
        have ci := (cmp_is ⟨y.2.1, by omega⟩).mp y.2.2
        omega
      · refine x_aload rfl ?_
        refine h_getI 16 sc_94 rfl rfl ?_
        refine x_ci ?_
        refine n_icmp_ne ⟨by omega, by omega⟩ ⟨by omega, by omega⟩ (fun c3 => ?_) (fun c3 => ?_)
        · refine x_ret ?_
          refine kS p1 V K2 tqq gR (fun x hx => ⟨(gV x hx).1, by have := (gV x hx).2; omega⟩) gI gE ⟨fun y => gL.1 (by omega), fun y => gL.2.1 (by omega), fun _ y => ?_, fun y => absurd y (by decide), fun y => absurd y (by decide)⟩ g6 gF
          exfalso
          have e9 := (gE.2.1.2.2.2.2.2.2.2 y.1)
          have ci := (cmp_is ⟨y.2.1, by omega⟩).mp y.2.2
          omega
        · refine x_aload rfl ?_
          refine h_getI 17 sc_94 rfl rfl ?_
          have v5qq : tkK B n p1 = 5 ∧ tqq 94 17 = chS (tkV B n p1) ∧ 3 ≤ tkV B n p1 ∧ tkV B n p1 ≤ 15 := by omega
          have cR := chS_iR (a := tkV B n p1) (by omega)
          refine x_ci ?_
          refine n_icmp_eq ⟨by omega, by omega⟩ ⟨by omega, by omega⟩ (fun c4 => ?_) (fun c4 => ?_)
          · have hv : tkK B n p1 = 5 ∧ (3 ≤ tkV B n p1 ∧ tkV B n p1 ≤ 8) := by
              have ts5 : tkK B n p1 = 5 ∧ tqq 94 17 = chS (tkV B n p1) ∧ 3 ≤ tkV B n p1 ∧ tkV B n p1 ≤ 15 := by omega
              have ci := (cmp_is ⟨ts5.2.2.1, ts5.2.2.2⟩).mpr (by omega)
              exact ⟨ts5.1, ts5.2.2.1, ci⟩
            obtain ⟨g, hgv⟩ : ∃ g, tkV B n p1 = g := ⟨_, rfl⟩
            rw [hgv] at hv
            have hj : jsg (tkK B n p1) (tkV B n p1) = g := by rw [hv.1, hgv]; exact jsg_5 (by omega)
            have cg : clo g = 4 := by
              have gc : g = 3 ∨ g = 4 ∨ g = 5 ∨ g = 6 ∨ g = 7 ∨ g = 8 := by omega
              rcases gc with zqq | zqq | zqq | zqq | zqq | zqq <;> rw [zqq] <;> decide
            have c5 : cl5 g = 5 := if_pos cg
            have tn := tkE_R (B := B) g6.2.1 (by omega) (by omega)
            have tp2 := tot_pps (W := W) (K := K2) (fun x hx => (gV x hx).1)
            have sb1 := gI.suf (fun x hx => (gV x hx).1)
            have hVc : ∀ x, x ∈ V → x ≠ 13 ∧ cl5 g ≤ clo x := fun x hx => ⟨(gV x hx).1, by have := (gV x hx).2; omega⟩
            have hWc : topL (cl5 g) W := topL_le hT (by omega)
            have tR : 0 ≤ tot W (pps V K2) ∧ tot W (pps V K2) ≤ 64 := ⟨by
              have := opn_le W
              unfold tot
              omega, sb1.1⟩
            have dk : dD W (pps V K2) ≤ dD W K := by
              unfold dD
              rw [tp2.1]
              have := g6.2.2
              omega
            have op8 := sb1.2.1
            refine x_aload rfl ?_
            refine h_getI 17 sc_94 rfl rfl ?_
            rw [(gE.2.1.2.2.2.2.2.2.2 hv.1).2, hgv]
            refine n_istore [some (vR _), some (vI _)] (Nat.le_of_ble_eq_true rfl) rfl ?_
            refine x_aload rfl ?_
            refine n_call [vR _] [] (by omega) (Nat.le_of_ble_eq_true rfl) rfl rfl (Nat.le_of_ble_eq_true rfl) ?_
            refine r_knot (by omega) gE.2.2.1 gE.2.1.2.1 gE.2.2.2.1 (by omega) (fun y => ?_) (fun y => ?_)
            · show wp PP _ _ _ _ [] _ _
              refine x_aload rfl ?_
              refine n_call [vR _] [] (by omega) (Nat.le_of_ble_eq_true rfl) rfl rfl (Nat.le_of_ble_eq_true rfl) ?_
              refine r_goOn (p := tkE B n p1) (by omega) ((up_i (by decide)).trans gE.2.2.1) (gE.1.of (up_i (by decide)) (fun r => up_a (by decide))) hb ((up_i (by decide)).trans gE.2.1.1) tn.2 (fun uqq u1qq u2qq => ?_)
              have hE2 : RE B n (tkE B n p1) (g :: W) (pps V K2) uqq := ⟨(gE.1.of (up_i (by decide)) (fun r => up_a (by decide))).f u2qq, u1qq, (u2qq 94 18 (by omega)).trans ((up_i (by decide)).trans gE.2.2.1), by rw [u2qq 94 23 (by omega), up_e, (tot_cons (W := W) (K := (pps V K2)) (x := g) (by omega)).1], by rw [u2qq 94 22 (by omega), up_i (by decide), gE.2.2.2.2.1, (tot_cons (W := W) (K := (pps V K2)) (x := g) (by omega)).2], gE.2.2.2.2.2.of (fun b r hb9 => by rw [u2qq b r (by omega), up_f (by omega)])⟩
              have es := eS_op (V := V) (W := W) (K := K2) hj (by omega) hVc hWc (fun _ => hT) (by omega)
              have ok := eStep_ok (tkR_is hb) (by omega) gI es
              have dd : dD (g :: W) (pps V K2) = dD W (pps V K2) - 1 := by
                unfold dD
                rw [(tot_cons (W := W) (K := (pps V K2)) (x := g) (by omega)).1, (tot_cons (W := W) (K := (pps V K2)) (x := g) (by omega)).2]
                omega
              show wp PP _ _ _ [some (vR _), some (vI _)] [] _ _
              refine x_aload rfl ?_
              refine n_call [vR _] [] (by omega) (Nat.le_of_ble_eq_true rfl) rfl rfl (Nat.le_of_ble_eq_true rfl) ?_
              refine hInS (n - tkE B n p1) (by omega) (Nat.le_refl _) (by omega) tn.2 hE2 ok.1 (by split <;> omega) (fun y => by omega) (fun _ y => by have y1 := y.1; rw [if_neg (show ¬ clo g ≤ 2 by omega)] at y1; omega) (topL_c (by omega)) (fun p2 V2 K3 wqq e1 e2 e3 e4 e5 e6 e7 => ?_) (fun f pl K3 wqq hf12 e1 f18 f19 wF0 => ?_)
              · have sb := e3.suf (fun x hx => (e2 x hx).1)
                have sp2 := eB_pop sb (by omega)
                show wp PP _ _ _ _ [] _ _
                refine x_aload rfl ?_
                refine x_ci ?_
                refine x_iload rfl ?_
                refine n_call [vR _, vI _, vI _] [] (by omega) (Nat.le_of_ble_eq_true rfl) rfl rfl (Nat.le_of_ble_eq_true rfl) ?_
                rw [chS_12 (show g ≤ 12 by omega)]
                refine r_puts (x := 20000 + g) (by omega) e4.2.2.1 e4.2.2.2.2.2 sp2.2 (kR_sg (by omega)) (fun x x1 x2 => ?_)
                have hE3 : RE B n p2 W (pps (V2 ++ [g]) K3) x := by
                  rw [pps_app]
                  refine ⟨e4.1.of (x2 94 13 (by omega) (by omega)) (fun r => x2 95 r (by omega) (by omega)), ?_, (x2 94 18 (by omega) (by omega)).trans e4.2.2.1, ?_, ?_, x1⟩
                  · have e42 := e4.2.1
                    unfold TKN at e42 ⊢
                    rw [x2 94 14 (by omega) (by omega), x2 94 15 (by omega) (by omega), x2 94 16 (by omega) (by omega), x2 94 17 (by omega) (by omega)]
                    exact e42
                  · show _ = tot W (addK (pps V2 K3) (20000 + g))
                    rw [x2 94 23 (by omega) (by omega), e4.2.2.2.1, (tot_cons (W := W) (K := pps V2 K3) (x := g) (by omega)).1, tot_add]
                  · rw [x2 94 22 (by omega) (by omega), e4.2.2.2.2.1, (tot_cons (W := W) (K := pps V2 K3) (x := g) (by omega)).2]
                have ea : V2 ++ [g] ++ W = V2 ++ g :: W := by rw [List.append_assoc]; rfl
                show wp PP _ _ _ [some (vR _), some (vI _)] [] _ _
                refine x_ret ?_
                have hLA : LA B n 3 p2 (V2 ++ [g] ++ W) K3 := by
                  rw [ea]
                  refine ⟨fun y => e5.1 (by omega), fun y => e5.2.1 (by omega), fun _ _ => ?_, fun y => absurd y (by decide), fun y => absurd y (by decide)⟩
                  rw [stl_pps 5 e2, stl_id (topL_c (by omega))]
                  exact cg
                refine kS p2 (V2 ++ [g]) K3 x (fun r y => gR r (eEnd_step es (e1 r (by rw [← ea]; exact y)))) (fun y hy => ?_) (by rw [ea]; exact e3) hE3 hLA ⟨by omega, by omega, by rw [ea]; have e8 := (tot_cons (W := W) (K := pps V K2) (x := g) (by omega)).1; have := e6.2.2; omega⟩ (qF_tr gF (qF_tr (qF_tr (qF_up qF_rfl (by omega)) u2qq.q) (qF_tr e7 (fun b r q1 q2 q3 q4 => x2 b r (by omega) (by omega)))))
                rcases List.mem_append.mp hy with hy | hy
                · exact ⟨(e2 y hy).1, by have := (e2 y hy).2; omega⟩
                · have := List.mem_singleton.mp hy
                  rw [this]
                  omega
              · have en := gR _ (eEnd_step es e1)
                have hf : iR (wqq 94 18) ∧ wqq 94 18 ≠ 0 := by rw [f18]; omega
                have wF : qFw s wqq := qFw_tr gF (qFw_tr (qF_tr (qF_up qF_rfl (by omega)) u2qq.q) wF0)
                show wp PP _ _ _ _ [] _ _
                refine x_aload rfl ?_
                refine x_ci ?_
                refine x_iload rfl ?_
                refine n_call [vR _, vI _, vI _] [] (by omega) (Nat.le_of_ble_eq_true rfl) rfl rfl (Nat.le_of_ble_eq_true rfl) ?_
                refine f_puts hf ?_
                show wp PP _ _ _ [some (vR _), some (vI _)] [] _ _
                refine x_ret ?_
                exact kF f pl K3 wqq hf12 en f18 f19 wF
            · have en := gR _ (eEnd_stop (eS_op2 (V := V) (W := W) (K := K2) hj (by omega) hVc hWc (fun _ => hT) (by omega)) (by omega))
              rw [if_neg (show ¬ (2 : Int) = -1 by decide)] at en
              obtain ⟨wqq, hw⟩ : ∃ wqq, wqq = up (up tqq 94 18 2) 94 19 ((tkP B n p1 : Nat) : Int) := ⟨_, rfl⟩
              rw [← hw]
              have f18 : wqq 94 18 = 2 := by rw [hw, up_i (by decide), up_e]
              have f19 : wqq 94 19 = ((tkP B n p1 : Nat) : Int) := by rw [hw, up_e]
              have hf : iR (wqq 94 18) ∧ wqq 94 18 ≠ 0 := by rw [f18]; omega
              have wF : qFw s wqq := by
                rw [hw]
                exact qFw_up (qFw_up (qF.w gF) (by omega)) (by omega)
              show wp PP _ _ _ _ [] _ _
              refine x_aload rfl ?_
              refine n_call [vR _] [] (by omega) (Nat.le_of_ble_eq_true rfl) rfl rfl (Nat.le_of_ble_eq_true rfl) ?_
              refine f_goOn hf ?_
              show wp PP _ _ _ [some (vR _), some (vI _)] [] _ _
              refine x_aload rfl ?_
              refine n_call [vR _] [] (by omega) (Nat.le_of_ble_eq_true rfl) rfl rfl (Nat.le_of_ble_eq_true rfl) ?_
              refine f_sum (by omega) hf ?_
              show wp PP _ _ _ [some (vR _), some (vI _)] [] _ _
              refine x_aload rfl ?_
              refine x_ci ?_
              refine x_iload rfl ?_
              refine n_call [vR _, vI _, vI _] [] (by omega) (Nat.le_of_ble_eq_true rfl) rfl rfl (Nat.le_of_ble_eq_true rfl) ?_
              refine f_puts hf ?_
              show wp PP _ _ _ [some (vR _), some (vI _)] [] _ _
              refine x_ret ?_
              exact kF 2 _ _ wqq (Or.inr rfl) en f18 f19 wF
          · refine x_aload rfl ?_
            refine h_getI 17 sc_94 rfl rfl ?_
            refine x_ci ?_
            refine n_icmp_eq ⟨by omega, by omega⟩ ⟨by omega, by omega⟩ (fun c5 => ?_) (fun c5 => ?_)
            · have hv : tkK B n p1 = 5 ∧ (3 ≤ tkV B n p1 ∧ tkV B n p1 ≤ 8) := by
                have ts5 : tkK B n p1 = 5 ∧ tqq 94 17 = chS (tkV B n p1) ∧ 3 ≤ tkV B n p1 ∧ tkV B n p1 ≤ 15 := by omega
                have ci := (cmp_is ⟨ts5.2.2.1, ts5.2.2.2⟩).mpr (by omega)
                exact ⟨ts5.1, ts5.2.2.1, ci⟩
              obtain ⟨g, hgv⟩ : ∃ g, tkV B n p1 = g := ⟨_, rfl⟩
              rw [hgv] at hv
              have hj : jsg (tkK B n p1) (tkV B n p1) = g := by rw [hv.1, hgv]; exact jsg_5 (by omega)
              have cg : clo g = 4 := by
                have gc : g = 3 ∨ g = 4 ∨ g = 5 ∨ g = 6 ∨ g = 7 ∨ g = 8 := by omega
                rcases gc with zqq | zqq | zqq | zqq | zqq | zqq <;> rw [zqq] <;> decide
              have c5 : cl5 g = 5 := if_pos cg
              have tn := tkE_R (B := B) g6.2.1 (by omega) (by omega)
              have tp2 := tot_pps (W := W) (K := K2) (fun x hx => (gV x hx).1)
              have sb1 := gI.suf (fun x hx => (gV x hx).1)
              have hVc : ∀ x, x ∈ V → x ≠ 13 ∧ cl5 g ≤ clo x := fun x hx => ⟨(gV x hx).1, by have := (gV x hx).2; omega⟩
              have hWc : topL (cl5 g) W := topL_le hT (by omega)
              have tR : 0 ≤ tot W (pps V K2) ∧ tot W (pps V K2) ≤ 64 := ⟨by
                have := opn_le W
                unfold tot
                omega, sb1.1⟩
              have dk : dD W (pps V K2) ≤ dD W K := by
                unfold dD
                rw [tp2.1]
                have := g6.2.2
                omega
              have op8 := sb1.2.1
              refine x_aload rfl ?_
              refine h_getI 17 sc_94 rfl rfl ?_
              rw [(gE.2.1.2.2.2.2.2.2.2 hv.1).2, hgv]
              refine n_istore [some (vR _), some (vI _)] (Nat.le_of_ble_eq_true rfl) rfl ?_
              refine x_aload rfl ?_
              refine n_call [vR _] [] (by omega) (Nat.le_of_ble_eq_true rfl) rfl rfl (Nat.le_of_ble_eq_true rfl) ?_
              refine r_knot (by omega) gE.2.2.1 gE.2.1.2.1 gE.2.2.2.1 (by omega) (fun y => ?_) (fun y => ?_)
              · show wp PP _ _ _ _ [] _ _
                refine x_aload rfl ?_
                refine n_call [vR _] [] (by omega) (Nat.le_of_ble_eq_true rfl) rfl rfl (Nat.le_of_ble_eq_true rfl) ?_
                refine r_goOn (p := tkE B n p1) (by omega) ((up_i (by decide)).trans gE.2.2.1) (gE.1.of (up_i (by decide)) (fun r => up_a (by decide))) hb ((up_i (by decide)).trans gE.2.1.1) tn.2 (fun uqq u1qq u2qq => ?_)
                have hE2 : RE B n (tkE B n p1) (g :: W) (pps V K2) uqq := ⟨(gE.1.of (up_i (by decide)) (fun r => up_a (by decide))).f u2qq, u1qq, (u2qq 94 18 (by omega)).trans ((up_i (by decide)).trans gE.2.2.1), by rw [u2qq 94 23 (by omega), up_e, (tot_cons (W := W) (K := (pps V K2)) (x := g) (by omega)).1], by rw [u2qq 94 22 (by omega), up_i (by decide), gE.2.2.2.2.1, (tot_cons (W := W) (K := (pps V K2)) (x := g) (by omega)).2], gE.2.2.2.2.2.of (fun b r hb9 => by rw [u2qq b r (by omega), up_f (by omega)])⟩
                have es := eS_op (V := V) (W := W) (K := K2) hj (by omega) hVc hWc (fun _ => hT) (by omega)
                have ok := eStep_ok (tkR_is hb) (by omega) gI es
                have dd : dD (g :: W) (pps V K2) = dD W (pps V K2) - 1 := by
                  unfold dD
                  rw [(tot_cons (W := W) (K := (pps V K2)) (x := g) (by omega)).1, (tot_cons (W := W) (K := (pps V K2)) (x := g) (by omega)).2]
                  omega
                show wp PP _ _ _ [some (vR _), some (vI _)] [] _ _
                refine x_aload rfl ?_
                refine n_call [vR _] [] (by omega) (Nat.le_of_ble_eq_true rfl) rfl rfl (Nat.le_of_ble_eq_true rfl) ?_
                refine hInS (n - tkE B n p1) (by omega) (Nat.le_refl _) (by omega) tn.2 hE2 ok.1 (by split <;> omega) (fun y => by omega) (fun _ y => by have y1 := y.1; rw [if_neg (show ¬ clo g ≤ 2 by omega)] at y1; omega) (topL_c (by omega)) (fun p2 V2 K3 wqq e1 e2 e3 e4 e5 e6 e7 => ?_) (fun f pl K3 wqq hf12 e1 f18 f19 wF0 => ?_)
                · have sb := e3.suf (fun x hx => (e2 x hx).1)
                  have sp2 := eB_pop sb (by omega)
                  show wp PP _ _ _ _ [] _ _
                  refine x_aload rfl ?_
                  refine x_ci ?_
                  refine x_iload rfl ?_
                  refine n_call [vR _, vI _, vI _] [] (by omega) (Nat.le_of_ble_eq_true rfl) rfl rfl (Nat.le_of_ble_eq_true rfl) ?_
                  rw [chS_12 (show g ≤ 12 by omega)]
                  refine r_puts (x := 20000 + g) (by omega) e4.2.2.1 e4.2.2.2.2.2 sp2.2 (kR_sg (by omega)) (fun x x1 x2 => ?_)
                  have hE3 : RE B n p2 W (pps (V2 ++ [g]) K3) x := by
                    rw [pps_app]
                    refine ⟨e4.1.of (x2 94 13 (by omega) (by omega)) (fun r => x2 95 r (by omega) (by omega)), ?_, (x2 94 18 (by omega) (by omega)).trans e4.2.2.1, ?_, ?_, x1⟩
                    · have e42 := e4.2.1
                      unfold TKN at e42 ⊢
                      rw [x2 94 14 (by omega) (by omega), x2 94 15 (by omega) (by omega), x2 94 16 (by omega) (by omega), x2 94 17 (by omega) (by omega)]
                      exact e42
                    · show _ = tot W (addK (pps V2 K3) (20000 + g))
                      rw [x2 94 23 (by omega) (by omega), e4.2.2.2.1, (tot_cons (W := W) (K := pps V2 K3) (x := g) (by omega)).1, tot_add]
                    · rw [x2 94 22 (by omega) (by omega), e4.2.2.2.2.1, (tot_cons (W := W) (K := pps V2 K3) (x := g) (by omega)).2]
                  have ea : V2 ++ [g] ++ W = V2 ++ g :: W := by rw [List.append_assoc]; rfl
                  show wp PP _ _ _ [some (vR _), some (vI _)] [] _ _
                  refine x_ret ?_
                  have hLA : LA B n 3 p2 (V2 ++ [g] ++ W) K3 := by
                    rw [ea]
                    refine ⟨fun y => e5.1 (by omega), fun y => e5.2.1 (by omega), fun _ _ => ?_, fun y => absurd y (by decide), fun y => absurd y (by decide)⟩
                    rw [stl_pps 5 e2, stl_id (topL_c (by omega))]
                    exact cg
                  refine kS p2 (V2 ++ [g]) K3 x (fun r y => gR r (eEnd_step es (e1 r (by rw [← ea]; exact y)))) (fun y hy => ?_) (by rw [ea]; exact e3) hE3 hLA ⟨by omega, by omega, by rw [ea]; have e8 := (tot_cons (W := W) (K := pps V K2) (x := g) (by omega)).1; have := e6.2.2; omega⟩ (qF_tr gF (qF_tr (qF_tr (qF_up qF_rfl (by omega)) u2qq.q) (qF_tr e7 (fun b r q1 q2 q3 q4 => x2 b r (by omega) (by omega)))))
                  rcases List.mem_append.mp hy with hy | hy
                  · exact ⟨(e2 y hy).1, by have := (e2 y hy).2; omega⟩
                  · have := List.mem_singleton.mp hy
                    rw [this]
                    omega
                · have en := gR _ (eEnd_step es e1)
                  have hf : iR (wqq 94 18) ∧ wqq 94 18 ≠ 0 := by rw [f18]; omega
                  have wF : qFw s wqq := qFw_tr gF (qFw_tr (qF_tr (qF_up qF_rfl (by omega)) u2qq.q) wF0)
                  show wp PP _ _ _ _ [] _ _
                  refine x_aload rfl ?_
                  refine x_ci ?_
                  refine x_iload rfl ?_
                  refine n_call [vR _, vI _, vI _] [] (by omega) (Nat.le_of_ble_eq_true rfl) rfl rfl (Nat.le_of_ble_eq_true rfl) ?_
                  refine f_puts hf ?_
                  show wp PP _ _ _ [some (vR _), some (vI _)] [] _ _
                  refine x_ret ?_
                  exact kF f pl K3 wqq hf12 en f18 f19 wF
              · have en := gR _ (eEnd_stop (eS_op2 (V := V) (W := W) (K := K2) hj (by omega) hVc hWc (fun _ => hT) (by omega)) (by omega))
                rw [if_neg (show ¬ (2 : Int) = -1 by decide)] at en
                obtain ⟨wqq, hw⟩ : ∃ wqq, wqq = up (up tqq 94 18 2) 94 19 ((tkP B n p1 : Nat) : Int) := ⟨_, rfl⟩
                rw [← hw]
                have f18 : wqq 94 18 = 2 := by rw [hw, up_i (by decide), up_e]
                have f19 : wqq 94 19 = ((tkP B n p1 : Nat) : Int) := by rw [hw, up_e]
                have hf : iR (wqq 94 18) ∧ wqq 94 18 ≠ 0 := by rw [f18]; omega
                have wF : qFw s wqq := by
                  rw [hw]
                  exact qFw_up (qFw_up (qF.w gF) (by omega)) (by omega)
                show wp PP _ _ _ _ [] _ _
                refine x_aload rfl ?_
                refine n_call [vR _] [] (by omega) (Nat.le_of_ble_eq_true rfl) rfl rfl (Nat.le_of_ble_eq_true rfl) ?_
                refine f_goOn hf ?_
                show wp PP _ _ _ [some (vR _), some (vI _)] [] _ _
                refine x_aload rfl ?_
                refine n_call [vR _] [] (by omega) (Nat.le_of_ble_eq_true rfl) rfl rfl (Nat.le_of_ble_eq_true rfl) ?_
                refine f_sum (by omega) hf ?_
                show wp PP _ _ _ [some (vR _), some (vI _)] [] _ _
                refine x_aload rfl ?_
                refine x_ci ?_
                refine x_iload rfl ?_
                refine n_call [vR _, vI _, vI _] [] (by omega) (Nat.le_of_ble_eq_true rfl) rfl rfl (Nat.le_of_ble_eq_true rfl) ?_
                refine f_puts hf ?_
                show wp PP _ _ _ [some (vR _), some (vI _)] [] _ _
                refine x_ret ?_
                exact kF 2 _ _ wqq (Or.inr rfl) en f18 f19 wF
            · refine x_aload rfl ?_
              refine h_getI 17 sc_94 rfl rfl ?_
              refine x_ci ?_
              refine n_icmp_eq ⟨by omega, by omega⟩ ⟨by omega, by omega⟩ (fun c6 => ?_) (fun c6 => ?_)
              · have hv : tkK B n p1 = 5 ∧ (3 ≤ tkV B n p1 ∧ tkV B n p1 ≤ 8) := by
                  have ts5 : tkK B n p1 = 5 ∧ tqq 94 17 = chS (tkV B n p1) ∧ 3 ≤ tkV B n p1 ∧ tkV B n p1 ≤ 15 := by omega
                  have ci := (cmp_is ⟨ts5.2.2.1, ts5.2.2.2⟩).mpr (by omega)
                  exact ⟨ts5.1, ts5.2.2.1, ci⟩
                obtain ⟨g, hgv⟩ : ∃ g, tkV B n p1 = g := ⟨_, rfl⟩
                rw [hgv] at hv
                have hj : jsg (tkK B n p1) (tkV B n p1) = g := by rw [hv.1, hgv]; exact jsg_5 (by omega)
                have cg : clo g = 4 := by
                  have gc : g = 3 ∨ g = 4 ∨ g = 5 ∨ g = 6 ∨ g = 7 ∨ g = 8 := by omega
                  rcases gc with zqq | zqq | zqq | zqq | zqq | zqq <;> rw [zqq] <;> decide
                have c5 : cl5 g = 5 := if_pos cg
                have tn := tkE_R (B := B) g6.2.1 (by omega) (by omega)
                have tp2 := tot_pps (W := W) (K := K2) (fun x hx => (gV x hx).1)
                have sb1 := gI.suf (fun x hx => (gV x hx).1)
                have hVc : ∀ x, x ∈ V → x ≠ 13 ∧ cl5 g ≤ clo x := fun x hx => ⟨(gV x hx).1, by have := (gV x hx).2; omega⟩
                have hWc : topL (cl5 g) W := topL_le hT (by omega)
                have tR : 0 ≤ tot W (pps V K2) ∧ tot W (pps V K2) ≤ 64 := ⟨by
                  have := opn_le W
                  unfold tot
                  omega, sb1.1⟩
                have dk : dD W (pps V K2) ≤ dD W K := by
                  unfold dD
                  rw [tp2.1]
                  have := g6.2.2
                  omega
                have op8 := sb1.2.1
                refine x_aload rfl ?_
                refine h_getI 17 sc_94 rfl rfl ?_
                rw [(gE.2.1.2.2.2.2.2.2.2 hv.1).2, hgv]
                refine n_istore [some (vR _), some (vI _)] (Nat.le_of_ble_eq_true rfl) rfl ?_
                refine x_aload rfl ?_
                refine n_call [vR _] [] (by omega) (Nat.le_of_ble_eq_true rfl) rfl rfl (Nat.le_of_ble_eq_true rfl) ?_
                refine r_knot (by omega) gE.2.2.1 gE.2.1.2.1 gE.2.2.2.1 (by omega) (fun y => ?_) (fun y => ?_)
                · show wp PP _ _ _ _ [] _ _
                  refine x_aload rfl ?_
                  refine n_call [vR _] [] (by omega) (Nat.le_of_ble_eq_true rfl) rfl rfl (Nat.le_of_ble_eq_true rfl) ?_
                  refine r_goOn (p := tkE B n p1) (by omega) ((up_i (by decide)).trans gE.2.2.1) (gE.1.of (up_i (by decide)) (fun r => up_a (by decide))) hb ((up_i (by decide)).trans gE.2.1.1) tn.2 (fun uqq u1qq u2qq => ?_)
                  have hE2 : RE B n (tkE B n p1) (g :: W) (pps V K2) uqq := ⟨(gE.1.of (up_i (by decide)) (fun r => up_a (by decide))).f u2qq, u1qq, (u2qq 94 18 (by omega)).trans ((up_i (by decide)).trans gE.2.2.1), by rw [u2qq 94 23 (by omega), up_e, (tot_cons (W := W) (K := (pps V K2)) (x := g) (by omega)).1], by rw [u2qq 94 22 (by omega), up_i (by decide), gE.2.2.2.2.1, (tot_cons (W := W) (K := (pps V K2)) (x := g) (by omega)).2], gE.2.2.2.2.2.of (fun b r hb9 => by rw [u2qq b r (by omega), up_f (by omega)])⟩
                  have es := eS_op (V := V) (W := W) (K := K2) hj (by omega) hVc hWc (fun _ => hT) (by omega)
                  have ok := eStep_ok (tkR_is hb) (by omega) gI es
                  have dd : dD (g :: W) (pps V K2) = dD W (pps V K2) - 1 := by
                    unfold dD
                    rw [(tot_cons (W := W) (K := (pps V K2)) (x := g) (by omega)).1, (tot_cons (W := W) (K := (pps V K2)) (x := g) (by omega)).2]
                    omega
                  show wp PP _ _ _ [some (vR _), some (vI _)] [] _ _
                  refine x_aload rfl ?_
                  refine n_call [vR _] [] (by omega) (Nat.le_of_ble_eq_true rfl) rfl rfl (Nat.le_of_ble_eq_true rfl) ?_
                  refine hInS (n - tkE B n p1) (by omega) (Nat.le_refl _) (by omega) tn.2 hE2 ok.1 (by split <;> omega) (fun y => by omega) (fun _ y => by have y1 := y.1; rw [if_neg (show ¬ clo g ≤ 2 by omega)] at y1; omega) (topL_c (by omega)) (fun p2 V2 K3 wqq e1 e2 e3 e4 e5 e6 e7 => ?_) (fun f pl K3 wqq hf12 e1 f18 f19 wF0 => ?_)
                  · have sb := e3.suf (fun x hx => (e2 x hx).1)
                    have sp2 := eB_pop sb (by omega)
                    show wp PP _ _ _ _ [] _ _
                    refine x_aload rfl ?_
                    refine x_ci ?_
                    refine x_iload rfl ?_
                    refine n_call [vR _, vI _, vI _] [] (by omega) (Nat.le_of_ble_eq_true rfl) rfl rfl (Nat.le_of_ble_eq_true rfl) ?_
                    rw [chS_12 (show g ≤ 12 by omega)]
                    refine r_puts (x := 20000 + g) (by omega) e4.2.2.1 e4.2.2.2.2.2 sp2.2 (kR_sg (by omega)) (fun x x1 x2 => ?_)
                    have hE3 : RE B n p2 W (pps (V2 ++ [g]) K3) x := by
                      rw [pps_app]
                      refine ⟨e4.1.of (x2 94 13 (by omega) (by omega)) (fun r => x2 95 r (by omega) (by omega)), ?_, (x2 94 18 (by omega) (by omega)).trans e4.2.2.1, ?_, ?_, x1⟩
                      · have e42 := e4.2.1
                        unfold TKN at e42 ⊢
                        rw [x2 94 14 (by omega) (by omega), x2 94 15 (by omega) (by omega), x2 94 16 (by omega) (by omega), x2 94 17 (by omega) (by omega)]
                        exact e42
                      · show _ = tot W (addK (pps V2 K3) (20000 + g))
                        rw [x2 94 23 (by omega) (by omega), e4.2.2.2.1, (tot_cons (W := W) (K := pps V2 K3) (x := g) (by omega)).1, tot_add]
                      · rw [x2 94 22 (by omega) (by omega), e4.2.2.2.2.1, (tot_cons (W := W) (K := pps V2 K3) (x := g) (by omega)).2]
                    have ea : V2 ++ [g] ++ W = V2 ++ g :: W := by rw [List.append_assoc]; rfl
                    show wp PP _ _ _ [some (vR _), some (vI _)] [] _ _
                    refine x_ret ?_
                    have hLA : LA B n 3 p2 (V2 ++ [g] ++ W) K3 := by
                      rw [ea]
                      refine ⟨fun y => e5.1 (by omega), fun y => e5.2.1 (by omega), fun _ _ => ?_, fun y => absurd y (by decide), fun y => absurd y (by decide)⟩
                      rw [stl_pps 5 e2, stl_id (topL_c (by omega))]
                      exact cg
                    refine kS p2 (V2 ++ [g]) K3 x (fun r y => gR r (eEnd_step es (e1 r (by rw [← ea]; exact y)))) (fun y hy => ?_) (by rw [ea]; exact e3) hE3 hLA ⟨by omega, by omega, by rw [ea]; have e8 := (tot_cons (W := W) (K := pps V K2) (x := g) (by omega)).1; have := e6.2.2; omega⟩ (qF_tr gF (qF_tr (qF_tr (qF_up qF_rfl (by omega)) u2qq.q) (qF_tr e7 (fun b r q1 q2 q3 q4 => x2 b r (by omega) (by omega)))))
                    rcases List.mem_append.mp hy with hy | hy
                    · exact ⟨(e2 y hy).1, by have := (e2 y hy).2; omega⟩
                    · have := List.mem_singleton.mp hy
                      rw [this]
                      omega
                  · have en := gR _ (eEnd_step es e1)
                    have hf : iR (wqq 94 18) ∧ wqq 94 18 ≠ 0 := by rw [f18]; omega
                    have wF : qFw s wqq := qFw_tr gF (qFw_tr (qF_tr (qF_up qF_rfl (by omega)) u2qq.q) wF0)
                    show wp PP _ _ _ _ [] _ _
                    refine x_aload rfl ?_
                    refine x_ci ?_
                    refine x_iload rfl ?_
                    refine n_call [vR _, vI _, vI _] [] (by omega) (Nat.le_of_ble_eq_true rfl) rfl rfl (Nat.le_of_ble_eq_true rfl) ?_
                    refine f_puts hf ?_
                    show wp PP _ _ _ [some (vR _), some (vI _)] [] _ _
                    refine x_ret ?_
                    exact kF f pl K3 wqq hf12 en f18 f19 wF
                · have en := gR _ (eEnd_stop (eS_op2 (V := V) (W := W) (K := K2) hj (by omega) hVc hWc (fun _ => hT) (by omega)) (by omega))
                  rw [if_neg (show ¬ (2 : Int) = -1 by decide)] at en
                  obtain ⟨wqq, hw⟩ : ∃ wqq, wqq = up (up tqq 94 18 2) 94 19 ((tkP B n p1 : Nat) : Int) := ⟨_, rfl⟩
                  rw [← hw]
                  have f18 : wqq 94 18 = 2 := by rw [hw, up_i (by decide), up_e]
                  have f19 : wqq 94 19 = ((tkP B n p1 : Nat) : Int) := by rw [hw, up_e]
                  have hf : iR (wqq 94 18) ∧ wqq 94 18 ≠ 0 := by rw [f18]; omega
                  have wF : qFw s wqq := by
                    rw [hw]
                    exact qFw_up (qFw_up (qF.w gF) (by omega)) (by omega)
                  show wp PP _ _ _ _ [] _ _
                  refine x_aload rfl ?_
                  refine n_call [vR _] [] (by omega) (Nat.le_of_ble_eq_true rfl) rfl rfl (Nat.le_of_ble_eq_true rfl) ?_
                  refine f_goOn hf ?_
                  show wp PP _ _ _ [some (vR _), some (vI _)] [] _ _
                  refine x_aload rfl ?_
                  refine n_call [vR _] [] (by omega) (Nat.le_of_ble_eq_true rfl) rfl rfl (Nat.le_of_ble_eq_true rfl) ?_
                  refine f_sum (by omega) hf ?_
                  show wp PP _ _ _ [some (vR _), some (vI _)] [] _ _
                  refine x_aload rfl ?_
                  refine x_ci ?_
                  refine x_iload rfl ?_
                  refine n_call [vR _, vI _, vI _] [] (by omega) (Nat.le_of_ble_eq_true rfl) rfl rfl (Nat.le_of_ble_eq_true rfl) ?_
                  refine f_puts hf ?_
                  show wp PP _ _ _ [some (vR _), some (vI _)] [] _ _
                  refine x_ret ?_
                  exact kF 2 _ _ wqq (Or.inr rfl) en f18 f19 wF
              · refine x_aload rfl ?_
                refine h_getI 17 sc_94 rfl rfl ?_
                refine x_ci ?_
                refine n_icmp_ge ⟨by omega, by omega⟩ ⟨by omega, by omega⟩ (fun c7 => ?_) (fun c7 => ?_)
                · have hv : tkK B n p1 = 5 ∧ (3 ≤ tkV B n p1 ∧ tkV B n p1 ≤ 8) := by
                    have ts5 : tkK B n p1 = 5 ∧ tqq 94 17 = chS (tkV B n p1) ∧ 3 ≤ tkV B n p1 ∧ tkV B n p1 ≤ 15 := by omega
                    have ci := (cmp_is ⟨ts5.2.2.1, ts5.2.2.2⟩).mpr (by omega)
                    exact ⟨ts5.1, ts5.2.2.1, ci⟩
                  obtain ⟨g, hgv⟩ : ∃ g, tkV B n p1 = g := ⟨_, rfl⟩
                  rw [hgv] at hv
                  have hj : jsg (tkK B n p1) (tkV B n p1) = g := by rw [hv.1, hgv]; exact jsg_5 (by omega)
                  have cg : clo g = 4 := by
                    have gc : g = 3 ∨ g = 4 ∨ g = 5 ∨ g = 6 ∨ g = 7 ∨ g = 8 := by omega
                    rcases gc with zqq | zqq | zqq | zqq | zqq | zqq <;> rw [zqq] <;> decide
                  have c5 : cl5 g = 5 := if_pos cg
                  have tn := tkE_R (B := B) g6.2.1 (by omega) (by omega)
                  have tp2 := tot_pps (W := W) (K := K2) (fun x hx => (gV x hx).1)
                  have sb1 := gI.suf (fun x hx => (gV x hx).1)
                  have hVc : ∀ x, x ∈ V → x ≠ 13 ∧ cl5 g ≤ clo x := fun x hx => ⟨(gV x hx).1, by have := (gV x hx).2; omega⟩
                  have hWc : topL (cl5 g) W := topL_le hT (by omega)
                  have tR : 0 ≤ tot W (pps V K2) ∧ tot W (pps V K2) ≤ 64 := ⟨by
                    have := opn_le W
                    unfold tot
                    omega, sb1.1⟩
                  have dk : dD W (pps V K2) ≤ dD W K := by
                    unfold dD
                    rw [tp2.1]
                    have := g6.2.2
                    omega
                  have op8 := sb1.2.1
                  refine x_aload rfl ?_
                  refine h_getI 17 sc_94 rfl rfl ?_
                  rw [(gE.2.1.2.2.2.2.2.2.2 hv.1).2, hgv]
                  refine n_istore [some (vR _), some (vI _)] (Nat.le_of_ble_eq_true rfl) rfl ?_
                  refine x_aload rfl ?_
                  refine n_call [vR _] [] (by omega) (Nat.le_of_ble_eq_true rfl) rfl rfl (Nat.le_of_ble_eq_true rfl) ?_
                  refine r_knot (by omega) gE.2.2.1 gE.2.1.2.1 gE.2.2.2.1 (by omega) (fun y => ?_) (fun y => ?_)
                  · show wp PP _ _ _ _ [] _ _
                    refine x_aload rfl ?_
                    refine n_call [vR _] [] (by omega) (Nat.le_of_ble_eq_true rfl) rfl rfl (Nat.le_of_ble_eq_true rfl) ?_
                    refine r_goOn (p := tkE B n p1) (by omega) ((up_i (by decide)).trans gE.2.2.1) (gE.1.of (up_i (by decide)) (fun r => up_a (by decide))) hb ((up_i (by decide)).trans gE.2.1.1) tn.2 (fun uqq u1qq u2qq => ?_)
                    have hE2 : RE B n (tkE B n p1) (g :: W) (pps V K2) uqq := ⟨(gE.1.of (up_i (by decide)) (fun r => up_a (by decide))).f u2qq, u1qq, (u2qq 94 18 (by omega)).trans ((up_i (by decide)).trans gE.2.2.1), by rw [u2qq 94 23 (by omega), up_e, (tot_cons (W := W) (K := (pps V K2)) (x := g) (by omega)).1], by rw [u2qq 94 22 (by omega), up_i (by decide), gE.2.2.2.2.1, (tot_cons (W := W) (K := (pps V K2)) (x := g) (by omega)).2], gE.2.2.2.2.2.of (fun b r hb9 => by rw [u2qq b r (by omega), up_f (by omega)])⟩
                    have es := eS_op (V := V) (W := W) (K := K2) hj (by omega) hVc hWc (fun _ => hT) (by omega)
                    have ok := eStep_ok (tkR_is hb) (by omega) gI es
                    have dd : dD (g :: W) (pps V K2) = dD W (pps V K2) - 1 := by
                      unfold dD
                      rw [(tot_cons (W := W) (K := (pps V K2)) (x := g) (by omega)).1, (tot_cons (W := W) (K := (pps V K2)) (x := g) (by omega)).2]
                      omega
                    show wp PP _ _ _ [some (vR _), some (vI _)] [] _ _
                    refine x_aload rfl ?_
                    refine n_call [vR _] [] (by omega) (Nat.le_of_ble_eq_true rfl) rfl rfl (Nat.le_of_ble_eq_true rfl) ?_
                    refine hInS (n - tkE B n p1) (by omega) (Nat.le_refl _) (by omega) tn.2 hE2 ok.1 (by split <;> omega) (fun y => by omega) (fun _ y => by have y1 := y.1; rw [if_neg (show ¬ clo g ≤ 2 by omega)] at y1; omega) (topL_c (by omega)) (fun p2 V2 K3 wqq e1 e2 e3 e4 e5 e6 e7 => ?_) (fun f pl K3 wqq hf12 e1 f18 f19 wF0 => ?_)
                    · have sb := e3.suf (fun x hx => (e2 x hx).1)
                      have sp2 := eB_pop sb (by omega)
                      show wp PP _ _ _ _ [] _ _
                      refine x_aload rfl ?_
                      refine x_ci ?_
                      refine x_iload rfl ?_
                      refine n_call [vR _, vI _, vI _] [] (by omega) (Nat.le_of_ble_eq_true rfl) rfl rfl (Nat.le_of_ble_eq_true rfl) ?_
                      rw [chS_12 (show g ≤ 12 by omega)]
                      refine r_puts (x := 20000 + g) (by omega) e4.2.2.1 e4.2.2.2.2.2 sp2.2 (kR_sg (by omega)) (fun x x1 x2 => ?_)
                      have hE3 : RE B n p2 W (pps (V2 ++ [g]) K3) x := by
                        rw [pps_app]
                        refine ⟨e4.1.of (x2 94 13 (by omega) (by omega)) (fun r => x2 95 r (by omega) (by omega)), ?_, (x2 94 18 (by omega) (by omega)).trans e4.2.2.1, ?_, ?_, x1⟩
                        · have e42 := e4.2.1
                          unfold TKN at e42 ⊢
                          rw [x2 94 14 (by omega) (by omega), x2 94 15 (by omega) (by omega), x2 94 16 (by omega) (by omega), x2 94 17 (by omega) (by omega)]
                          exact e42
                        · show _ = tot W (addK (pps V2 K3) (20000 + g))
                          rw [x2 94 23 (by omega) (by omega), e4.2.2.2.1, (tot_cons (W := W) (K := pps V2 K3) (x := g) (by omega)).1, tot_add]
                        · rw [x2 94 22 (by omega) (by omega), e4.2.2.2.2.1, (tot_cons (W := W) (K := pps V2 K3) (x := g) (by omega)).2]
                      have ea : V2 ++ [g] ++ W = V2 ++ g :: W := by rw [List.append_assoc]; rfl
                      show wp PP _ _ _ [some (vR _), some (vI _)] [] _ _
                      refine x_ret ?_
                      have hLA : LA B n 3 p2 (V2 ++ [g] ++ W) K3 := by
                        rw [ea]
                        refine ⟨fun y => e5.1 (by omega), fun y => e5.2.1 (by omega), fun _ _ => ?_, fun y => absurd y (by decide), fun y => absurd y (by decide)⟩
                        rw [stl_pps 5 e2, stl_id (topL_c (by omega))]
                        exact cg
                      refine kS p2 (V2 ++ [g]) K3 x (fun r y => gR r (eEnd_step es (e1 r (by rw [← ea]; exact y)))) (fun y hy => ?_) (by rw [ea]; exact e3) hE3 hLA ⟨by omega, by omega, by rw [ea]; have e8 := (tot_cons (W := W) (K := pps V K2) (x := g) (by omega)).1; have := e6.2.2; omega⟩ (qF_tr gF (qF_tr (qF_tr (qF_up qF_rfl (by omega)) u2qq.q) (qF_tr e7 (fun b r q1 q2 q3 q4 => x2 b r (by omega) (by omega)))))
                      rcases List.mem_append.mp hy with hy | hy
                      · exact ⟨(e2 y hy).1, by have := (e2 y hy).2; omega⟩
                      · have := List.mem_singleton.mp hy
                        rw [this]
                        omega
                    · have en := gR _ (eEnd_step es e1)
                      have hf : iR (wqq 94 18) ∧ wqq 94 18 ≠ 0 := by rw [f18]; omega
                      have wF : qFw s wqq := qFw_tr gF (qFw_tr (qF_tr (qF_up qF_rfl (by omega)) u2qq.q) wF0)
                      show wp PP _ _ _ _ [] _ _
                      refine x_aload rfl ?_
                      refine x_ci ?_
                      refine x_iload rfl ?_
                      refine n_call [vR _, vI _, vI _] [] (by omega) (Nat.le_of_ble_eq_true rfl) rfl rfl (Nat.le_of_ble_eq_true rfl) ?_
                      refine f_puts hf ?_
                      show wp PP _ _ _ [some (vR _), some (vI _)] [] _ _
                      refine x_ret ?_
                      exact kF f pl K3 wqq hf12 en f18 f19 wF
                  · have en := gR _ (eEnd_stop (eS_op2 (V := V) (W := W) (K := K2) hj (by omega) hVc hWc (fun _ => hT) (by omega)) (by omega))
                    rw [if_neg (show ¬ (2 : Int) = -1 by decide)] at en
                    obtain ⟨wqq, hw⟩ : ∃ wqq, wqq = up (up tqq 94 18 2) 94 19 ((tkP B n p1 : Nat) : Int) := ⟨_, rfl⟩
                    rw [← hw]
                    have f18 : wqq 94 18 = 2 := by rw [hw, up_i (by decide), up_e]
                    have f19 : wqq 94 19 = ((tkP B n p1 : Nat) : Int) := by rw [hw, up_e]
                    have hf : iR (wqq 94 18) ∧ wqq 94 18 ≠ 0 := by rw [f18]; omega
                    have wF : qFw s wqq := by
                      rw [hw]
                      exact qFw_up (qFw_up (qF.w gF) (by omega)) (by omega)
                    show wp PP _ _ _ _ [] _ _
                    refine x_aload rfl ?_
                    refine n_call [vR _] [] (by omega) (Nat.le_of_ble_eq_true rfl) rfl rfl (Nat.le_of_ble_eq_true rfl) ?_
                    refine f_goOn hf ?_
                    show wp PP _ _ _ [some (vR _), some (vI _)] [] _ _
                    refine x_aload rfl ?_
                    refine n_call [vR _] [] (by omega) (Nat.le_of_ble_eq_true rfl) rfl rfl (Nat.le_of_ble_eq_true rfl) ?_
                    refine f_sum (by omega) hf ?_
                    show wp PP _ _ _ [some (vR _), some (vI _)] [] _ _
                    refine x_aload rfl ?_
                    refine x_ci ?_
                    refine x_iload rfl ?_
                    refine n_call [vR _, vI _, vI _] [] (by omega) (Nat.le_of_ble_eq_true rfl) rfl rfl (Nat.le_of_ble_eq_true rfl) ?_
                    refine f_puts hf ?_
                    show wp PP _ _ _ [some (vR _), some (vI _)] [] _ _
                    refine x_ret ?_
                    exact kF 2 _ _ wqq (Or.inr rfl) en f18 f19 wF
                · refine x_fall ?_
                  refine x_ret ?_
                  refine kS p1 V K2 tqq gR (fun x hx => ⟨(gV x hx).1, by have := (gV x hx).2; omega⟩) gI gE ⟨fun y => gL.1 (by omega), fun y => gL.2.1 (by omega), fun _ y => ?_, fun y => absurd y (by decide), fun y => absurd y (by decide)⟩ g6 gF
                  exfalso
                  have e9 := (gE.2.1.2.2.2.2.2.2.2 y.1)
                  have ci := (cmp_is ⟨y.2.1, by omega⟩).mp y.2.2
                  omega
    · have hf : iR (wqq 94 18) ∧ wqq 94 18 ≠ 0 := by rw [f18]; omega
      show wp PP _ _ _ _ [] _ _
      refine x_aload rfl ?_
      refine h_getI 18 sc_94 rfl rfl ?_
      rw [f18]
      refine n_if_ne ⟨by omega, by omega⟩ (fun c2 => ?_) (fun c2 => ?_)
      · refine x_ret ?_
        first
          | exact kF f pl K2 wqq hf12 e1 f18 f19 wF
          | (exfalso; omega)
      · refine x_aload rfl ?_
        refine h_getI 16 sc_94 rfl rfl ?_
        refine x_ci ?_
        refine n_icmp_ne ⟨by omega, by omega⟩ ⟨by omega, by omega⟩ (fun c3 => ?_) (fun c3 => ?_)
        · refine x_ret ?_
          first
            | exact kF f pl K2 wqq hf12 e1 f18 f19 wF
            | (exfalso; omega)
        · refine x_aload rfl ?_
          refine h_getI 17 sc_94 rfl rfl ?_
          refine x_ci ?_
          refine n_icmp_eq ⟨by omega, by omega⟩ ⟨by omega, by omega⟩ (fun c4 => ?_) (fun c4 => ?_)
          · exfalso
            omega
          · refine x_aload rfl ?_
            refine h_getI 17 sc_94 rfl rfl ?_
            refine x_ci ?_
            refine n_icmp_eq ⟨by omega, by omega⟩ ⟨by omega, by omega⟩ (fun c5 => ?_) (fun c5 => ?_)
            · exfalso
              omega
            · refine x_aload rfl ?_
              refine h_getI 17 sc_94 rfl rfl ?_
              refine x_ci ?_
              refine n_icmp_eq ⟨by omega, by omega⟩ ⟨by omega, by omega⟩ (fun c6 => ?_) (fun c6 => ?_)
              · exfalso
                omega
              · refine x_aload rfl ?_
                refine h_getI 17 sc_94 rfl rfl ?_
                refine x_ci ?_
                refine n_icmp_ge ⟨by omega, by omega⟩ ⟨by omega, by omega⟩ (fun c7 => ?_) (fun c7 => ?_)
                · exfalso
                  omega
                · refine x_fall ?_
                  refine x_ret ?_
                  first
                    | exact kF f pl K2 wqq hf12 e1 f18 f19 wF
                    | (exfalso; omega)
  · have hk4 : tkK B n p = 4 ∧ tkV B n p = 11 := c1
    have m0 : m = 0 := hm0 (by omega)
    have tn := tkE_R (B := B) hp (by omega) (by omega)
    have gE := hE
    have gI := hI
    have gR : ∀ r, eEnd B n p m W K r → eEnd B n p m W K r := fun r y => y
    have cv := clo_v
    have tR : 0 ≤ tot W K ∧ tot W K ≤ 64 := ⟨by
      have := opn_le W
      unfold tot
      omega, tt0⟩
    refine x_aload rfl ?_
    refine n_call [vR _] [] (by omega) (Nat.le_of_ble_eq_true rfl) rfl rfl (Nat.le_of_ble_eq_true rfl) ?_
    refine r_knot (by omega) gE.2.2.1 gE.2.1.2.1 gE.2.2.2.1 (by omega) (fun y => ?_) (fun y => ?_)
    · show wp PP _ _ _ _ [] _ _
      refine x_aload rfl ?_
      refine n_call [vR _] [] (by omega) (Nat.le_of_ble_eq_true rfl) rfl rfl (Nat.le_of_ble_eq_true rfl) ?_
      refine r_goOn (p := tkE B n p) (by omega) ((up_i (by decide)).trans gE.2.2.1) (gE.1.of (up_i (by decide)) (fun r => up_a (by decide))) hb ((up_i (by decide)).trans gE.2.1.1) tn.2 (fun uqq u1qq u2qq => ?_)
      have hE2 : RE B n (tkE B n p) ((2 : Int) :: W) K uqq := ⟨(gE.1.of (up_i (by decide)) (fun r => up_a (by decide))).f u2qq, u1qq, (u2qq 94 18 (by omega)).trans ((up_i (by decide)).trans gE.2.2.1), by rw [u2qq 94 23 (by omega), up_e, (tot_cons (W := W) (K := K) (x := (2 : Int)) (by omega)).1], by rw [u2qq 94 22 (by omega), up_i (by decide), gE.2.2.2.2.1, (tot_cons (W := W) (K := K) (x := (2 : Int)) (by omega)).2], gE.2.2.2.2.2.of (fun b r hb9 => by rw [u2qq b r (by omega), up_f (by omega)])⟩
      have es := eS_2 (vqq := tkV B n p) hm ⟨hk4.1, hk4.2, m0⟩ (show tot W K < 64 by omega)
      have ok := eStep_ok (tkR_is hb) (by omega) gI es
      have dd : dD ((2 : Int) :: W) K = dD W K - 1 := by
        unfold dD
        rw [(tot_cons (W := W) (K := K) (x := (2 : Int)) (by omega)).1, (tot_cons (W := W) (K := K) (x := (2 : Int)) (by omega)).2]
        omega
      show wp PP _ _ _ [some (vR _), _] [] _ _
      refine x_aload rfl ?_
      refine n_call [vR _] [] (by omega) (Nat.le_of_ble_eq_true rfl) rfl rfl (Nat.le_of_ble_eq_true rfl) ?_
      refine hNeg (n - tkE B n p) (by omega) (Nat.le_refl _) (by omega) tn.2 hE2 ok.1 (by omega) (fun _ => m0) (fun y => by omega) (topL_c (by omega)) (fun p2 V2 K3 wqq e1 e2 e3 e4 e5 e6 e7 => ?_) (fun f pl K3 wqq hf12 e1 f18 f19 wF0 => ?_)
      · have sb := e3.suf (fun x hx => (e2 x hx).1)
        have sp2 := eB_pop sb (by omega)
        show wp PP _ _ _ _ [] _ _
        refine x_aload rfl ?_
        refine x_ci ?_
        refine x_ci ?_
        refine n_call [vR _, vI _, vI _] [] (by omega) (Nat.le_of_ble_eq_true rfl) rfl rfl (Nat.le_of_ble_eq_true rfl) ?_
        refine r_puts (x := 20000 + (2 : Int)) (by omega) e4.2.2.1 e4.2.2.2.2.2 sp2.2 (kR_sg (by omega)) (fun x x1 x2 => ?_)
        have hE3 : RE B n p2 W (pps (V2 ++ [(2 : Int)]) K3) x := by
          rw [pps_app]
          refine ⟨e4.1.of (x2 94 13 (by omega) (by omega)) (fun r => x2 95 r (by omega) (by omega)), ?_, (x2 94 18 (by omega) (by omega)).trans e4.2.2.1, ?_, ?_, x1⟩
          · have e42 := e4.2.1
            unfold TKN at e42 ⊢
            rw [x2 94 14 (by omega) (by omega), x2 94 15 (by omega) (by omega), x2 94 16 (by omega) (by omega), x2 94 17 (by omega) (by omega)]
            exact e42
          · show _ = tot W (addK (pps V2 K3) (20000 + (2 : Int)))
            rw [x2 94 23 (by omega) (by omega), e4.2.2.2.1, (tot_cons (W := W) (K := pps V2 K3) (x := (2 : Int)) (by omega)).1, tot_add]
          · rw [x2 94 22 (by omega) (by omega), e4.2.2.2.2.1, (tot_cons (W := W) (K := pps V2 K3) (x := (2 : Int)) (by omega)).2]
        have ea : V2 ++ [(2 : Int)] ++ W = V2 ++ (2 : Int) :: W := by rw [List.append_assoc]; rfl
        show wp PP _ _ _ [some (vR _), _] [] _ _
        refine x_ret ?_
        refine kS p2 (V2 ++ [2]) K3 x (fun r y => eEnd_step es (e1 r (by rw [← ea]; exact y))) (fun y hy => ?_) (by rw [ea]; exact e3) hE3 (by rw [ea]; exact e5) ⟨by omega, by omega, by rw [ea]; have e8 := (tot_cons (W := W) (K := K) (x := 2) (by omega)).1; have := e6.2.2; omega⟩ (qF_tr (qF_tr (qF_up qF_rfl (by omega)) u2qq.q) (qF_tr e7 (fun b r q1 q2 q3 q4 => x2 b r (by omega) (by omega))))
        rcases List.mem_append.mp hy with hy | hy
        · exact e2 y hy
        · have := List.mem_singleton.mp hy
          rw [this]
          omega
      · have en := gR _ (eEnd_step es e1)
        have hf : iR (wqq 94 18) ∧ wqq 94 18 ≠ 0 := by rw [f18]; omega
        have wF : qFw s wqq := qFw_tr qF_rfl (qFw_tr (qF_tr (qF_up qF_rfl (by omega)) u2qq.q) wF0)
        show wp PP _ _ _ _ [] _ _
        refine x_aload rfl ?_
        refine x_ci ?_
        refine x_ci ?_
        refine n_call [vR _, vI _, vI _] [] (by omega) (Nat.le_of_ble_eq_true rfl) rfl rfl (Nat.le_of_ble_eq_true rfl) ?_
        refine f_puts hf ?_
        show wp PP _ _ _ [some (vR _), _] [] _ _
        refine x_ret ?_
        exact kF f pl K3 wqq hf12 en f18 f19 wF
    · have en := gR _ (eEnd_stop (eS_3 (W := W) (K := K) hm ⟨hk4.1, hk4.2, m0⟩ (show 64 ≤ tot W K by omega)) (by omega))
      rw [if_neg (show ¬ (2 : Int) = -1 by decide)] at en
      obtain ⟨wqq, hw⟩ : ∃ wqq, wqq = up (up s 94 18 2) 94 19 ((tkP B n p : Nat) : Int) := ⟨_, rfl⟩
      rw [← hw]
      have f18 : wqq 94 18 = 2 := by rw [hw, up_i (by decide), up_e]
      have f19 : wqq 94 19 = ((tkP B n p : Nat) : Int) := by rw [hw, up_e]
      have hf : iR (wqq 94 18) ∧ wqq 94 18 ≠ 0 := by rw [f18]; omega
      have wF : qFw s wqq := by
        rw [hw]
        exact qFw_up (qFw_up (qF.w qF_rfl) (by omega)) (by omega)
      show wp PP _ _ _ _ [] _ _
      refine x_aload rfl ?_
      refine n_call [vR _] [] (by omega) (Nat.le_of_ble_eq_true rfl) rfl rfl (Nat.le_of_ble_eq_true rfl) ?_
      refine f_goOn hf ?_
      show wp PP _ _ _ [some (vR _), _] [] _ _
      refine x_aload rfl ?_
      refine n_call [vR _] [] (by omega) (Nat.le_of_ble_eq_true rfl) rfl rfl (Nat.le_of_ble_eq_true rfl) ?_
      refine f_negation (by omega) hf ?_
      show wp PP _ _ _ [some (vR _), _] [] _ _
      refine x_aload rfl ?_
      refine x_ci ?_
      refine x_ci ?_
      refine n_call [vR _, vI _, vI _] [] (by omega) (Nat.le_of_ble_eq_true rfl) rfl rfl (Nat.le_of_ble_eq_true rfl) ?_
      refine f_puts hf ?_
      show wp PP _ _ _ [some (vR _), _] [] _ _
      refine x_ret ?_
      exact kF 2 _ _ wqq (Or.inr rfl) en f18 f19 wF
end TXF
