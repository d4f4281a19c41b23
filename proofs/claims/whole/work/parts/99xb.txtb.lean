/-! TEXT: the class's reader: an operand, a sign, an E -/
section TXB
variable {d sp : Nat} {h0 h : pheap} {s tqq uqq : St} {Q : Option pv → pheap → Prop} {B : Int → Int} {n m : Nat} {sz : Int} {k vqq c : Int} {pl nx : Nat} {W : List Int} {K : KS}
theorem EC_knot {x : Int} (hE : EC sp m W K s) (hsp : sp = 37 ∨ sp = 45) (g6 : tqq 35 6 = 0) (gF : ∀ (b : Nat) (r : Int), ¬ (b = 35 ∧ r = 6) → tqq b r = (up (up s (sp + 4) K.1 x) sp 11 ((K.1 : Int) + 1)) b r) : EC sp 2 W (addK K x) tqq := by
  refine ⟨?_, ?_, ?_, by rw [g6]; rfl, fun zqq => by omega, ?_, fun i i0 i1 => ?_⟩
  · rw [gF 35 4 (by omega), up_a (by omega), up_a (by omega)]
    exact hE.1
  · rw [gF 35 5 (by omega), up_a (by omega), up_a (by omega)]
    exact hE.2.1
  · refine SKl_cg _ (fun i i0 i1 => ?_) hE.2.2.1
    rw [gF 36 i (by omega), up_a (by omega), up_a (by omega)]
  · rw [gF sp 11 (by omega), up_e]
    rfl
  · rw [gF (sp + 4) i (by omega), up_a (by omega)]
    have i1 : i < ((K.1 + 1 : Nat) : Int) := i1
    by_cases e : i = K.1
    · rw [e, up_e, addK_new]
    · rw [up_i e, addK_old (by omega)]
      exact hE.2.2.2.2.2.2 i i0 (by omega)
theorem EC_6 {x : Int} (hE : EC sp m W K s) (hsp : sp = 37 ∨ sp = 45) : EC sp 2 W K (up s 35 6 0) := by
  refine ⟨?_, ?_, ?_, by rw [up_e]; rfl, fun zqq => by omega, ?_, fun i i0 i1 => ?_⟩
  · rw [up_i (by decide)]
    exact hE.1
  · rw [up_i (by decide)]
    exact hE.2.1
  · exact SKl_cg _ (fun i i0 i1 => up_a (by decide)) hE.2.2.1
  · rw [up_a (by omega)]
    exact hE.2.2.2.2.2.1
  · rw [up_a (by omega)]
    exact hE.2.2.2.2.2.2 i i0 i1
theorem m_readOperand (hd : 4 ≤ d) (hsp : sp = 37 ∨ sp = 45) (hS : isSc sp) (hk : TKC k vqq pl nx s) (hr : tkR k vqq) (hE : EC sp m W K s) (hm : m < 2) (hb : eB W K) (kS : ∀ m2 W2 K2, eStep k vqq m W K = (0, m2, W2, K2) → ∀ tqq, EC sp m2 W2 K2 tqq → xF sp s tqq → Q (some (vI 1)) (HP h0 tqq)) (kF : ∀ f : Int, f ≠ 0 ∧ f ≠ -1 → (∃ m2 W2 K2, eStep k vqq m W K = (f, m2, W2, K2)) → ∀ tqq, tqq 35 0 = f → tqq 35 1 = (pl : Int) → yF sp s tqq → Q (some (vI 0)) (HP h0 tqq)) : wpM PP d 276 [vR 35, vR sp] (HP h0 s) Q := by
  have kr := hr.1
  have kr2 := hr.2.1
  have ho := hb.2.1
  have hl := eB_len hb
  have L2 : ∀ {o2 : Option pv}, ¬ (k = 5 ∧ vqq = 13) → ¬ (k = 4 ∧ vqq = 11 ∧ m = 0) → wp PP d mb276 (mb276.getD 2 []) [some (vR 35), some (vR sp), o2] [] (HP h0 s) Q := by
    intro o2 h13 h11
    refine x_aload rfl ?_
    refine h_getR sc_35 rfl (by omega) ?_
    refine h_getI 5 sc_33 rfl rfl ?_
    rw [hk.2.2.1]
    refine x_ci ?_
    refine n_icmp_ne ⟨by omega, by omega⟩ ⟨by omega, by omega⟩ (fun c1 => ?_) (fun c1 => ?_)
    · refine x_ci ?_
      refine x_fall ?_
      refine n_istore [some (vR _), some (vR _), some (vI _)] (Nat.le_of_ble_eq_true rfl) rfl ?_
      refine x_iload rfl ?_
      refine n_if_ne ⟨by omega, by omega⟩ (fun c9 => by exfalso; omega) (fun _ => ?_)
      refine x_aload rfl ?_
      refine h_getR sc_35 rfl (by omega) ?_
      refine x_ci ?_
      refine n_call [vR _, vI _] [] (by omega) (Nat.le_of_ble_eq_true rfl) rfl rfl (Nat.le_of_ble_eq_true rfl) ?_
      refine m_isWord hk hr (by omega) ?_
      show wp PP _ _ _ [some (vR _), some (vR _), some (vI _)] [vI _] _ _
      refine z_if_ne (fun c2 => ?_) (fun c2 => ?_)
      · refine x_iload rfl ?_
        refine n_if_eq ⟨by omega, by omega⟩ (fun _ => ?_) (fun c9 => by exfalso; omega)
        refine x_aload rfl ?_
        refine x_aload rfl ?_
        refine n_call [vR _, vR _] [] (by omega) (Nat.le_of_ble_eq_true rfl) rfl rfl (Nat.le_of_ble_eq_true rfl) ?_
        refine m_hasKnotLeft hS hE hb ?_
        show wp PP _ _ _ [some (vR _), some (vR _), some (vI _)] [vI _] _ _
        refine z_if_ne (fun c3 => ?_) (fun c3 => ?_)
        · refine x_aload rfl ?_
          refine x_ci ?_
          refine h_putZ 6 sc_35 rfl rfl (by first | exact bI_01 _ | omega) ?_
          refine x_aload rfl ?_
          refine x_iload rfl ?_
          refine n_if_eq ⟨by omega, by omega⟩ (fun _ => ?_) (fun c9 => by exfalso; omega)
          refine x_ci ?_
          refine x_aload rfl ?_
          refine h_getR sc_35 rfl (by omega) ?_
          refine n_call [vR _] [vI _, vR _] (by omega) (Nat.le_of_ble_eq_true rfl) rfl rfl (Nat.le_of_ble_eq_true rfl) ?_
          have kd := kd_is hr (by omega)
          have wn := hr.2.2.2.2.1 (by omega)
          refine m_wordNumber (hk := TKC_x hsp hk (xF_up xF_rfl)) hr (by omega) ?_
          show wp PP _ _ _ [some (vR _), some (vR _), some (vI _)] [vI _, vI _, vR _] _ _
          refine x_iadd ?_
          refine x_fall ?_
          refine n_call [vR _, vI _] [] (by omega) (Nat.le_of_ble_eq_true rfl) rfl rfl (Nat.le_of_ble_eq_true rfl) ?_
          have hl9 : K.1 < 64 := by
            have e9 : tot W K = (K.1 : Int) + W.length - opn W := rfl
            have := opn_le W
            omega
          refine m_addKnot hS ((up_a (by omega)).trans hE.2.2.2.2.2.1) ⟨by omega, by omega⟩ ?_
          show wp PP _ _ _ [some (vR _), some (vR _), some (vI _)] [vI _] _ _
          refine x_zret (by first | exact bI_01 _ | omega) ?_
          rw [show (10000 : Int) + nmW vqq = 10000 + (vqq - 12) by omega]
          refine kS 2 W (addK K (10000 + (vqq - 12))) (eS_6 hm (by omega) (by omega)) _ (EC_knot hE hsp (by rw [up_a (by omega), up_a (by omega), up_e]) (fun b r q => ?_)) (fun b r q1 q2 q3 q4 => by rw [up_f (by omega), up_f (by omega), up_f (by omega)])
          by_cases e1 : b = sp ∧ r = 11
          · rw [e1.1, e1.2, up_e, up_e]
          · rw [up_f e1, up_f e1]
            by_cases e2 : b = sp + 4 ∧ r = K.1
            · rw [e2.1, e2.2, up_e, up_e]
            · rw [up_f e2, up_f e2, up_f q]
        · refine x_aload rfl ?_
          refine x_ci ?_
          refine n_call [vR _, vI _] [] (by omega) (Nat.le_of_ble_eq_true rfl) rfl rfl (Nat.le_of_ble_eq_true rfl) ?_
          refine m_fail hk.2.1 ?_
          show wp PP _ _ _ [some (vR _), some (vR _), some (vI _)] [vI _] _ _
          refine x_zret (by first | exact bI_01 _ | omega) ?_
          have kd := kd_is hr (by omega)
          exact kF 2 (by omega) ⟨_, _, _, eS_7 hm (by omega) (by omega)⟩ _ (by rw [up_i (by decide), up_e]) up_e (yF_fail xF_rfl)
      · refine x_aload rfl ?_
        refine x_ci ?_
        refine n_call [vR _, vI _] [] (by omega) (Nat.le_of_ble_eq_true rfl) rfl rfl (Nat.le_of_ble_eq_true rfl) ?_
        refine m_fail hk.2.1 ?_
        show wp PP _ _ _ [some (vR _), some (vR _), some (vI _)] [vI _] _ _
        refine x_zret (by first | exact bI_01 _ | omega) ?_
        exact kF 1 (by omega) ⟨_, _, _, eS_8 hm h13 h11 c1 (fun y => by have kd := kd_is hr y.1; have := not_and.mp c2 y.1; omega)⟩ _ (by rw [up_i (by decide), up_e]) up_e (yF_fail xF_rfl)
    · refine x_ci ?_
      refine x_goto ?_
      refine n_istore [some (vR _), some (vR _), some (vI _)] (Nat.le_of_ble_eq_true rfl) rfl ?_
      refine x_iload rfl ?_
      refine n_if_ne ⟨by omega, by omega⟩ (fun _ => ?_) (fun c9 => by exfalso; omega)
      have k2 : k = 2 := c1
      refine x_iload rfl ?_
      refine n_if_eq ⟨by omega, by omega⟩ (fun c9 => by exfalso; omega) (fun _ => ?_)
      refine x_aload rfl ?_
      refine h_getR sc_35 rfl (by omega) ?_
      refine h_getI 8 sc_33 rfl rfl ?_
      have k2 : k = 2 := by omega
      have nm := hk.2.2.2.1 k2
      have vr := hr.2.2.1 k2
      have nmR : 0 ≤ s 33 8 ∧ s 33 8 ≤ 1000000 ∧ (9999 < s 33 8 ↔ 9999 < vqq) := by
        unfold nmOk at nm
        omega
      refine x_ci ?_
      refine n_icmp_le ⟨by omega, by omega⟩ ⟨by omega, by omega⟩ (fun c2 => ?_) (fun c2 => ?_)
      · refine x_aload rfl ?_
        refine x_aload rfl ?_
        refine n_call [vR _, vR _] [] (by omega) (Nat.le_of_ble_eq_true rfl) rfl rfl (Nat.le_of_ble_eq_true rfl) ?_
        refine m_hasKnotLeft hS hE hb ?_
        show wp PP _ _ _ [some (vR _), some (vR _), some (vI _)] [vI _] _ _
        refine z_if_ne (fun c3 => ?_) (fun c3 => ?_)
        · refine x_aload rfl ?_
          refine x_ci ?_
          refine h_putZ 6 sc_35 rfl rfl (by first | exact bI_01 _ | omega) ?_
          refine x_aload rfl ?_
          refine x_iload rfl ?_
          refine n_if_eq ⟨by omega, by omega⟩ (fun c9 => by exfalso; omega) (fun _ => ?_)
          refine x_aload rfl ?_
          refine h_getR sc_35 rfl (by omega) ?_
          refine h_getI 8 sc_33 rfl rfl ?_
          have k2 : k = 2 := by omega
          have nm := hk.2.2.2.1 k2
          rw [up_a (by decide), nm.1 (by
            have vr := hr.2.2.1 k2
            have v9qq : vqq ≤ 9999 := by omega
            omega)]
          refine x_goto ?_
          refine n_call [vR _, vI _] [] (by omega) (Nat.le_of_ble_eq_true rfl) rfl rfl (Nat.le_of_ble_eq_true rfl) ?_
          have hl9 : K.1 < 64 := by
            have e9 : tot W K = (K.1 : Int) + W.length - opn W := rfl
            have := opn_le W
            omega
          refine m_addKnot hS ((up_a (by omega)).trans hE.2.2.2.2.2.1) ⟨by omega, by omega⟩ ?_
          show wp PP _ _ _ [some (vR _), some (vR _), some (vI _)] [vI _] _ _
          refine x_zret (by first | exact bI_01 _ | omega) ?_
          refine kS 2 W (addK K vqq) (eS_4 hm k2 ⟨by omega, by omega⟩) _ (EC_knot hE hsp (by rw [up_a (by omega), up_a (by omega), up_e]) (fun b r q => ?_)) (fun b r q1 q2 q3 q4 => by rw [up_f (by omega), up_f (by omega), up_f (by omega)])
          by_cases e1 : b = sp ∧ r = 11
          · rw [e1.1, e1.2, up_e, up_e]
          · rw [up_f e1, up_f e1]
            by_cases e2 : b = sp + 4 ∧ r = K.1
            · rw [e2.1, e2.2, up_e, up_e]
            · rw [up_f e2, up_f e2, up_f q]
        · refine x_aload rfl ?_
          refine x_ci ?_
          refine n_call [vR _, vI _] [] (by omega) (Nat.le_of_ble_eq_true rfl) rfl rfl (Nat.le_of_ble_eq_true rfl) ?_
          refine m_fail hk.2.1 ?_
          show wp PP _ _ _ [some (vR _), some (vR _), some (vI _)] [vI _] _ _
          refine x_zret (by first | exact bI_01 _ | omega) ?_
          exact kF 2 (by omega) ⟨_, _, _, eS_5 hm k2 (Or.inr (by omega))⟩ _ (by rw [up_i (by decide), up_e]) up_e (yF_fail xF_rfl)
      · refine x_aload rfl ?_
        refine x_ci ?_
        refine n_call [vR _, vI _] [] (by omega) (Nat.le_of_ble_eq_true rfl) rfl rfl (Nat.le_of_ble_eq_true rfl) ?_
        refine m_fail hk.2.1 ?_
        show wp PP _ _ _ [some (vR _), some (vR _), some (vI _)] [vI _] _ _
        refine x_zret (by first | exact bI_01 _ | omega) ?_
        exact kF 2 (by omega) ⟨_, _, _, eS_5 hm k2 (Or.inl (by omega))⟩ _ (by rw [up_i (by decide), up_e]) up_e (yF_fail xF_rfl)
  refine n_at (m := 276) (q := mr276) (kn := (0, 2)) [some (vR _), some (vR _), none] mb276 rfl rfl (h_rcv sc_35) (Nat.le_of_ble_eq_true rfl) rfl rfl ?_
  refine x_aload rfl ?_
  refine h_getR sc_35 rfl (by omega) ?_
  refine x_ci ?_
  refine n_call [vR _, vI _] [] (by omega) (Nat.le_of_ble_eq_true rfl) rfl rfl (Nat.le_of_ble_eq_true rfl) ?_
  refine m_isSign hk hr (by omega) ?_
  show wp PP _ _ _ [some (vR _), some (vR _), _] [vI _] _ _
  refine z_if_eq (fun c1 => ?_) (fun c1 => ?_)
  · refine x_aload rfl ?_
    refine h_getR sc_35 rfl (by omega) ?_
    refine x_ci ?_
    refine n_call [vR _, vI _] [] (by omega) (Nat.le_of_ble_eq_true rfl) rfl rfl (Nat.le_of_ble_eq_true rfl) ?_
    refine m_isWord hk hr (by omega) ?_
    show wp PP _ _ _ [some (vR _), some (vR _), _] [vI _] _ _
    refine z_if_eq (fun c2 => ?_) (fun c2 => ?_)
    · exact L2 c1 (fun y => c2 ⟨y.1, by have kd := kd_is hr y.1; omega⟩)
    · refine x_aload rfl ?_
      refine h_getR sc_35 rfl (by omega) ?_
      refine n_call [vR _] [] (by omega) (Nat.le_of_ble_eq_true rfl) rfl rfl (Nat.le_of_ble_eq_true rfl) ?_
      have kd := kd_is hr c2.1
      have wn := hr.2.2.2.2.1 c2.1
      refine m_wordNumber hk hr c2.1 ?_
      show wp PP _ _ _ [some (vR _), some (vR _), _] [vI _] _ _
      refine x_ci ?_
      refine n_icmp_ne ⟨by omega, by omega⟩ ⟨by omega, by omega⟩ (fun c3 => ?_) (fun c3 => ?_)
      · exact L2 c1 (fun y => by have kd := kd_is hr y.1; omega)
      · refine x_aload rfl ?_
        refine h_getZ 7 sc_35 rfl rfl ?_
        rw [hE.2.2.2.2.1 hm]
        refine n_if_eq ⟨by omega, by omega⟩ (fun c4 => ?_) (fun c4 => ?_)
        · exact L2 c1 (fun y => by
            rw [if_pos y.2.2] at c4
            omega)
        · refine x_aload rfl ?_
          refine x_ci ?_
          refine x_aload rfl ?_
          refine n_call [vR _, vI _, vR _] [] (by omega) (Nat.le_of_ble_eq_true rfl) rfl rfl (Nat.le_of_ble_eq_true rfl) ?_
          have h11 : k = 4 ∧ vqq = 11 ∧ m = 0 := ⟨c2.1, by omega, by
            by_cases e : m = 0
            · exact e
            · rw [if_neg e] at c4
              omega⟩
          refine m_await (by omega) hS hE hb hk.2.1 (fun y => ?_) (fun y => ?_)
          · show wp PP _ _ _ _ [vI _] _ _
            refine x_zret (by omega) ?_
            exact kS m (2 :: W) K (eS_2 hm h11 y) _ (EC_push hE hsp (by omega) (by rw [up_i (by decide), up_a (by decide)]; exact hE.2.2.2.1) (fun zqq => by rw [up_i (by decide), up_a (by decide)]; exact hE.2.2.2.2.1 zqq) (fun _ _ _ => rfl)) (xF_up (xF_up2 xF_rfl))
          · show wp PP _ _ _ _ [vI _] _ _
            refine x_zret (by omega) ?_
            exact kF 2 (by omega) ⟨_, _, _, eS_3 hm h11 y⟩ _ (by rw [up_i (by decide), up_e]) up_e (yF_fail xF_rfl)
  · refine x_aload rfl ?_
    refine n_call [vR _] [] (by omega) (Nat.le_of_ble_eq_true rfl) rfl rfl (Nat.le_of_ble_eq_true rfl) ?_
    refine m_openOne (by omega) hsp hE hm hb hk.2.1 (fun y tqq t1qq t2qq => ?_) (fun y => ?_)
    · show wp PP _ _ _ _ [vI _] _ _
      refine x_zret (by omega) ?_
      exact kS 0 (13 :: W) K (eS_0 hm c1 y) tqq t1qq t2qq
    · show wp PP _ _ _ _ [vI _] _ _
      refine x_zret (by omega) ?_
      exact kF 2 (by omega) ⟨_, _, _, eS_1 hm c1 y⟩ _ (by rw [up_i (by decide), up_e]) up_e (yF_fail xF_rfl)
theorem EC_pop {V : List Int} {x : Int} (hE : EC sp 2 (x :: V) K s) (hsp : sp = 37 ∨ sp = 45) (hx : x = 13) : EC sp 2 V K (up (up s 35 5 ((opn (x :: V) : Int) - 1)) 35 4 ((((x :: V).length : Nat) : Int) - 1)) := by
  refine ⟨?_, ?_, ?_, ?_, fun zqq => by omega, ?_, fun i i0 i1 => ?_⟩
  · rw [up_e, List.length_cons]
    omega
  · rw [up_i (by decide), up_e, opn_s, if_pos hx]
    omega
  · exact SKl_cg _ (fun i i0 i1 => by rw [up_a (by decide), up_a (by decide)]) hE.2.2.1.2
  · rw [up_i (by decide), up_i (by decide)]
    exact hE.2.2.2.1
  · rw [up_a (by omega), up_a (by omega)]
    exact hE.2.2.2.2.2.1
  · rw [up_a (by omega), up_a (by omega)]
    exact hE.2.2.2.2.2.2 i i0 i1
theorem EC_67 {x y : Int} {m2 : Nat} (hE : EC sp m W K s) (hsp : sp = 37 ∨ sp = 45) (h6 : x = (if m2 < 2 then 1 else 0)) (h7 : m2 < 2 → y = (if m2 = 0 then 1 else 0)) : EC sp m2 W K (up (up s 35 6 x) 35 7 y) := by
  refine ⟨?_, ?_, ?_, ?_, fun zqq => ?_, ?_, fun i i0 i1 => ?_⟩
  · rw [up_i (by decide), up_i (by decide)]
    exact hE.1
  · rw [up_i (by decide), up_i (by decide)]
    exact hE.2.1
  · exact SKl_cg _ (fun i i0 i1 => by rw [up_a (by decide), up_a (by decide)]) hE.2.2.1
  · rw [up_i (by decide), up_e]
    exact h6
  · rw [up_e]
    exact h7 zqq
  · rw [up_a (by omega), up_a (by omega)]
    exact hE.2.2.2.2.2.1
  · rw [up_a (by omega), up_a (by omega)]
    exact hE.2.2.2.2.2.2 i i0 i1
theorem m_readOperator {b : Nat} {K0 : KS} (hd : 4 ≤ d) (hsp : sp = 37 ∨ sp = 45) (hS : isSc sp) (hk : TKC k vqq pl nx s) (hr : tkR k vqq) (hE : EC sp 2 W K s) (hI : iE b K0 2 W K) (hend : ¬ (opn W = 0 ∧ k = 5 ∧ vqq = 15)) (kS : ∀ m2 W2 K2, eStep k vqq 2 W K = (0, m2, W2, K2) → ∀ tqq, EC sp m2 W2 K2 tqq → xF sp s tqq → Q (some (vI 1)) (HP h0 tqq)) (kF : ∀ f : Int, f ≠ 0 ∧ f ≠ -1 → (∃ m2 W2 K2, eStep k vqq 2 W K = (f, m2, W2, K2)) → ∀ tqq, tqq 35 0 = f → tqq 35 1 = (pl : Int) → yF sp s tqq → Q (some (vI 0)) (HP h0 tqq)) : wpM PP d 278 [vR 35, vR sp] (HP h0 s) Q := by
  have hb := hI.b
  have kr := hr.1
  have kr2 := hr.2.1
  have ho := hb.2.1
  have hl := eB_len hb
  have L5 : ∀ (cc : Int) (tqq : St), cc = cl5 (jsg k vqq) → jsg k vqq ≠ -1 → ¬ (clo (jsg k vqq) = 4 ∧ clo ((stl 5 W K).1.headD 13) = 4) → EC sp 2 (stl cc W K).1 (stl cc W K).2 tqq → xF sp s tqq → wp PP d mb278 (mb278.getD 5 []) [some (vR 35), some (vR sp), some (vI (jsg k vqq)), some (vI (clo (jsg k vqq)))] [] (HP h0 tqq) Q := by
    intro cc tqq hcc hj h4 t1qq t2qq
    have jR := jsg_R hr
    have cR := clo_R (x := jsg k vqq) (by omega)
    have so := stl_ok cc hI
    have sb := so.1.b
    refine x_aload rfl ?_
    refine x_ci ?_
    refine h_putZ 6 sc_35 rfl rfl (by first | exact bI_01 _ | omega) ?_
    refine x_aload rfl ?_
    refine x_iload rfl ?_
    refine x_ci ?_
    refine n_icmp_gt ⟨by omega, by omega⟩ ⟨by omega, by omega⟩ (fun c1 => ?_) (fun c1 => ?_)
    · refine x_ci ?_
      refine x_fall ?_
      refine h_putZ 7 sc_35 rfl rfl (by first | exact bI_01 _ | omega) ?_
      refine x_aload rfl ?_
      refine x_iload rfl ?_
      refine x_aload rfl ?_
      refine n_call [vR _, vI _, vR _] [] (by omega) (Nat.le_of_ble_eq_true rfl) rfl rfl (Nat.le_of_ble_eq_true rfl) ?_
      have e7 : EC sp 1 (stl cc W K).1 (stl cc W K).2 (up (up tqq 35 6 1) 35 7 0) := EC_67 t1qq hsp rfl (fun _ => rfl)
      refine m_await (by omega) hS e7 sb (by rw [up_a (by decide), up_a (by decide), t2qq 33 4 (by omega) (by omega) (by omega) (by omega)]; exact hk.2.1) (fun y => ?_) (fun y => ?_)
      · show wp PP _ _ _ _ [vI _] _ _
        refine x_zret (by omega) ?_
        refine kS 1 (jsg k vqq :: (stl cc W K).1) (stl cc W K).2 ?_ _ (EC_push e7 hsp (by omega) (by rw [up_i (by decide), up_a (by decide)]; exact e7.2.2.2.1) (fun zqq => by rw [up_i (by decide), up_a (by decide)]; exact e7.2.2.2.2.1 zqq) (fun _ _ _ => rfl)) (xF_up (xF_up2 (xF_up (xF_up t2qq))))
        rw [eO_5 hj h4 (by omega), ← hcc]
        first
          | rw [if_pos (show clo (jsg k vqq) ≤ 2 by omega)]
          | rw [if_neg (show ¬ clo (jsg k vqq) ≤ 2 by omega)]
      · show wp PP _ _ _ _ [vI _] _ _
        refine x_zret (by omega) ?_
        exact kF 2 (by omega) ⟨_, _, _, eO_4 hj h4 (by omega)⟩ _ (by rw [up_i (by decide), up_e]) up_e (yF_fail (xF_up (xF_up t2qq)))
    · refine x_ci ?_
      refine x_goto ?_
      refine h_putZ 7 sc_35 rfl rfl (by first | exact bI_01 _ | omega) ?_
      refine x_aload rfl ?_
      refine x_iload rfl ?_
      refine x_aload rfl ?_
      refine n_call [vR _, vI _, vR _] [] (by omega) (Nat.le_of_ble_eq_true rfl) rfl rfl (Nat.le_of_ble_eq_true rfl) ?_
      have e7 : EC sp 0 (stl cc W K).1 (stl cc W K).2 (up (up tqq 35 6 1) 35 7 1) := EC_67 t1qq hsp rfl (fun _ => rfl)
      refine m_await (by omega) hS e7 sb (by rw [up_a (by decide), up_a (by decide), t2qq 33 4 (by omega) (by omega) (by omega) (by omega)]; exact hk.2.1) (fun y => ?_) (fun y => ?_)
      · show wp PP _ _ _ _ [vI _] _ _
        refine x_zret (by omega) ?_
        refine kS 0 (jsg k vqq :: (stl cc W K).1) (stl cc W K).2 ?_ _ (EC_push e7 hsp (by omega) (by rw [up_i (by decide), up_a (by decide)]; exact e7.2.2.2.1) (fun zqq => by rw [up_i (by decide), up_a (by decide)]; exact e7.2.2.2.2.1 zqq) (fun _ _ _ => rfl)) (xF_up (xF_up2 (xF_up (xF_up t2qq))))
        rw [eO_5 hj h4 (by omega), ← hcc]
        first
          | rw [if_pos (show clo (jsg k vqq) ≤ 2 by omega)]
          | rw [if_neg (show ¬ clo (jsg k vqq) ≤ 2 by omega)]
      · show wp PP _ _ _ _ [vI _] _ _
        refine x_zret (by omega) ?_
        exact kF 2 (by omega) ⟨_, _, _, eO_4 hj h4 (by omega)⟩ _ (by rw [up_i (by decide), up_e]) up_e (yF_fail (xF_up (xF_up t2qq)))
  have L1 : ∀ {o2 o3 : Option pv}, ¬ (k = 5 ∧ vqq = 14 ∧ 0 < opn W) → wp PP d mb278 (mb278.getD 1 []) [some (vR 35), some (vR sp), o2, o3] [] (HP h0 s) Q := by
    intro o2 o3 hno
    refine x_aload rfl ?_
    refine n_call [vR _] [] (by omega) (Nat.le_of_ble_eq_true rfl) rfl rfl (Nat.le_of_ble_eq_true rfl) ?_
    have jR := jsg_R hr
    refine m_joiningSign (by omega) hk hr ?_
    show wp PP _ _ _ [some (vR _), some (vR _), _, _] [vI _] _ _
    refine n_istore [some (vR _), some (vR _), some (vI _), _] (Nat.le_of_ble_eq_true rfl) rfl ?_
    refine x_iload rfl ?_
    refine x_ci ?_
    refine n_icmp_ne ⟨by omega, by omega⟩ ⟨by omega, by omega⟩ (fun c1 => ?_) (fun c1 => ?_)
    · refine x_iload rfl ?_
      refine n_call [vI _] [] (by omega) (Nat.le_of_ble_eq_true rfl) rfl rfl (Nat.le_of_ble_eq_true rfl) ?_
      have cR := clo_R (x := jsg k vqq) (by omega)
      refine m_closenessOf ⟨by omega, by omega⟩ ?_
      show wp PP _ _ _ [some (vR _), some (vR _), some (vI _), _] [vI _] _ _
      refine n_istore [some (vR _), some (vR _), some (vI _), some (vI _)] (Nat.le_of_ble_eq_true rfl) rfl ?_
      refine x_aload rfl ?_
      refine x_aload rfl ?_
      refine x_iload rfl ?_
      refine x_ci ?_
      refine n_icmp_ne ⟨by omega, by omega⟩ ⟨by omega, by omega⟩ (fun c2 => ?_) (fun c2 => ?_)
      · refine x_iload rfl ?_
        refine x_fall ?_
        refine n_call [vR _, vR _, vI _] [] (by omega) (Nat.le_of_ble_eq_true rfl) rfl rfl (Nat.le_of_ble_eq_true rfl) ?_
        refine m_settle (by omega) hsp hS hE hb (by omega) (fun tqq t1qq t2qq => ?_)
        show wp PP _ _ _ [some (vR _), some (vR _), some (vI _), some (vI _)] [] _ _
        refine x_iload rfl ?_
        refine x_ci ?_
        refine n_icmp_ne ⟨by omega, by omega⟩ ⟨by omega, by omega⟩ (fun c3 => ?_) (fun c3 => ?_)
        · exact L5 _ tqq (by unfold cl5; rw [if_neg (by omega)]) (by omega) (fun y => by omega) t1qq t2qq
        · refine x_aload rfl ?_
          exfalso
          omega
      · refine x_ci ?_
        refine x_goto ?_
        refine n_call [vR _, vR _, vI _] [] (by omega) (Nat.le_of_ble_eq_true rfl) rfl rfl (Nat.le_of_ble_eq_true rfl) ?_
        refine m_settle (by omega) hsp hS hE hb (by omega) (fun tqq t1qq t2qq => ?_)
        show wp PP _ _ _ [some (vR _), some (vR _), some (vI _), some (vI _)] [] _ _
        refine x_iload rfl ?_
        refine x_ci ?_
        refine n_icmp_ne ⟨by omega, by omega⟩ ⟨by omega, by omega⟩ (fun c3 => ?_) (fun c3 => ?_)
        · exfalso
          omega
        · refine x_aload rfl ?_
          refine n_call [vR _] [] (by omega) (Nat.le_of_ble_eq_true rfl) rfl rfl (Nat.le_of_ble_eq_true rfl) ?_
          have so := stl_ok 5 hI
          have sb := so.1.b
          have tb := eB_top sb
          refine m_lastWaiting t1qq sb ?_
          show wp PP _ _ _ [some (vR _), some (vR _), some (vI _), some (vI _)] [vI _] _ _
          refine n_call [vI _] [] (by omega) (Nat.le_of_ble_eq_true rfl) rfl rfl (Nat.le_of_ble_eq_true rfl) ?_
          have cR2 := clo_R (x := (stl 5 W K).1.headD 13) (by omega)
          refine m_closenessOf ⟨by omega, by omega⟩ ?_
          show wp PP _ _ _ [some (vR _), some (vR _), some (vI _), some (vI _)] [vI _] _ _
          refine x_ci ?_
          refine n_icmp_ne ⟨by omega, by omega⟩ ⟨by omega, by omega⟩ (fun c4 => ?_) (fun c4 => ?_)
          · exact L5 5 tqq (by unfold cl5; rw [if_pos (by omega)]) (by omega) (fun y => by omega) t1qq t2qq
          · refine x_aload rfl ?_
            refine x_ci ?_
            refine n_call [vR _, vI _] [] (by omega) (Nat.le_of_ble_eq_true rfl) rfl rfl (Nat.le_of_ble_eq_true rfl) ?_
            refine m_fail ((t2qq 33 4 (by omega) (by omega) (by omega) (by omega)).trans hk.2.1) ?_
            show wp PP _ _ _ [some (vR _), some (vR _), some (vI _), some (vI _)] [vI _] _ _
            refine x_zret (by first | exact bI_01 _ | omega) ?_
            exact kF 1 (by omega) ⟨_, _, _, eO_3 (by omega) ⟨by omega, by omega⟩⟩ _ (by rw [up_i (by decide), up_e]) up_e (yF_fail t2qq)
    · refine x_aload rfl ?_
      refine x_ci ?_
      refine n_call [vR _, vI _] [] (by omega) (Nat.le_of_ble_eq_true rfl) rfl rfl (Nat.le_of_ble_eq_true rfl) ?_
      refine m_fail hk.2.1 ?_
      show wp PP _ _ _ [some (vR _), some (vR _), some (vI _), _] [vI _] _ _
      refine x_zret (by first | exact bI_01 _ | omega) ?_
      exact kF 1 (by omega) ⟨_, _, _, eO_2 hend hno (by omega)⟩ _ (by rw [up_i (by decide), up_e]) up_e (yF_fail xF_rfl)
  refine n_at (m := 278) (q := mr278) (kn := (0, 2)) [some (vR _), some (vR _), none, none] mb278 rfl rfl (h_rcv sc_35) (Nat.le_of_ble_eq_true rfl) rfl rfl ?_
  refine x_aload rfl ?_
  refine h_getR sc_35 rfl (by omega) ?_
  refine x_ci ?_
  refine n_call [vR _, vI _] [] (by omega) (Nat.le_of_ble_eq_true rfl) rfl rfl (Nat.le_of_ble_eq_true rfl) ?_
  refine m_isSign hk hr (by omega) ?_
  show wp PP _ _ _ [some (vR _), some (vR _), _, _] [vI _] _ _
  refine z_if_eq (fun c1 => ?_) (fun c1 => ?_)
  · exact L1 (fun y => c1 ⟨y.1, y.2.1⟩)
  · refine x_aload rfl ?_
    refine h_getI 5 sc_35 rfl rfl ?_
    rw [hE.2.1]
    refine n_if_le ⟨by omega, by omega⟩ (fun c2 => ?_) (fun c2 => ?_)
    · exact L1 (fun y => by omega)
    · refine x_aload rfl ?_
      refine x_aload rfl ?_
      refine x_ci ?_
      refine n_call [vR _, vR _, vI _] [] (by omega) (Nat.le_of_ble_eq_true rfl) rfl rfl (Nat.le_of_ble_eq_true rfl) ?_
      refine m_settle (by omega) hsp hS hE hb (by omega) (fun tqq t1qq t2qq => ?_)
      obtain ⟨V, hV⟩ := stl_open (W := W) (K := K) (by omega) hb.2.2
      have so := stl_ok 1 hI
      rw [hV] at t1qq so
      show wp PP _ _ _ [some (vR _), some (vR _), _, _] [] _ _
      refine x_aload rfl ?_
      refine x_dupR ?_
      refine h_getI 5 sc_35 rfl rfl ?_
      rw [t1qq.2.1]
      refine x_ci ?_
      refine x_isub ?_
      refine h_putI 5 sc_35 rfl rfl ?_
      refine x_aload rfl ?_
      refine x_dupR ?_
      refine h_getI 4 sc_35 rfl rfl ?_
      rw [up_i (by decide), t1qq.1]
      refine x_ci ?_
      refine x_isub ?_
      refine h_putI 4 sc_35 rfl rfl ?_
      refine x_ci ?_
      refine x_zret (by first | exact bI_01 _ | omega) ?_
      refine kS 2 V (stl 1 W K).2 ?_ _ (EC_pop t1qq hsp rfl) (xF_up (xF_up t2qq))
      rw [eO_1 ⟨c1.1, c1.2, by omega⟩, hV]
      rfl
end TXB
