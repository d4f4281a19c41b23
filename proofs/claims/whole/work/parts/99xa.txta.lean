/-! TEXT: the class's reader: an operand, a sign -/
section TXA
variable {d sp : Nat} {h0 h : pheap} {s tqq uqq : St} {Q : Option pv → pheap → Prop} {B : Int → Int} {n m : Nat} {k vqq c : Int} {pl nx : Nat} {W : List Int} {K : KS}
theorem eS_0 (hm : m < 2) (h : k = 5 ∧ vqq = 13) (h8 : opn W < 8) : eStep k vqq m W K = (0, 0, 13 :: W, K) := by
  unfold eStep
  rw [if_pos hm, if_pos h, if_neg (by omega)]
theorem eS_1 (hm : m < 2) (h : k = 5 ∧ vqq = 13) (h8 : 8 ≤ opn W) : eStep k vqq m W K = (2, m, W, K) := by
  unfold eStep
  rw [if_pos hm, if_pos h, if_pos h8]
theorem eS_2 (hm : m < 2) (h : k = 4 ∧ vqq = 11 ∧ m = 0) (h8 : tot W K < 64) : eStep k vqq m W K = (0, m, 2 :: W, K) := by
  unfold eStep
  rw [if_pos hm, if_neg (show ¬ (k = 5 ∧ vqq = 13) by omega), if_pos h, if_neg (show ¬ 64 ≤ tot W K by omega)]
theorem eS_3 (hm : m < 2) (h : k = 4 ∧ vqq = 11 ∧ m = 0) (h8 : 64 ≤ tot W K) : eStep k vqq m W K = (2, m, W, K) := by
  unfold eStep
  rw [if_pos hm, if_neg (show ¬ (k = 5 ∧ vqq = 13) by omega), if_pos h, if_pos h8]
theorem eS_4 (hm : m < 2) (h : k = 2) (h8 : vqq ≤ 9999 ∧ tot W K < 64) : eStep k vqq m W K = (0, 2, W, addK K vqq) := by
  unfold eStep
  rw [if_pos hm, if_neg (show ¬ (k = 5 ∧ vqq = 13) by omega), if_neg (show ¬ (k = 4 ∧ vqq = 11 ∧ m = 0) by omega), if_pos h, if_neg (show ¬ (9999 < vqq ∨ 64 ≤ tot W K) by omega)]
theorem eS_5 (hm : m < 2) (h : k = 2) (h8 : 9999 < vqq ∨ 64 ≤ tot W K) : eStep k vqq m W K = (2, m, W, K) := by
  unfold eStep
  rw [if_pos hm, if_neg (show ¬ (k = 5 ∧ vqq = 13) by omega), if_neg (show ¬ (k = 4 ∧ vqq = 11 ∧ m = 0) by omega), if_pos h, if_pos h8]
theorem eS_6 (hm : m < 2) (h : k = 4 ∧ 12 ≤ vqq) (h8 : tot W K < 64) : eStep k vqq m W K = (0, 2, W, addK K (10000 + (vqq - 12))) := by
  unfold eStep
  rw [if_pos hm, if_neg (show ¬ (k = 5 ∧ vqq = 13) by omega), if_neg (show ¬ (k = 4 ∧ vqq = 11 ∧ m = 0) by omega), if_neg (show ¬ k = 2 by omega), if_pos h, if_neg (show ¬ 64 ≤ tot W K by omega)]
theorem eS_7 (hm : m < 2) (h : k = 4 ∧ 12 ≤ vqq) (h8 : 64 ≤ tot W K) : eStep k vqq m W K = (2, m, W, K) := by
  unfold eStep
  rw [if_pos hm, if_neg (show ¬ (k = 5 ∧ vqq = 13) by omega), if_neg (show ¬ (k = 4 ∧ vqq = 11 ∧ m = 0) by omega), if_neg (show ¬ k = 2 by omega), if_pos h, if_pos h8]
theorem eS_8 (hm : m < 2) (h1 : ¬ (k = 5 ∧ vqq = 13)) (h2 : ¬ (k = 4 ∧ vqq = 11 ∧ m = 0)) (h3 : ¬ k = 2) (h4 : ¬ (k = 4 ∧ 12 ≤ vqq)) : eStep k vqq m W K = (1, m, W, K) := by
  unfold eStep
  rw [if_pos hm, if_neg h1, if_neg h2, if_neg h3, if_neg h4]
theorem eO_0 (h : opn W = 0 ∧ k = 5 ∧ vqq = 15) : eStep k vqq 2 W K = (-1, 2, (stl 0 W K).1, (stl 0 W K).2) := by
  unfold eStep
  rw [if_neg (by decide), if_pos h]
theorem eO_1 (h : k = 5 ∧ vqq = 14 ∧ 0 < opn W) : eStep k vqq 2 W K = (0, 2, (stl 1 W K).1.tail, (stl 1 W K).2) := by
  unfold eStep
  rw [if_neg (by decide), if_neg (show ¬ (opn W = 0 ∧ k = 5 ∧ vqq = 15) by omega), if_pos h]
theorem eO_2 (h1 : ¬ (opn W = 0 ∧ k = 5 ∧ vqq = 15)) (h2 : ¬ (k = 5 ∧ vqq = 14 ∧ 0 < opn W)) (h3 : jsg k vqq = -1) : eStep k vqq 2 W K = (1, 2, W, K) := by
  unfold eStep
  rw [if_neg (by decide), if_neg h1, if_neg h2, if_pos h3]
theorem eO_3 (h3 : jsg k vqq ≠ -1) (h4 : clo (jsg k vqq) = 4 ∧ clo ((stl 5 W K).1.headD 13) = 4) : eStep k vqq 2 W K = (1, 2, W, K) := by
  have j : k = 4 ∨ (k = 5 ∧ vqq < 13) := by
    unfold jsg at h3
    split at h3
    · omega
    · split at h3
      · omega
      · exact absurd rfl h3
  unfold eStep
  rw [if_neg (by decide), if_neg (show ¬ (opn W = 0 ∧ k = 5 ∧ vqq = 15) by omega), if_neg (show ¬ (k = 5 ∧ vqq = 14 ∧ 0 < opn W) by omega), if_neg h3, if_pos h4]
theorem eO_4 (h3 : jsg k vqq ≠ -1) (h4 : ¬ (clo (jsg k vqq) = 4 ∧ clo ((stl 5 W K).1.headD 13) = 4)) (h5 : 64 ≤ tot W K) : eStep k vqq 2 W K = (2, 2, W, K) := by
  have j : k = 4 ∨ (k = 5 ∧ vqq < 13) := by
    unfold jsg at h3
    split at h3
    · omega
    · split at h3
      · omega
      · exact absurd rfl h3
  unfold eStep
  rw [if_neg (by decide), if_neg (show ¬ (opn W = 0 ∧ k = 5 ∧ vqq = 15) by omega), if_neg (show ¬ (k = 5 ∧ vqq = 14 ∧ 0 < opn W) by omega), if_neg h3, if_neg h4, if_pos h5]
theorem eO_5 (h3 : jsg k vqq ≠ -1) (h4 : ¬ (clo (jsg k vqq) = 4 ∧ clo ((stl 5 W K).1.headD 13) = 4)) (h5 : tot W K < 64) : eStep k vqq 2 W K = (0, if clo (jsg k vqq) ≤ 2 then 0 else 1, jsg k vqq :: (stl (cl5 (jsg k vqq)) W K).1, (stl (cl5 (jsg k vqq)) W K).2) := by
  have j : k = 4 ∨ (k = 5 ∧ vqq < 13) := by
    unfold jsg at h3
    split at h3
    · omega
    · split at h3
      · omega
      · exact absurd rfl h3
  unfold eStep
  rw [if_neg (by decide), if_neg (show ¬ (opn W = 0 ∧ k = 5 ∧ vqq = 15) by omega), if_neg (show ¬ (k = 5 ∧ vqq = 14 ∧ 0 < opn W) by omega), if_neg h3, if_neg h4, if_neg (show ¬ 64 ≤ tot W K by omega)]
theorem eB_pop {x : Int} (h : eB (x :: W) K) (hx : x ≠ 13) : eB W (addK K (20000 + x)) ∧ K.1 < 64 := by
  obtain ⟨h1, h2, h3⟩ := h
  have := opn_le W
  unfold tot at h1
  rw [opn_s, if_neg hx, List.length_cons] at h1
  rw [opn_s, if_neg hx] at h2
  refine ⟨⟨?_, by omega, fun y hy => h3 y (List.mem_cons_of_mem _ hy)⟩, by omega⟩
  unfold tot addK
  show ((K.1 + 1 : Nat) : Int) + _ - _ ≤ 64
  omega
theorem m_settle (hd : 2 ≤ d) (hsp : sp = 37 ∨ sp = 45) (hS : isSc sp) (hE : EC sp m W K s) (hb : eB W K) (hc : 0 ≤ c ∧ c ≤ 6) (k1 : ∀ tqq, EC sp m (stl c W K).1 (stl c W K).2 tqq → xF sp s tqq → Q none (HP h0 tqq)) : wpM PP d 281 [vR 35, vR sp, vI c] (HP h0 s) Q := by
  have hl := eB_len hb
  have L1 : ∀ N : Nat, ∀ {o4 : Option pv} (W1 : List Int) (K1 : KS) (i : Int) (tqq : St), (EC sp m W1 K1 tqq) → (eB W1 K1) → (stl c W1 K1 = stl c W K) → (N = W1.length ∧ W1.length ≤ i ∧ i ≤ 72) → (xF sp s tqq) →  wp PP d mb281 (mb281.getD 1 []) [some (vR 35), some (vR sp), some (vI c), some (vI i), o4] [] (HP h0 tqq) Q := by
    refine s_ind (fun N ih => ?_)
    intro o4 W1 K1 i tqq gE gB hs hM gF
    refine x_iload rfl ?_
    refine n_if_le ⟨by omega, by omega⟩ (fun c1 => ?_) (fun c1 => ?_)
    · refine x_ret ?_
      first
        | (have eW : W1 = [] := List.eq_nil_of_length_eq_zero (by omega)
           subst eW
           refine k1 tqq ?_ gF
           rw [← hs]
           exact gE)
        | (refine k1 tqq ?_ gF
           rw [← hs]
           simp only [stl]
           rw [if_pos (show x = 13 ∨ clo x < c by omega)]
           exact gE)
    · refine x_aload rfl ?_
      refine h_getI 4 sc_35 rfl rfl ?_
      rw [gE.1]
      refine n_if_le ⟨by omega, by omega⟩ (fun c2 => ?_) (fun c2 => ?_)
      · refine x_ret ?_
        first
          | (have eW : W1 = [] := List.eq_nil_of_length_eq_zero (by omega)
             subst eW
             refine k1 tqq ?_ gF
             rw [← hs]
             exact gE)
          | (refine k1 tqq ?_ gF
             rw [← hs]
             simp only [stl]
             rw [if_pos (show x = 13 ∨ clo x < c by omega)]
             exact gE)
      · refine x_aload rfl ?_
        obtain ⟨x, V, hW⟩ : ∃ x V, W1 = x :: V := by
          cases W1 with
          | nil => simp at c2
          | cons x V => exact ⟨x, V, rfl⟩
        subst hW
        have hx := gB.2.2 x (List.mem_cons_self ..)
        refine n_call [vR _] [] (by omega) (Nat.le_of_ble_eq_true rfl) rfl rfl (Nat.le_of_ble_eq_true rfl) ?_
        refine m_lastWaiting gE gB ?_
        refine t_I x rfl ?_
        show wp PP _ _ _ [some (vR _), some (vR _), some (vI _), some (vI _), _] [vI _] _ _
        refine n_istore [some (vR _), some (vR _), some (vI _), some (vI _), some (vI _)] (Nat.le_of_ble_eq_true rfl) rfl ?_
        refine x_iload rfl ?_
        refine x_ci ?_
        refine n_icmp_eq ⟨by omega, by omega⟩ ⟨by omega, by omega⟩ (fun c3 => ?_) (fun c3 => ?_)
        · refine x_ret ?_
          first
            | (have eW : W1 = [] := List.eq_nil_of_length_eq_zero (by omega)
               subst eW
               refine k1 tqq ?_ gF
               rw [← hs]
               exact gE)
            | (refine k1 tqq ?_ gF
               rw [← hs]
               simp only [stl]
               rw [if_pos (show x = 13 ∨ clo x < c by omega)]
               exact gE)
        · refine x_iload rfl ?_
          refine n_call [vI _] [] (by omega) (Nat.le_of_ble_eq_true rfl) rfl rfl (Nat.le_of_ble_eq_true rfl) ?_
          have cR := clo_R (x := x) (by omega)
          refine m_closenessOf ⟨by omega, by omega⟩ ?_
          show wp PP _ _ _ [some (vR _), some (vR _), some (vI _), some (vI _), some (vI _)] [vI _] _ _
          refine x_iload rfl ?_
          refine n_icmp_ge ⟨by omega, by omega⟩ ⟨by omega, by omega⟩ (fun c4 => ?_) (fun c4 => ?_)
          · refine x_aload rfl ?_
            refine x_ci ?_
            refine x_iload rfl ?_
            refine x_iadd ?_
            refine n_call [vR _, vI _] [] (by omega) (Nat.le_of_ble_eq_true rfl) rfl rfl (Nat.le_of_ble_eq_true rfl) ?_
            have gp := eB_pop gB c3
            refine m_addKnot hS gE.2.2.2.2.2.1 ⟨by omega, by omega⟩ ?_
            show wp PP _ _ _ [some (vR _), some (vR _), some (vI _), some (vI _), some (vI _)] [vI _] _ _
            refine x_popI ?_
            refine x_aload rfl ?_
            refine x_dupR ?_
            refine h_getI 4 sc_35 rfl rfl ?_
            rw [up_a (by omega), up_a (by omega), gE.1, List.length_cons]
            refine x_ci ?_
            refine x_isub ?_
            refine h_putI 4 sc_35 rfl rfl ?_
            refine n_iinc [some (vR _), some (vR _), some (vI _), some (vI _), some (vI _)] rfl rfl ?_
            refine x_goto ?_
            have sk := gE.2.2.1
            refine ih V.length (by rw [List.length_cons] at hM; omega) V (addK K1 (20000 + x)) (i + -1) _ ⟨?_, ?_, ?_, ?_, ?_, ?_, fun j j0 j1 => ?_⟩ gp.1 ?_ (by rw [List.length_cons] at hM; omega) (fun b r q1 q2 q3 q4 => ?_)
            · rw [up_e]
              omega
            · rw [up_i (by decide), up_a (by omega), up_a (by omega), gE.2.1, opn_s, if_neg c3]
              omega
            · exact SKl_cg V (fun j j0 j1 => by rw [up_a (by decide), up_a (by omega), up_a (by omega)]) sk.2
            · rw [up_i (by decide), up_a (by omega), up_a (by omega)]
              exact gE.2.2.2.1
            · intro zqq
              rw [up_i (by decide), up_a (by omega), up_a (by omega)]
              exact gE.2.2.2.2.1 zqq
            · rw [up_a (by omega), up_e]
              rfl
            · rw [up_a (by omega), up_a (by omega)]
              have j1 : j < ((K1.1 + 1 : Nat) : Int) := j1
              by_cases e : j = K1.1
              · rw [e, up_e, addK_new]
              · rw [up_i e, addK_old (by omega)]
                exact gE.2.2.2.2.2.2 j j0 (by omega)
            · rw [← hs]
              simp only [stl]
              rw [if_neg (show ¬ (x = 13 ∨ clo x < c) by omega)]
            · rw [up_f (by omega), up_f (by omega), up_f (by omega)]
              exact gF b r q1 q2 q3 q4
          · refine x_fall ?_
            refine x_ret ?_
            first
              | (have eW : W1 = [] := List.eq_nil_of_length_eq_zero (by omega)
                 subst eW
                 refine k1 tqq ?_ gF
                 rw [← hs]
                 exact gE)
              | (refine k1 tqq ?_ gF
                 rw [← hs]
                 simp only [stl]
                 rw [if_pos (show x = 13 ∨ clo x < c by omega)]
                 exact gE)
  refine n_at (m := 281) (q := mr281) (kn := (0, 3)) [some (vR _), some (vR _), some (vI _), none, none] mb281 rfl rfl (h_rcv sc_35) (Nat.le_of_ble_eq_true rfl) rfl rfl ?_
  refine x_aload rfl ?_
  refine h_getR sc_35 rfl (by omega) ?_
  refine h_alen 72 sc_36 (by decide) rfl ?_
  refine n_istore [some (vR _), some (vR _), some (vI _), some (vI _), _] (Nat.le_of_ble_eq_true rfl) rfl ?_
  refine x_fall ?_
  exact L1 W.length W K 72 s hE hb rfl ⟨rfl, by omega, by omega⟩ xF_rfl
theorem m_openOne (hd : 2 ≤ d) (hsp : sp = 37 ∨ sp = 45) (hE : EC sp m W K s) (hm : m < 2) (hb : eB W K) (hpl : s 33 4 = pl) (kS : opn W < 8 → ∀ tqq, EC sp 0 (13 :: W) K tqq → xF sp s tqq → Q (some (vI 1)) (HP h0 tqq)) (kF : 8 ≤ opn W → Q (some (vI 0)) (HP h0 (up (up s 35 0 2) 35 1 pl))) : wpM PP d 277 [vR 35] (HP h0 s) Q := by
  have hl := eB_len hb
  have ho := hb.2.1
  have hl2 : opn W < 8 → W.length < 72 := fun zqq => by
    have := hb.1
    unfold tot at this
    omega
  refine n_at (m := 277) (q := mr277) (kn := (0, 1)) [some (vR _)] mb277 rfl rfl (h_rcv sc_35) (Nat.le_of_ble_eq_true rfl) rfl rfl ?_
  refine x_aload rfl ?_
  refine h_getI 5 sc_35 rfl rfl ?_
  rw [hE.2.1]
  refine x_ci ?_
  refine n_icmp_lt ⟨by omega, by omega⟩ ⟨by omega, by omega⟩ (fun c1 => ?_) (fun c1 => ?_)
  · refine x_aload rfl ?_
    refine x_dupR ?_
    refine h_getI 5 sc_35 rfl rfl ?_
    rw [hE.2.1]
    refine x_ci ?_
    refine x_iadd ?_
    refine h_putI 5 sc_35 rfl rfl ?_
    refine x_aload rfl ?_
    refine x_ci ?_
    refine h_putZ 7 sc_35 rfl rfl (by first | exact bI_01 _ | omega) ?_
    refine x_aload rfl ?_
    refine x_ci ?_
    refine n_call [vR _, vI _] [] (by omega) (Nat.le_of_ble_eq_true rfl) rfl rfl (Nat.le_of_ble_eq_true rfl) ?_
    refine m_putWaiting ((up_i (by decide)).trans ((up_i (by decide)).trans hE.1)) ⟨by omega, by omega⟩ ?_
    show wp PP _ _ _ [some (vR _)] [] _ _
    refine x_ci ?_
    refine x_zret (by first | exact bI_01 _ | omega) ?_
    first
      | exact kF (by omega)
      | (refine kS (by omega) _ ⟨?_, ?_, ?_, ?_, fun _ => ?_, ?_, fun i i0 i1 => ?_⟩ (xF_up (xF_up2 (xF_up (xF_up xF_rfl))))
         · rw [up_e, List.length_cons]
           omega
         · rw [up_i (by decide), up_a (by decide), up_i (by decide), up_e, opn_s, if_pos rfl]
           omega
         · exact SKl_cg _ (fun i i0 i1 => by rw [up_a (by decide)]) (SKl_push (f := fun _ => 0) (s := up (up s 35 5 ((opn W : Int) + 1)) 35 7 1) (SKl_cg W (fun i i0 i1 => by rw [up_a (by decide), up_a (by decide)]) hE.2.2.1))
         · rw [up_i (by decide), up_a (by decide), up_i (by decide), up_i (by decide), hE.2.2.2.1, if_pos hm]
           rfl
         · rw [up_i (by decide), up_a (by decide), up_e]
           rfl
         · rw [up_a (by omega), up_a (by omega), up_a (by omega), up_a (by omega)]
           exact hE.2.2.2.2.2.1
         · rw [up_a (by omega), up_a (by omega), up_a (by omega), up_a (by omega)]
           exact hE.2.2.2.2.2.2 i i0 i1)
  · refine x_aload rfl ?_
    refine x_ci ?_
    refine n_call [vR _, vI _] [] (by omega) (Nat.le_of_ble_eq_true rfl) rfl rfl (Nat.le_of_ble_eq_true rfl) ?_
    refine m_fail hpl ?_
    show wp PP _ _ _ [some (vR _)] [vI _] _ _
    refine x_zret (by first | exact bI_01 _ | omega) ?_
    first
      | exact kF (by omega)
      | (refine kS (by omega) _ ⟨?_, ?_, ?_, ?_, fun _ => ?_, ?_, fun i i0 i1 => ?_⟩ (xF_up (xF_up2 (xF_up (xF_up xF_rfl))))
         · rw [up_e, List.length_cons]
           omega
         · rw [up_i (by decide), up_a (by decide), up_i (by decide), up_e, opn_s, if_pos rfl]
           omega
         · exact SKl_cg _ (fun i i0 i1 => by rw [up_a (by decide)]) (SKl_push (f := fun _ => 0) (s := up (up s 35 5 ((opn W : Int) + 1)) 35 7 1) (SKl_cg W (fun i i0 i1 => by rw [up_a (by decide), up_a (by decide)]) hE.2.2.1))
         · rw [up_i (by decide), up_a (by decide), up_i (by decide), up_i (by decide), hE.2.2.2.1, if_pos hm]
           rfl
         · rw [up_i (by decide), up_a (by decide), up_e]
           rfl
         · rw [up_a (by omega), up_a (by omega), up_a (by omega), up_a (by omega)]
           exact hE.2.2.2.2.2.1
         · rw [up_a (by omega), up_a (by omega), up_a (by omega), up_a (by omega)]
           exact hE.2.2.2.2.2.2 i i0 i1)
end TXA
