/-! TEXT: the class's reader: an E -/
section TXC
variable {d sp : Nat} {h0 h : pheap} {s tqq uqq : St} {Q : Option pv → pheap → Prop} {B : Int → Int} {n m p : Nat} {sz : Int} {k vqq c : Int} {pl nx : Nat} {W : List Int} {K K0 : KS}
/-- a token that is none, or the end, ends an E with a fault -/
theorem eStep_k (hm : m ≤ 2) (h : k = 0 ∨ k = 1) : eStep k vqq m W K = (1, m, W, K) := by
  by_cases e : m < 2
  · exact eS_8 e (by omega) (by omega) (by omega) (by omega)
  · have e2 : m = 2 := by omega
    subst e2
    refine eO_2 (by omega) (by omega) ?_
    unfold jsg
    rw [if_neg (by omega), if_neg (by omega)]
theorem stl_all : ∀ {W : List Int} {K : KS}, opn W = 0 → (∀ x, x ∈ W → 0 ≤ x ∧ x ≤ 13) → (stl 0 W K).1 = []
  | [], _, _, _ => rfl
  | x :: W, K, h, g => by
    rw [opn_s] at h
    have hx := g x (List.mem_cons_self ..)
    have e : x ≠ 13 := by
      intro zqq
      rw [if_pos zqq] at h
      omega
    have c := (clo_R (x := x) (by omega)).1
    simp only [stl]
    rw [if_neg (by omega)]
    exact stl_all (by rw [if_neg e] at h; omega) (fun y hy => g y (List.mem_cons_of_mem _ hy))
/-- what an E may change -/
def rF (sp : Nat) (s tqq : St) : Prop := ∀ (b : Nat) (r : Int), ¬ (b = 33 ∧ 3 ≤ r) → ¬ (b = 35 ∧ 2 ≤ r) → ¬ b = 36 → ¬ (b = sp ∧ r = 11) → ¬ b = sp + 4 → tqq b r = s b r
theorem rF_tr (h : rF sp s tqq) (g : rF sp tqq uqq) : rF sp s uqq := fun b r q0 q1 q2 q3 q4 => (g b r q0 q1 q2 q3 q4).trans (h b r q0 q1 q2 q3 q4)
def vF (sp : Nat) (s tqq : St) : Prop := ∀ (b : Nat) (r : Int), ¬ (b = 33 ∧ 3 ≤ r) → ¬ b = 35 → ¬ b = 36 → ¬ (b = sp ∧ r = 11) → ¬ b = sp + 4 → tqq b r = s b r
theorem vF_tr (h : rF sp s tqq) (g : yF sp tqq uqq) : vF sp s uqq := fun b r q0 q1 q2 q3 q4 => (g b r q1 q2 q3 q4).trans (h b r q0 (by omega) q2 q3 q4)
theorem xF.r (h : xF sp s tqq) : rF sp s tqq := fun b r _ q1 q2 q3 q4 => h b r q1 q2 q3 q4
theorem tkF.r (h : tkF s tqq) : rF sp s tqq := fun b r q0 _ _ _ _ => h b r q0
theorem TBC.r (h : TBC B n sz s) (hsp : sp = 37 ∨ sp = 45) (g : rF sp s tqq) : TBC B n sz tqq := ⟨(g 33 1 (by omega) (by omega) (by omega) (by omega) (by omega)).trans h.1, (g 33 2 (by omega) (by omega) (by omega) (by omega) (by omega)).trans h.2.1, h.2.2.1, h.2.2.2.1, fun i i0 i1 => by
  rw [g 34 i (by omega) (by omega) (by omega) (by omega) (by omega)]
  exact h.2.2.2.2 i i0 i1⟩
theorem EC_tk (h : EC sp m W K s) (hsp : sp = 37 ∨ sp = 45) (g : tkF s tqq) : EC sp m W K tqq := by
  refine ⟨?_, ?_, ?_, ?_, fun zqq => ?_, ?_, fun i i0 i1 => ?_⟩
  · rw [g 35 4 (by omega)]
    exact h.1
  · rw [g 35 5 (by omega)]
    exact h.2.1
  · exact SKl_cg _ (fun i i0 i1 => g 36 i (by omega)) h.2.2.1
  · rw [g 35 6 (by omega)]
    exact h.2.2.2.1
  · rw [g 35 7 (by omega)]
    exact h.2.2.2.2.1 zqq
  · rw [g sp 11 (by omega)]
    exact h.2.2.2.2.2.1
  · rw [g (sp + 4) i (by omega)]
    exact h.2.2.2.2.2.2 i i0 i1
/-- the knots as a script keeps them -/
def KC (sp : Nat) (K : KS) (s : St) : Prop := s sp 11 = K.1 ∧ ∀ i : Int, 0 ≤ i → i < K.1 → s (sp + 4) i = K.2 i
theorem m_readExpression {p0 : Nat} (hd : 16 ≤ d) (hsp : sp = 37 ∨ sp = 45) (hS : isSc sp) (hT : TBC B n sz s) (hb : bOk B n) (h3 : s 33 3 = p0) (hp : p0 ≤ n) (hK : KC sp K0 s) (hK64 : K0.1 ≤ 64) (kD : ∀ (nx : Nat) (K2 : KS), eEnd B n p0 0 [] K0 (-1, nx, K2) → p0 < nx ∧ nx ≤ n → ∀ tqq, tqq 33 3 = (nx : Int) → KC sp K2 tqq → iE K0.1 K0 2 [] K2 → rF sp s tqq → Q (some (vI 1)) (HP h0 tqq)) (kF : ∀ (f : Int) (pl : Nat) (K2 : KS), f ≠ 0 → f ≠ -1 → eEnd B n p0 0 [] K0 (f, pl, K2) → ∀ tqq, tqq 35 0 = f → tqq 35 1 = (pl : Int) → vF sp s tqq → Q (some (vI 0)) (HP h0 tqq)) : wpM PP d 275 [vR 35, vR sp] (HP h0 s) Q := by
  have hn700 : (n : Int) ≤ 700 := by
    have := hT.2.2.1
    have := hT.2.2.2.1
    omega
  have L1 : ∀ N : Nat, ∀ (p : Nat) (m : Nat) (W : List Int) (K : KS) (i : Int) (tqq : St), (N = n - p ∧ p ≤ n ∧ i ≤ p ∧ 0 ≤ i ∧ m ≤ 2 ∧ p0 ≤ p) → (tqq 33 3 = p) → (EC sp m W K tqq) → (iE K0.1 K0 m W K) → (∀ r, eEnd B n p m W K r → eEnd B n p0 0 [] K0 r) → (rF sp s tqq) →  wp PP d mb275 (mb275.getD 1 []) [some (vR 35), some (vR sp), some (vI i)] [] (HP h0 tqq) Q := by
    refine s_ind (fun N ih => ?_)
    intro p m W K i tqq hM g3 gE gI gR gF
    have ho8 := gI.b.2.1
    refine x_iload rfl ?_
    refine x_ci ?_
    refine n_icmp_gt ⟨by omega, by omega⟩ ⟨by omega, by omega⟩ (fun c1 => ?_) (fun c1 => ?_)
    · refine x_ci ?_
      refine x_zret (by first | exact bI_01 _ | omega) ?_
      exfalso
      omega
    · refine x_aload rfl ?_
      refine h_getR sc_35 rfl (by omega) ?_
      refine n_call [vR _] [] (by omega) (Nat.le_of_ble_eq_true rfl) rfl rfl (Nat.le_of_ble_eq_true rfl) ?_
      refine m_step (by omega) (hT.r hsp gF) hb g3 hM.2.1 (fun uqq u1qq u2qq => ?_)
      have tr := tkR_is (B := B) (p := p) hb
      have gE2 := EC_tk gE hsp u2qq
      show wp PP _ _ _ [some (vR _), some (vR _), some (vI _)] [] _ _
      refine x_aload rfl ?_
      refine h_getZ 6 sc_35 rfl rfl ?_
      rw [gE2.2.2.2.1]
      refine n_if_ne ⟨by omega, by omega⟩ (fun c2 => ?_) (fun c2 => ?_)
      · have hm2 : m < 2 := by
          by_cases e : m < 2
          · exact e
          · rw [if_neg e] at c2
            omega
        refine x_aload rfl ?_
        refine h_getZ 6 sc_35 rfl rfl ?_
        rw [gE2.2.2.2.1, if_pos hm2]
        refine n_if_eq ⟨by omega, by omega⟩ (fun c3 => ?_) (fun c3 => ?_)
        · exfalso
          omega
        · refine x_aload rfl ?_
          refine x_aload rfl ?_
          refine n_call [vR _, vR _] [] (by omega) (Nat.le_of_ble_eq_true rfl) rfl rfl (Nat.le_of_ble_eq_true rfl) ?_
          refine m_readOperand (by omega) hsp hS u1qq tr gE2 hm2 gI.b (fun m2 W2 K2 e wqq w1qq w2qq => ?_) (fun f hf hex wqq w1qq w2qq w3qq => ?_)
          · have k01 : tkK B n p ≠ 0 ∧ tkK B n p ≠ 1 := by
              constructor
              · intro zqq
                rw [eStep_k (by omega) (Or.inl zqq)] at e
                cases e
              · intro zqq
                rw [eStep_k (by omega) (Or.inr zqq)] at e
                cases e
            have tn := tkE_R (B := B) hM.2.1 k01.2 k01.1
            have ok := eStep_ok tr hM.2.2.2.2.1 gI e
            show wp PP _ _ _ _ [vI _] _ _
            refine n_if_eq ⟨by omega, by omega⟩ (fun c9 => by exfalso; omega) (fun _ => ?_)
            refine x_goto ?_
            refine n_iinc [some (vR _), some (vR _), some (vI _)] rfl rfl ?_
            refine x_goto ?_
            refine ih (n - tkE B n p) (by omega) (tkE B n p) m2 W2 K2 (i + 1) wqq (by omega) ?_ w1qq ok.1 (fun r y => gR r (eEnd_step e y)) (rF_tr gF (rF_tr u2qq.r w2qq.r))
            rw [w2qq 33 3 (by omega) (by omega) (by omega) (by omega)]
            exact u1qq.1
          · obtain ⟨m2, W2, K2, e⟩ := hex
            have en := eEnd_stop e hf.1
            rw [if_neg hf.2] at en
            have en := gR _ en
            show wp PP _ _ _ _ [vI _] _ _
            refine n_if_eq ⟨by omega, by omega⟩ (fun _ => ?_) (fun c9 => by exfalso; omega)
            refine x_ci ?_
            refine x_zret (by first | exact bI_01 _ | omega) ?_
            exact kF f _ K2 hf.1 hf.2 en wqq w1qq w2qq (vF_tr (rF_tr gF u2qq.r) w3qq)
      · refine x_aload rfl ?_
        refine h_getI 5 sc_35 rfl rfl ?_
        rw [gE2.2.1]
        refine n_if_ne ⟨by omega, by omega⟩ (fun c3 => ?_) (fun c3 => ?_)
        · have hm2 : m = 2 := by
            by_cases e : m < 2
            · rw [if_pos e] at c2
              omega
            · omega
          subst hm2
          have hend : ¬ (opn W = 0 ∧ tkK B n p = 5 ∧ tkV B n p = 15) := fun y => by
            omega
          refine x_aload rfl ?_
          refine h_getZ 6 sc_35 rfl rfl ?_
          rw [gE2.2.2.2.1, if_neg (show ¬ (2 : Nat) < 2 by decide)]
          refine n_if_eq ⟨by omega, by omega⟩ (fun c4 => ?_) (fun c4 => ?_)
          · refine x_aload rfl ?_
            refine x_aload rfl ?_
            refine n_call [vR _, vR _] [] (by omega) (Nat.le_of_ble_eq_true rfl) rfl rfl (Nat.le_of_ble_eq_true rfl) ?_
            refine m_readOperator (by omega) hsp hS u1qq tr gE2 gI hend (fun m2 W2 K2 e wqq w1qq w2qq => ?_) (fun f hf hex wqq w1qq w2qq w3qq => ?_)
            · have k01 : tkK B n p ≠ 0 ∧ tkK B n p ≠ 1 := by
                constructor
                · intro zqq
                  rw [eStep_k (by omega) (Or.inl zqq)] at e
                  cases e
                · intro zqq
                  rw [eStep_k (by omega) (Or.inr zqq)] at e
                  cases e
              have tn := tkE_R (B := B) hM.2.1 k01.2 k01.1
              have ok := eStep_ok tr hM.2.2.2.2.1 gI e
              show wp PP _ _ _ _ [vI _] _ _
              refine n_if_ne ⟨by omega, by omega⟩ (fun _ => ?_) (fun c9 => by exfalso; omega)
              refine n_iinc [some (vR _), some (vR _), some (vI _)] rfl rfl ?_
              refine x_goto ?_
              refine ih (n - tkE B n p) (by omega) (tkE B n p) m2 W2 K2 (i + 1) wqq (by omega) ?_ w1qq ok.1 (fun r y => gR r (eEnd_step e y)) (rF_tr gF (rF_tr u2qq.r w2qq.r))
              rw [w2qq 33 3 (by omega) (by omega) (by omega) (by omega)]
              exact u1qq.1
            · obtain ⟨m2, W2, K2, e⟩ := hex
              have en := eEnd_stop e hf.1
              rw [if_neg hf.2] at en
              have en := gR _ en
              show wp PP _ _ _ _ [vI _] _ _
              refine n_if_ne ⟨by omega, by omega⟩ (fun c9 => by exfalso; omega) (fun _ => ?_)
              refine x_fall ?_
              refine x_ci ?_
              refine x_zret (by first | exact bI_01 _ | omega) ?_
              exact kF f _ K2 hf.1 hf.2 en wqq w1qq w2qq (vF_tr (rF_tr gF u2qq.r) w3qq)
          · exfalso
            omega
        · refine x_aload rfl ?_
          refine h_getR sc_35 rfl (by omega) ?_
          refine x_ci ?_
          refine n_call [vR _, vI _] [] (by omega) (Nat.le_of_ble_eq_true rfl) rfl rfl (Nat.le_of_ble_eq_true rfl) ?_
          refine m_isSign u1qq tr (by omega) ?_
          show wp PP _ _ _ [some (vR _), some (vR _), some (vI _)] [vI _] _ _
          refine z_if_eq (fun c4 => ?_) (fun c4 => ?_)
          · have hm2 : m = 2 := by
              by_cases e : m < 2
              · rw [if_pos e] at c2
                omega
              · omega
            subst hm2
            have hend : ¬ (opn W = 0 ∧ tkK B n p = 5 ∧ tkV B n p = 15) := fun y => by
              exact c4 ⟨y.2.1, y.2.2⟩
            refine x_aload rfl ?_
            refine h_getZ 6 sc_35 rfl rfl ?_
            rw [gE2.2.2.2.1, if_neg (show ¬ (2 : Nat) < 2 by decide)]
            refine n_if_eq ⟨by omega, by omega⟩ (fun c5 => ?_) (fun c5 => ?_)
            · refine x_aload rfl ?_
              refine x_aload rfl ?_
              refine n_call [vR _, vR _] [] (by omega) (Nat.le_of_ble_eq_true rfl) rfl rfl (Nat.le_of_ble_eq_true rfl) ?_
              refine m_readOperator (by omega) hsp hS u1qq tr gE2 gI hend (fun m2 W2 K2 e wqq w1qq w2qq => ?_) (fun f hf hex wqq w1qq w2qq w3qq => ?_)
              · have k01 : tkK B n p ≠ 0 ∧ tkK B n p ≠ 1 := by
                  constructor
                  · intro zqq
                    rw [eStep_k (by omega) (Or.inl zqq)] at e
                    cases e
                  · intro zqq
                    rw [eStep_k (by omega) (Or.inr zqq)] at e
                    cases e
                have tn := tkE_R (B := B) hM.2.1 k01.2 k01.1
                have ok := eStep_ok tr hM.2.2.2.2.1 gI e
                show wp PP _ _ _ _ [vI _] _ _
                refine n_if_ne ⟨by omega, by omega⟩ (fun _ => ?_) (fun c9 => by exfalso; omega)
                refine n_iinc [some (vR _), some (vR _), some (vI _)] rfl rfl ?_
                refine x_goto ?_
                refine ih (n - tkE B n p) (by omega) (tkE B n p) m2 W2 K2 (i + 1) wqq (by omega) ?_ w1qq ok.1 (fun r y => gR r (eEnd_step e y)) (rF_tr gF (rF_tr u2qq.r w2qq.r))
                rw [w2qq 33 3 (by omega) (by omega) (by omega) (by omega)]
                exact u1qq.1
              · obtain ⟨m2, W2, K2, e⟩ := hex
                have en := eEnd_stop e hf.1
                rw [if_neg hf.2] at en
                have en := gR _ en
                show wp PP _ _ _ _ [vI _] _ _
                refine n_if_ne ⟨by omega, by omega⟩ (fun c9 => by exfalso; omega) (fun _ => ?_)
                refine x_fall ?_
                refine x_ci ?_
                refine x_zret (by first | exact bI_01 _ | omega) ?_
                exact kF f _ K2 hf.1 hf.2 en wqq w1qq w2qq (vF_tr (rF_tr gF u2qq.r) w3qq)
            · exfalso
              omega
          · refine x_aload rfl ?_
            refine x_aload rfl ?_
            refine x_ci ?_
            have hm2 : m = 2 := by
              by_cases e : m < 2
              · rw [if_pos e] at c2
                omega
              · omega
            subst hm2
            refine n_call [vR _, vR _, vI _] [] (by omega) (Nat.le_of_ble_eq_true rfl) rfl rfl (Nat.le_of_ble_eq_true rfl) ?_
            refine m_settle (by omega) hsp hS gE2 gI.b (by omega) (fun wqq w1qq w2qq => ?_)
            show wp PP _ _ _ _ [] _ _
            refine x_ci ?_
            refine x_zret (by omega) ?_
            have ho : opn W = 0 := by omega
            have en := eEnd_stop (eO_0 (W := W) (K := K) ⟨ho, c4.1, c4.2⟩) (by decide)
            rw [if_pos rfl] at en
            have so := stl_ok 0 gI
            have sa := stl_all (K := K) ho gI.b.2.2
            have tn := tkE_R (B := B) hM.2.1 (by omega) (by omega)
            refine kD (tkE B n p) _ (gR _ en) (by omega) wqq ?_ ⟨w1qq.2.2.2.2.2.1, w1qq.2.2.2.2.2.2⟩ (by rw [← sa]; exact so.1) (rF_tr gF (rF_tr u2qq.r w2qq.r))
            rw [w2qq 33 3 (by omega) (by omega) (by omega) (by omega)]
            exact u1qq.1
  refine n_at (m := 275) (q := mr275) (kn := (0, 2)) [some (vR _), some (vR _), none] mb275 rfl rfl (h_rcv sc_35) (Nat.le_of_ble_eq_true rfl) rfl rfl ?_
  refine x_aload rfl ?_
  refine x_ci ?_
  refine h_putI 4 sc_35 rfl rfl ?_
  refine x_aload rfl ?_
  refine x_ci ?_
  refine h_putI 5 sc_35 rfl rfl ?_
  refine x_aload rfl ?_
  refine x_ci ?_
  refine h_putZ 6 sc_35 rfl rfl (by first | exact bI_01 _ | omega) ?_
  refine x_aload rfl ?_
  refine x_ci ?_
  refine h_putZ 7 sc_35 rfl rfl (by first | exact bI_01 _ | omega) ?_
  refine x_ci ?_
  refine n_istore [some (vR _), some (vR _), some (vI _)] (Nat.le_of_ble_eq_true rfl) rfl ?_
  refine x_fall ?_
  refine L1 (n - p0) p0 0 [] K0 0 _ (by omega) ((up_a (by decide)).trans ((up_a (by decide)).trans ((up_a (by decide)).trans ((up_a (by decide)).trans h3)))) ⟨?_, ?_, trivial, ?_, fun _ => ?_, ?_, fun j j0 j1 => ?_⟩ ⟨Nat.le_refl _, fun j hj => rfl, fun j j0 j1 => by omega, ?_, ?_, by decide, fun x hx => by cases hx⟩ (fun r y => y) (fun b r q0 q1 q2 q3 q4 => ?_)
  · rw [up_i (by decide), up_i (by decide), up_i (by decide), up_e]
    rfl
  · rw [up_i (by decide), up_i (by decide), up_e]
    rfl
  · rw [up_i (by decide), up_e]
    rfl
  · rw [up_e]
    rfl
  · rw [up_a (by omega), up_a (by omega), up_a (by omega), up_a (by omega)]
    exact hK.1
  · rw [up_a (by omega), up_a (by omega), up_a (by omega), up_a (by omega)]
    exact hK.2 j j0 j1
  · rw [show K0.1 - K0.1 = 0 by omega]
    rfl
  · unfold tot
    simp only [opn, List.length_nil]
    omega
  · rw [up_f (by omega), up_f (by omega), up_f (by omega), up_f (by omega)]
end TXC
