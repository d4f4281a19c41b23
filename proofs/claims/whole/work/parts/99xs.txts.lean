/-! TEXT: the reference's lines: a line, whole -/
section TXS
variable {d : Nat} {h0 h : pheap} {s tqq uqq : St} {Q : Option pv → pheap → Prop} {B : Int → Int} {n p q N : Nat} {sz : Int} {k vqq : Int} {D : Nat × (Int → Int)} {T : Nat × (Int → Int) × (Int → Int)} {S E : Int × Int} {K : KS} {L : (Int → Int) × (Int → Int)} {X : TS}
theorem r_tailF {o1 o2 : Option pv} (hf : iR (s 94 18) ∧ s 94 18 ≠ 0) (k1 : Q none (HP h0 s)) : wp PP d mb77 (mb77.getD 14 []) [some (vR 94), o1, o2] [] (HP h0 s) Q := by
  refine x_aload rfl ?_
  refine h_getI 18 sc_94 rfl rfl ?_
  skip
  refine n_if_eq ⟨by omega, by omega⟩ (fun c1 => ?_) (fun c1 => ?_)
  · exfalso
    omega
  · refine x_ret ?_
    exact k1
theorem r_tail {o1 o2 : Option pv} (hd : 14 ≤ d) (hb : bOk B n) (hR : RLN B n p D T S E K L N s) (hp : p ≤ n) (kS : tkK B n p = 5 ∧ tkV B n p = 15 → ∀ tqq, RLN B n (tkE B n p) D T S E K L (N + 1) tqq → jF s tqq → Q none (HP h0 tqq)) (kF : ¬ (tkK B n p = 5 ∧ tkV B n p = 15) → ∀ tqq, tqq 94 18 = 1 → tqq 94 19 = ((tkP B n p : Nat) : Int) → jF s tqq → Q none (HP h0 tqq)) : wp PP d mb77 (mb77.getD 14 []) [some (vR 94), o1, o2] [] (HP h0 s) Q := by
  have tr := tkR_is (B := B) (n := n) (p := p) hb
  refine x_aload rfl ?_
  refine h_getI 18 sc_94 rfl rfl ?_
  rw [hR.1.2.2]
  refine n_if_eq ⟨by omega, by omega⟩ (fun _ => ?_) (fun c9 => by exfalso; omega)
  refine x_aload rfl ?_
  refine x_ci ?_
  refine n_call [vR _, vI _] [] (by omega) (Nat.le_of_ble_eq_true rfl) rfl rfl (Nat.le_of_ble_eq_true rfl) ?_
  show wpM PP _ _ [vR 94, vI (chS 15)] _ _
  refine r_isSign hR.1.2.2 hR.1.2.1 tr (by omega) ?_
  show wp PP _ _ _ [some (vR _), _, _] [vI _] _ _
  refine z_if_ne (fun c1 => ?_) (fun c1 => ?_)
  · refine x_aload rfl ?_
    refine n_call [vR _] [] (by omega) (Nat.le_of_ble_eq_true rfl) rfl rfl (Nat.le_of_ble_eq_true rfl) ?_
    have tq := tkE_R (B := B) (n := n) (p := p) hp (by omega) (by omega)
    refine r_token (p := tkE B n p) (by omega) hR.1.1 hb hR.1.2.1.1 tq.2 (fun uqq u1qq u2qq => ?_)
    show wp PP _ _ _ [some (vR _), _, _] [] _ _
    refine x_fall ?_
    refine x_aload rfl ?_
    refine x_dupR ?_
    refine h_getI 12 sc_94 rfl rfl ?_
    rw [u2qq 94 12 (by omega), hR.2.2.1]
    refine x_ci ?_
    refine x_iadd ?_
    refine h_putI 12 sc_94 rfl rfl ?_
    refine x_ret ?_
    first
      | (have c1 : tkK B n p = 5 ∧ tkV B n p = 15 := c1
         exact kS c1 _ ⟨(hR.1.tk u1qq u2qq).of (fun b r y => up_f (by omega)), (hR.2.1.of (fun b r y => u2qq b r (by omega))).of (fun b r y => up_f (by omega)), by rw [up_e]; rfl, (up_i (by decide)).trans ((u2qq 94 22 (by omega)).trans hR.2.2.2.1), (up_i (by decide)).trans ((u2qq 94 23 (by omega)).trans hR.2.2.2.2.1), (up_i (by decide)).trans ((u2qq 94 19 (by omega)).trans hR.2.2.2.2.2)⟩ (jF_up u2qq.j (by omega)))
      | exact kF c1 _ (by rw [up_i (by decide), up_i (by decide), up_e]) (by rw [up_i (by decide), up_e]) (jF_up (jF_up (jF_up jF_rfl (by omega)) (by omega)) (by omega))
  · refine x_aload rfl ?_
    refine x_ci ?_
    refine n_call [vR _, vI _] [] (by omega) (Nat.le_of_ble_eq_true rfl) rfl rfl (Nat.le_of_ble_eq_true rfl) ?_
    refine r_wrong hR.1.2.2 hR.1.2.1.2.1 ?_
    show wp PP _ _ _ [some (vR _), _, _] [] _ _
    refine x_goto ?_
    refine x_aload rfl ?_
    refine x_dupR ?_
    refine h_getI 12 sc_94 rfl rfl ?_
    rw [up_i (by decide), up_i (by decide), hR.2.2.1]
    refine x_ci ?_
    refine x_iadd ?_
    refine h_putI 12 sc_94 rfl rfl ?_
    refine x_ret ?_
    first
      | (have c1 : tkK B n p = 5 ∧ tkV B n p = 15 := c1
         exact kS c1 _ ⟨(hR.1.tk u1qq u2qq).of (fun b r y => up_f (by omega)), (hR.2.1.of (fun b r y => u2qq b r (by omega))).of (fun b r y => up_f (by omega)), by rw [up_e]; rfl, (up_i (by decide)).trans ((u2qq 94 22 (by omega)).trans hR.2.2.2.1), (up_i (by decide)).trans ((u2qq 94 23 (by omega)).trans hR.2.2.2.2.1), (up_i (by decide)).trans ((u2qq 94 19 (by omega)).trans hR.2.2.2.2.2)⟩ (jF_up u2qq.j (by omega)))
      | exact kF c1 _ (by rw [up_i (by decide), up_i (by decide), up_e]) (by rw [up_i (by decide), up_e]) (jF_up (jF_up (jF_up jF_rfl (by omega)) (by omega)) (by omega))
end TXS
