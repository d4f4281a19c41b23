/-! TEXT: the class's lines -/
section TXI
variable {d sp : Nat} {h0 h : pheap} {s tqq uqq : St} {Q : Option pv → pheap → Prop} {B : Int → Int} {n p q N : Nat} {sz : Int} {k vqq : Int} {D : Nat × (Int → Int)} {T : Nat × (Int → Int) × (Int → Int)} {S E : Int × Int} {K : KS} {L : (Int → Int) × (Int → Int)} {X : TS}
def TSC (sp : Nat) (D : Nat × (Int → Int)) (T : Nat × (Int → Int) × (Int → Int)) (S E : Int × Int) (K : KS) (L : (Int → Int) × (Int → Int)) (s : St) : Prop := (s sp 1 = D.1 ∧ ∀ i : Int, 0 ≤ i → i < D.1 → s (sp + 1) i = D.2 i) ∧ (s sp 4 = T.1 ∧ ∀ i : Int, 0 ≤ i → i < T.1 → s (sp + 2) i = T.2.1 i ∧ s (sp + 3) i = T.2.2 i) ∧ (s sp 5 = S.2 ∧ s sp 6 = S.1 ∧ s sp 7 = E.2 ∧ s sp 8 = E.1) ∧ KC sp K s ∧ ∀ r : Int, 0 ≤ r → r < 3 → s (sp + 5) r = L.1 r ∧ s (sp + 6) r = L.2 r
/-- the bounds of what is told -/
def XI (D : Nat × (Int → Int)) (T : Nat × (Int → Int) × (Int → Int)) (S E : Int × Int) (K : KS) (L : (Int → Int) × (Int → Int)) : Prop := (D.1 ≤ 6 ∧ ∀ i : Int, 0 ≤ i → i < D.1 → 0 ≤ D.2 i ∧ D.2 i < 1073741824) ∧ (T.1 ≤ 24 ∧ ∀ i : Int, 0 ≤ i → i < T.1 → 0 ≤ T.2.1 i ∧ T.2.1 i ≤ 99 ∧ 0 ≤ T.2.2 i ∧ T.2.2 i < 10) ∧ ((S.1 = 0 ∨ S.1 = 1) ∧ 0 ≤ S.2 ∧ S.2 ≤ 100) ∧ ((E.1 = 0 ∨ E.1 = 1) ∧ 0 ≤ E.2 ∧ E.2 ≤ 99999) ∧ K.1 ≤ 64 ∧ okL K.2 L.1 L.2 ∧ ∀ r : Int, 0 ≤ r → r < 3 → L.2 r ≤ K.1
/-- what reading changes -/
def wF (sp : Nat) (s tqq : St) : Prop := ∀ (b : Nat) (r : Int), ¬ (b = 33 ∧ 3 ≤ r) → ¬ (b = 35 ∧ 2 ≤ r) → ¬ b = 36 → ¬ (sp ≤ b ∧ b ≤ sp + 7 ∧ ¬ (b = sp ∧ r = 9)) → tqq b r = s b r
theorem wF_rfl : wF sp s s := fun _ _ _ _ _ _ => rfl
theorem wF_tr (h : wF sp s tqq) (g : wF sp tqq uqq) : wF sp s uqq := fun b r q0 q1 q2 q3 => (g b r q0 q1 q2 q3).trans (h b r q0 q1 q2 q3)
theorem tkF.w (h : tkF s tqq) : wF sp s tqq := fun b r q0 _ _ _ => h b r q0
theorem rF.w (h : rF sp s tqq) : wF sp s tqq := fun b r q0 q1 q2 q3 => h b r q0 q1 q2 (by omega) (by omega)
def wG (sp : Nat) (s tqq : St) : Prop := ∀ (b : Nat) (r : Int), ¬ (b = 33 ∧ 3 ≤ r) → ¬ b = 35 → ¬ b = 36 → ¬ (sp ≤ b ∧ b ≤ sp + 7 ∧ ¬ (b = sp ∧ r = 9)) → tqq b r = s b r
theorem wG_tr (h : wF sp s tqq) (g : wG sp tqq uqq) : wG sp s uqq := fun b r q0 q1 q2 q3 => (g b r q0 q1 q2 q3).trans (h b r q0 (by omega) q2 q3)
theorem vF.w (h : vF sp s tqq) : wG sp s tqq := fun b r q0 q1 q2 q3 => h b r q0 q1 q2 (by omega) (by omega)
theorem wF_fail {f : Int} {pl : Int} (h : wF sp s tqq) : wG sp s (up (up tqq 35 0 f) 35 1 pl) := fun b r q0 q1 q2 q3 => by
  rw [up_f (by omega), up_f (by omega)]
  exact h b r q0 (by omega) q2 q3
theorem TBC.w (h : TBC B n sz s) (hsp : sp = 37 ∨ sp = 45) (g : wF sp s tqq) : TBC B n sz tqq := ⟨(g 33 1 (by omega) (by omega) (by omega) (by omega)).trans h.1, (g 33 2 (by omega) (by omega) (by omega) (by omega)).trans h.2.1, h.2.2.1, h.2.2.2.1, fun i i0 i1 => by
  rw [g 34 i (by omega) (by omega) (by omega) (by omega)]
  exact h.2.2.2.2 i i0 i1⟩
theorem TSC.of (h : TSC sp D T S E K L s) (g : ∀ (b : Nat) (r : Int), sp ≤ b → b ≤ sp + 7 → tqq b r = s b r) : TSC sp D T S E K L tqq := by
  obtain ⟨⟨a1, a2⟩, ⟨b1, b2⟩, ⟨c1, c2, c3, c4⟩, ⟨d1, d2⟩, e⟩ := h
  refine ⟨⟨(g sp 1 (by omega) (by omega)).trans a1, fun i i0 i1 => (g _ i (by omega) (by omega)).trans (a2 i i0 i1)⟩, ⟨(g sp 4 (by omega) (by omega)).trans b1, fun i i0 i1 => ⟨(g _ i (by omega) (by omega)).trans (b2 i i0 i1).1, (g _ i (by omega) (by omega)).trans (b2 i i0 i1).2⟩⟩, ⟨(g sp 5 (by omega) (by omega)).trans c1, (g sp 6 (by omega) (by omega)).trans c2, (g sp 7 (by omega) (by omega)).trans c3, (g sp 8 (by omega) (by omega)).trans c4⟩, ⟨(g sp 11 (by omega) (by omega)).trans d1, fun i i0 i1 => (g _ i (by omega) (by omega)).trans (d2 i i0 i1)⟩, fun r r0 r1 => ⟨(g _ r (by omega) (by omega)).trans (e r r0 r1).1, (g _ r (by omega) (by omega)).trans (e r r0 r1).2⟩⟩
theorem TSC.tk (h : TSC sp D T S E K L s) (hsp : sp = 37 ∨ sp = 45) (g : tkF s tqq) : TSC sp D T S E K L tqq := h.of (fun b r q1 q2 => g b r (by omega))
theorem m_readNumber {most : Int} (hd : 15 ≤ d) (hsp : sp = 37 ∨ sp = 45) (hS : isSc sp) (hT : TBC B n sz s) (hb : bOk B n) (h3 : s 33 3 = p) (hp : p ≤ n) (hm : 0 ≤ most ∧ most < 100000) (kS : tkK B n p = 2 → tkV B n p ≤ most → ∀ tqq, tqq 33 3 = ((tkE B n p : Nat) : Int) → tqq 33 8 = tkV B n p → tkF s tqq → Q (some (vI 1)) (HP h0 tqq)) (kF : ∀ f : Int, (f = 1 ∧ ¬ tkK B n p = 2) ∨ (f = 2 ∧ tkK B n p = 2 ∧ most < tkV B n p) → ∀ tqq, tqq 35 0 = f → tqq 35 1 = ((tkP B n p : Nat) : Int) → wG sp s tqq → Q (some (vI 0)) (HP h0 tqq)) : wpM PP d 273 [vR 35, vI most] (HP h0 s) Q := by
  refine n_at (m := 273) (q := mr273) (kn := (0, 2)) [some (vR _), some (vI _)] mb273 rfl rfl (h_rcv sc_35) (Nat.le_of_ble_eq_true rfl) rfl rfl ?_
  refine x_aload rfl ?_
  refine h_getR sc_35 rfl (by omega) ?_
  refine n_call [vR _] [] (by omega) (Nat.le_of_ble_eq_true rfl) rfl rfl (Nat.le_of_ble_eq_true rfl) ?_
  refine m_step (p := p) (by omega) hT hb h3 (by omega) (fun uqq u1qq u2qq => ?_)
  have tr := tkR_is (B := B) (n := n) (p := p) hb
  have tr1 := tr.1
  have tr2 := tr.2.1
  show wp PP _ _ _ [some (vR _), some (vI _)] [] _ _
  refine x_aload rfl ?_
  refine h_getR sc_35 rfl (by omega) ?_
  refine h_getI 5 sc_33 rfl rfl ?_
  rw [u1qq.2.2.1]
  refine x_ci ?_
  refine n_icmp_eq ⟨by omega, by omega⟩ ⟨by omega, by omega⟩ (fun c1 => ?_) (fun c1 => ?_)
  · refine x_aload rfl ?_
    refine h_getR sc_35 rfl (by omega) ?_
    refine h_getI 8 sc_33 rfl rfl ?_
    have nm := u1qq.2.2.2.1 c1
    have vr := tr.2.2.1 c1
    have nmR : 0 ≤ uqq 33 8 ∧ uqq 33 8 ≤ 1000000 ∧ (uqq 33 8 ≤ most ↔ tkV B n p ≤ most) ∧ (tkV B n p < 100000 → uqq 33 8 = tkV B n p) := by
      unfold nmOk at nm
      omega
    refine x_iload rfl ?_
    refine n_icmp_le ⟨by omega, by omega⟩ ⟨by omega, by omega⟩ (fun c2 => ?_) (fun c2 => ?_)
    · refine x_ci ?_
      refine x_goto ?_
      refine x_zret (by first | exact bI_01 _ | omega) ?_
      first
        | exact kF 1 (Or.inl ⟨rfl, c1⟩) _ (by rw [up_i (by decide), up_e]) up_e (wF_fail u2qq.w)
        | exact kF 2 (Or.inr ⟨rfl, c1, by omega⟩) _ (by rw [up_i (by decide), up_e]) up_e (wF_fail u2qq.w)
        | exact kS c1 (by omega) uqq u1qq.1 (nmR.2.2.2 (by omega)) u2qq
    · refine x_aload rfl ?_
      refine x_ci ?_
      refine n_call [vR _, vI _] [] (by omega) (Nat.le_of_ble_eq_true rfl) rfl rfl (Nat.le_of_ble_eq_true rfl) ?_
      refine m_fail u1qq.2.1 ?_
      show wp PP _ _ _ [some (vR _), some (vI _)] [vI _] _ _
      refine n_if_eq ⟨by omega, by omega⟩ (fun _ => ?_) (fun c9 => by exfalso; omega)
      refine x_ci ?_
      refine x_fall ?_
      refine x_zret (by first | exact bI_01 _ | omega) ?_
      first
        | exact kF 1 (Or.inl ⟨rfl, c1⟩) _ (by rw [up_i (by decide), up_e]) up_e (wF_fail u2qq.w)
        | exact kF 2 (Or.inr ⟨rfl, c1, by omega⟩) _ (by rw [up_i (by decide), up_e]) up_e (wF_fail u2qq.w)
        | exact kS c1 (by omega) uqq u1qq.1 (nmR.2.2.2 (by omega)) u2qq
  · refine x_aload rfl ?_
    refine x_ci ?_
    refine n_call [vR _, vI _] [] (by omega) (Nat.le_of_ble_eq_true rfl) rfl rfl (Nat.le_of_ble_eq_true rfl) ?_
    refine m_fail u1qq.2.1 ?_
    show wp PP _ _ _ [some (vR _), some (vI _)] [vI _] _ _
    refine x_zret (by first | exact bI_01 _ | omega) ?_
    first
      | exact kF 1 (Or.inl ⟨rfl, c1⟩) _ (by rw [up_i (by decide), up_e]) up_e (wF_fail u2qq.w)
      | exact kF 2 (Or.inr ⟨rfl, c1, by omega⟩) _ (by rw [up_i (by decide), up_e]) up_e (wF_fail u2qq.w)
      | exact kS c1 (by omega) uqq u1qq.1 (nmR.2.2.2 (by omega)) u2qq
theorem m_readLineEnd (hd : 15 ≤ d) (hsp : sp = 37 ∨ sp = 45) (hS : isSc sp) (hT : TBC B n sz s) (hb : bOk B n) (h3 : s 33 3 = p) (hp : p ≤ n) (kS : tkK B n p = 5 ∧ tkV B n p = 15 → ∀ tqq, tqq 33 3 = ((tkE B n p : Nat) : Int) → tkF s tqq → Q (some (vI 1)) (HP h0 tqq)) (kF : ¬ (tkK B n p = 5 ∧ tkV B n p = 15) → ∀ tqq, tqq 35 0 = 1 → tqq 35 1 = ((tkP B n p : Nat) : Int) → wG sp s tqq → Q (some (vI 0)) (HP h0 tqq)) : wpM PP d 274 [vR 35] (HP h0 s) Q := by
  refine n_at (m := 274) (q := mr274) (kn := (0, 1)) [some (vR _)] mb274 rfl rfl (h_rcv sc_35) (Nat.le_of_ble_eq_true rfl) rfl rfl ?_
  refine x_aload rfl ?_
  refine h_getR sc_35 rfl (by omega) ?_
  refine n_call [vR _] [] (by omega) (Nat.le_of_ble_eq_true rfl) rfl rfl (Nat.le_of_ble_eq_true rfl) ?_
  refine m_step (p := p) (by omega) hT hb h3 (by omega) (fun uqq u1qq u2qq => ?_)
  have tr := tkR_is (B := B) (n := n) (p := p) hb
  have tr1 := tr.1
  have tr2 := tr.2.1
  show wp PP _ _ _ [some (vR _)] [] _ _
  refine x_aload rfl ?_
  refine h_getR sc_35 rfl (by omega) ?_
  refine x_ci ?_
  refine n_call [vR _, vI _] [] (by omega) (Nat.le_of_ble_eq_true rfl) rfl rfl (Nat.le_of_ble_eq_true rfl) ?_
  refine m_isSign u1qq tr (by omega) ?_
  show wp PP _ _ _ [some (vR _)] [vI _] _ _
  refine z_if_ne (fun c1 => ?_) (fun c1 => ?_)
  · refine x_ci ?_
    refine x_goto ?_
    refine x_zret (by first | exact bI_01 _ | omega) ?_
    first
      | exact kS c1 uqq u1qq.1 u2qq
      | exact kF c1 _ (by rw [up_i (by decide), up_e]) up_e (wF_fail u2qq.w)
  · refine x_aload rfl ?_
    refine x_ci ?_
    refine n_call [vR _, vI _] [] (by omega) (Nat.le_of_ble_eq_true rfl) rfl rfl (Nat.le_of_ble_eq_true rfl) ?_
    refine m_fail u1qq.2.1 ?_
    show wp PP _ _ _ [some (vR _)] [vI _] _ _
    refine n_if_eq ⟨by omega, by omega⟩ (fun _ => ?_) (fun c9 => by exfalso; omega)
    refine x_ci ?_
    refine x_fall ?_
    refine x_zret (by first | exact bI_01 _ | omega) ?_
    first
      | exact kS c1 uqq u1qq.1 u2qq
      | exact kF c1 _ (by rw [up_i (by decide), up_e]) up_e (wF_fail u2qq.w)
end TXI
