/-! TEXT: the class's lines: what is told of years; laws; a line; all lines -/
section TXK
variable {d sp : Nat} {h0 h : pheap} {s tqq uqq : St} {Q : Option pv → pheap → Prop} {B : Int → Int} {n p q N : Nat} {sz : Int} {k vqq : Int} {D : Nat × (Int → Int)} {T : Nat × (Int → Int) × (Int → Int)} {S E : Int × Int} {K : KS} {L : (Int → Int) × (Int → Int)} {X : TS}
theorem m_readTelling {ov : Int} (ov01 : ov = 0 ∨ ov = 1) (hov : tkV B n p = 2 - ov) {Y : (Nat × (Int → Int) × (Int → Int)) → TS2} (hd : 17 ≤ d) (hsp : sp = 37 ∨ sp = 45) (hS : isSc sp) (hT : TBC B n sz s) (hb : bOk B n) (hk : TKC (tkK B n p) (tkV B n p) (tkP B n p) (tkE B n p) s) (hX : TSC sp D T S E K L s) (hI : XI D T S E K L) (hp : tkE B n p ≤ n) (kS : ∀ q T2, lTel B n p T X Y = (0, 0, (q, Y T2)) → q ≤ n → ∀ tqq, tqq 33 3 = ((q : Nat) : Int) → TSC sp D T2 S E K L tqq → wF sp s tqq → Q (some (vI 1)) (HP h0 tqq)) (kF : ∀ (f : Int) (pl : Nat), lTel B n p T X Y = (f, pl, X) → f = 1 ∨ f = 2 ∨ f = 3 → ∀ tqq, tqq 35 0 = f → tqq 35 1 = (pl : Int) → wG sp s tqq → Q (some (vI 0)) (HP h0 tqq)) : wpM PP d 269 [vR 35, vR sp, vI ov] (HP h0 s) Q := by
  have t24 := hI.2.1.1
  refine n_at (m := 269) (q := mr269) (kn := (0, 3)) [some (vR _), some (vR _), some (vI _), none] mb269 rfl rfl (h_rcv sc_35) (Nat.le_of_ble_eq_true rfl) rfl rfl ?_
  refine x_aload rfl ?_
  refine h_getI 4 hS.1 rfl rfl ?_
  rw [hX.2.1.1]
  refine x_ci ?_
  refine n_icmp_lt ⟨by omega, by omega⟩ ⟨by omega, by omega⟩ (fun c1 => ?_) (fun c1 => ?_)
  · refine x_aload rfl ?_
    refine x_ci ?_
    refine n_call [vR _, vI _] [] (by omega) (Nat.le_of_ble_eq_true rfl) rfl rfl (Nat.le_of_ble_eq_true rfl) ?_
    refine m_readNumber (sp := sp) (p := tkE B n p) (by omega) hsp hS hT hb hk.1 (by omega) (by omega) (fun y1 y2 wqq w1qq w8qq w2qq => ?_) (fun f hf wqq w0qq w1qq w2qq => ?_)
    · have tn2 := tkE_R (B := B) (n := n) (p := tkE B n p) (by omega) (by omega) (by omega)
      show wp PP _ _ _ _ [vI _] _ _
      refine n_if_ne ⟨by omega, by omega⟩ (fun _ => ?_) (fun c9 => by exfalso; omega)
      refine x_aload rfl ?_
      refine h_getR sc_35 rfl (by omega) ?_
      refine h_getI 8 sc_33 rfl rfl ?_
      rw [w8qq]
      refine n_istore [some (vR _), some (vR _), some (vI _), some (vI _)] (Nat.le_of_ble_eq_true rfl) rfl ?_
      refine x_aload rfl ?_
      refine x_ci ?_
      refine n_call [vR _, vI _] [] (by omega) (Nat.le_of_ble_eq_true rfl) rfl rfl (Nat.le_of_ble_eq_true rfl) ?_
      refine m_readNumber (sp := sp) (p := tkE B n (tkE B n p)) (by omega) hsp hS (hT.w hsp w2qq.w) hb w1qq (by omega) (by omega) (fun z1qq z2qq x x11 x8 x22 => ?_) (fun f hf x x0 x1 x2 => ?_)
      · have tn3 := tkE_R (B := B) (n := n) (p := tkE B n (tkE B n p)) (by omega) (by omega) (by omega)
        have hXx := (hX.tk hsp w2qq).tk hsp x22
        have zr := (tkR_is (B := B) (n := n) (p := tkE B n (tkE B n p)) hb).2.2.1 z1qq
        show wp PP _ _ _ _ [vI _] _ _
        refine n_if_ne ⟨by omega, by omega⟩ (fun _ => ?_) (fun c9 => by exfalso; omega)
        refine x_aload rfl ?_
        refine x_iload rfl ?_
        refine x_aload rfl ?_
        refine h_getR sc_35 rfl (by omega) ?_
        refine h_getI 8 sc_33 rfl rfl ?_
        rw [x8]
        refine x_iload rfl ?_
        refine n_call [vI _, vI _] [vI _, vR _] (by omega) (Nat.le_of_ble_eq_true rfl) rfl rfl (Nat.le_of_ble_eq_true rfl) ?_
        refine m_codeOf ov01 ?_
        rw [show 2 * tkV B n (tkE B n (tkE B n p)) + (1 - ov) = 2 * tkV B n (tkE B n (tkE B n p)) + (tkV B n p - 1) by omega]
        show wp PP _ _ _ [some (vR _), some (vR _), some (vI _), some (vI _)] [vI _, vI _, vR _] _ _
        refine n_call [vR _, vI _, vI _] [] (by omega) (Nat.le_of_ble_eq_true rfl) rfl rfl (Nat.le_of_ble_eq_true rfl) ?_
        refine m_addTelling hS (hXx.2.1.1) ⟨by omega, by omega⟩ ?_
        show wp PP _ _ _ [some (vR _), some (vR _), some (vI _), some (vI _)] [] _ _
        refine x_aload rfl ?_
        refine n_call [vR _] [] (by omega) (Nat.le_of_ble_eq_true rfl) rfl rfl (Nat.le_of_ble_eq_true rfl) ?_
        refine m_readLineEnd (sp := sp) (p := tkE B n (tkE B n (tkE B n p))) (by omega) hsp hS (hT.w hsp (wF_tr w2qq.w (wF_tr x22.w (fun b r q0 q1 q2 q3 => by rw [up_f (by omega), up_f (by omega), up_f (by omega)])))) hb (up_tk (up_tk (up_tk x11 (by omega)) (by omega)) (by omega)) (by omega) (fun y x x1 x2 => ?_) (fun y x x0 x1 x2 => ?_)
        · have tn9 := tkE_R (B := B) (n := n) (p := tkE B n (tkE B n (tkE B n p))) (by omega) (by omega) (by omega)
          show wp PP _ _ _ _ [vI _] _ _
          refine x_zret (by omega) ?_
          exact kS _ _ (by unfold lTel; rw [if_neg (show ¬ 24 ≤ T.1 by omega), lNum_y y1 y2, lNum_y z1qq z2qq]; exact lEnd_y y) tn9.2 x x1 ((hXx.tel hsp).tk hsp x2) (wF_tr (wF_tr w2qq.w (wF_tr x22.w (fun b r q0 q1 q2 q3 => by rw [up_f (by omega), up_f (by omega), up_f (by omega)]))) x2.w)
        · show wp PP _ _ _ _ [vI _] _ _
          refine x_zret (by omega) ?_
          exact kF _ _ (by unfold lTel; rw [if_neg (show ¬ 24 ≤ T.1 by omega), lNum_y y1 y2, lNum_y z1qq z2qq]; exact lEnd_n y) (by omega) x x0 x1 (wG_tr (wF_tr w2qq.w (wF_tr x22.w (fun b r q0 q1 q2 q3 => by rw [up_f (by omega), up_f (by omega), up_f (by omega)]))) x2)
      · have hf2 : lTel B n p T X Y = (f, tkP B n (tkE B n (tkE B n p)), X) := by
          unfold lTel
          rw [if_neg (show ¬ 24 ≤ T.1 by omega), lNum_y y1 y2]
          rcases hf with zqq | zqq
          · rw [lNum_1 zqq.2, zqq.1]
          · rw [lNum_2 zqq.2.1 zqq.2.2, zqq.1]
        show wp PP _ _ _ _ [vI _] _ _
        refine n_if_ne ⟨by omega, by omega⟩ (fun c9 => by exfalso; omega) (fun _ => ?_)
        refine x_ci ?_
        refine x_zret (by first | exact bI_01 _ | omega) ?_
        exact kF f _ hf2 (by omega) x x0 x1 (wG_tr w2qq.w x2)
    · have hf2 : lTel B n p T X Y = (f, tkP B n (tkE B n p), X) := by
        unfold lTel
        rw [if_neg (show ¬ 24 ≤ T.1 by omega)]
        rcases hf with zqq | zqq
        · rw [lNum_1 zqq.2, zqq.1]
        · rw [lNum_2 zqq.2.1 zqq.2.2, zqq.1]
      show wp PP _ _ _ _ [vI _] _ _
      refine n_if_ne ⟨by omega, by omega⟩ (fun c9 => by exfalso; omega) (fun _ => ?_)
      refine x_ci ?_
      refine x_zret (by first | exact bI_01 _ | omega) ?_
      exact kF f _ hf2 (by omega) wqq w0qq w1qq w2qq
  · refine x_aload rfl ?_
    refine x_ci ?_
    refine n_call [vR _, vI _] [] (by omega) (Nat.le_of_ble_eq_true rfl) rfl rfl (Nat.le_of_ble_eq_true rfl) ?_
    refine m_fail hk.2.1 ?_
    show wp PP _ _ _ [some (vR _), some (vR _), some (vI _), _] [vI _] _ _
    refine x_zret (by first | exact bI_01 _ | omega) ?_
    exact kF 2 _ (by unfold lTel; rw [if_pos (show 24 ≤ T.1 by omega)]) (by omega) _ (by rw [up_i (by decide), up_e]) up_e (wF_fail wF_rfl)
theorem m_readRule (hd : 17 ≤ d) (hsp : sp = 37 ∨ sp = 45) (hS : isSc sp) (hT : TBC B n sz s) (hb : bOk B n) (hk : TKC (tkK B n p) (tkV B n p) (tkP B n p) (tkE B n p) s) (hX : TSC sp D T S E K L s) (hI : XI D T S E K L) (hp : tkE B n p ≤ n) (kR : tkK B n (tkE B n p) = 4 → 6 ≤ tkV B n (tkE B n p) ∧ tkV B n (tkE B n p) ≤ 8 → ¬ L.1 (tkV B n (tkE B n p) - 6) < L.2 (tkV B n (tkE B n p) - 6) → ∀ tqq, tqq 33 3 = ((tkE B n (tkE B n p) : Nat) : Int) → tkF s tqq → Q (some (vI (tkV B n (tkE B n p) - 6))) (HP h0 tqq)) (kF : ∀ f : Int, (f = 1 ∧ ¬ (tkK B n (tkE B n p) = 4 ∧ 6 ≤ tkV B n (tkE B n p) ∧ tkV B n (tkE B n p) ≤ 8)) ∨ (f = 3 ∧ tkK B n (tkE B n p) = 4 ∧ (6 ≤ tkV B n (tkE B n p) ∧ tkV B n (tkE B n p) ≤ 8) ∧ L.1 (tkV B n (tkE B n p) - 6) < L.2 (tkV B n (tkE B n p) - 6)) → ∀ tqq, tqq 35 0 = f → tqq 35 1 = ((tkP B n (tkE B n p) : Nat) : Int) → wG sp s tqq → Q (some (vI (-1))) (HP h0 tqq)) : wpM PP d 272 [vR 35, vR sp] (HP h0 s) Q := by
  refine n_at (m := 272) (q := mr272) (kn := (0, 2)) [some (vR _), some (vR _)] mb272 rfl rfl (h_rcv sc_35) (Nat.le_of_ble_eq_true rfl) rfl rfl ?_
  refine x_aload rfl ?_
  refine h_getR sc_35 rfl (by omega) ?_
  refine n_call [vR _] [] (by omega) (Nat.le_of_ble_eq_true rfl) rfl rfl (Nat.le_of_ble_eq_true rfl) ?_
  refine m_step (p := tkE B n p) (by omega) hT hb hk.1 (by omega) (fun uqq u1qq u2qq => ?_)
  have tr := tkR_is (B := B) (n := n) (p := tkE B n p) hb
  have tr1 := tr.1
  have tr2 := tr.2.1
  show wp PP _ _ _ [some (vR _), some (vR _)] [] _ _
  refine x_aload rfl ?_
  refine h_getR sc_35 rfl (by omega) ?_
  refine x_ci ?_
  refine n_call [vR _, vI _] [] (by omega) (Nat.le_of_ble_eq_true rfl) rfl rfl (Nat.le_of_ble_eq_true rfl) ?_
  refine m_isWord u1qq tr (by omega) ?_
  show wp PP _ _ _ [some (vR _), some (vR _)] [vI _] _ _
  refine z_if_ne (fun c1 => ?_) (fun c1 => ?_)
  · refine x_aload rfl ?_
    refine x_aload rfl ?_
    refine h_getR sc_35 rfl (by omega) ?_
    refine n_call [vR _] [vR _] (by omega) (Nat.le_of_ble_eq_true rfl) rfl rfl (Nat.le_of_ble_eq_true rfl) ?_
    have kd := kd_is tr c1.1
    refine m_wordNumber u1qq tr c1.1 ?_
    rw [show nmW (tkV B n (tkE B n p)) = tkV B n (tkE B n p) - 6 by omega]
    show wp PP _ _ _ [some (vR _), some (vR _)] [vI _, vR _] _ _
    refine n_call [vR _, vI _] [] (by omega) (Nat.le_of_ble_eq_true rfl) rfl rfl (Nat.le_of_ble_eq_true rfl) ?_
    have hXu := hX.tk hsp u2qq
    have lr := hXu.2.2.2.2 (tkV B n (tkE B n p) - 6) (by omega) (by omega)
    have lo := hI.2.2.2.2.2.1 (tkV B n (tkE B n p) - 6) (by omega) (by omega)
    obtain ⟨lo1, lo2, lo3, _⟩ := lo
    refine m_hasLaw hS ⟨by omega, by omega⟩ (by rw [lr.1]; omega) (by rw [lr.2]; omega) ?_
    rw [lr.1, lr.2]
    show wp PP _ _ _ [some (vR _), some (vR _)] [vI _] _ _
    refine z_if_eq (fun c2 => ?_) (fun c2 => ?_)
    · refine x_aload rfl ?_
      refine h_getR sc_35 rfl (by omega) ?_
      refine n_call [vR _] [] (by omega) (Nat.le_of_ble_eq_true rfl) rfl rfl (Nat.le_of_ble_eq_true rfl) ?_
      have kd := kd_is tr c1.1
      refine m_wordNumber u1qq tr c1.1 ?_
      rw [show nmW (tkV B n (tkE B n p)) = tkV B n (tkE B n p) - 6 by omega]
      show wp PP _ _ _ [some (vR _), some (vR _)] [vI _] _ _
      refine x_iret ?_
      first
        | exact kR c1.1 (by omega) c2 uqq u1qq.1 u2qq
        | exact kF 3 (Or.inr ⟨rfl, c1.1, by omega, c2⟩) _ (by rw [up_i (by decide), up_e]) up_e (wF_fail u2qq.w)
        | exact kF 1 (Or.inl ⟨rfl, fun y => c1 ⟨y.1, by have kd := kd_is tr y.1; omega⟩⟩) _ (by rw [up_i (by decide), up_e]) up_e (wF_fail u2qq.w)
    · refine x_aload rfl ?_
      refine x_ci ?_
      refine n_call [vR _, vI _] [] (by omega) (Nat.le_of_ble_eq_true rfl) rfl rfl (Nat.le_of_ble_eq_true rfl) ?_
      refine m_fail u1qq.2.1 ?_
      show wp PP _ _ _ [some (vR _), some (vR _)] [vI _] _ _
      refine x_popI ?_
      refine x_ci ?_
      refine x_iret ?_
      first
        | exact kR c1.1 (by omega) c2 uqq u1qq.1 u2qq
        | exact kF 3 (Or.inr ⟨rfl, c1.1, by omega, c2⟩) _ (by rw [up_i (by decide), up_e]) up_e (wF_fail u2qq.w)
        | exact kF 1 (Or.inl ⟨rfl, fun y => c1 ⟨y.1, by have kd := kd_is tr y.1; omega⟩⟩) _ (by rw [up_i (by decide), up_e]) up_e (wF_fail u2qq.w)
  · refine x_aload rfl ?_
    refine x_ci ?_
    refine n_call [vR _, vI _] [] (by omega) (Nat.le_of_ble_eq_true rfl) rfl rfl (Nat.le_of_ble_eq_true rfl) ?_
    refine m_fail u1qq.2.1 ?_
    show wp PP _ _ _ [some (vR _), some (vR _)] [vI _] _ _
    refine x_popI ?_
    refine x_ci ?_
    refine x_iret ?_
    first
      | exact kR c1.1 (by omega) c2 uqq u1qq.1 u2qq
      | exact kF 3 (Or.inr ⟨rfl, c1.1, by omega, c2⟩) _ (by rw [up_i (by decide), up_e]) up_e (wF_fail u2qq.w)
      | exact kF 1 (Or.inl ⟨rfl, fun y => c1 ⟨y.1, by have kd := kd_is tr y.1; omega⟩⟩) _ (by rw [up_i (by decide), up_e]) up_e (wF_fail u2qq.w)
end TXK
