/-! TEXT: the class's reader: signs that wait -/
section TX9
variable {d sp : Nat} {h0 h : pheap} {s tqq uqq : St} {Q : Option pv → pheap → Prop} {B : Int → Int} {n m : Nat} {k vqq : Int} {pl nx : Nat} {W : List Int} {K : KS}
def EC (sp m : Nat) (W : List Int) (K : KS) (s : St) : Prop := s 35 4 = W.length ∧ s 35 5 = opn W ∧ SKl (s 36) W ∧ s 35 6 = (if m < 2 then 1 else 0) ∧ (m < 2 → s 35 7 = (if m = 0 then 1 else 0)) ∧ s sp 11 = K.1 ∧ ∀ i : Int, 0 ≤ i → i < K.1 → s (sp + 4) i = K.2 i
def xF (sp : Nat) (s tqq : St) : Prop := ∀ (b : Nat) (r : Int), ¬ (b = 35 ∧ 2 ≤ r) → ¬ b = 36 → ¬ (b = sp ∧ r = 11) → ¬ b = sp + 4 → tqq b r = s b r
theorem xF_rfl : xF sp s s := fun _ _ _ _ _ _ => rfl
theorem xF_tr (h : xF sp s tqq) (g : xF sp tqq uqq) : xF sp s uqq := fun b r q1 q2 q3 q4 => (g b r q1 q2 q3 q4).trans (h b r q1 q2 q3 q4)
theorem xF_up {i x : Int} (h : xF sp s tqq) (hi : 2 ≤ i := by omega) : xF sp s (up tqq 35 i x) := fun b r q1 q2 q3 q4 => by
  rw [up_f (by omega)]
  exact h b r q1 q2 q3 q4
theorem xF_up2 {i x : Int} (h : xF sp s tqq) : xF sp s (up tqq 36 i x) := fun b r q1 q2 q3 q4 => by
  rw [up_f (by omega)]
  exact h b r q1 q2 q3 q4
theorem TKC_x (hsp : sp = 37 ∨ sp = 45) (hk : TKC k vqq pl nx s) (g : xF sp s tqq) : TKC k vqq pl nx tqq := by
  have e : ∀ r : Int, tqq 33 r = s 33 r := fun r => g 33 r (by omega) (by omega) (by omega) (by omega)
  unfold TKC
  rw [e, e, e, e, e, e, e]
  exact hk
def yF (sp : Nat) (s tqq : St) : Prop := ∀ (b : Nat) (r : Int), ¬ b = 35 → ¬ b = 36 → ¬ (b = sp ∧ r = 11) → ¬ b = sp + 4 → tqq b r = s b r
theorem yF_fail {f pl : Int} (h : xF sp s tqq) : yF sp s (up (up tqq 35 0 f) 35 1 pl) := fun b r q1 q2 q3 q4 => by
  rw [up_f (by omega), up_f (by omega)]
  exact h b r (by omega) q2 q3 q4
/-- what bounds it -/
def eB (W : List Int) (K : KS) : Prop := tot W K ≤ 64 ∧ opn W ≤ 8 ∧ ∀ x, x ∈ W → 0 ≤ x ∧ x ≤ 13
theorem iE.b {b : Nat} {K0 : KS} (h : iE b K0 m W K) : eB W K := ⟨h.2.2.2.2.1, h.2.2.2.2.2.1, h.2.2.2.2.2.2⟩
theorem opn_le : ∀ W : List Int, opn W ≤ W.length
  | [] => Nat.le_refl _
  | x :: W => by
    have := opn_le W
    rw [opn_s, List.length_cons]
    split <;> omega
theorem eB_len (h : eB W K) : W.length ≤ 72 ∧ K.1 ≤ 64 ∧ (K.1 : Int) + W.length ≤ 72 := by
  have := h.1
  have := h.2.1
  have := opn_le W
  unfold tot at *
  omega
theorem eB_top (h : eB W K) : 0 ≤ W.headD 13 ∧ W.headD 13 ≤ 13 := by
  cases W with
  | nil => simp
  | cons x V => exact h.2.2 x (List.mem_cons_self ..)
theorem kd_f : ∀ g : Fin 19, (kdW ((g : Nat) : Int) = 0 ∧ ((g : Nat) : Int) ≤ 5) ∨ (kdW ((g : Nat) : Int) = 1 ∧ 6 ≤ ((g : Nat) : Int) ∧ ((g : Nat) : Int) ≤ 8 ∧ nmW ((g : Nat) : Int) = ((g : Nat) : Int) - 6) ∨ (kdW ((g : Nat) : Int) = 2 ∧ 9 ≤ ((g : Nat) : Int) ∧ ((g : Nat) : Int) ≤ 11 ∧ nmW ((g : Nat) : Int) = ((g : Nat) : Int) - 9) ∨ (kdW ((g : Nat) : Int) = 3 ∧ 12 ≤ ((g : Nat) : Int) ∧ nmW ((g : Nat) : Int) = ((g : Nat) : Int) - 12) := by decide +kernel
theorem kd_is (hr : tkR k vqq) (h : k = 4) : (kdW vqq = 0 ∧ vqq ≤ 5) ∨ (kdW vqq = 1 ∧ 6 ≤ vqq ∧ vqq ≤ 8 ∧ nmW vqq = vqq - 6) ∨ (kdW vqq = 2 ∧ 9 ≤ vqq ∧ vqq ≤ 11 ∧ nmW vqq = vqq - 9) ∨ (kdW vqq = 3 ∧ 12 ≤ vqq ∧ nmW vqq = vqq - 12) := by
  have r := hr.2.2.2.2.1 h
  have := kd_f ⟨vqq.toNat, by omega⟩
  simp only [Int.toNat_of_nonneg r.1] at this
  exact this
theorem m_closenessOf {x : Int} (hx : 0 ≤ x ∧ x < 16) (k1 : Q (some (vI (clo x))) h) : wpM PP d 285 [vI x] h Q := by
  refine n_at (m := 285) (q := mr285) (kn := (1, 1)) [some (vI _)] mb285 rfl rfl rfl (Nat.le_of_ble_eq_true rfl) rfl rfl ?_
  refine x_iload rfl ?_
  refine n_if_lt ⟨by omega, by omega⟩ (fun c1 => ?_) (fun c1 => ?_)
  · refine x_ci ?_
    refine x_fall ?_
    refine x_iret ?_
    first
      | (exfalso; omega)
      | exact cI k1 (if_pos hx)
  · refine x_iload rfl ?_
    refine x_80 (by decide) ?_
    refine x_84_21 ?_
    refine n_icmp_ge ⟨by omega, by omega⟩ ⟨by omega, by omega⟩ (fun c2 => ?_) (fun c2 => ?_)
    · refine x_ci ?_
      refine x_fall ?_
      refine x_iret ?_
      first
        | (exfalso; omega)
        | exact cI k1 (if_pos hx)
    · refine x_80 (by decide) ?_
      refine x_iload rfl ?_
      refine x_83_21 ⟨by omega, by omega⟩ ?_
      refine x_goto ?_
      refine x_iret ?_
      first
        | (exfalso; omega)
        | exact cI k1 (if_pos hx)
theorem m_lastWaiting (hE : EC sp m W K s) (hb : eB W K) (k1 : Q (some (vI (W.headD 13))) (HP h0 s)) : wpM PP d 284 [vR 35] (HP h0 s) Q := by
  have hl := eB_len hb
  have sk := hE.2.2.1
  refine n_at (m := 284) (q := mr284) (kn := (0, 1)) [some (vR _), none] mb284 rfl rfl (h_rcv sc_35) (Nat.le_of_ble_eq_true rfl) rfl rfl ?_
  refine x_aload rfl ?_
  refine h_getI 4 sc_35 rfl rfl ?_
  rw [hE.1]
  refine x_ci ?_
  refine x_isub ?_
  refine n_istore [some (vR _), some (vI _)] (Nat.le_of_ble_eq_true rfl) rfl ?_
  refine x_iload rfl ?_
  refine n_if_lt ⟨by omega, by omega⟩ (fun c1 => ?_) (fun c1 => ?_)
  · refine x_ci ?_
    refine x_fall ?_
    refine x_iret ?_
    cases W with
    | nil =>
      first
        | exact k1
        | (exfalso; omega)
        | (exfalso; simp at *; done)
    | cons x V =>
      simp only [List.length_cons] at *
      first
        | (exfalso; omega)
        | (refine cI k1 ?_
           rw [show ((V.length + 1 : Nat) : Int) - 1 = V.length by omega, sk.1]
           rfl)
  · refine x_iload rfl ?_
    refine x_aload rfl ?_
    refine h_getR sc_35 rfl (by omega) ?_
    refine h_alen 72 sc_36 (by decide) rfl ?_
    refine n_icmp_ge ⟨by omega, by omega⟩ ⟨by omega, by omega⟩ (fun c2 => ?_) (fun c2 => ?_)
    · refine x_ci ?_
      refine x_fall ?_
      refine x_iret ?_
      cases W with
      | nil =>
        first
          | exact k1
          | (exfalso; omega)
          | (exfalso; simp at *; done)
      | cons x V =>
        simp only [List.length_cons] at *
        first
          | (exfalso; omega)
          | (refine cI k1 ?_
             rw [show ((V.length + 1 : Nat) : Int) - 1 = V.length by omega, sk.1]
             rfl)
    · refine x_aload rfl ?_
      refine h_getR sc_35 rfl (by omega) ?_
      refine x_iload rfl ?_
      refine h_iald sc_36 ⟨by omega, by omega⟩ (by decide) ?_
      refine x_goto ?_
      refine x_iret ?_
      cases W with
      | nil =>
        first
          | exact k1
          | (exfalso; omega)
          | (exfalso; simp at *; done)
      | cons x V =>
        simp only [List.length_cons] at *
        first
          | (exfalso; omega)
          | (refine cI k1 ?_
             rw [show ((V.length + 1 : Nat) : Int) - 1 = V.length by omega, sk.1]
             rfl)
theorem m_putWaiting {x l : Int} (hl : s 35 4 = l) (hlR : 0 ≤ l ∧ l < 72) (k1 : Q none (HP h0 (up (up s 36 l x) 35 4 (l + 1)))) : wpM PP d 283 [vR 35, vI x] (HP h0 s) Q := by
  refine n_at (m := 283) (q := mr283) (kn := (0, 2)) [some (vR _), some (vI _)] mb283 rfl rfl (h_rcv sc_35) (Nat.le_of_ble_eq_true rfl) rfl rfl ?_
  refine x_aload rfl ?_
  refine h_getI 4 sc_35 rfl rfl ?_
  first | rw [hl] | rw [up_a (by decide), hl]
  refine n_if_lt ⟨by omega, by omega⟩ (fun c1 => ?_) (fun c1 => ?_)
  · refine x_ret ?_
    first
      | exact k1
      | (exfalso; omega)
  · refine x_aload rfl ?_
    refine h_getI 4 sc_35 rfl rfl ?_
    first | rw [hl] | rw [up_a (by decide), hl]
    refine x_aload rfl ?_
    refine h_getR sc_35 rfl (by omega) ?_
    refine h_alen 72 sc_36 (by decide) rfl ?_
    refine n_icmp_ge ⟨by omega, by omega⟩ ⟨by omega, by omega⟩ (fun c2 => ?_) (fun c2 => ?_)
    · refine x_ret ?_
      first
        | exact k1
        | (exfalso; omega)
    · refine x_aload rfl ?_
      refine h_getR sc_35 rfl (by omega) ?_
      refine x_aload rfl ?_
      refine h_getI 4 sc_35 rfl rfl ?_
      first | rw [hl] | rw [up_a (by decide), hl]
      refine x_iload rfl ?_
      refine h_iast sc_36 ⟨by omega, by omega⟩ (by decide) ?_
      refine x_aload rfl ?_
      refine x_dupR ?_
      refine h_getI 4 sc_35 rfl rfl ?_
      first | rw [hl] | rw [up_a (by decide), hl]
      refine x_ci ?_
      refine x_iadd ?_
      refine h_putI 4 sc_35 rfl rfl ?_
      refine x_fall ?_
      refine x_ret ?_
      first
        | exact k1
        | (exfalso; omega)
theorem m_hasKnotLeft (hS : isSc sp) (hE : EC sp m W K s) (hb : eB W K) (k1 : Q (some (vI (bI (tot W K < 64)))) (HP h0 s)) : wpM PP d 280 [vR 35, vR sp] (HP h0 s) Q := by
  have hl := eB_len hb
  have ho := hb.2.1
  have et : tot W K = (K.1 : Int) + W.length - opn W := rfl
  refine n_at (m := 280) (q := mr280) (kn := (0, 2)) [some (vR _), some (vR _)] mb280 rfl rfl (h_rcv sc_35) (Nat.le_of_ble_eq_true rfl) rfl rfl ?_
  refine x_aload rfl ?_
  refine h_getI 11 hS.1 rfl rfl ?_
  rw [hE.2.2.2.2.2.1]
  refine x_aload rfl ?_
  refine h_getI 4 sc_35 rfl rfl ?_
  rw [hE.1]
  refine x_iadd ?_
  refine x_aload rfl ?_
  refine h_getI 5 sc_35 rfl rfl ?_
  rw [hE.2.1]
  refine x_isub ?_
  refine x_ci ?_
  refine n_icmp_ge ⟨by omega, by omega⟩ ⟨by omega, by omega⟩ (fun c1 => ?_) (fun c1 => ?_)
  · refine x_ci ?_
    refine x_fall ?_
    refine x_zret (by first | exact bI_01 _ | omega) ?_
    first
      | exact cB1 k1 (by omega)
      | exact cB0 k1 (by omega)
  · refine x_ci ?_
    refine x_goto ?_
    refine x_zret (by first | exact bI_01 _ | omega) ?_
    first
      | exact cB1 k1 (by omega)
      | exact cB0 k1 (by omega)
theorem m_fail {x : Int} (hpl : s 33 4 = pl) (k1 : Q (some (vI 0)) (HP h0 (up (up s 35 0 x) 35 1 pl))) : wpM PP d 266 [vR 35, vI x] (HP h0 s) Q := by
  refine n_at (m := 266) (q := mr266) (kn := (0, 2)) [some (vR _), some (vI _)] mb266 rfl rfl (h_rcv sc_35) (Nat.le_of_ble_eq_true rfl) rfl rfl ?_
  refine x_aload rfl ?_
  refine x_iload rfl ?_
  refine h_putI 0 sc_35 rfl rfl ?_
  refine x_aload rfl ?_
  refine x_aload rfl ?_
  refine h_getR sc_35 rfl (by omega) ?_
  refine h_getI 4 sc_33 rfl rfl ?_
  rw [up_a (by decide), hpl]
  refine h_putI 1 sc_35 rfl rfl ?_
  refine x_ci ?_
  refine x_zret (by first | exact bI_01 _ | omega) ?_
  exact k1
theorem SKl_push {f : Int → Int} {x : Int} (h : SKl (s 36) W) : SKl (up s 36 W.length x 36) (x :: W) := ⟨up_e, SKl_cg W (fun i _ i1 => up_i (by omega)) h⟩
theorem EC_push {x : Int} {m' : Nat} (hE : EC sp m W K s) (hsp : sp = 37 ∨ sp = 45) (hx : x ≠ 13) (g6 : tqq 35 6 = (if m' < 2 then 1 else 0)) (g7 : m' < 2 → tqq 35 7 = (if m' = 0 then 1 else 0)) (gF : ∀ (b : Nat) (r : Int), ¬ (b = 35 ∧ 6 ≤ r) → tqq b r = (up (up s 36 W.length x) 35 4 (W.length + 1)) b r) : EC sp m' (x :: W) K tqq := by
  refine ⟨?_, ?_, ?_, g6, g7, ?_, fun i i0 i1 => ?_⟩
  · rw [gF 35 4 (by omega), up_e, List.length_cons]
    omega
  · rw [gF 35 5 (by omega), up_i (by decide), up_a (by decide), hE.2.1, opn_s, if_neg hx]
    omega
  · refine SKl_cg _ (fun i i0 i1 => ?_) (SKl_push (f := s 36) (x := x) hE.2.2.1)
    rw [gF 36 i (by omega), up_a (by decide)]
  · rw [gF sp 11 (by omega), up_a (by omega), up_a (by omega)]
    exact hE.2.2.2.2.2.1
  · rw [gF (sp + 4) i (by omega), up_a (by omega), up_a (by omega)]
    exact hE.2.2.2.2.2.2 i i0 i1
theorem m_await {x : Int} (hd : 2 ≤ d) (hS : isSc sp) (hE : EC sp m W K s) (hb : eB W K) (hpl : s 33 4 = pl) (kS : tot W K < 64 → Q (some (vI 1)) (HP h0 (up (up s 36 W.length x) 35 4 ((W.length : Int) + 1)))) (kF : 64 ≤ tot W K → Q (some (vI 0)) (HP h0 (up (up s 35 0 2) 35 1 pl))) : wpM PP d 282 [vR 35, vI x, vR sp] (HP h0 s) Q := by
  have hl := eB_len hb
  have ho := hb.2.1
  have et : tot W K = (K.1 : Int) + W.length - opn W := rfl
  refine n_at (m := 282) (q := mr282) (kn := (0, 3)) [some (vR _), some (vI _), some (vR _)] mb282 rfl rfl (h_rcv sc_35) (Nat.le_of_ble_eq_true rfl) rfl rfl ?_
  refine x_aload rfl ?_
  refine x_aload rfl ?_
  refine n_call [vR _, vR _] [] (by omega) (Nat.le_of_ble_eq_true rfl) rfl rfl (Nat.le_of_ble_eq_true rfl) ?_
  refine m_hasKnotLeft hS hE hb ?_
  show wp PP _ _ _ [some (vR _), some (vI _), some (vR _)] [vI _] _ _
  refine z_if_ne (fun c1 => ?_) (fun c1 => ?_)
  · refine x_aload rfl ?_
    refine x_iload rfl ?_
    refine n_call [vR _, vI _] [] (by omega) (Nat.le_of_ble_eq_true rfl) rfl rfl (Nat.le_of_ble_eq_true rfl) ?_
    refine m_putWaiting hE.1 ⟨by omega, by omega⟩ ?_
    show wp PP _ _ _ [some (vR _), some (vI _), some (vR _)] [] _ _
    refine x_ci ?_
    refine x_zret (by first | exact bI_01 _ | omega) ?_
    first
      | exact kF (by omega)
      | exact kS (by omega)
  · refine x_aload rfl ?_
    refine x_ci ?_
    refine n_call [vR _, vI _] [] (by omega) (Nat.le_of_ble_eq_true rfl) rfl rfl (Nat.le_of_ble_eq_true rfl) ?_
    refine m_fail hpl ?_
    show wp PP _ _ _ [some (vR _), some (vI _), some (vR _)] [vI _] _ _
    refine x_zret (by first | exact bI_01 _ | omega) ?_
    first
      | exact kF (by omega)
      | exact kS (by omega)
theorem m_joiningSign (hd : 1 ≤ d) (hk : TKC k vqq pl nx s) (hr : tkR k vqq) (k1 : Q (some (vI (jsg k vqq))) (HP h0 s)) : wpM PP d 279 [vR 35] (HP h0 s) Q := by
  have kr := hr.1
  have kr2 := hr.2.1
  refine n_at (m := 279) (q := mr279) (kn := (0, 1)) [some (vR _)] mb279 rfl rfl (h_rcv sc_35) (Nat.le_of_ble_eq_true rfl) rfl rfl ?_
  refine x_aload rfl ?_
  refine h_getR sc_35 rfl (by omega) ?_
  refine x_ci ?_
  refine n_call [vR _, vI _] [] (by omega) (Nat.le_of_ble_eq_true rfl) rfl rfl (Nat.le_of_ble_eq_true rfl) ?_
  refine m_isWord hk hr (by omega) ?_
  show wp PP _ _ _ [some (vR _)] [vI _] _ _
  refine z_if_eq (fun c1 => ?_) (fun c1 => ?_)
  · have hnot : ¬ (k = 4 ∧ (vqq = 9 ∨ vqq = 10)) := fun y => by
      have kd := kd_is hr y.1
      first
        | (have c1 := c1
           have := not_and.mp c1 y.1
           omega)
        | omega
    refine x_aload rfl ?_
    refine h_getR sc_35 rfl (by omega) ?_
    refine h_getI 5 sc_33 rfl rfl ?_
    rw [hk.2.2.1]
    refine x_ci ?_
    refine n_icmp_ne ⟨by omega, by omega⟩ ⟨by omega, by omega⟩ (fun c2 => ?_) (fun c2 => ?_)
    · refine x_ci ?_
      refine x_fall ?_
      refine x_iret ?_
      refine cI k1 ?_
      unfold jsg
      first
        | (rw [if_pos (show k = 4 ∧ (vqq = 9 ∨ vqq = 10) by omega)]; omega)
        | (rw [if_neg (show ¬ (k = 4 ∧ (vqq = 9 ∨ vqq = 10)) by omega), if_pos (show k = 5 ∧ vqq < 13 by omega)])
        | (rw [if_neg (show ¬ (k = 4 ∧ (vqq = 9 ∨ vqq = 10)) by omega), if_neg (show ¬ (k = 5 ∧ vqq < 13) by omega)])
    · refine x_aload rfl ?_
      refine h_getR sc_35 rfl (by omega) ?_
      refine h_getI 9 sc_33 rfl rfl ?_
      rw [hk.2.2.2.2.2.2 (by omega)]
      have vr := hr.2.2.2.2.2 (by omega)
      refine x_ci ?_
      refine n_icmp_ge ⟨by omega, by omega⟩ ⟨by omega, by omega⟩ (fun c3 => ?_) (fun c3 => ?_)
      · refine x_ci ?_
        refine x_fall ?_
        refine x_iret ?_
        refine cI k1 ?_
        unfold jsg
        first
          | (rw [if_pos (show k = 4 ∧ (vqq = 9 ∨ vqq = 10) by omega)]; omega)
          | (rw [if_neg (show ¬ (k = 4 ∧ (vqq = 9 ∨ vqq = 10)) by omega), if_pos (show k = 5 ∧ vqq < 13 by omega)])
          | (rw [if_neg (show ¬ (k = 4 ∧ (vqq = 9 ∨ vqq = 10)) by omega), if_neg (show ¬ (k = 5 ∧ vqq < 13) by omega)])
      · refine x_aload rfl ?_
        refine h_getR sc_35 rfl (by omega) ?_
        refine h_getI 9 sc_33 rfl rfl ?_
        rw [hk.2.2.2.2.2.2 (by omega)]
        have vr := hr.2.2.2.2.2 (by omega)
        refine x_goto ?_
        refine x_iret ?_
        refine cI k1 ?_
        unfold jsg
        first
          | (rw [if_pos (show k = 4 ∧ (vqq = 9 ∨ vqq = 10) by omega)]; omega)
          | (rw [if_neg (show ¬ (k = 4 ∧ (vqq = 9 ∨ vqq = 10)) by omega), if_pos (show k = 5 ∧ vqq < 13 by omega)])
          | (rw [if_neg (show ¬ (k = 4 ∧ (vqq = 9 ∨ vqq = 10)) by omega), if_neg (show ¬ (k = 5 ∧ vqq < 13) by omega)])
  · refine x_aload rfl ?_
    refine h_getR sc_35 rfl (by omega) ?_
    refine n_call [vR _] [] (by omega) (Nat.le_of_ble_eq_true rfl) rfl rfl (Nat.le_of_ble_eq_true rfl) ?_
    have kd := kd_is hr c1.1
    have wn := hr.2.2.2.2.1 c1.1
    refine m_wordNumber hk hr c1.1 ?_
    show wp PP _ _ _ [some (vR _)] [vI _] _ _
    refine x_ci ?_
    refine n_icmp_eq ⟨by omega, by omega⟩ ⟨by omega, by omega⟩ (fun c2 => ?_) (fun c2 => ?_)
    · have hnot : ¬ (k = 4 ∧ (vqq = 9 ∨ vqq = 10)) := fun y => by
        have kd := kd_is hr y.1
        first
          | (have c1 := c1
             have := not_and.mp c1 y.1
             omega)
          | omega
      refine x_aload rfl ?_
      refine h_getR sc_35 rfl (by omega) ?_
      refine h_getI 5 sc_33 rfl rfl ?_
      rw [hk.2.2.1]
      refine x_ci ?_
      refine n_icmp_ne ⟨by omega, by omega⟩ ⟨by omega, by omega⟩ (fun c3 => ?_) (fun c3 => ?_)
      · refine x_ci ?_
        refine x_fall ?_
        refine x_iret ?_
        refine cI k1 ?_
        unfold jsg
        first
          | (rw [if_pos (show k = 4 ∧ (vqq = 9 ∨ vqq = 10) by omega)]; omega)
          | (rw [if_neg (show ¬ (k = 4 ∧ (vqq = 9 ∨ vqq = 10)) by omega), if_pos (show k = 5 ∧ vqq < 13 by omega)])
          | (rw [if_neg (show ¬ (k = 4 ∧ (vqq = 9 ∨ vqq = 10)) by omega), if_neg (show ¬ (k = 5 ∧ vqq < 13) by omega)])
      · refine x_aload rfl ?_
        refine h_getR sc_35 rfl (by omega) ?_
        refine h_getI 9 sc_33 rfl rfl ?_
        rw [hk.2.2.2.2.2.2 (by omega)]
        have vr := hr.2.2.2.2.2 (by omega)
        refine x_ci ?_
        refine n_icmp_ge ⟨by omega, by omega⟩ ⟨by omega, by omega⟩ (fun c4 => ?_) (fun c4 => ?_)
        · refine x_ci ?_
          refine x_fall ?_
          refine x_iret ?_
          refine cI k1 ?_
          unfold jsg
          first
            | (rw [if_pos (show k = 4 ∧ (vqq = 9 ∨ vqq = 10) by omega)]; omega)
            | (rw [if_neg (show ¬ (k = 4 ∧ (vqq = 9 ∨ vqq = 10)) by omega), if_pos (show k = 5 ∧ vqq < 13 by omega)])
            | (rw [if_neg (show ¬ (k = 4 ∧ (vqq = 9 ∨ vqq = 10)) by omega), if_neg (show ¬ (k = 5 ∧ vqq < 13) by omega)])
        · refine x_aload rfl ?_
          refine h_getR sc_35 rfl (by omega) ?_
          refine h_getI 9 sc_33 rfl rfl ?_
          rw [hk.2.2.2.2.2.2 (by omega)]
          have vr := hr.2.2.2.2.2 (by omega)
          refine x_goto ?_
          refine x_iret ?_
          refine cI k1 ?_
          unfold jsg
          first
            | (rw [if_pos (show k = 4 ∧ (vqq = 9 ∨ vqq = 10) by omega)]; omega)
            | (rw [if_neg (show ¬ (k = 4 ∧ (vqq = 9 ∨ vqq = 10)) by omega), if_pos (show k = 5 ∧ vqq < 13 by omega)])
            | (rw [if_neg (show ¬ (k = 4 ∧ (vqq = 9 ∨ vqq = 10)) by omega), if_neg (show ¬ (k = 5 ∧ vqq < 13) by omega)])
    · refine x_aload rfl ?_
      refine h_getR sc_35 rfl (by omega) ?_
      refine n_call [vR _] [] (by omega) (Nat.le_of_ble_eq_true rfl) rfl rfl (Nat.le_of_ble_eq_true rfl) ?_
      have kd := kd_is hr c1.1
      have wn := hr.2.2.2.2.1 c1.1
      refine m_wordNumber hk hr c1.1 ?_
      show wp PP _ _ _ [some (vR _)] [vI _] _ _
      refine x_iret ?_
      refine cI k1 ?_
      unfold jsg
      first
        | (rw [if_pos (show k = 4 ∧ (vqq = 9 ∨ vqq = 10) by omega)]; omega)
        | (rw [if_neg (show ¬ (k = 4 ∧ (vqq = 9 ∨ vqq = 10)) by omega), if_pos (show k = 5 ∧ vqq < 13 by omega)])
        | (rw [if_neg (show ¬ (k = 4 ∧ (vqq = 9 ∨ vqq = 10)) by omega), if_neg (show ¬ (k = 5 ∧ vqq < 13) by omega)])
end TX9
