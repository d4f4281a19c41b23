/-! THE REFERENCE'S YEARS: may it be danced, dances, slips -/
section RI
variable {d : Nat} {h0 h : pheap} {s : St} {Q : Option pv → pheap → Prop} {L f : Int} {n : Nat} {c c' : Int → Int}
theorem ishr16 {x : Int} (h : 0 ≤ x ∧ x < 2147483648) : i_shr x 16 = x / 65536 := by
  unfold i_shr
  have e : (Int32.ofInt x).toInt = x := Int32.toInt_ofInt_of_le (by omega) (by omega)
  have e2 : (Int32.ofInt 16 &&& 31) = 16 := by decide
  rw [e2, ← Int32.toInt_toBitVec, Int32.toBitVec_shiftRight]
  have e3 : ((16 : Int32).toBitVec.smod 32) = 16#32 := by decide
  rw [e3]
  show ((Int32.ofInt x).toBitVec.sshiftRight' 16#32).toInt = _
  rw [BitVec.sshiftRight', BitVec.toInt_sshiftRight, Int32.toInt_toBitVec, e]
  rw [Int.shiftRight_eq_div_pow]
  rfl
/-- all but a dance f, what is danced aside, the names and the row of values -/
def gfr (f : Int) (s t : St) : Prop := ∀ (b : Nat) (r : Int), ¬ (114 ≤ b ∧ b ≤ 117) → ¬ b = 104 → ¬ b = 105 → ¬ (b = 94 ∧ r = 26) → ¬ (106 ≤ b ∧ b ≤ 112 ∧ r = f) → ¬ (b = 113 ∧ 48 * f ≤ r ∧ r < 48 * f + 48) → t b r = s b r
theorem gfr_tr {s t u : St} (h1 : gfr f s t) (h2 : gfr f t u) : gfr f s u := fun b r q1 q2 q3 q4 q5 q6 => (h2 b r q1 q2 q3 q4 q5 q6).trans (h1 b r q1 q2 q3 q4 q5 q6)
theorem gfr_rfl {s : St} : gfr f s s := fun _ _ _ _ _ _ _ _ => rfl
theorem qfr.g {t : St} (h : qfr s t) : gfr f s t := fun b r q1 q2 q3 q4 _ _ => h b r q1 q2 q3 q4
theorem LWR.g {t : St} {kc lb le : Int → Int} (h : LWR kc lb le s) (g : gfr f s t) : LWR kc lb le t := fun r r0 r1 => by
  obtain ⟨q1, q2, q3⟩ := h r r0 r1
  refine ⟨(g 100 r (by omega) (by omega) (by omega) (by omega) (by omega) (by omega)).trans q1, (g 101 r (by omega) (by omega) (by omega) (by omega) (by omega) (by omega)).trans q2, fun i i0 i1 => ?_⟩
  rw [g 102 i (by omega) (by omega) (by omega) (by omega) (by omega) (by omega), g 103 i (by omega) (by omega) (by omega) (by omega) (by omega) (by omega)]
  exact q3 i i0 i1
theorem r_canDance (hf : 0 ≤ f ∧ f < 23) (hd : 11 ≤ d) (hr : RD f L n c s) {x yr tw am : Int} (hx : 0 ≤ x ∧ x < 64) (hy : s 106 f = yr) (hyr : 0 ≤ yr ∧ yr ≤ 100000) (htw : s 94 45 = tw) (htr : 0 ≤ tw ∧ tw ≤ 4) (ham : (tw = 3 ∧ am = 1) ∨ (¬ tw = 3 ∧ am = 0)) {kc lb le : Int → Int} (hw : LWR kc lb le s) (ho : okL kc lb le) (k : ∀ t, qfr s t → Q (some (vI (bI (tlC L n c yr kc lb le am x)))) (HP h0 t)) : wpM PP d 125 [vR 94, vI f, vI x] (HP h0 s) Q := by
  obtain ⟨hL, hn, hv, r1, r2, r3⟩ := hr
  have hr : RD f L n c s := ⟨hL, hn, hv, r1, r2, r3⟩
  have hct := cnt_R L
  refine n_at (m := 125) (q := mr125) (kn := (0, 3)) [some (vR _), some (vI _), some (vI _)] mb125 rfl rfl (h_rcv sc_94) (Nat.le_of_ble_eq_true rfl) rfl rfl ?_
  refine x_iload rfl ?_
  refine x_aload rfl ?_
  refine x_iload rfl ?_
  refine n_call [vR _, vI _] [vI _] (by omega) (Nat.le_of_ble_eq_true rfl) rfl rfl (Nat.le_of_ble_eq_true rfl) ?_
  refine r_codesOf (by omega) hf (by rw [r1]; exact hL) ?_
  rw [r1]
  show wp PP _ _ _ [some (vR _), some (vI _), some (vI _)] [vI _, vI _] _ _
  refine n_icmp_ge ⟨by omega, by omega⟩ ⟨by omega, by omega⟩ (fun c1 => ?_) (fun c1 => ?_)
  · refine x_ci ?_
    refine x_zret (by first | exact bI_01 _ | omega) ?_
    first
      | exact cB0 (k s qfr_rfl) (by omega)
      | exact cB1 (k t t2) ⟨by omega, by omega⟩
      | (have e0 : vNx L n c yr kc lb le x 0 = -9223372036854775808 := by
           rw [← vx]
           exact if_neg (by assumption)
         exact cB1 (k t t2) ⟨by omega, by omega⟩)
      | exact cB1 (k u (qfr_tr t2 u1.q)) ⟨by omega, by omega⟩
      | exact cB0 (k u (qfr_tr t2 u1.q)) (by omega)
  · refine x_aload rfl ?_
    refine h_getR sc_94 rfl (by omega) ?_
    refine x_iload rfl ?_
    refine h_iald sc_112 ⟨by omega, by omega⟩ (by decide) ?_
    rw [r2]
    refine x_ci ?_
    refine n_icmp_ne ⟨by omega, by omega⟩ ⟨by omega, by omega⟩ (fun c2 => ?_) (fun c2 => ?_)
    · refine x_aload rfl ?_
      refine x_iload rfl ?_
      refine x_iload rfl ?_
      refine x_aload rfl ?_
      refine h_getR sc_94 rfl (by omega) ?_
      refine x_iload rfl ?_
      refine h_iald sc_112 ⟨by omega, by omega⟩ (by decide) ?_
      refine n_call [vR _, vI _, vI _, vI _] [] (by omega) (Nat.le_of_ble_eq_true rfl) rfl rfl (Nat.le_of_ble_eq_true rfl) ?_
      rw [r2]
      have hnv := nvE_R (one := wO L c n (x / 2)) (other := wO L c n (x / 2 + 1)) (x := x) (wb := wB L c n (6 * wO L c n (x / 2) + wO L c n (x / 2 + 1))) (n := n) (cn := cnt L) (yr := yr) (by
        have o1 := wO_R hL hv (x / 2) (by omega) (by omega)
        exact ⟨o1.1, o1.2.1⟩) (by
        have o2 := wO_R hL hv (x / 2 + 1) (by omega) (by omega)
        exact ⟨o2.1, o2.2.1⟩) (by omega) (by
        have wr := wB_R (L := L) (c := c) n (6 * wO L c n (x / 2) + wO L c n (x / 2 + 1))
        omega) (by omega) (by omega) hyr
      refine r_calls (m := n) hf (by omega) hr (by omega) (x := x) (by omega) hy hyr (fun t t1 t2 => ?_)
      have vx : lawV (nvE (wO L c n (x / 2)) (wO L c n (x / 2 + 1)) x (wB L c n (6 * wO L c n (x / 2) + wO L c n (x / 2 + 1))) n (cnt L) yr) kc (lb 0) (le 0) = vNx L n c yr kc lb le x 0 := rfl
      show wp PP _ _ _ [some (vR _), some (vI _), some (vI _)] [] _ _
      refine x_aload rfl ?_
      refine h_getI 45 sc_94 rfl rfl ?_
      rw [(t2 94 45 (by omega) (by omega) (by omega) (by omega)).trans htw]
      refine x_ci ?_
      refine n_icmp_eq ⟨by omega, by omega⟩ ⟨by omega, by omega⟩ (fun c3 => ?_) (fun c3 => ?_)
      · refine x_ci ?_
        refine x_goto ?_
        refine x_zret (by first | exact bI_01 _ | omega) ?_
        first
          | exact cB0 (k s qfr_rfl) (by omega)
          | exact cB1 (k t t2) ⟨by omega, by omega⟩
          | (have e0 : vNx L n c yr kc lb le x 0 = -9223372036854775808 := by
               rw [← vx]
               exact if_neg (by assumption)
             exact cB1 (k t t2) ⟨by omega, by omega⟩)
          | exact cB1 (k u (qfr_tr t2 u1.q)) ⟨by omega, by omega⟩
          | exact cB0 (k u (qfr_tr t2 u1.q)) (by omega)
      · refine x_aload rfl ?_
        refine x_ci ?_
        refine n_call [vR _, vI _] [] (by omega) (Nat.le_of_ble_eq_true rfl) rfl rfl (Nat.le_of_ble_eq_true rfl) ?_
        have w := (hw.q t2) 0 (by omega) (by omega)
        have o := ho 0 (by omega) (by omega)
        refine r_hasLaw (x := 0) (by omega) (by have := o.1; have := o.2.1; have := o.2.2.1; omega) (by have := o.1; have := o.2.1; have := o.2.2.1; omega) ?_
        rw [w.1, w.2.1]
        show wp PP _ _ _ [some (vR _), some (vI _), some (vI _)] [vI _] _ _
        refine z_if_eq (fun c4 => ?_) (fun c4 => ?_)
        · refine x_ci ?_
          refine x_goto ?_
          refine x_zret (by first | exact bI_01 _ | omega) ?_
          first
            | exact cB0 (k s qfr_rfl) (by omega)
            | exact cB1 (k t t2) ⟨by omega, by omega⟩
            | (have e0 : vNx L n c yr kc lb le x 0 = -9223372036854775808 := by
                 rw [← vx]
                 exact if_neg (by assumption)
               exact cB1 (k t t2) ⟨by omega, by omega⟩)
            | exact cB1 (k u (qfr_tr t2 u1.q)) ⟨by omega, by omega⟩
            | exact cB0 (k u (qfr_tr t2 u1.q)) (by omega)
        · refine x_aload rfl ?_
          refine x_ci ?_
          refine n_call [vR _, vI _] [] (by omega) (Nat.le_of_ble_eq_true rfl) rfl rfl (Nat.le_of_ble_eq_true rfl) ?_
          refine r_goes (nv := (nvE (wO L c n (x / 2)) (wO L c n (x / 2 + 1)) x (wB L c n (6 * wO L c n (x / 2) + wO L c n (x / 2 + 1))) n (cnt L) yr)) (b := lb 0) (e := le 0) (kc := kc) (by omega) (by omega) w.1 w.2.1 (by assumption) o w.2.2 t1 hnv (fun u u1 u2 => ?_)
          have lv := evS_in hnv o
          rw [vx] at u2 lv ⊢
          show wp PP _ _ _ [some (vR _), some (vI _), some (vI _)] [vI _] _ _
          refine z_if_eq (fun c5 => ?_) (fun c5 => ?_)
          · refine x_ci ?_
            refine x_goto ?_
            refine x_zret (by first | exact bI_01 _ | omega) ?_
            first
              | exact cB0 (k s qfr_rfl) (by omega)
              | exact cB1 (k t t2) ⟨by omega, by omega⟩
              | (have e0 : vNx L n c yr kc lb le x 0 = -9223372036854775808 := by
                   rw [← vx]
                   exact if_neg (by assumption)
                 exact cB1 (k t t2) ⟨by omega, by omega⟩)
              | exact cB1 (k u (qfr_tr t2 u1.q)) ⟨by omega, by omega⟩
              | exact cB0 (k u (qfr_tr t2 u1.q)) (by omega)
          · refine x_aload rfl ?_
            refine h_getR sc_94 rfl (by omega) ?_
            refine x_ci ?_
            refine h_lald sc_105 ⟨by omega, by omega⟩ (by decide) ?_
            rw [u2 (by assumption)]
            refine x_cl ?_
            refine n_lif_eq ⟨by omega, by omega⟩ ⟨by omega, by omega⟩ (fun c6 => ?_) (fun c6 => ?_)
            · refine x_ci ?_
              refine x_fall ?_
              refine x_zret (by first | exact bI_01 _ | omega) ?_
              first
                | exact cB0 (k s qfr_rfl) (by omega)
                | exact cB1 (k t t2) ⟨by omega, by omega⟩
                | (have e0 : vNx L n c yr kc lb le x 0 = -9223372036854775808 := by
                     rw [← vx]
                     exact if_neg (by assumption)
                   exact cB1 (k t t2) ⟨by omega, by omega⟩)
                | exact cB1 (k u (qfr_tr t2 u1.q)) ⟨by omega, by omega⟩
                | exact cB0 (k u (qfr_tr t2 u1.q)) (by omega)
            · refine x_fall ?_
              refine x_ci ?_
              refine x_goto ?_
              refine x_zret (by first | exact bI_01 _ | omega) ?_
              first
                | exact cB0 (k s qfr_rfl) (by omega)
                | exact cB1 (k t t2) ⟨by omega, by omega⟩
                | (have e0 : vNx L n c yr kc lb le x 0 = -9223372036854775808 := by
                     rw [← vx]
                     exact if_neg (by assumption)
                   exact cB1 (k t t2) ⟨by omega, by omega⟩)
                | exact cB1 (k u (qfr_tr t2 u1.q)) ⟨by omega, by omega⟩
                | exact cB0 (k u (qfr_tr t2 u1.q)) (by omega)
    · refine x_fall ?_
      refine x_ci ?_
      refine x_zret (by first | exact bI_01 _ | omega) ?_
      first
        | exact cB0 (k s qfr_rfl) (by omega)
        | exact cB1 (k t t2) ⟨by omega, by omega⟩
        | (have e0 : vNx L n c yr kc lb le x 0 = -9223372036854775808 := by
             rw [← vx]
             exact if_neg (by assumption)
           exact cB1 (k t t2) ⟨by omega, by omega⟩)
        | exact cB1 (k u (qfr_tr t2 u1.q)) ⟨by omega, by omega⟩
        | exact cB0 (k u (qfr_tr t2 u1.q)) (by omega)
theorem r_dances (hf : 0 ≤ f ∧ f < 23) (hd : 12 ≤ d) (hr : RD f L n c s) (hn48 : n < 48) {x yr vw : Int} (hcx : c n = x) (hx : 0 ≤ x ∧ x < 2 * (cnt L - 1)) (hy : s 106 f = yr) (hyr : 0 ≤ yr ∧ yr ≤ 100000) (hvw : s 110 f = vw) (hvr : -9999 ≤ vw ∧ vw ≤ 9999) {kc lb le : Int → Int} (hw : LWR kc lb le s) (ho : okL kc lb le) (k : ∀ t, RD f L (n + 1) c t → t 110 f = vwN vw (vNx L n c yr kc lb le x 1) → (∀ (b : Nat) (r : Int), ¬ (114 ≤ b ∧ b ≤ 117) → ¬ b = 104 → ¬ b = 105 → ¬ (b = 94 ∧ r = 26) → ¬ (b = 110 ∧ r = f) → ¬ (b = 112 ∧ r = f) → ¬ (b = 113 ∧ r = 48 * f + n) → t b r = s b r) → Q none (HP h0 t)) : wpM PP d 126 [vR 94, vI f, vI x] (HP h0 s) Q := by
  obtain ⟨hL, hn, hv, r1, r2, r3⟩ := hr
  have hr : RD f L n c s := ⟨hL, hn, hv, r1, r2, r3⟩
  have hct := cnt_R L
  have vv : vC L c (n + 1) := fun i i0 i1 => by
    by_cases e : i = n
    · rw [e, hcx]
      exact hx
    · exact hv i i0 (by omega)
  refine n_at (m := 126) (q := mr126) (kn := (0, 3)) [some (vR _), some (vI _), some (vI _)] mb126 rfl rfl (h_rcv sc_94) (Nat.le_of_ble_eq_true rfl) rfl rfl ?_
  refine x_aload rfl ?_
  refine x_iload rfl ?_
  refine x_iload rfl ?_
  refine x_aload rfl ?_
  refine h_getR sc_94 rfl (by omega) ?_
  refine x_iload rfl ?_
  refine h_iald sc_112 ⟨by omega, by omega⟩ (by decide) ?_
  rw [r2]
  refine n_call [vR _, vI _, vI _, vI _] [] (by omega) (Nat.le_of_ble_eq_true rfl) rfl rfl (Nat.le_of_ble_eq_true rfl) ?_
  have hnv := nvE_R (one := wO L c n (x / 2)) (other := wO L c n (x / 2 + 1)) (x := x) (wb := wB L c n (6 * wO L c n (x / 2) + wO L c n (x / 2 + 1))) (n := n) (cn := cnt L) (yr := yr) (by
    have o1 := wO_R hL hv (x / 2) (by omega) (by omega)
    exact ⟨o1.1, o1.2.1⟩) (by
    have o2 := wO_R hL hv (x / 2 + 1) (by omega) (by omega)
    exact ⟨o2.1, o2.2.1⟩) (by omega) (by
    have wr := wB_R (L := L) (c := c) n (6 * wO L c n (x / 2) + wO L c n (x / 2 + 1))
    omega) (by omega) (by omega) hyr
  refine r_calls (m := n) hf (by omega) hr (by omega) (x := x) (by omega) hy hyr (fun t t1 t2 => ?_)
  show wp PP _ _ _ [some (vR _), some (vI _), some (vI _)] [] _ _
  refine x_aload rfl ?_
  refine h_getR sc_94 rfl (by omega) ?_
  refine x_iload rfl ?_
  refine x_ci ?_
  refine x_ci ?_
  refine x_aload rfl ?_
  refine h_getR sc_94 rfl (by omega) ?_
  refine x_iload rfl ?_
  refine h_iald sc_110 ⟨by omega, by omega⟩ (by decide) ?_
  rw [(t2 110 f (by omega) (by omega) (by omega) (by omega)).trans hvw]
  refine x_aload rfl ?_
  refine x_ci ?_
  refine x_ci ?_
  refine x_ci ?_
  refine x_ci ?_
  refine n_call [vR _, vI _, vI _, vI _, vI _] [vI _, vI _, vI _, vI _, vR _] (by omega) (Nat.le_of_ble_eq_true rfl) rfl rfl (Nat.le_of_ble_eq_true rfl) ?_
  refine r_within (nv := (nvE (wO L c n (x / 2)) (wO L c n (x / 2 + 1)) x (wB L c n (6 * wO L c n (x / 2) + wO L c n (x / 2 + 1))) n (cnt L) yr)) (r := 1) (by omega) (by omega) ⟨by omega, by omega⟩ ⟨by omega, by omega⟩ ⟨by omega, by omega⟩ (hw.q t2) ho t1 hnv (fun u u1 => ?_)
  have lv := evS_in hnv (ho 1 (by omega) (by omega))
  rw [show lawV (nvE (wO L c n (x / 2)) (wO L c n (x / 2 + 1)) x (wB L c n (6 * wO L c n (x / 2) + wO L c n (x / 2 + 1))) n (cnt L) yr) kc (lb 1) (le 1) = vNx L n c yr kc lb le x 1 from rfl] at *
  have wr : -99 ≤ (if vNx L n c yr kc lb le x 1 = -9223372036854775808 then 1 else max (-99) (min 99 (vNx L n c yr kc lb le x 1))) ∧ (if vNx L n c yr kc lb le x 1 = -9223372036854775808 then 1 else max (-99) (min 99 (vNx L n c yr kc lb le x 1))) ≤ 99 := by
    split <;> omega
  show wp PP _ _ _ [some (vR _), some (vI _), some (vI _)] [vI _, vI _, vI _, vI _, vI _, vR _] _ _
  refine x_iadd ?_
  refine n_imin ⟨by omega, by omega⟩ ⟨by omega, by omega⟩ (by omega) (Nat.le_of_ble_eq_true rfl) ?_
  refine n_imax ⟨by omega, by omega⟩ ⟨by omega, by omega⟩ (by omega) (Nat.le_of_ble_eq_true rfl) ?_
  refine t_I (vwN vw (vNx L n c yr kc lb le x 1)) rfl ?_
  have g := qfr_tr t2 u1
  refine h_iast sc_110 ⟨by omega, by omega⟩ (by decide) ?_
  refine x_aload rfl ?_
  refine h_getR sc_94 rfl (by omega) ?_
  refine x_ci ?_
  refine x_iload rfl ?_
  refine x_imul ?_
  refine x_aload rfl ?_
  refine h_getR sc_94 rfl (by omega) ?_
  refine x_iload rfl ?_
  refine h_iald sc_112 ⟨by omega, by omega⟩ (by decide) ?_
  refine t_I n ?_ ?_
  · rw [up_a (by decide)]
    exact (g 112 f (by omega) (by omega) (by omega) (by omega)).trans r2
  refine x_iadd ?_
  refine x_iload rfl ?_
  refine h_iast sc_113 ⟨by omega, by omega⟩ (by decide) ?_
  refine x_aload rfl ?_
  refine h_getR sc_94 rfl (by omega) ?_
  refine x_iload rfl ?_
  refine x_dup2 ?_
  refine h_iald sc_112 ⟨by omega, by omega⟩ (by decide) ?_
  refine t_I n ?_ ?_
  · rw [up_a (by decide), up_a (by decide)]
    exact (g 112 f (by omega) (by omega) (by omega) (by omega)).trans r2
  refine x_ci ?_
  refine x_iadd ?_
  refine h_iast sc_112 ⟨by omega, by omega⟩ (by decide) ?_
  refine x_ret ?_
  refine k _ ⟨hL, by omega, vv, ?_, ?_, fun i i0 i1 => ?_⟩ ?_ (fun b2 r w1 w2 w3 w4 w5 w6 w7 => ?_)
  · rw [up_a (by decide), up_a (by decide), up_a (by decide)]
    exact (g 111 f (by omega) (by omega) (by omega) (by omega)).trans r1
  · rw [up_e]
    omega
  · rw [up_a (by decide), up_at]
    by_cases e : i = n
    · rw [if_pos (by omega), e, hcx]
    · rw [if_neg (by omega), up_a (by decide)]
      exact (g 113 _ (by omega) (by omega) (by omega) (by omega)).trans (r3 i i0 (by omega))
  · rw [up_a (by decide), up_a (by decide), up_e]
  · simp only [up]
    rw [if_neg (by omega), if_neg (by omega), if_neg (by omega)]
    exact g b2 r w1 w2 w3 w4
end RI
