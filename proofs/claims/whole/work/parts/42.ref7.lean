/-! THE REFERENCE'S YEARS: slips -/
section RJ
variable {d : Nat} {h0 h : pheap} {s : St} {Q : Option pv → pheap → Prop} {L f : Int} {n : Nat} {c c' : Int → Int}
theorem r_doesSlip (hf : 0 ≤ f ∧ f < 23) (hd : 12 ≤ d) (hr : RD f L (n + 1) c s) {yr la way slp od tw by0 : Int} (hy : s 106 f = yr) (hyr : 0 ≤ yr ∧ yr ≤ 100000) (hla : s 107 f = la) (hlr : 0 ≤ la ∧ la < 2147483648) (htw : s 94 45 = tw) (htr : 0 ≤ tw ∧ tw ≤ 4) (hby : by0 = 0 ∨ by0 = 1) (hway : (tw = 1 ∧ way = 2) ∨ (¬ tw = 1 ∧ by0 = 1 ∧ way = 0) ∨ (¬ tw = 1 ∧ by0 = 0 ∧ way = 1)) (hsl : s 96 2 = slp) (hsr : 0 ≤ slp ∧ slp ≤ 100) {kc lb le : Int → Int} (hw : LWR kc lb le s) (ho : okL kc lb le) (hod : od = odN (vLs L n c yr kc lb le) slp) (k : ∀ t, RD f L (n + 1) c t → t 107 f = (if way = 2 then la else slD way od la) → (∀ (b : Nat) (r : Int), ¬ (114 ≤ b ∧ b ≤ 117) → ¬ b = 104 → ¬ b = 105 → ¬ (b = 94 ∧ r = 26) → ¬ (b = 107 ∧ r = f) → t b r = s b r) → Q (some (vI (bI (slC way od la)))) (HP h0 t)) : wpM PP d 127 [vR 94, vI f, vI by0] (HP h0 s) Q := by
  obtain ⟨hL, hn, hv, r1, r2, r3⟩ := hr
  have hr : RD f L (n + 1) c s := ⟨hL, hn, hv, r1, r2, r3⟩
  have hct := cnt_R L
  have odr := odN_R (V := vLs L n c yr kc lb le) hsr
  rw [← hod] at odr
  refine n_at (m := 127) (q := mr127) (kn := (0, 3)) [some (vR _), some (vI _), some (vI _), none] mb127 rfl rfl (h_rcv sc_94) (Nat.le_of_ble_eq_true rfl) rfl rfl ?_
  refine x_aload rfl ?_
  refine h_getI 45 sc_94 rfl rfl ?_
  rw [htw]
  refine x_ci ?_
  refine n_icmp_eq ⟨by omega, by omega⟩ ⟨by omega, by omega⟩ (fun c1 => ?_) (fun c1 => ?_)
  · refine x_ci ?_
    refine x_zret (by first | exact bI_01 _ | omega) ?_
    first
      | exact cB0 (k s hr (by rw [if_pos (by omega)]; exact hla) (fun _ _ _ _ _ _ _ => rfl)) (by omega)
      | (have sd : slD way od la = la := by
           unfold slD
           rw [if_neg (by omega)]
         first
           | exact cB1 (k u (hr.q g) (by rw [if_neg (by omega), sd]; exact (g 107 f (by omega) (by omega) (by omega) (by omega)).trans hla) (fun b2 r w1 w2 w3 w4 _ => g b2 r w1 w2 w3 w4)) (by omega)
           | exact cB0 (k u (hr.q g) (by rw [if_neg (by omega), sd]; exact (g 107 f (by omega) (by omega) (by omega) (by omega)).trans hla) (fun b2 r w1 w2 w3 w4 _ => g b2 r w1 w2 w3 w4)) (by omega))
      | (have sd : slD way od la = nxN la := by
           unfold slD
           rw [if_pos (by omega)]
         first
           | exact cB1 (k _ ((hr.q g).up (by decide)) (by rw [if_neg (by omega), sd, up_e]) (fun b2 r w1 w2 w3 w4 w5 => (up_f w5).trans (g b2 r w1 w2 w3 w4))) (by omega)
           | exact cB0 (k _ ((hr.q g).up (by decide)) (by rw [if_neg (by omega), sd, up_e]) (fun b2 r w1 w2 w3 w4 w5 => (up_f w5).trans (g b2 r w1 w2 w3 w4))) (by omega))
  · refine x_aload rfl ?_
    refine h_getR sc_94 rfl (by omega) ?_
    refine x_iload rfl ?_
    refine h_iald sc_112 ⟨by omega, by omega⟩ (by decide) ?_
    rw [r2]
    refine n_if_ne ⟨by omega, by omega⟩ (fun c2 => ?_) (fun c2 => ?_)
    · refine x_aload rfl ?_
      refine x_iload rfl ?_
      refine n_call [vR _, vI _] [] (by omega) (Nat.le_of_ble_eq_true rfl) rfl rfl (Nat.le_of_ble_eq_true rfl) ?_
      have hnv := nvE_R (one := wO L c n (c n / 2)) (other := wO L c n (c n / 2 + 1)) (x := c n) (wb := wB L c (n + 1) (6 * wO L c n (c n / 2) + wO L c n (c n / 2 + 1))) (n := ((n + 1 : Nat) : Int)) (cn := cnt L) (yr := yr) (by
        have hx := hv n (by omega) (by omega)
        have o1 := wO_R hL (vC_less hv (Nat.le_succ n)) (c n / 2) (by omega) (by omega)
        exact ⟨o1.1, o1.2.1⟩) (by
        have hx := hv n (by omega) (by omega)
        have o2 := wO_R hL (vC_less hv (Nat.le_succ n)) (c n / 2 + 1) (by omega) (by omega)
        exact ⟨o2.1, o2.2.1⟩) (by have hx := hv n (by omega) (by omega); omega) (by
        have wr := wB_R (L := L) (c := c) (n + 1) (6 * wO L c n (c n / 2) + wO L c n (c n / 2 + 1))
        omega) (by omega) (by omega) hyr
      refine r_callsLast hf (by omega) hr hy hyr (fun t t1 t2 => ?_)
      have vx : lawV (nvE (wO L c n (c n / 2)) (wO L c n (c n / 2 + 1)) (c n) (wB L c (n + 1) (6 * wO L c n (c n / 2) + wO L c n (c n / 2 + 1))) ((n + 1 : Nat) : Int) (cnt L) yr) kc (lb 2) (le 2) = vLs L n c yr kc lb le := by
        unfold vLs
        simp
      show wp PP _ _ _ [some (vR _), some (vI _), some (vI _), _] [] _ _
      refine x_aload rfl ?_
      refine x_ci ?_
      refine x_ci ?_
      refine x_ci ?_
      refine x_aload rfl ?_
      refine h_getR sc_94 rfl (by omega) ?_
      refine x_ci ?_
      refine h_iald sc_96 ⟨by omega, by omega⟩ (by decide) ?_
      refine n_call [vR _, vI _, vI _, vI _, vI _] [] (by omega) (Nat.le_of_ble_eq_true rfl) rfl rfl (Nat.le_of_ble_eq_true rfl) ?_
      rw [(t2 96 2 (by omega) (by omega) (by omega) (by omega)).trans hsl]
      refine r_within (nv := (nvE (wO L c n (c n / 2)) (wO L c n (c n / 2 + 1)) (c n) (wB L c (n + 1) (6 * wO L c n (c n / 2) + wO L c n (c n / 2 + 1))) ((n + 1 : Nat) : Int) (cnt L) yr)) (r := 2) (by omega) (by omega) ⟨by omega, by omega⟩ ⟨by omega, by omega⟩ ⟨by omega, by omega⟩ (hw.q t2) ho t1 hnv (fun u u1 => ?_)
      rw [vx, show (if vLs L n c yr kc lb le = -9223372036854775808 then slp else max 0 (min 100 (vLs L n c yr kc lb le))) = od from hod.symm]
      have g := qfr_tr t2 u1
      show wp PP _ _ _ [some (vR _), some (vI _), some (vI _), _] [vI _] _ _
      refine n_istore [some (vR _), some (vI _), some (vI _), some (vI _)] (Nat.le_of_ble_eq_true rfl) rfl ?_
      refine x_iload rfl ?_
      refine n_if_eq ⟨by omega, by omega⟩ (fun c3 => ?_) (fun c3 => ?_)
      · refine x_iload rfl ?_
        refine x_ci ?_
        refine n_icmp_lt ⟨by omega, by omega⟩ ⟨by omega, by omega⟩ (fun c4 => ?_) (fun c4 => ?_)
        · refine x_ci ?_
          refine x_fall ?_
          refine x_zret (by first | exact bI_01 _ | omega) ?_
          first
            | exact cB0 (k s hr (by rw [if_pos (by omega)]; exact hla) (fun _ _ _ _ _ _ _ => rfl)) (by omega)
            | (have sd : slD way od la = la := by
                 unfold slD
                 rw [if_neg (by omega)]
               first
                 | exact cB1 (k u (hr.q g) (by rw [if_neg (by omega), sd]; exact (g 107 f (by omega) (by omega) (by omega) (by omega)).trans hla) (fun b2 r w1 w2 w3 w4 _ => g b2 r w1 w2 w3 w4)) (by omega)
                 | exact cB0 (k u (hr.q g) (by rw [if_neg (by omega), sd]; exact (g 107 f (by omega) (by omega) (by omega) (by omega)).trans hla) (fun b2 r w1 w2 w3 w4 _ => g b2 r w1 w2 w3 w4)) (by omega))
            | (have sd : slD way od la = nxN la := by
                 unfold slD
                 rw [if_pos (by omega)]
               first
                 | exact cB1 (k _ ((hr.q g).up (by decide)) (by rw [if_neg (by omega), sd, up_e]) (fun b2 r w1 w2 w3 w4 w5 => (up_f w5).trans (g b2 r w1 w2 w3 w4))) (by omega)
                 | exact cB0 (k _ ((hr.q g).up (by decide)) (by rw [if_neg (by omega), sd, up_e]) (fun b2 r w1 w2 w3 w4 w5 => (up_f w5).trans (g b2 r w1 w2 w3 w4))) (by omega))
        · refine x_ci ?_
          refine x_goto ?_
          refine x_zret (by first | exact bI_01 _ | omega) ?_
          first
            | exact cB0 (k s hr (by rw [if_pos (by omega)]; exact hla) (fun _ _ _ _ _ _ _ => rfl)) (by omega)
            | (have sd : slD way od la = la := by
                 unfold slD
                 rw [if_neg (by omega)]
               first
                 | exact cB1 (k u (hr.q g) (by rw [if_neg (by omega), sd]; exact (g 107 f (by omega) (by omega) (by omega) (by omega)).trans hla) (fun b2 r w1 w2 w3 w4 _ => g b2 r w1 w2 w3 w4)) (by omega)
                 | exact cB0 (k u (hr.q g) (by rw [if_neg (by omega), sd]; exact (g 107 f (by omega) (by omega) (by omega) (by omega)).trans hla) (fun b2 r w1 w2 w3 w4 _ => g b2 r w1 w2 w3 w4)) (by omega))
            | (have sd : slD way od la = nxN la := by
                 unfold slD
                 rw [if_pos (by omega)]
               first
                 | exact cB1 (k _ ((hr.q g).up (by decide)) (by rw [if_neg (by omega), sd, up_e]) (fun b2 r w1 w2 w3 w4 w5 => (up_f w5).trans (g b2 r w1 w2 w3 w4))) (by omega)
                 | exact cB0 (k _ ((hr.q g).up (by decide)) (by rw [if_neg (by omega), sd, up_e]) (fun b2 r w1 w2 w3 w4 w5 => (up_f w5).trans (g b2 r w1 w2 w3 w4))) (by omega))
      · refine x_iload rfl ?_
        refine n_if_eq ⟨by omega, by omega⟩ (fun c4 => ?_) (fun c4 => ?_)
        · refine x_iload rfl ?_
          refine x_ci ?_
          refine n_icmp_lt ⟨by omega, by omega⟩ ⟨by omega, by omega⟩ (fun c5 => ?_) (fun c5 => ?_)
          · refine x_ci ?_
            refine x_fall ?_
            refine x_zret (by first | exact bI_01 _ | omega) ?_
            first
              | exact cB0 (k s hr (by rw [if_pos (by omega)]; exact hla) (fun _ _ _ _ _ _ _ => rfl)) (by omega)
              | (have sd : slD way od la = la := by
                   unfold slD
                   rw [if_neg (by omega)]
                 first
                   | exact cB1 (k u (hr.q g) (by rw [if_neg (by omega), sd]; exact (g 107 f (by omega) (by omega) (by omega) (by omega)).trans hla) (fun b2 r w1 w2 w3 w4 _ => g b2 r w1 w2 w3 w4)) (by omega)
                   | exact cB0 (k u (hr.q g) (by rw [if_neg (by omega), sd]; exact (g 107 f (by omega) (by omega) (by omega) (by omega)).trans hla) (fun b2 r w1 w2 w3 w4 _ => g b2 r w1 w2 w3 w4)) (by omega))
              | (have sd : slD way od la = nxN la := by
                   unfold slD
                   rw [if_pos (by omega)]
                 first
                   | exact cB1 (k _ ((hr.q g).up (by decide)) (by rw [if_neg (by omega), sd, up_e]) (fun b2 r w1 w2 w3 w4 w5 => (up_f w5).trans (g b2 r w1 w2 w3 w4))) (by omega)
                   | exact cB0 (k _ ((hr.q g).up (by decide)) (by rw [if_neg (by omega), sd, up_e]) (fun b2 r w1 w2 w3 w4 w5 => (up_f w5).trans (g b2 r w1 w2 w3 w4))) (by omega))
          · refine x_ci ?_
            refine x_goto ?_
            refine x_zret (by first | exact bI_01 _ | omega) ?_
            first
              | exact cB0 (k s hr (by rw [if_pos (by omega)]; exact hla) (fun _ _ _ _ _ _ _ => rfl)) (by omega)
              | (have sd : slD way od la = la := by
                   unfold slD
                   rw [if_neg (by omega)]
                 first
                   | exact cB1 (k u (hr.q g) (by rw [if_neg (by omega), sd]; exact (g 107 f (by omega) (by omega) (by omega) (by omega)).trans hla) (fun b2 r w1 w2 w3 w4 _ => g b2 r w1 w2 w3 w4)) (by omega)
                   | exact cB0 (k u (hr.q g) (by rw [if_neg (by omega), sd]; exact (g 107 f (by omega) (by omega) (by omega) (by omega)).trans hla) (fun b2 r w1 w2 w3 w4 _ => g b2 r w1 w2 w3 w4)) (by omega))
              | (have sd : slD way od la = nxN la := by
                   unfold slD
                   rw [if_pos (by omega)]
                 first
                   | exact cB1 (k _ ((hr.q g).up (by decide)) (by rw [if_neg (by omega), sd, up_e]) (fun b2 r w1 w2 w3 w4 w5 => (up_f w5).trans (g b2 r w1 w2 w3 w4))) (by omega)
                   | exact cB0 (k _ ((hr.q g).up (by decide)) (by rw [if_neg (by omega), sd, up_e]) (fun b2 r w1 w2 w3 w4 w5 => (up_f w5).trans (g b2 r w1 w2 w3 w4))) (by omega))
        · refine x_iload rfl ?_
          refine x_ci ?_
          refine n_icmp_ne ⟨by omega, by omega⟩ ⟨by omega, by omega⟩ (fun c5 => ?_) (fun c5 => ?_)
          · refine x_aload rfl ?_
            refine h_getR sc_94 rfl (by omega) ?_
            refine x_iload rfl ?_
            refine x_aload rfl ?_
            refine h_getR sc_94 rfl (by omega) ?_
            refine x_iload rfl ?_
            refine h_iald sc_107 ⟨by omega, by omega⟩ (by decide) ?_
            rw [(g 107 f (by omega) (by omega) (by omega) (by omega)).trans hla]
            refine x_ci ?_
            refine x_imul ?_
            refine x_ci ?_
            refine x_iadd ?_
            refine x_ci ?_
            refine x_iand ?_
            rw [iand_nat, show (la * 1103515245 + 12345) % 2147483648 = nxN la from rfl]
            have nr := nxN_R la
            refine h_iast sc_107 ⟨by omega, by omega⟩ (by decide) ?_
            refine x_aload rfl ?_
            refine h_getR sc_94 rfl (by omega) ?_
            refine x_iload rfl ?_
            refine h_iald sc_107 ⟨by omega, by omega⟩ (by decide) ?_
            rw [up_e]
            refine x_ci ?_
            refine x_ishr ?_
            rw [ishr16 nr]
            refine x_ci ?_
            refine n_irem ⟨by omega, by omega⟩ ⟨by omega, by omega⟩ ?_
            refine x_iload rfl ?_
            refine n_icmp_ge ⟨by omega, by omega⟩ ⟨by omega, by omega⟩ (fun c6 => ?_) (fun c6 => ?_)
            · refine x_ci ?_
              refine x_fall ?_
              refine x_zret (by first | exact bI_01 _ | omega) ?_
              first
                | exact cB0 (k s hr (by rw [if_pos (by omega)]; exact hla) (fun _ _ _ _ _ _ _ => rfl)) (by omega)
                | (have sd : slD way od la = la := by
                     unfold slD
                     rw [if_neg (by omega)]
                   first
                     | exact cB1 (k u (hr.q g) (by rw [if_neg (by omega), sd]; exact (g 107 f (by omega) (by omega) (by omega) (by omega)).trans hla) (fun b2 r w1 w2 w3 w4 _ => g b2 r w1 w2 w3 w4)) (by omega)
                     | exact cB0 (k u (hr.q g) (by rw [if_neg (by omega), sd]; exact (g 107 f (by omega) (by omega) (by omega) (by omega)).trans hla) (fun b2 r w1 w2 w3 w4 _ => g b2 r w1 w2 w3 w4)) (by omega))
                | (have sd : slD way od la = nxN la := by
                     unfold slD
                     rw [if_pos (by omega)]
                   first
                     | exact cB1 (k _ ((hr.q g).up (by decide)) (by rw [if_neg (by omega), sd, up_e]) (fun b2 r w1 w2 w3 w4 w5 => (up_f w5).trans (g b2 r w1 w2 w3 w4))) (by omega)
                     | exact cB0 (k _ ((hr.q g).up (by decide)) (by rw [if_neg (by omega), sd, up_e]) (fun b2 r w1 w2 w3 w4 w5 => (up_f w5).trans (g b2 r w1 w2 w3 w4))) (by omega))
            · refine x_ci ?_
              refine x_goto ?_
              refine x_zret (by first | exact bI_01 _ | omega) ?_
              first
                | exact cB0 (k s hr (by rw [if_pos (by omega)]; exact hla) (fun _ _ _ _ _ _ _ => rfl)) (by omega)
                | (have sd : slD way od la = la := by
                     unfold slD
                     rw [if_neg (by omega)]
                   first
                     | exact cB1 (k u (hr.q g) (by rw [if_neg (by omega), sd]; exact (g 107 f (by omega) (by omega) (by omega) (by omega)).trans hla) (fun b2 r w1 w2 w3 w4 _ => g b2 r w1 w2 w3 w4)) (by omega)
                     | exact cB0 (k u (hr.q g) (by rw [if_neg (by omega), sd]; exact (g 107 f (by omega) (by omega) (by omega) (by omega)).trans hla) (fun b2 r w1 w2 w3 w4 _ => g b2 r w1 w2 w3 w4)) (by omega))
                | (have sd : slD way od la = nxN la := by
                     unfold slD
                     rw [if_pos (by omega)]
                   first
                     | exact cB1 (k _ ((hr.q g).up (by decide)) (by rw [if_neg (by omega), sd, up_e]) (fun b2 r w1 w2 w3 w4 w5 => (up_f w5).trans (g b2 r w1 w2 w3 w4))) (by omega)
                     | exact cB0 (k _ ((hr.q g).up (by decide)) (by rw [if_neg (by omega), sd, up_e]) (fun b2 r w1 w2 w3 w4 w5 => (up_f w5).trans (g b2 r w1 w2 w3 w4))) (by omega))
          · refine x_fall ?_
            refine x_iload rfl ?_
            refine x_ci ?_
            refine n_icmp_lt ⟨by omega, by omega⟩ ⟨by omega, by omega⟩ (fun c6 => ?_) (fun c6 => ?_)
            · refine x_ci ?_
              refine x_fall ?_
              refine x_zret (by first | exact bI_01 _ | omega) ?_
              first
                | exact cB0 (k s hr (by rw [if_pos (by omega)]; exact hla) (fun _ _ _ _ _ _ _ => rfl)) (by omega)
                | (have sd : slD way od la = la := by
                     unfold slD
                     rw [if_neg (by omega)]
                   first
                     | exact cB1 (k u (hr.q g) (by rw [if_neg (by omega), sd]; exact (g 107 f (by omega) (by omega) (by omega) (by omega)).trans hla) (fun b2 r w1 w2 w3 w4 _ => g b2 r w1 w2 w3 w4)) (by omega)
                     | exact cB0 (k u (hr.q g) (by rw [if_neg (by omega), sd]; exact (g 107 f (by omega) (by omega) (by omega) (by omega)).trans hla) (fun b2 r w1 w2 w3 w4 _ => g b2 r w1 w2 w3 w4)) (by omega))
                | (have sd : slD way od la = nxN la := by
                     unfold slD
                     rw [if_pos (by omega)]
                   first
                     | exact cB1 (k _ ((hr.q g).up (by decide)) (by rw [if_neg (by omega), sd, up_e]) (fun b2 r w1 w2 w3 w4 w5 => (up_f w5).trans (g b2 r w1 w2 w3 w4))) (by omega)
                     | exact cB0 (k _ ((hr.q g).up (by decide)) (by rw [if_neg (by omega), sd, up_e]) (fun b2 r w1 w2 w3 w4 w5 => (up_f w5).trans (g b2 r w1 w2 w3 w4))) (by omega))
            · refine x_ci ?_
              refine x_goto ?_
              refine x_zret (by first | exact bI_01 _ | omega) ?_
              first
                | exact cB0 (k s hr (by rw [if_pos (by omega)]; exact hla) (fun _ _ _ _ _ _ _ => rfl)) (by omega)
                | (have sd : slD way od la = la := by
                     unfold slD
                     rw [if_neg (by omega)]
                   first
                     | exact cB1 (k u (hr.q g) (by rw [if_neg (by omega), sd]; exact (g 107 f (by omega) (by omega) (by omega) (by omega)).trans hla) (fun b2 r w1 w2 w3 w4 _ => g b2 r w1 w2 w3 w4)) (by omega)
                     | exact cB0 (k u (hr.q g) (by rw [if_neg (by omega), sd]; exact (g 107 f (by omega) (by omega) (by omega) (by omega)).trans hla) (fun b2 r w1 w2 w3 w4 _ => g b2 r w1 w2 w3 w4)) (by omega))
                | (have sd : slD way od la = nxN la := by
                     unfold slD
                     rw [if_pos (by omega)]
                   first
                     | exact cB1 (k _ ((hr.q g).up (by decide)) (by rw [if_neg (by omega), sd, up_e]) (fun b2 r w1 w2 w3 w4 w5 => (up_f w5).trans (g b2 r w1 w2 w3 w4))) (by omega)
                     | exact cB0 (k _ ((hr.q g).up (by decide)) (by rw [if_neg (by omega), sd, up_e]) (fun b2 r w1 w2 w3 w4 w5 => (up_f w5).trans (g b2 r w1 w2 w3 w4))) (by omega))
    · refine x_fall ?_
      refine x_ci ?_
      refine x_zret (by first | exact bI_01 _ | omega) ?_
      first
        | exact cB0 (k s hr (by rw [if_pos (by omega)]; exact hla) (fun _ _ _ _ _ _ _ => rfl)) (by omega)
        | (have sd : slD way od la = la := by
             unfold slD
             rw [if_neg (by omega)]
           first
             | exact cB1 (k u (hr.q g) (by rw [if_neg (by omega), sd]; exact (g 107 f (by omega) (by omega) (by omega) (by omega)).trans hla) (fun b2 r w1 w2 w3 w4 _ => g b2 r w1 w2 w3 w4)) (by omega)
             | exact cB0 (k u (hr.q g) (by rw [if_neg (by omega), sd]; exact (g 107 f (by omega) (by omega) (by omega) (by omega)).trans hla) (fun b2 r w1 w2 w3 w4 _ => g b2 r w1 w2 w3 w4)) (by omega))
        | (have sd : slD way od la = nxN la := by
             unfold slD
             rw [if_pos (by omega)]
           first
             | exact cB1 (k _ ((hr.q g).up (by decide)) (by rw [if_neg (by omega), sd, up_e]) (fun b2 r w1 w2 w3 w4 w5 => (up_f w5).trans (g b2 r w1 w2 w3 w4))) (by omega)
             | exact cB0 (k _ ((hr.q g).up (by decide)) (by rw [if_neg (by omega), sd, up_e]) (fun b2 r w1 w2 w3 w4 w5 => (up_f w5).trans (g b2 r w1 w2 w3 w4))) (by omega))
theorem r_doesSlip0 (hf : 0 ≤ f ∧ f < 23) (h2 : s 112 f = 0) {tw by0 : Int} (htw : s 94 45 = tw) (htr : 0 ≤ tw ∧ tw ≤ 4) (k : Q (some (vI (bI False))) (HP h0 s)) : wpM PP d 127 [vR 94, vI f, vI by0] (HP h0 s) Q := by
  refine n_at (m := 127) (q := mr127) (kn := (0, 3)) [some (vR _), some (vI _), some (vI _), none] mb127 rfl rfl (h_rcv sc_94) (Nat.le_of_ble_eq_true rfl) rfl rfl ?_
  refine x_aload rfl ?_
  refine h_getI 45 sc_94 rfl rfl ?_
  rw [htw]
  refine x_ci ?_
  refine n_icmp_eq ⟨by omega, by omega⟩ ⟨by omega, by omega⟩ (fun c1 => ?_) (fun c1 => ?_)
  · refine x_ci ?_
    refine x_zret (by first | exact bI_01 _ | omega) ?_
    exact cB0 k (fun q => q)
  · refine x_aload rfl ?_
    refine h_getR sc_94 rfl (by omega) ?_
    refine x_iload rfl ?_
    refine h_iald sc_112 ⟨by omega, by omega⟩ (by decide) ?_
    rw [h2]
    refine n_if_ne ⟨by omega, by omega⟩ (fun c2 => ?_) (fun c2 => ?_)
    · exfalso
      omega
    · refine x_fall ?_
      refine x_ci ?_
      refine x_zret (by first | exact bI_01 _ | omega) ?_
      exact cB0 k (fun q => q)
end RJ
