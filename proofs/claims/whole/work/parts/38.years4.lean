/-! YEARS: slips; years that pass -/
section YD
variable {d a tp : Nat} {h0 h : pheap} {s : St} {Q : Option pv → pheap → Prop} {L : Int} {n : Nat} {c c' : Int → Int}
theorem m_doesSlip (hP : isDa a) (hS : isSc tp) (hta : a + 4 < tp ∨ tp + 7 < a) (h69 : a + 4 < 69) (htp : tp + 8 < 69) (hd : 12 ≤ d) (hp : PL (a + 1) L (n + 1) c s) {yr la way slp od : Int} (hy : s a 4 = yr) (hyr : 0 ≤ yr ∧ yr ≤ 100000) (hla : s a 5 = la) (hlr : 0 ≤ la ∧ la < 2147483648) (hway : s 68 1 = way) (hwr : 0 ≤ way ∧ way ≤ 2) (hsl : s tp 5 = slp) (hsr : 0 ≤ slp ∧ slp ≤ 100) {kc lb le : Int → Int} (hw : LWC tp kc lb le s) (ho : okL kc lb le) (hod : od = odN (vLs L n c yr kc lb le) slp) (k : ∀ t, PL (a + 1) L (n + 1) c t → t a 5 = (if way = 2 then la else slD way od la) → (∀ (b : Nat) (r : Int), ¬ (b = a ∧ r = 5) → ¬ b = 69 → ¬ b = tp + 7 → ¬ (b = tp ∧ r = 15) → t b r = s b r) → Q (some (vI (bI (slC way od la)))) (HP h0 t)) : wpM PP d 311 [vR 68, vR tp, vR a] (HP h0 s) Q := by
  have ha := hP.1.1
  have hn := hp.hn
  have hct := cnt_R L
  have odr := odN_R (V := vLs L n c yr kc lb le) hsr
  rw [← hod] at odr
  have hp0 := hp
  have fr0 : ∀ (b : Nat) (r : Int), ¬ (b = a ∧ r = 5) → ¬ b = 69 → ¬ b = tp + 7 → ¬ (b = tp ∧ r = 15) → s b r = s b r := fun _ _ _ _ _ _ => rfl
  refine n_at (m := 311) (q := mr311) (kn := (0, 3)) [some (vR _), some (vR _), some (vR _), none, none, none, none] mb311 rfl rfl (h_rcv sc_68) (Nat.le_of_ble_eq_true rfl) rfl rfl ?_
  refine x_aload rfl ?_
  refine h_getI 1 sc_68 rfl rfl ?_
  rw [hway]
  refine x_ci ?_
  refine n_icmp_ne ⟨by omega, by omega⟩ ⟨by omega, by omega⟩ (fun c1 => ?_) (fun c1 => ?_)
  · refine x_aload rfl ?_
    refine x_aload rfl ?_
    refine x_aload rfl ?_
    refine n_call [vR _, vR _, vR _] [] (by omega) (Nat.le_of_ble_eq_true rfl) rfl rfl (Nat.le_of_ble_eq_true rfl) ?_
    have lv := evS_in (nv := nvE (wO L c n (c n / 2)) (wO L c n (c n / 2 + 1)) (c n) (wB L c (n + 1) (6 * wO L c n (c n / 2) + wO L c n (c n / 2 + 1))) (n + 1) (cnt L) yr) (kc := kc) (b := lb 2) (e := le 2) (by
      have v' := vC_less hp.v (Nat.le_succ n)
      have hx := hp.v n (by omega) (by omega)
      have o1 := wO_R hp.hL v' (c n / 2) (by omega) (by omega)
      have o2 := wO_R hp.hL v' (c n / 2 + 1) (by omega) (by omega)
      have wr := wB_R (L := L) (c := c) (n + 1) (6 * wO L c n (c n / 2) + wO L c n (c n / 2 + 1))
      exact nvE_R ⟨by omega, by omega⟩ ⟨by omega, by omega⟩ (by omega) (by omega) (by omega) (by omega) hyr) (ho 2 (by omega) (by omega))
    refine m_worthLast hP hS hta h69 htp (by omega) hp hy hyr hw ho (fun t t1 => ?_)
    rw [show lawV _ kc (lb 2) (le 2) = vLs L n c yr kc lb le from rfl] at *
    obtain ⟨V, hV⟩ : ∃ V, V = vLs L n c yr kc lb le := ⟨_, rfl⟩
    rw [← hV] at lv hod
    rw [← hV]
    show wp PP _ _ _ [some (vR _), some (vR _), some (vR _), _, _, _, _] [vL _] _ _
    refine n_lstore [some (vR _), some (vR _), some (vR _), some (vL _), _, _, _] (Nat.le_of_ble_eq_true rfl) rfl ?_
    refine x_lload rfl ?_
    refine x_cl ?_
    refine n_lif_ne ⟨by omega, by omega⟩ ⟨by omega, by omega⟩ (fun c2 => ?_) (fun c2 => ?_)
    · refine x_lload rfl ?_
      refine x_cl ?_
      refine x_cl ?_
      refine n_call [vL _, vL _, vL _] [] (by omega) (Nat.le_of_ble_eq_true rfl) rfl rfl (Nat.le_of_ble_eq_true rfl) ?_
      refine m_within (by omega) ⟨by omega, by omega⟩ ⟨by omega, by omega⟩ ⟨by omega, by omega⟩ ?_
      show wp PP _ _ _ [some (vR _), some (vR _), some (vR _), some (vL _), _, _, _] [vL _] _ _
      refine x_fall ?_
      refine t_L od ?_ ?_
      · rw [hod]
        unfold odN
        first
          | rw [if_pos (by omega)]
          | rw [if_neg (by omega)]
      refine n_lstore [some (vR _), some (vR _), some (vR _), some (vL _), _, some (vL _), _] (Nat.le_of_ble_eq_true rfl) rfl ?_
      refine x_aload rfl ?_
      refine h_getI 1 sc_68 rfl rfl ?_
      rw [(t1 68 1 (by omega) (by omega) (by omega)).trans hway]
      refine x_ci ?_
      refine n_icmp_ne ⟨by omega, by omega⟩ ⟨by omega, by omega⟩ (fun c3 => ?_) (fun c3 => ?_)
      · refine x_lload rfl ?_
        refine x_cl ?_
        refine n_lif_le ⟨by omega, by omega⟩ ⟨by omega, by omega⟩ (fun c4 => ?_) (fun c4 => ?_)
        · refine x_lload rfl ?_
          refine x_cl ?_
          refine n_lif_lt ⟨by omega, by omega⟩ ⟨by omega, by omega⟩ (fun c5 => ?_) (fun c5 => ?_)
          · refine x_ci ?_
            refine x_fall ?_
            refine x_zret (by first | exact bI_01 _ | omega) ?_
            first
              | exact cB0 (k s hp0 (by rw [if_pos (by omega)]; exact hla) fr0) (by omega)
              | (have sd : slD way od la = la := by
                   unfold slD
                   rw [if_neg (by omega)]
                 first
                   | exact cB1 (k t (hp.y t1 (by omega) (by omega)) (by rw [if_neg (by omega), sd]; exact (t1 a 5 (by omega) (by omega) (by omega)).trans hla) (fun b2 r2 w0 w1 w2 w3 => t1 b2 r2 w1 w2 w3)) (by omega)
                   | exact cB0 (k t (hp.y t1 (by omega) (by omega)) (by rw [if_neg (by omega), sd]; exact (t1 a 5 (by omega) (by omega) (by omega)).trans hla) (fun b2 r2 w0 w1 w2 w3 => t1 b2 r2 w1 w2 w3)) (by omega))
              | (have sd : slD way od la = nxN la := by
                   unfold slD
                   rw [if_pos (by omega)]
                 first
                   | exact cB1 (k _ (PLup0 (hp.y t1 (by omega) (by omega))) (by rw [if_neg (by omega), sd, up_e]) (fun b2 r2 w0 w1 w2 w3 => (up_f w0).trans (t1 b2 r2 w1 w2 w3))) (by omega)
                   | exact cB0 (k _ (PLup0 (hp.y t1 (by omega) (by omega))) (by rw [if_neg (by omega), sd, up_e]) (fun b2 r2 w0 w1 w2 w3 => (up_f w0).trans (t1 b2 r2 w1 w2 w3))) (by omega))
          · refine x_ci ?_
            refine x_goto ?_
            refine x_zret (by first | exact bI_01 _ | omega) ?_
            first
              | exact cB0 (k s hp0 (by rw [if_pos (by omega)]; exact hla) fr0) (by omega)
              | (have sd : slD way od la = la := by
                   unfold slD
                   rw [if_neg (by omega)]
                 first
                   | exact cB1 (k t (hp.y t1 (by omega) (by omega)) (by rw [if_neg (by omega), sd]; exact (t1 a 5 (by omega) (by omega) (by omega)).trans hla) (fun b2 r2 w0 w1 w2 w3 => t1 b2 r2 w1 w2 w3)) (by omega)
                   | exact cB0 (k t (hp.y t1 (by omega) (by omega)) (by rw [if_neg (by omega), sd]; exact (t1 a 5 (by omega) (by omega) (by omega)).trans hla) (fun b2 r2 w0 w1 w2 w3 => t1 b2 r2 w1 w2 w3)) (by omega))
              | (have sd : slD way od la = nxN la := by
                   unfold slD
                   rw [if_pos (by omega)]
                 first
                   | exact cB1 (k _ (PLup0 (hp.y t1 (by omega) (by omega))) (by rw [if_neg (by omega), sd, up_e]) (fun b2 r2 w0 w1 w2 w3 => (up_f w0).trans (t1 b2 r2 w1 w2 w3))) (by omega)
                   | exact cB0 (k _ (PLup0 (hp.y t1 (by omega) (by omega))) (by rw [if_neg (by omega), sd, up_e]) (fun b2 r2 w0 w1 w2 w3 => (up_f w0).trans (t1 b2 r2 w1 w2 w3))) (by omega))
        · refine x_lload rfl ?_
          refine x_cl ?_
          refine n_lif_lt ⟨by omega, by omega⟩ ⟨by omega, by omega⟩ (fun c5 => ?_) (fun c5 => ?_)
          · refine x_aload rfl ?_
            refine x_aload rfl ?_
            refine h_getL 5 hP.1 rfl rfl ?_
            rw [(t1 a 5 (by omega) (by omega) (by omega)).trans hla]
            refine n_call [vL _] [vR _] (by omega) (Nat.le_of_ble_eq_true rfl) rfl rfl (Nat.le_of_ble_eq_true rfl) ?_
            refine m_next hlr ?_
            have nr := nxN_R la
            show wp PP _ _ _ [some (vR _), some (vR _), some (vR _), some (vL _), _, some (vL _), _] [vL _, vR _] _ _
            refine h_putL 5 hP.1 rfl rfl ?_
            refine x_aload rfl ?_
            refine h_getL 5 hP.1 rfl rfl ?_
            rw [up_e]
            refine n_call [vL _] [] (by omega) (Nat.le_of_ble_eq_true rfl) rfl rfl (Nat.le_of_ble_eq_true rfl) ?_
            refine m_shown nr ?_
            show wp PP _ _ _ [some (vR _), some (vR _), some (vR _), some (vL _), _, some (vL _), _] [vI _] _ _
            refine x_ci ?_
            refine n_irem ⟨by omega, by omega⟩ ⟨by omega, by omega⟩ ?_
            refine n_i2l ⟨by omega, by omega⟩ ?_
            refine x_lload rfl ?_
            refine n_lif_ge ⟨by omega, by omega⟩ ⟨by omega, by omega⟩ (fun c6 => ?_) (fun c6 => ?_)
            · refine x_ci ?_
              refine x_fall ?_
              refine x_zret (by first | exact bI_01 _ | omega) ?_
              first
                | exact cB0 (k s hp0 (by rw [if_pos (by omega)]; exact hla) fr0) (by omega)
                | (have sd : slD way od la = la := by
                     unfold slD
                     rw [if_neg (by omega)]
                   first
                     | exact cB1 (k t (hp.y t1 (by omega) (by omega)) (by rw [if_neg (by omega), sd]; exact (t1 a 5 (by omega) (by omega) (by omega)).trans hla) (fun b2 r2 w0 w1 w2 w3 => t1 b2 r2 w1 w2 w3)) (by omega)
                     | exact cB0 (k t (hp.y t1 (by omega) (by omega)) (by rw [if_neg (by omega), sd]; exact (t1 a 5 (by omega) (by omega) (by omega)).trans hla) (fun b2 r2 w0 w1 w2 w3 => t1 b2 r2 w1 w2 w3)) (by omega))
                | (have sd : slD way od la = nxN la := by
                     unfold slD
                     rw [if_pos (by omega)]
                   first
                     | exact cB1 (k _ (PLup0 (hp.y t1 (by omega) (by omega))) (by rw [if_neg (by omega), sd, up_e]) (fun b2 r2 w0 w1 w2 w3 => (up_f w0).trans (t1 b2 r2 w1 w2 w3))) (by omega)
                     | exact cB0 (k _ (PLup0 (hp.y t1 (by omega) (by omega))) (by rw [if_neg (by omega), sd, up_e]) (fun b2 r2 w0 w1 w2 w3 => (up_f w0).trans (t1 b2 r2 w1 w2 w3))) (by omega))
            · refine x_ci ?_
              refine x_goto ?_
              refine x_zret (by first | exact bI_01 _ | omega) ?_
              first
                | exact cB0 (k s hp0 (by rw [if_pos (by omega)]; exact hla) fr0) (by omega)
                | (have sd : slD way od la = la := by
                     unfold slD
                     rw [if_neg (by omega)]
                   first
                     | exact cB1 (k t (hp.y t1 (by omega) (by omega)) (by rw [if_neg (by omega), sd]; exact (t1 a 5 (by omega) (by omega) (by omega)).trans hla) (fun b2 r2 w0 w1 w2 w3 => t1 b2 r2 w1 w2 w3)) (by omega)
                     | exact cB0 (k t (hp.y t1 (by omega) (by omega)) (by rw [if_neg (by omega), sd]; exact (t1 a 5 (by omega) (by omega) (by omega)).trans hla) (fun b2 r2 w0 w1 w2 w3 => t1 b2 r2 w1 w2 w3)) (by omega))
                | (have sd : slD way od la = nxN la := by
                     unfold slD
                     rw [if_pos (by omega)]
                   first
                     | exact cB1 (k _ (PLup0 (hp.y t1 (by omega) (by omega))) (by rw [if_neg (by omega), sd, up_e]) (fun b2 r2 w0 w1 w2 w3 => (up_f w0).trans (t1 b2 r2 w1 w2 w3))) (by omega)
                     | exact cB0 (k _ (PLup0 (hp.y t1 (by omega) (by omega))) (by rw [if_neg (by omega), sd, up_e]) (fun b2 r2 w0 w1 w2 w3 => (up_f w0).trans (t1 b2 r2 w1 w2 w3))) (by omega))
          · refine x_fall ?_
            refine x_lload rfl ?_
            refine x_cl ?_
            refine n_lif_lt ⟨by omega, by omega⟩ ⟨by omega, by omega⟩ (fun c6 => ?_) (fun c6 => ?_)
            · refine x_ci ?_
              refine x_fall ?_
              refine x_zret (by first | exact bI_01 _ | omega) ?_
              first
                | exact cB0 (k s hp0 (by rw [if_pos (by omega)]; exact hla) fr0) (by omega)
                | (have sd : slD way od la = la := by
                     unfold slD
                     rw [if_neg (by omega)]
                   first
                     | exact cB1 (k t (hp.y t1 (by omega) (by omega)) (by rw [if_neg (by omega), sd]; exact (t1 a 5 (by omega) (by omega) (by omega)).trans hla) (fun b2 r2 w0 w1 w2 w3 => t1 b2 r2 w1 w2 w3)) (by omega)
                     | exact cB0 (k t (hp.y t1 (by omega) (by omega)) (by rw [if_neg (by omega), sd]; exact (t1 a 5 (by omega) (by omega) (by omega)).trans hla) (fun b2 r2 w0 w1 w2 w3 => t1 b2 r2 w1 w2 w3)) (by omega))
                | (have sd : slD way od la = nxN la := by
                     unfold slD
                     rw [if_pos (by omega)]
                   first
                     | exact cB1 (k _ (PLup0 (hp.y t1 (by omega) (by omega))) (by rw [if_neg (by omega), sd, up_e]) (fun b2 r2 w0 w1 w2 w3 => (up_f w0).trans (t1 b2 r2 w1 w2 w3))) (by omega)
                     | exact cB0 (k _ (PLup0 (hp.y t1 (by omega) (by omega))) (by rw [if_neg (by omega), sd, up_e]) (fun b2 r2 w0 w1 w2 w3 => (up_f w0).trans (t1 b2 r2 w1 w2 w3))) (by omega))
            · refine x_ci ?_
              refine x_goto ?_
              refine x_zret (by first | exact bI_01 _ | omega) ?_
              first
                | exact cB0 (k s hp0 (by rw [if_pos (by omega)]; exact hla) fr0) (by omega)
                | (have sd : slD way od la = la := by
                     unfold slD
                     rw [if_neg (by omega)]
                   first
                     | exact cB1 (k t (hp.y t1 (by omega) (by omega)) (by rw [if_neg (by omega), sd]; exact (t1 a 5 (by omega) (by omega) (by omega)).trans hla) (fun b2 r2 w0 w1 w2 w3 => t1 b2 r2 w1 w2 w3)) (by omega)
                     | exact cB0 (k t (hp.y t1 (by omega) (by omega)) (by rw [if_neg (by omega), sd]; exact (t1 a 5 (by omega) (by omega) (by omega)).trans hla) (fun b2 r2 w0 w1 w2 w3 => t1 b2 r2 w1 w2 w3)) (by omega))
                | (have sd : slD way od la = nxN la := by
                     unfold slD
                     rw [if_pos (by omega)]
                   first
                     | exact cB1 (k _ (PLup0 (hp.y t1 (by omega) (by omega))) (by rw [if_neg (by omega), sd, up_e]) (fun b2 r2 w0 w1 w2 w3 => (up_f w0).trans (t1 b2 r2 w1 w2 w3))) (by omega)
                     | exact cB0 (k _ (PLup0 (hp.y t1 (by omega) (by omega))) (by rw [if_neg (by omega), sd, up_e]) (fun b2 r2 w0 w1 w2 w3 => (up_f w0).trans (t1 b2 r2 w1 w2 w3))) (by omega))
      · refine x_lload rfl ?_
        refine x_cl ?_
        refine n_lif_lt ⟨by omega, by omega⟩ ⟨by omega, by omega⟩ (fun c4 => ?_) (fun c4 => ?_)
        · refine x_ci ?_
          refine x_fall ?_
          refine x_zret (by first | exact bI_01 _ | omega) ?_
          first
            | exact cB0 (k s hp0 (by rw [if_pos (by omega)]; exact hla) fr0) (by omega)
            | (have sd : slD way od la = la := by
                 unfold slD
                 rw [if_neg (by omega)]
               first
                 | exact cB1 (k t (hp.y t1 (by omega) (by omega)) (by rw [if_neg (by omega), sd]; exact (t1 a 5 (by omega) (by omega) (by omega)).trans hla) (fun b2 r2 w0 w1 w2 w3 => t1 b2 r2 w1 w2 w3)) (by omega)
                 | exact cB0 (k t (hp.y t1 (by omega) (by omega)) (by rw [if_neg (by omega), sd]; exact (t1 a 5 (by omega) (by omega) (by omega)).trans hla) (fun b2 r2 w0 w1 w2 w3 => t1 b2 r2 w1 w2 w3)) (by omega))
            | (have sd : slD way od la = nxN la := by
                 unfold slD
                 rw [if_pos (by omega)]
               first
                 | exact cB1 (k _ (PLup0 (hp.y t1 (by omega) (by omega))) (by rw [if_neg (by omega), sd, up_e]) (fun b2 r2 w0 w1 w2 w3 => (up_f w0).trans (t1 b2 r2 w1 w2 w3))) (by omega)
                 | exact cB0 (k _ (PLup0 (hp.y t1 (by omega) (by omega))) (by rw [if_neg (by omega), sd, up_e]) (fun b2 r2 w0 w1 w2 w3 => (up_f w0).trans (t1 b2 r2 w1 w2 w3))) (by omega))
        · refine x_ci ?_
          refine x_goto ?_
          refine x_zret (by first | exact bI_01 _ | omega) ?_
          first
            | exact cB0 (k s hp0 (by rw [if_pos (by omega)]; exact hla) fr0) (by omega)
            | (have sd : slD way od la = la := by
                 unfold slD
                 rw [if_neg (by omega)]
               first
                 | exact cB1 (k t (hp.y t1 (by omega) (by omega)) (by rw [if_neg (by omega), sd]; exact (t1 a 5 (by omega) (by omega) (by omega)).trans hla) (fun b2 r2 w0 w1 w2 w3 => t1 b2 r2 w1 w2 w3)) (by omega)
                 | exact cB0 (k t (hp.y t1 (by omega) (by omega)) (by rw [if_neg (by omega), sd]; exact (t1 a 5 (by omega) (by omega) (by omega)).trans hla) (fun b2 r2 w0 w1 w2 w3 => t1 b2 r2 w1 w2 w3)) (by omega))
            | (have sd : slD way od la = nxN la := by
                 unfold slD
                 rw [if_pos (by omega)]
               first
                 | exact cB1 (k _ (PLup0 (hp.y t1 (by omega) (by omega))) (by rw [if_neg (by omega), sd, up_e]) (fun b2 r2 w0 w1 w2 w3 => (up_f w0).trans (t1 b2 r2 w1 w2 w3))) (by omega)
                 | exact cB0 (k _ (PLup0 (hp.y t1 (by omega) (by omega))) (by rw [if_neg (by omega), sd, up_e]) (fun b2 r2 w0 w1 w2 w3 => (up_f w0).trans (t1 b2 r2 w1 w2 w3))) (by omega))
    · refine x_aload rfl ?_
      refine h_getI 5 hS.1 rfl rfl ?_
      rw [(t1 tp 5 (by omega) (by omega) (by omega)).trans hsl]
      refine n_i2l ⟨by omega, by omega⟩ ?_
      refine x_goto ?_
      refine t_L od ?_ ?_
      · rw [hod]
        unfold odN
        first
          | rw [if_pos (by omega)]
          | rw [if_neg (by omega)]
      refine n_lstore [some (vR _), some (vR _), some (vR _), some (vL _), _, some (vL _), _] (Nat.le_of_ble_eq_true rfl) rfl ?_
      refine x_aload rfl ?_
      refine h_getI 1 sc_68 rfl rfl ?_
      rw [(t1 68 1 (by omega) (by omega) (by omega)).trans hway]
      refine x_ci ?_
      refine n_icmp_ne ⟨by omega, by omega⟩ ⟨by omega, by omega⟩ (fun c3 => ?_) (fun c3 => ?_)
      · refine x_lload rfl ?_
        refine x_cl ?_
        refine n_lif_le ⟨by omega, by omega⟩ ⟨by omega, by omega⟩ (fun c4 => ?_) (fun c4 => ?_)
        · refine x_lload rfl ?_
          refine x_cl ?_
          refine n_lif_lt ⟨by omega, by omega⟩ ⟨by omega, by omega⟩ (fun c5 => ?_) (fun c5 => ?_)
          · refine x_ci ?_
            refine x_fall ?_
            refine x_zret (by first | exact bI_01 _ | omega) ?_
            first
              | exact cB0 (k s hp0 (by rw [if_pos (by omega)]; exact hla) fr0) (by omega)
              | (have sd : slD way od la = la := by
                   unfold slD
                   rw [if_neg (by omega)]
                 first
                   | exact cB1 (k t (hp.y t1 (by omega) (by omega)) (by rw [if_neg (by omega), sd]; exact (t1 a 5 (by omega) (by omega) (by omega)).trans hla) (fun b2 r2 w0 w1 w2 w3 => t1 b2 r2 w1 w2 w3)) (by omega)
                   | exact cB0 (k t (hp.y t1 (by omega) (by omega)) (by rw [if_neg (by omega), sd]; exact (t1 a 5 (by omega) (by omega) (by omega)).trans hla) (fun b2 r2 w0 w1 w2 w3 => t1 b2 r2 w1 w2 w3)) (by omega))
              | (have sd : slD way od la = nxN la := by
                   unfold slD
                   rw [if_pos (by omega)]
                 first
                   | exact cB1 (k _ (PLup0 (hp.y t1 (by omega) (by omega))) (by rw [if_neg (by omega), sd, up_e]) (fun b2 r2 w0 w1 w2 w3 => (up_f w0).trans (t1 b2 r2 w1 w2 w3))) (by omega)
                   | exact cB0 (k _ (PLup0 (hp.y t1 (by omega) (by omega))) (by rw [if_neg (by omega), sd, up_e]) (fun b2 r2 w0 w1 w2 w3 => (up_f w0).trans (t1 b2 r2 w1 w2 w3))) (by omega))
          · refine x_ci ?_
            refine x_goto ?_
            refine x_zret (by first | exact bI_01 _ | omega) ?_
            first
              | exact cB0 (k s hp0 (by rw [if_pos (by omega)]; exact hla) fr0) (by omega)
              | (have sd : slD way od la = la := by
                   unfold slD
                   rw [if_neg (by omega)]
                 first
                   | exact cB1 (k t (hp.y t1 (by omega) (by omega)) (by rw [if_neg (by omega), sd]; exact (t1 a 5 (by omega) (by omega) (by omega)).trans hla) (fun b2 r2 w0 w1 w2 w3 => t1 b2 r2 w1 w2 w3)) (by omega)
                   | exact cB0 (k t (hp.y t1 (by omega) (by omega)) (by rw [if_neg (by omega), sd]; exact (t1 a 5 (by omega) (by omega) (by omega)).trans hla) (fun b2 r2 w0 w1 w2 w3 => t1 b2 r2 w1 w2 w3)) (by omega))
              | (have sd : slD way od la = nxN la := by
                   unfold slD
                   rw [if_pos (by omega)]
                 first
                   | exact cB1 (k _ (PLup0 (hp.y t1 (by omega) (by omega))) (by rw [if_neg (by omega), sd, up_e]) (fun b2 r2 w0 w1 w2 w3 => (up_f w0).trans (t1 b2 r2 w1 w2 w3))) (by omega)
                   | exact cB0 (k _ (PLup0 (hp.y t1 (by omega) (by omega))) (by rw [if_neg (by omega), sd, up_e]) (fun b2 r2 w0 w1 w2 w3 => (up_f w0).trans (t1 b2 r2 w1 w2 w3))) (by omega))
        · refine x_lload rfl ?_
          refine x_cl ?_
          refine n_lif_lt ⟨by omega, by omega⟩ ⟨by omega, by omega⟩ (fun c5 => ?_) (fun c5 => ?_)
          · refine x_aload rfl ?_
            refine x_aload rfl ?_
            refine h_getL 5 hP.1 rfl rfl ?_
            rw [(t1 a 5 (by omega) (by omega) (by omega)).trans hla]
            refine n_call [vL _] [vR _] (by omega) (Nat.le_of_ble_eq_true rfl) rfl rfl (Nat.le_of_ble_eq_true rfl) ?_
            refine m_next hlr ?_
            have nr := nxN_R la
            show wp PP _ _ _ [some (vR _), some (vR _), some (vR _), some (vL _), _, some (vL _), _] [vL _, vR _] _ _
            refine h_putL 5 hP.1 rfl rfl ?_
            refine x_aload rfl ?_
            refine h_getL 5 hP.1 rfl rfl ?_
            rw [up_e]
            refine n_call [vL _] [] (by omega) (Nat.le_of_ble_eq_true rfl) rfl rfl (Nat.le_of_ble_eq_true rfl) ?_
            refine m_shown nr ?_
            show wp PP _ _ _ [some (vR _), some (vR _), some (vR _), some (vL _), _, some (vL _), _] [vI _] _ _
            refine x_ci ?_
            refine n_irem ⟨by omega, by omega⟩ ⟨by omega, by omega⟩ ?_
            refine n_i2l ⟨by omega, by omega⟩ ?_
            refine x_lload rfl ?_
            refine n_lif_ge ⟨by omega, by omega⟩ ⟨by omega, by omega⟩ (fun c6 => ?_) (fun c6 => ?_)
            · refine x_ci ?_
              refine x_fall ?_
              refine x_zret (by first | exact bI_01 _ | omega) ?_
              first
                | exact cB0 (k s hp0 (by rw [if_pos (by omega)]; exact hla) fr0) (by omega)
                | (have sd : slD way od la = la := by
                     unfold slD
                     rw [if_neg (by omega)]
                   first
                     | exact cB1 (k t (hp.y t1 (by omega) (by omega)) (by rw [if_neg (by omega), sd]; exact (t1 a 5 (by omega) (by omega) (by omega)).trans hla) (fun b2 r2 w0 w1 w2 w3 => t1 b2 r2 w1 w2 w3)) (by omega)
                     | exact cB0 (k t (hp.y t1 (by omega) (by omega)) (by rw [if_neg (by omega), sd]; exact (t1 a 5 (by omega) (by omega) (by omega)).trans hla) (fun b2 r2 w0 w1 w2 w3 => t1 b2 r2 w1 w2 w3)) (by omega))
                | (have sd : slD way od la = nxN la := by
                     unfold slD
                     rw [if_pos (by omega)]
                   first
                     | exact cB1 (k _ (PLup0 (hp.y t1 (by omega) (by omega))) (by rw [if_neg (by omega), sd, up_e]) (fun b2 r2 w0 w1 w2 w3 => (up_f w0).trans (t1 b2 r2 w1 w2 w3))) (by omega)
                     | exact cB0 (k _ (PLup0 (hp.y t1 (by omega) (by omega))) (by rw [if_neg (by omega), sd, up_e]) (fun b2 r2 w0 w1 w2 w3 => (up_f w0).trans (t1 b2 r2 w1 w2 w3))) (by omega))
            · refine x_ci ?_
              refine x_goto ?_
              refine x_zret (by first | exact bI_01 _ | omega) ?_
              first
                | exact cB0 (k s hp0 (by rw [if_pos (by omega)]; exact hla) fr0) (by omega)
                | (have sd : slD way od la = la := by
                     unfold slD
                     rw [if_neg (by omega)]
                   first
                     | exact cB1 (k t (hp.y t1 (by omega) (by omega)) (by rw [if_neg (by omega), sd]; exact (t1 a 5 (by omega) (by omega) (by omega)).trans hla) (fun b2 r2 w0 w1 w2 w3 => t1 b2 r2 w1 w2 w3)) (by omega)
                     | exact cB0 (k t (hp.y t1 (by omega) (by omega)) (by rw [if_neg (by omega), sd]; exact (t1 a 5 (by omega) (by omega) (by omega)).trans hla) (fun b2 r2 w0 w1 w2 w3 => t1 b2 r2 w1 w2 w3)) (by omega))
                | (have sd : slD way od la = nxN la := by
                     unfold slD
                     rw [if_pos (by omega)]
                   first
                     | exact cB1 (k _ (PLup0 (hp.y t1 (by omega) (by omega))) (by rw [if_neg (by omega), sd, up_e]) (fun b2 r2 w0 w1 w2 w3 => (up_f w0).trans (t1 b2 r2 w1 w2 w3))) (by omega)
                     | exact cB0 (k _ (PLup0 (hp.y t1 (by omega) (by omega))) (by rw [if_neg (by omega), sd, up_e]) (fun b2 r2 w0 w1 w2 w3 => (up_f w0).trans (t1 b2 r2 w1 w2 w3))) (by omega))
          · refine x_fall ?_
            refine x_lload rfl ?_
            refine x_cl ?_
            refine n_lif_lt ⟨by omega, by omega⟩ ⟨by omega, by omega⟩ (fun c6 => ?_) (fun c6 => ?_)
            · refine x_ci ?_
              refine x_fall ?_
              refine x_zret (by first | exact bI_01 _ | omega) ?_
              first
                | exact cB0 (k s hp0 (by rw [if_pos (by omega)]; exact hla) fr0) (by omega)
                | (have sd : slD way od la = la := by
                     unfold slD
                     rw [if_neg (by omega)]
                   first
                     | exact cB1 (k t (hp.y t1 (by omega) (by omega)) (by rw [if_neg (by omega), sd]; exact (t1 a 5 (by omega) (by omega) (by omega)).trans hla) (fun b2 r2 w0 w1 w2 w3 => t1 b2 r2 w1 w2 w3)) (by omega)
                     | exact cB0 (k t (hp.y t1 (by omega) (by omega)) (by rw [if_neg (by omega), sd]; exact (t1 a 5 (by omega) (by omega) (by omega)).trans hla) (fun b2 r2 w0 w1 w2 w3 => t1 b2 r2 w1 w2 w3)) (by omega))
                | (have sd : slD way od la = nxN la := by
                     unfold slD
                     rw [if_pos (by omega)]
                   first
                     | exact cB1 (k _ (PLup0 (hp.y t1 (by omega) (by omega))) (by rw [if_neg (by omega), sd, up_e]) (fun b2 r2 w0 w1 w2 w3 => (up_f w0).trans (t1 b2 r2 w1 w2 w3))) (by omega)
                     | exact cB0 (k _ (PLup0 (hp.y t1 (by omega) (by omega))) (by rw [if_neg (by omega), sd, up_e]) (fun b2 r2 w0 w1 w2 w3 => (up_f w0).trans (t1 b2 r2 w1 w2 w3))) (by omega))
            · refine x_ci ?_
              refine x_goto ?_
              refine x_zret (by first | exact bI_01 _ | omega) ?_
              first
                | exact cB0 (k s hp0 (by rw [if_pos (by omega)]; exact hla) fr0) (by omega)
                | (have sd : slD way od la = la := by
                     unfold slD
                     rw [if_neg (by omega)]
                   first
                     | exact cB1 (k t (hp.y t1 (by omega) (by omega)) (by rw [if_neg (by omega), sd]; exact (t1 a 5 (by omega) (by omega) (by omega)).trans hla) (fun b2 r2 w0 w1 w2 w3 => t1 b2 r2 w1 w2 w3)) (by omega)
                     | exact cB0 (k t (hp.y t1 (by omega) (by omega)) (by rw [if_neg (by omega), sd]; exact (t1 a 5 (by omega) (by omega) (by omega)).trans hla) (fun b2 r2 w0 w1 w2 w3 => t1 b2 r2 w1 w2 w3)) (by omega))
                | (have sd : slD way od la = nxN la := by
                     unfold slD
                     rw [if_pos (by omega)]
                   first
                     | exact cB1 (k _ (PLup0 (hp.y t1 (by omega) (by omega))) (by rw [if_neg (by omega), sd, up_e]) (fun b2 r2 w0 w1 w2 w3 => (up_f w0).trans (t1 b2 r2 w1 w2 w3))) (by omega)
                     | exact cB0 (k _ (PLup0 (hp.y t1 (by omega) (by omega))) (by rw [if_neg (by omega), sd, up_e]) (fun b2 r2 w0 w1 w2 w3 => (up_f w0).trans (t1 b2 r2 w1 w2 w3))) (by omega))
      · refine x_lload rfl ?_
        refine x_cl ?_
        refine n_lif_lt ⟨by omega, by omega⟩ ⟨by omega, by omega⟩ (fun c4 => ?_) (fun c4 => ?_)
        · refine x_ci ?_
          refine x_fall ?_
          refine x_zret (by first | exact bI_01 _ | omega) ?_
          first
            | exact cB0 (k s hp0 (by rw [if_pos (by omega)]; exact hla) fr0) (by omega)
            | (have sd : slD way od la = la := by
                 unfold slD
                 rw [if_neg (by omega)]
               first
                 | exact cB1 (k t (hp.y t1 (by omega) (by omega)) (by rw [if_neg (by omega), sd]; exact (t1 a 5 (by omega) (by omega) (by omega)).trans hla) (fun b2 r2 w0 w1 w2 w3 => t1 b2 r2 w1 w2 w3)) (by omega)
                 | exact cB0 (k t (hp.y t1 (by omega) (by omega)) (by rw [if_neg (by omega), sd]; exact (t1 a 5 (by omega) (by omega) (by omega)).trans hla) (fun b2 r2 w0 w1 w2 w3 => t1 b2 r2 w1 w2 w3)) (by omega))
            | (have sd : slD way od la = nxN la := by
                 unfold slD
                 rw [if_pos (by omega)]
               first
                 | exact cB1 (k _ (PLup0 (hp.y t1 (by omega) (by omega))) (by rw [if_neg (by omega), sd, up_e]) (fun b2 r2 w0 w1 w2 w3 => (up_f w0).trans (t1 b2 r2 w1 w2 w3))) (by omega)
                 | exact cB0 (k _ (PLup0 (hp.y t1 (by omega) (by omega))) (by rw [if_neg (by omega), sd, up_e]) (fun b2 r2 w0 w1 w2 w3 => (up_f w0).trans (t1 b2 r2 w1 w2 w3))) (by omega))
        · refine x_ci ?_
          refine x_goto ?_
          refine x_zret (by first | exact bI_01 _ | omega) ?_
          first
            | exact cB0 (k s hp0 (by rw [if_pos (by omega)]; exact hla) fr0) (by omega)
            | (have sd : slD way od la = la := by
                 unfold slD
                 rw [if_neg (by omega)]
               first
                 | exact cB1 (k t (hp.y t1 (by omega) (by omega)) (by rw [if_neg (by omega), sd]; exact (t1 a 5 (by omega) (by omega) (by omega)).trans hla) (fun b2 r2 w0 w1 w2 w3 => t1 b2 r2 w1 w2 w3)) (by omega)
                 | exact cB0 (k t (hp.y t1 (by omega) (by omega)) (by rw [if_neg (by omega), sd]; exact (t1 a 5 (by omega) (by omega) (by omega)).trans hla) (fun b2 r2 w0 w1 w2 w3 => t1 b2 r2 w1 w2 w3)) (by omega))
            | (have sd : slD way od la = nxN la := by
                 unfold slD
                 rw [if_pos (by omega)]
               first
                 | exact cB1 (k _ (PLup0 (hp.y t1 (by omega) (by omega))) (by rw [if_neg (by omega), sd, up_e]) (fun b2 r2 w0 w1 w2 w3 => (up_f w0).trans (t1 b2 r2 w1 w2 w3))) (by omega)
                 | exact cB0 (k _ (PLup0 (hp.y t1 (by omega) (by omega))) (by rw [if_neg (by omega), sd, up_e]) (fun b2 r2 w0 w1 w2 w3 => (up_f w0).trans (t1 b2 r2 w1 w2 w3))) (by omega))
  · refine x_ci ?_
    refine x_zret (by first | exact bI_01 _ | omega) ?_
    first
      | exact cB0 (k s hp0 (by rw [if_pos (by omega)]; exact hla) fr0) (by omega)
      | (have sd : slD way od la = la := by
           unfold slD
           rw [if_neg (by omega)]
         first
           | exact cB1 (k t (hp.y t1 (by omega) (by omega)) (by rw [if_neg (by omega), sd]; exact (t1 a 5 (by omega) (by omega) (by omega)).trans hla) (fun b2 r2 w0 w1 w2 w3 => t1 b2 r2 w1 w2 w3)) (by omega)
           | exact cB0 (k t (hp.y t1 (by omega) (by omega)) (by rw [if_neg (by omega), sd]; exact (t1 a 5 (by omega) (by omega) (by omega)).trans hla) (fun b2 r2 w0 w1 w2 w3 => t1 b2 r2 w1 w2 w3)) (by omega))
      | (have sd : slD way od la = nxN la := by
           unfold slD
           rw [if_pos (by omega)]
         first
           | exact cB1 (k _ (PLup0 (hp.y t1 (by omega) (by omega))) (by rw [if_neg (by omega), sd, up_e]) (fun b2 r2 w0 w1 w2 w3 => (up_f w0).trans (t1 b2 r2 w1 w2 w3))) (by omega)
           | exact cB0 (k _ (PLup0 (hp.y t1 (by omega) (by omega))) (by rw [if_neg (by omega), sd, up_e]) (fun b2 r2 w0 w1 w2 w3 => (up_f w0).trans (t1 b2 r2 w1 w2 w3))) (by omega))
end YD
