/-! THE REFERENCE'S YEARS: a year passes, years ahead -/
section RK
variable {d : Nat} {h0 h : pheap} {s : St} {Q : Option pv → pheap → Prop} {L f : Int} {n : Nat} {c c' : Int → Int}
/-- the reference's dance f, as it is told to the years -/
def RS (f L : Int) (Y : YS) (t : St) : Prop := RD f L Y.1.2.2.1 Y.1.2.2.2 t ∧ t 110 f = Y.1.1 ∧ t 108 f = Y.1.2.1 ∧ t 109 f = Y.2.1 ∧ t 106 f = Y.2.2.1 ∧ t 107 f = Y.2.2.2
def TLN (K : Nat) (ty tc : Int → Int) (s : St) : Prop := s 96 1 = K ∧ K ≤ 24 ∧ ∀ i : Int, 0 ≤ i → i < K → s 98 i = ty i ∧ s 99 i = tc i ∧ 0 ≤ tc i ∧ tc i < 10 ∧ 0 ≤ ty i ∧ ty i ≤ 99
theorem RDupn {x : Int} (hr : RD f L (n + 1) c s) : RD f L n c (up s 112 f x) ↔ x = n := by
  obtain ⟨hL, hn, hv, r1, r2, r3⟩ := hr
  constructor
  · intro h
    have := h.2.2.2.2.1
    rw [up_e] at this
    exact this
  · intro h
    refine ⟨hL, by omega, vC_less hv (by omega), ?_, ?_, fun i i0 i1 => ?_⟩
    · rw [up_a (by decide)]
      exact r1
    · rw [up_e, h]
    · rw [up_a (by decide)]
      exact r3 i i0 (by omega)
theorem RD.cg (h : RD f L n c s) (e : ∀ i : Int, 0 ≤ i → i < n → c i = c' i) : RD f L n c' s := ⟨h.1, h.2.1, vC_cg e h.2.2.1, h.2.2.2.1, h.2.2.2.2.1, fun i i0 i1 => (h.2.2.2.2.2 i i0 i1).trans (e i i0 i1)⟩
theorem r_passes (hf : 0 ≤ f ∧ f < 23) (hd : 13 ≤ d) {K : Nat} {Y0 : YS} {am tu way slp tw by0 : Int} {kc lb le ty tc : Int → Int} (hps : RS f L Y0 s) (hok : okY Y0) (hyr : 0 ≤ Y0.2.2.1 ∧ Y0.2.2.1 ≤ 100000) (htl : TLN K ty tc s) (htw : s 94 45 = tw) (htr : 0 ≤ tw ∧ tw ≤ 4) (ham : (tw = 3 ∧ am = 1) ∨ (¬ tw = 3 ∧ am = 0)) (htu : (tw = 4 ∧ tu = 1) ∨ (¬ tw = 4 ∧ tu = 0)) (hby : by0 = 0 ∨ by0 = 1) (hway : (tw = 1 ∧ way = 2) ∨ (¬ tw = 1 ∧ by0 = 1 ∧ way = 0) ∨ (¬ tw = 1 ∧ by0 = 0 ∧ way = 1)) (hsl : s 96 2 = slp) (hsr : 0 ≤ slp ∧ slp ≤ 100) (hw : LWR kc lb le s) (ho : okL kc lb le) (k : ∀ t, RS f L (yrS L kc lb le am tu way slp K ty tc Y0) t → gfr f s t → Q none (HP h0 t)) : wpM PP d 128 [vR 94, vI f, vI by0] (HP h0 s) Q := by
  obtain ⟨D0, sl, yr, la⟩ := Y0
  unfold okY at hok
  unfold RS at hps
  dsimp only at hok hps hyr
  have hK := htl.2.1
  have TAIL : ∀ (j : Nat) {o4 : Option pv} (i : Int) (t : St), j = K → RD f L (tlF L yr kc lb le am tu ty tc D0 K).2.2.1 (tlF L yr kc lb le am tu ty tc D0 K).2.2.2 t → t 110 f = (tlF L yr kc lb le am tu ty tc D0 K).1 → t 108 f = (tlF L yr kc lb le am tu ty tc D0 K).2.1 → t 109 f = sl → t 106 f = yr → t 107 f = la → gfr f s t → wp PP d mb128 (mb128.getD 7 []) [some (vR 94), some (vI f), some (vI by0), some (vI i), o4] [] (HP h0 t) Q := by
    intro j o4 i t ejK p0 p1 p2 p3 p4 p5 z1
    by_cases hz : (tlF L yr kc lb le am tu ty tc D0 K).2.2.1 = 0
    · refine x_aload rfl ?_
      refine x_iload rfl ?_
      refine x_iload rfl ?_
      refine n_call [vR _, vI _, vI _] [] (by omega) (Nat.le_of_ble_eq_true rfl) rfl rfl (Nat.le_of_ble_eq_true rfl) ?_
      refine r_doesSlip0 hf (h2 := by rw [p0.2.2.2.2.1, hz]; rfl) ((z1 94 45 (by omega) (by omega) (by omega) (by omega) (by omega) (by omega)).trans htw) htr ?_
      show wp PP _ _ _ [some (vR _), some (vI _), some (vI _), some (vI _), _] [vI _] _ _
      refine z_if_eq (fun c1 => ?_) (fun c1 => ?_)
      · refine x_aload rfl ?_
        refine h_getR sc_94 rfl (by omega) ?_
        refine x_iload rfl ?_
        refine x_dup2 ?_
        refine h_iald sc_106 ⟨by omega, by omega⟩ (by decide) ?_
        rw [p4]
        refine x_ci ?_
        refine x_iadd ?_
        refine h_iast sc_106 ⟨by omega, by omega⟩ (by decide) ?_
        refine x_ret ?_
        have hF := yrS_0 (way := way) (slp := slp) (Y := (D0, sl, yr, la)) (L := L) (kc := kc) (lb := lb) (le := le) (am := am) (tu := tu) (ty := ty) (tc := tc) (K := K) rfl hz
        refine k _ ?_ (gfr_tr z1 (fun b2 r w1 w2 w3 w4 w5 w6 => up_f (by omega)))
        rw [hF]
        refine ⟨p0.up (by decide), ?_, ?_, ?_, ?_, ?_⟩
        · rw [up_a (by decide)]
          exact p1
        · rw [up_a (by decide)]
          exact p2
        · rw [up_a (by decide)]
          exact p3
        · rw [up_e]
        · rw [up_a (by decide)]
          exact p5
      · exact c1.elim
    · obtain ⟨mm, hmm⟩ : ∃ mm, (tlF L yr kc lb le am tu ty tc D0 K).2.2.1 = mm + 1 := ⟨(tlF L yr kc lb le am tu ty tc D0 K).2.2.1 - 1, by omega⟩
      rw [hmm] at p0
      refine x_aload rfl ?_
      refine x_iload rfl ?_
      refine x_iload rfl ?_
      refine n_call [vR _, vI _, vI _] [] (by omega) (Nat.le_of_ble_eq_true rfl) rfl rfl (Nat.le_of_ble_eq_true rfl) ?_
      refine r_doesSlip (od := odN (vLs L mm (tlF L yr kc lb le am tu ty tc D0 K).2.2.2 yr kc lb le) slp) (way := way) (tw := tw) hf (by omega) p0 p4 (by omega) p5 ⟨hok.2.2.2.1, hok.2.2.2.2⟩ ((z1 94 45 (by omega) (by omega) (by omega) (by omega) (by omega) (by omega)).trans htw) htr hby hway ((z1 96 2 (by omega) (by omega) (by omega) (by omega) (by omega) (by omega)).trans hsl) hsr (hw.g z1) ho rfl (fun u u1 u2 u3 => ?_)
      show wp PP _ _ _ [some (vR _), some (vI _), some (vI _), some (vI _), _] [vI _] _ _
      refine z_if_eq (fun c1 => ?_) (fun c1 => ?_)
      · refine x_aload rfl ?_
        refine h_getR sc_94 rfl (by omega) ?_
        refine x_iload rfl ?_
        refine x_dup2 ?_
        refine h_iald sc_106 ⟨by omega, by omega⟩ (by decide) ?_
        first
          | rw [up_a (b := 106) (by decide), up_a (b := 106) (by decide), (u3 106 f (by omega) (by omega) (by omega) (by omega) (by omega)).trans p4]
          | rw [(u3 106 f (by omega) (by omega) (by omega) (by omega) (by omega)).trans p4]
        refine x_ci ?_
        refine x_iadd ?_
        refine h_iast sc_106 ⟨by omega, by omega⟩ (by decide) ?_
        refine x_ret ?_
        have hF := yrS_n (way := way) (slp := slp) (Y := (D0, sl, yr, la)) (L := L) (kc := kc) (lb := lb) (le := le) (am := am) (tu := tu) (ty := ty) (tc := tc) (K := K) (m := mm) rfl hmm c1
        refine k _ ?_ (gfr_tr z1 (fun b2 r w1 w2 w3 w4 w5 w6 => (up_f (by omega)).trans (u3 b2 r w1 w2 w3 w4 (by omega))))
        rw [hF]
        refine ⟨?_, ?_, ?_, ?_, ?_, ?_⟩
        · dsimp only
          rw [hmm]
          exact u1.up (by decide)
        · rw [up_a (by decide), u3 110 f (by omega) (by omega) (by omega) (by omega) (by omega)]
          exact p1
        · rw [up_a (by decide), u3 108 f (by omega) (by omega) (by omega) (by omega) (by omega)]
          exact p2
        · rw [up_a (by decide), u3 109 f (by omega) (by omega) (by omega) (by omega) (by omega)]
          exact p3
        · rw [up_e]
        · rw [up_a (by decide)]
          exact u2
      · refine x_aload rfl ?_
        refine h_getR sc_94 rfl (by omega) ?_
        refine x_iload rfl ?_
        refine x_dup2 ?_
        refine h_iald sc_112 ⟨by omega, by omega⟩ (by decide) ?_
        rw [u1.2.2.2.2.1]
        refine x_ci ?_
        refine x_isub ?_
        refine t_I (mm : Int) (by omega) ?_
        refine h_iast sc_112 ⟨by omega, by omega⟩ (by decide) ?_
        refine x_aload rfl ?_
        refine h_getR sc_94 rfl (by omega) ?_
        refine x_iload rfl ?_
        refine x_dup2 ?_
        refine h_iald sc_109 ⟨by omega, by omega⟩ (by decide) ?_
        rw [up_a (b := 109) (by decide), (u3 109 f (by omega) (by omega) (by omega) (by omega) (by omega)).trans p3]
        refine x_ci ?_
        refine x_iadd ?_
        refine h_iast sc_109 ⟨by omega, by omega⟩ (by decide) ?_
        refine x_fall ?_
        refine x_aload rfl ?_
        refine h_getR sc_94 rfl (by omega) ?_
        refine x_iload rfl ?_
        refine x_dup2 ?_
        refine h_iald sc_106 ⟨by omega, by omega⟩ (by decide) ?_
        first
          | rw [up_a (b := 106) (by decide), up_a (b := 106) (by decide), (u3 106 f (by omega) (by omega) (by omega) (by omega) (by omega)).trans p4]
          | rw [(u3 106 f (by omega) (by omega) (by omega) (by omega) (by omega)).trans p4]
        refine x_ci ?_
        refine x_iadd ?_
        refine h_iast sc_106 ⟨by omega, by omega⟩ (by decide) ?_
        refine x_ret ?_
        have hF := yrS_y (way := way) (slp := slp) (Y := (D0, sl, yr, la)) (L := L) (kc := kc) (lb := lb) (le := le) (am := am) (tu := tu) (ty := ty) (tc := tc) (K := K) (m := mm) rfl hmm c1
        refine k _ ?_ (gfr_tr z1 (fun b2 r w1 w2 w3 w4 w5 w6 => (up_f (by omega)).trans ((up_f (by omega)).trans ((up_f (by omega)).trans (u3 b2 r w1 w2 w3 w4 (by omega))))))
        rw [hF]
        refine ⟨(((RDupn u1).mpr rfl).up (by decide)).up (by decide), ?_, ?_, ?_, ?_, ?_⟩
        · rw [up_a (by decide), up_a (by decide), up_a (by decide), u3 110 f (by omega) (by omega) (by omega) (by omega) (by omega)]
          exact p1
        · rw [up_a (by decide), up_a (by decide), up_a (by decide), u3 108 f (by omega) (by omega) (by omega) (by omega) (by omega)]
          exact p2
        · rw [up_a (by decide), up_e]
        · rw [up_e]
        · rw [up_a (by decide), up_a (by decide), up_a (by decide)]
          exact u2
  have L1 : ∀ N : Nat, ∀ {o4 : Option pv} (j : Nat) (i : Int) (t : St), (i = j) → (N = K - j ∧ j ≤ K) → (RD f L (tlF L yr kc lb le am tu ty tc D0 j).2.2.1 (tlF L yr kc lb le am tu ty tc D0 j).2.2.2 t) → (t 110 f = (tlF L yr kc lb le am tu ty tc D0 j).1) → (t 108 f = (tlF L yr kc lb le am tu ty tc D0 j).2.1) → (t 109 f = sl) → (t 106 f = yr) → (t 107 f = la) → (gfr f s t) →  wp PP d mb128 (mb128.getD 1 []) [some (vR 94), some (vI f), some (vI by0), some (vI i), o4] [] (HP h0 t) Q := by
    refine s_ind (fun N ih => ?_)
    intro o4 j i t hj hn2 p0 p1 p2 p3 p4 p5 z1
    refine x_iload rfl ?_
    refine x_aload rfl ?_
    refine h_getR sc_94 rfl (by omega) ?_
    refine x_ci ?_
    refine h_iald sc_96 ⟨by omega, by omega⟩ (by decide) ?_
    rw [(z1 96 1 (by omega) (by omega) (by omega) (by omega) (by omega) (by omega)).trans htl.1]
    refine n_icmp_ge ⟨by omega, by omega⟩ ⟨by omega, by omega⟩ (fun c1 => ?_) (fun c1 => ?_)
    · have ej : j = K := by omega
      rw [ej] at p0 p1 p2
      exact TAIL K i t rfl p0 p1 p2 p3 p4 p5 z1
    · have tl := htl.2.2 i (by omega) (by omega)
      refine x_aload rfl ?_
      refine h_getR sc_94 rfl (by omega) ?_
      refine x_iload rfl ?_
      refine h_iald sc_98 ⟨by omega, by omega⟩ (by decide) ?_
      rw [(z1 98 i (by omega) (by omega) (by omega) (by omega) (by omega) (by omega)).trans tl.1]
      refine x_aload rfl ?_
      refine h_getR sc_94 rfl (by omega) ?_
      refine x_iload rfl ?_
      refine h_iald sc_106 ⟨by omega, by omega⟩ (by decide) ?_
      rw [p4]
      refine n_icmp_eq ⟨by omega, by omega⟩ ⟨by omega, by omega⟩ (fun c2 => ?_) (fun c2 => ?_)
      · obtain ⟨x, hxx⟩ : ∃ x, x = tuX tu (tc i) := ⟨_, rfl⟩
        have xr : 0 ≤ x ∧ x < 16 := by
          rw [hxx]
          unfold tuX
          split <;> omega
        refine x_aload rfl ?_
        refine h_getI 45 sc_94 rfl rfl ?_
        rw [(z1 94 45 (by omega) (by omega) (by omega) (by omega) (by omega) (by omega)).trans htw]
        refine x_ci ?_
        refine n_icmp_ne ⟨by omega, by omega⟩ ⟨by omega, by omega⟩ (fun c3 => ?_) (fun c3 => ?_)
        · refine x_aload rfl ?_
          refine h_getR sc_94 rfl (by omega) ?_
          refine x_iload rfl ?_
          refine h_iald sc_99 ⟨by omega, by omega⟩ (by decide) ?_
          rw [(z1 99 i (by omega) (by omega) (by omega) (by omega) (by omega) (by omega)).trans tl.2.1]
          refine x_fall ?_
          refine t_I x ?_ ?_
          · rw [hxx]
            unfold tuX
            first
              | rw [if_pos (by omega)]
              | (rw [if_neg (by omega), xor1 (by omega) (by omega)])
          refine n_istore [some (vR _), some (vI _), some (vI _), some (vI _), some (vI _)] (Nat.le_of_ble_eq_true rfl) rfl ?_
          refine x_aload rfl ?_
          refine x_iload rfl ?_
          refine x_iload rfl ?_
          refine n_call [vR _, vI _, vI _] [] (by omega) (Nat.le_of_ble_eq_true rfl) rfl rfl (Nat.le_of_ble_eq_true rfl) ?_
          refine r_canDance (am := am) (tw := tw) hf (by omega) p0 (x := x) (by omega) p4 (by omega) ((z1 94 45 (by omega) (by omega) (by omega) (by omega) (by omega) (by omega)).trans htw) htr ham (hw.g z1) ho (fun u u1 => ?_)
          show wp PP _ _ _ [some (vR _), some (vI _), some (vI _), some (vI _), some (vI _)] [vI _] _ _
          refine z_if_eq (fun c4 => ?_) (fun c4 => ?_)
          · refine x_aload rfl ?_
            refine h_getR sc_94 rfl (by omega) ?_
            refine x_iload rfl ?_
            refine x_dup2 ?_
            refine h_iald sc_108 ⟨by omega, by omega⟩ (by decide) ?_
            rw [(u1 108 f (by omega) (by omega) (by omega) (by omega)).trans p2]
            refine x_ci ?_
            refine x_iadd ?_
            refine h_iast sc_108 ⟨by omega, by omega⟩ (by decide) ?_
            refine x_fall ?_
            refine n_iinc [some (vR _), some (vI _), some (vI _), some (vI _), some (vI _)] rfl rfl ?_
            refine x_goto ?_
            have e : tlF L yr kc lb le am tu ty tc D0 (j + 1) = tlStep L yr kc lb le am x (tlF L yr kc lb le am tu ty tc D0 j) := by
              simp only [tlF]
              rw [if_pos (by rw [← hj]; exact c2), ← hj, ← hxx]
            have e2 : tlStep L yr kc lb le am x (tlF L yr kc lb le am tu ty tc D0 j) = ((tlF L yr kc lb le am tu ty tc D0 j).1, (tlF L yr kc lb le am tu ty tc D0 j).2.1 + 1, (tlF L yr kc lb le am tu ty tc D0 j).2.2.1, (tlF L yr kc lb le am tu ty tc D0 j).2.2.2) := by
              unfold tlStep tlV tlR tlL tlK
              rw [if_neg c4, if_neg c4, if_neg c4, if_neg c4]
            rw [e2] at e
            refine ih (K - (j + 1)) (by omega) (j + 1) _ _ (by omega) (by omega) ?_ ?_ ?_ ?_ ?_ ?_ (gfr_tr z1 (fun b2 r w1 w2 w3 w4 w5 w6 => ?_))
            · rw [e]
              exact (p0.q u1).up (by decide)
            · rw [e, up_a (by decide)]
              exact (u1 110 f (by omega) (by omega) (by omega) (by omega)).trans p1
            · rw [e, up_e]
            · rw [up_a (by decide)]
              exact (u1 109 f (by omega) (by omega) (by omega) (by omega)).trans p3
            · rw [up_a (by decide)]
              exact (u1 106 f (by omega) (by omega) (by omega) (by omega)).trans p4
            · rw [up_a (by decide)]
              exact (u1 107 f (by omega) (by omega) (by omega) (by omega)).trans p5
            · rw [up_f (by omega)]
              exact u1 b2 r w1 w2 w3 w4
          · refine x_aload rfl ?_
            refine x_iload rfl ?_
            refine x_iload rfl ?_
            refine n_call [vR _, vI _, vI _] [] (by omega) (Nat.le_of_ble_eq_true rfl) rfl rfl (Nat.le_of_ble_eq_true rfl) ?_
            have tk := tlF_ok (L := L) (yr := yr) (kc := kc) (lb := lb) (le := le) (ty := ty) (tc := tc) (am := am) (tu := tu) (D := D0) ⟨hok.1, hok.2.1, hok.2.2.1⟩ j
            refine r_dances (n := (tlF L yr kc lb le am tu ty tc D0 j).2.2.1) (c := fun i => if i = (tlF L yr kc lb le am tu ty tc D0 j).2.2.1 then x else (tlF L yr kc lb le am tu ty tc D0 j).2.2.2 i) hf (by omega) ((p0.q u1).cg (fun i i0 i1 => (if_neg (by omega)).symm)) (by have := c4.1.2.2; omega) (x := x) (if_pos rfl) ⟨c4.1.1, c4.1.2.1⟩ (yr := yr) ((u1 106 f (by omega) (by omega) (by omega) (by omega)).trans p4) (by omega) (vw := (tlF L yr kc lb le am tu ty tc D0 j).1) ((u1 110 f (by omega) (by omega) (by omega) (by omega)).trans p1) ⟨tk.1, tk.2.1⟩ ((hw.g z1).q u1) ho (fun v v1 v2 v3 => ?_)
            have vcg : vNx L (tlF L yr kc lb le am tu ty tc D0 j).2.2.1 (fun i => if i = (tlF L yr kc lb le am tu ty tc D0 j).2.2.1 then x else (tlF L yr kc lb le am tu ty tc D0 j).2.2.2 i) yr kc lb le x 1 = vNx L (tlF L yr kc lb le am tu ty tc D0 j).2.2.1 (tlF L yr kc lb le am tu ty tc D0 j).2.2.2 yr kc lb le x 1 := by
              obtain ⟨w1, w2, w3⟩ := w_cg (L := L) (c := fun i => if i = (tlF L yr kc lb le am tu ty tc D0 j).2.2.1 then x else (tlF L yr kc lb le am tu ty tc D0 j).2.2.2 i) (c' := (tlF L yr kc lb le am tu ty tc D0 j).2.2.2) (n := (tlF L yr kc lb le am tu ty tc D0 j).2.2.1) (fun i i0 i1 => if_neg (by omega))
              unfold vNx
              rw [w1, w2]
            rw [vcg] at v2
            show wp PP _ _ _ [some (vR _), some (vI _), some (vI _), some (vI _), some (vI _)] [] _ _
            refine x_goto ?_
            refine n_iinc [some (vR _), some (vI _), some (vI _), some (vI _), some (vI _)] rfl rfl ?_
            refine x_goto ?_
            have e : tlF L yr kc lb le am tu ty tc D0 (j + 1) = tlStep L yr kc lb le am x (tlF L yr kc lb le am tu ty tc D0 j) := by
              simp only [tlF]
              rw [if_pos (by rw [← hj]; exact c2), ← hj, ← hxx]
            have e2 : tlStep L yr kc lb le am x (tlF L yr kc lb le am tu ty tc D0 j) = (vwN (tlF L yr kc lb le am tu ty tc D0 j).1 (vNx L (tlF L yr kc lb le am tu ty tc D0 j).2.2.1 (tlF L yr kc lb le am tu ty tc D0 j).2.2.2 yr kc lb le x 1), (tlF L yr kc lb le am tu ty tc D0 j).2.1, (tlF L yr kc lb le am tu ty tc D0 j).2.2.1 + 1, fun (i : Int) => if i = ((tlF L yr kc lb le am tu ty tc D0 j).2.2.1 : Int) then x else (tlF L yr kc lb le am tu ty tc D0 j).2.2.2 i) := by
              unfold tlStep tlV tlR tlL tlK
              rw [if_pos c4, if_pos c4, if_pos c4, if_pos c4]
            rw [e2] at e
            refine ih (K - (j + 1)) (by omega) (j + 1) _ _ (by omega) (by omega) ?_ ?_ ?_ ?_ ?_ ?_ (gfr_tr z1 (fun b2 r w1 w2 w3 w4 w5 w6 => ?_))
            · rw [e]
              exact v1
            · rw [e]
              exact v2
            · rw [e]
              exact (v3 108 f (by omega) (by omega) (by omega) (by omega) (by omega) (by omega) (by omega)).trans ((u1 108 f (by omega) (by omega) (by omega) (by omega)).trans p2)
            · exact (v3 109 f (by omega) (by omega) (by omega) (by omega) (by omega) (by omega) (by omega)).trans ((u1 109 f (by omega) (by omega) (by omega) (by omega)).trans p3)
            · exact (v3 106 f (by omega) (by omega) (by omega) (by omega) (by omega) (by omega) (by omega)).trans ((u1 106 f (by omega) (by omega) (by omega) (by omega)).trans p4)
            · exact (v3 107 f (by omega) (by omega) (by omega) (by omega) (by omega) (by omega) (by omega)).trans ((u1 107 f (by omega) (by omega) (by omega) (by omega)).trans p5)
            · exact (v3 b2 r w1 w2 w3 w4 (by omega) (by omega) (by have := p0.2.1; have := c4.1.2.2; omega)).trans (u1 b2 r w1 w2 w3 w4)
        · refine x_aload rfl ?_
          refine h_getR sc_94 rfl (by omega) ?_
          refine x_iload rfl ?_
          refine h_iald sc_99 ⟨by omega, by omega⟩ (by decide) ?_
          rw [(z1 99 i (by omega) (by omega) (by omega) (by omega) (by omega) (by omega)).trans tl.2.1]
          refine x_ci ?_
          refine x_ixor ?_
          refine x_goto ?_
          refine t_I x ?_ ?_
          · rw [hxx]
            unfold tuX
            first
              | rw [if_pos (by omega)]
              | (rw [if_neg (by omega), xor1 (by omega) (by omega)])
          refine n_istore [some (vR _), some (vI _), some (vI _), some (vI _), some (vI _)] (Nat.le_of_ble_eq_true rfl) rfl ?_
          refine x_aload rfl ?_
          refine x_iload rfl ?_
          refine x_iload rfl ?_
          refine n_call [vR _, vI _, vI _] [] (by omega) (Nat.le_of_ble_eq_true rfl) rfl rfl (Nat.le_of_ble_eq_true rfl) ?_
          refine r_canDance (am := am) (tw := tw) hf (by omega) p0 (x := x) (by omega) p4 (by omega) ((z1 94 45 (by omega) (by omega) (by omega) (by omega) (by omega) (by omega)).trans htw) htr ham (hw.g z1) ho (fun u u1 => ?_)
          show wp PP _ _ _ [some (vR _), some (vI _), some (vI _), some (vI _), some (vI _)] [vI _] _ _
          refine z_if_eq (fun c4 => ?_) (fun c4 => ?_)
          · refine x_aload rfl ?_
            refine h_getR sc_94 rfl (by omega) ?_
            refine x_iload rfl ?_
            refine x_dup2 ?_
            refine h_iald sc_108 ⟨by omega, by omega⟩ (by decide) ?_
            rw [(u1 108 f (by omega) (by omega) (by omega) (by omega)).trans p2]
            refine x_ci ?_
            refine x_iadd ?_
            refine h_iast sc_108 ⟨by omega, by omega⟩ (by decide) ?_
            refine x_fall ?_
            refine n_iinc [some (vR _), some (vI _), some (vI _), some (vI _), some (vI _)] rfl rfl ?_
            refine x_goto ?_
            have e : tlF L yr kc lb le am tu ty tc D0 (j + 1) = tlStep L yr kc lb le am x (tlF L yr kc lb le am tu ty tc D0 j) := by
              simp only [tlF]
              rw [if_pos (by rw [← hj]; exact c2), ← hj, ← hxx]
            have e2 : tlStep L yr kc lb le am x (tlF L yr kc lb le am tu ty tc D0 j) = ((tlF L yr kc lb le am tu ty tc D0 j).1, (tlF L yr kc lb le am tu ty tc D0 j).2.1 + 1, (tlF L yr kc lb le am tu ty tc D0 j).2.2.1, (tlF L yr kc lb le am tu ty tc D0 j).2.2.2) := by
              unfold tlStep tlV tlR tlL tlK
              rw [if_neg c4, if_neg c4, if_neg c4, if_neg c4]
            rw [e2] at e
            refine ih (K - (j + 1)) (by omega) (j + 1) _ _ (by omega) (by omega) ?_ ?_ ?_ ?_ ?_ ?_ (gfr_tr z1 (fun b2 r w1 w2 w3 w4 w5 w6 => ?_))
            · rw [e]
              exact (p0.q u1).up (by decide)
            · rw [e, up_a (by decide)]
              exact (u1 110 f (by omega) (by omega) (by omega) (by omega)).trans p1
            · rw [e, up_e]
            · rw [up_a (by decide)]
              exact (u1 109 f (by omega) (by omega) (by omega) (by omega)).trans p3
            · rw [up_a (by decide)]
              exact (u1 106 f (by omega) (by omega) (by omega) (by omega)).trans p4
            · rw [up_a (by decide)]
              exact (u1 107 f (by omega) (by omega) (by omega) (by omega)).trans p5
            · rw [up_f (by omega)]
              exact u1 b2 r w1 w2 w3 w4
          · refine x_aload rfl ?_
            refine x_iload rfl ?_
            refine x_iload rfl ?_
            refine n_call [vR _, vI _, vI _] [] (by omega) (Nat.le_of_ble_eq_true rfl) rfl rfl (Nat.le_of_ble_eq_true rfl) ?_
            have tk := tlF_ok (L := L) (yr := yr) (kc := kc) (lb := lb) (le := le) (ty := ty) (tc := tc) (am := am) (tu := tu) (D := D0) ⟨hok.1, hok.2.1, hok.2.2.1⟩ j
            refine r_dances (n := (tlF L yr kc lb le am tu ty tc D0 j).2.2.1) (c := fun i => if i = (tlF L yr kc lb le am tu ty tc D0 j).2.2.1 then x else (tlF L yr kc lb le am tu ty tc D0 j).2.2.2 i) hf (by omega) ((p0.q u1).cg (fun i i0 i1 => (if_neg (by omega)).symm)) (by have := c4.1.2.2; omega) (x := x) (if_pos rfl) ⟨c4.1.1, c4.1.2.1⟩ (yr := yr) ((u1 106 f (by omega) (by omega) (by omega) (by omega)).trans p4) (by omega) (vw := (tlF L yr kc lb le am tu ty tc D0 j).1) ((u1 110 f (by omega) (by omega) (by omega) (by omega)).trans p1) ⟨tk.1, tk.2.1⟩ ((hw.g z1).q u1) ho (fun v v1 v2 v3 => ?_)
            have vcg : vNx L (tlF L yr kc lb le am tu ty tc D0 j).2.2.1 (fun i => if i = (tlF L yr kc lb le am tu ty tc D0 j).2.2.1 then x else (tlF L yr kc lb le am tu ty tc D0 j).2.2.2 i) yr kc lb le x 1 = vNx L (tlF L yr kc lb le am tu ty tc D0 j).2.2.1 (tlF L yr kc lb le am tu ty tc D0 j).2.2.2 yr kc lb le x 1 := by
              obtain ⟨w1, w2, w3⟩ := w_cg (L := L) (c := fun i => if i = (tlF L yr kc lb le am tu ty tc D0 j).2.2.1 then x else (tlF L yr kc lb le am tu ty tc D0 j).2.2.2 i) (c' := (tlF L yr kc lb le am tu ty tc D0 j).2.2.2) (n := (tlF L yr kc lb le am tu ty tc D0 j).2.2.1) (fun i i0 i1 => if_neg (by omega))
              unfold vNx
              rw [w1, w2]
            rw [vcg] at v2
            show wp PP _ _ _ [some (vR _), some (vI _), some (vI _), some (vI _), some (vI _)] [] _ _
            refine x_goto ?_
            refine n_iinc [some (vR _), some (vI _), some (vI _), some (vI _), some (vI _)] rfl rfl ?_
            refine x_goto ?_
            have e : tlF L yr kc lb le am tu ty tc D0 (j + 1) = tlStep L yr kc lb le am x (tlF L yr kc lb le am tu ty tc D0 j) := by
              simp only [tlF]
              rw [if_pos (by rw [← hj]; exact c2), ← hj, ← hxx]
            have e2 : tlStep L yr kc lb le am x (tlF L yr kc lb le am tu ty tc D0 j) = (vwN (tlF L yr kc lb le am tu ty tc D0 j).1 (vNx L (tlF L yr kc lb le am tu ty tc D0 j).2.2.1 (tlF L yr kc lb le am tu ty tc D0 j).2.2.2 yr kc lb le x 1), (tlF L yr kc lb le am tu ty tc D0 j).2.1, (tlF L yr kc lb le am tu ty tc D0 j).2.2.1 + 1, fun (i : Int) => if i = ((tlF L yr kc lb le am tu ty tc D0 j).2.2.1 : Int) then x else (tlF L yr kc lb le am tu ty tc D0 j).2.2.2 i) := by
              unfold tlStep tlV tlR tlL tlK
              rw [if_pos c4, if_pos c4, if_pos c4, if_pos c4]
            rw [e2] at e
            refine ih (K - (j + 1)) (by omega) (j + 1) _ _ (by omega) (by omega) ?_ ?_ ?_ ?_ ?_ ?_ (gfr_tr z1 (fun b2 r w1 w2 w3 w4 w5 w6 => ?_))
            · rw [e]
              exact v1
            · rw [e]
              exact v2
            · rw [e]
              exact (v3 108 f (by omega) (by omega) (by omega) (by omega) (by omega) (by omega) (by omega)).trans ((u1 108 f (by omega) (by omega) (by omega) (by omega)).trans p2)
            · exact (v3 109 f (by omega) (by omega) (by omega) (by omega) (by omega) (by omega) (by omega)).trans ((u1 109 f (by omega) (by omega) (by omega) (by omega)).trans p3)
            · exact (v3 106 f (by omega) (by omega) (by omega) (by omega) (by omega) (by omega) (by omega)).trans ((u1 106 f (by omega) (by omega) (by omega) (by omega)).trans p4)
            · exact (v3 107 f (by omega) (by omega) (by omega) (by omega) (by omega) (by omega) (by omega)).trans ((u1 107 f (by omega) (by omega) (by omega) (by omega)).trans p5)
            · exact (v3 b2 r w1 w2 w3 w4 (by omega) (by omega) (by have := p0.2.1; have := c4.1.2.2; omega)).trans (u1 b2 r w1 w2 w3 w4)
      · refine x_goto ?_
        refine n_iinc [some (vR _), some (vI _), some (vI _), some (vI _), _] rfl rfl ?_
        refine x_goto ?_
        have e : tlF L yr kc lb le am tu ty tc D0 (j + 1) = tlF L yr kc lb le am tu ty tc D0 j := by
          simp only [tlF]
          rw [if_neg (by rw [← hj]; exact c2)]
        refine ih (K - (j + 1)) (by omega) (j + 1) _ _ (by omega) (by omega) ?_ ?_ ?_ p3 p4 p5 z1
        · rw [e]
          exact p0
        · rw [e]
          exact p1
        · rw [e]
          exact p2
  refine n_at (m := 128) (q := mr128) (kn := (0, 3)) [some (vR _), some (vI _), some (vI _), none, none] mb128 rfl rfl (h_rcv sc_94) (Nat.le_of_ble_eq_true rfl) rfl rfl ?_
  refine x_ci ?_
  refine n_istore [some (vR _), some (vI _), some (vI _), some (vI _), _] (Nat.le_of_ble_eq_true rfl) rfl ?_
  refine x_fall ?_
  exact L1 K 0 0 s rfl (by omega) hps.1 hps.2.1 hps.2.2.1 hps.2.2.2.1 hps.2.2.2.2.1 hps.2.2.2.2.2 gfr_rfl
end RK
