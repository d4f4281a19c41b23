/-! THE REFERENCE: whether what was read is so -/
section RG
variable {d a : Nat} {h0 h : pheap} {s : St} {Q : Option pv → pheap → Prop} {L f : Int} {n : Nat} {c c' : Int → Int}
theorem wO_iff {x p : Int} {m : Nat} (hL : 0 ≤ L ∧ L < 64) (v : vC L c m) (hx : 0 ≤ x ∧ x < 6 ∧ bt L x = 1) (hp : 0 ≤ p) : (p < cnt L ∧ wO L c m p = x) ↔ plN c m (cntN L x.toNat) = p := by
  have r := plN_R v (cntN L x.toNat) (cntN_R L x.toNat).1 (ord_cnt hL hx).2
  have w := wO_at (c := c) hL hx m
  constructor
  · rintro ⟨p1, e⟩
    exact wO_inj hL v _ _ r.1 r.2 hp p1 (w.trans e.symm)
  · intro e
    rw [← e]
    exact ⟨r.2, w⟩
theorem r_isSo {z : Nat} {kf : Int} {kd on ot mu ia : Int → Int} (hd : 8 ≤ d) (hf : 0 ≤ f ∧ f < 23) (hR : RD f L n c s) (hr : RN z kf kd on ot mu ia s) (ho : okR z kf kd on ot mu ia) {i : Int} (hi : 0 ≤ i ∧ i < z) (hk : kd i ≠ 2) (k : ∀ t, rfr s t → Q (some (vI (bI (soP L n c kd on ot mu ia i)))) (HP h0 t)) : wpM PP d 174 [vR 94, vI f, vI i] (HP h0 s) Q := by
  obtain ⟨hd0, hdn0, hdv, hd1, hdn, hdc⟩ := hR
  have hR : RD f L n c s := ⟨hd0, hdn0, hdv, hd1, hdn, hdc⟩
  have hz := ho.1
  have q1 := (hr.2.2 i hi.1 hi.2).1
  have q2 := (hr.2.2 i hi.1 hi.2).2.1
  have q3 := (hr.2.2 i hi.1 hi.2).2.2 hk
  have o1 := (ho.2.2.2 i hi.1 hi.2).1
  have o2 := (ho.2.2.2 i hi.1 hi.2).2.1 hk
  have o3 := (ho.2.2.2 i hi.1 hi.2).2.2.1
  refine n_at (m := 174) (q := mr174) (kn := (0, 3)) [some (vR _), some (vI _), some (vI _), none, none, none] mb174 rfl rfl (h_rcv sc_94) (Nat.le_of_ble_eq_true rfl) rfl rfl ?_
  refine x_aload rfl ?_
  refine h_getR sc_94 rfl (by omega) ?_
  refine x_iload rfl ?_
  refine h_iald sc_125 ⟨by omega, by omega⟩ (by decide) ?_
  rw [q2]
  refine n_istore [some (vR _), some (vI _), some (vI _), some (vI _), _, _] (Nat.le_of_ble_eq_true rfl) rfl ?_
  refine x_aload rfl ?_
  refine h_getR sc_94 rfl (by omega) ?_
  refine x_iload rfl ?_
  refine h_iald sc_126 ⟨by omega, by omega⟩ (by decide) ?_
  rw [q3.1]
  refine n_istore [some (vR _), some (vI _), some (vI _), some (vI _), some (vI _), _] (Nat.le_of_ble_eq_true rfl) rfl ?_
  refine x_aload rfl ?_
  refine x_iload rfl ?_
  refine x_iload rfl ?_
  refine n_call [vR _, vI _, vI _] [] (by omega) (Nat.le_of_ble_eq_true rfl) rfl rfl (Nat.le_of_ble_eq_true rfl) ?_
  refine r_isLeft ⟨by omega, by omega⟩ (by rw [hd1]; exact hd0) ⟨by omega, by omega⟩ ?_
  rw [hd1]
  show wp PP _ _ _ [some (vR _), some (vI _), some (vI _), some (vI _), some (vI _), _] [vI _] _ _
  skip
  refine z_if_eq (fun c1 => ?_) (fun c1 => ?_)
  · refine x_ci ?_
    refine x_zret (by first | exact bI_01 _ | omega) ?_
    first
      | (exfalso; omega)
      | (refine cB0 (k s rfr_rfl) (fun y => ?_)
         rcases y with y | ⟨y1, y2, y3⟩
         · omega
         · first
             | exact absurd y1 (by omega)
             | exact absurd (y3 (by omega)).1 (by omega))
      | (refine cB1 (k t t2) (Or.inr ⟨by omega, fun y => ?_, fun y => ?_⟩)
         · first
             | (exfalso; omega)
             | (have key := key trivial
                rw [← key]
                omega)
         · first
             | (exfalso; omega)
             | (refine ⟨by omega, ?_⟩
                omega))
      | (refine cB0 (k t t2) (fun y => ?_)
         rcases y with y | ⟨y1, y2, y3⟩
         · omega
         · first
             | (have y3 := (y3 (by omega)).2
                omega)
             | (have y2 := y2 (by omega)
                have key := key trivial
                rw [← key] at y2
                omega))
  · refine x_aload rfl ?_
    refine h_getR sc_94 rfl (by omega) ?_
    refine x_iload rfl ?_
    refine h_iald sc_124 ⟨by omega, by omega⟩ (by decide) ?_
    rw [q1]
    refine x_ci ?_
    refine n_icmp_ne ⟨by omega, by omega⟩ ⟨by omega, by omega⟩ (fun c2 => ?_) (fun c2 => ?_)
    · refine x_aload rfl ?_
      refine h_getR sc_94 rfl (by omega) ?_
      refine x_iload rfl ?_
      refine h_iald sc_124 ⟨by omega, by omega⟩ (by decide) ?_
      rw [q1]
      refine x_ci ?_
      refine n_icmp_ne ⟨by omega, by omega⟩ ⟨by omega, by omega⟩ (fun c3 => ?_) (fun c3 => ?_)
      · have k0 : kd i = 0 := by omega
        have o3 := o3 k0
        refine x_aload rfl ?_
        refine x_iload rfl ?_
        refine x_aload rfl ?_
        refine h_getR sc_94 rfl (by omega) ?_
        refine x_iload rfl ?_
        refine h_iald sc_127 ⟨by omega, by omega⟩ (by decide) ?_
        rw [q3.2.1]
        refine x_aload rfl ?_
        refine h_getR sc_94 rfl (by omega) ?_
        refine x_iload rfl ?_
        refine h_iald sc_112 ⟨by omega, by omega⟩ (by decide) ?_
        rw [hdn]
        refine n_imin ⟨by omega, by omega⟩ ⟨by omega, by omega⟩ (by omega) (Nat.le_of_ble_eq_true rfl) ?_
        refine n_call [vR _, vI _, vI _] [] (by omega) (Nat.le_of_ble_eq_true rfl) rfl rfl (Nat.le_of_ble_eq_true rfl) ?_
        have key := fun (_ : True) => wO_iff hd0 (vC_less hdv (show (min (mu i) n).toNat ≤ n by omega)) ⟨o2.1, o2.2.1, c1⟩ o2.2.2.1
        have hct := cnt_R L
        rw [show min (mu i) (n : Int) = (((min (mu i) n).toNat : Nat) : Int) by omega]
        refine r_stands (c := c) (L := L) ⟨by omega, by omega⟩ (m := (min (mu i) n).toNat) (by omega) hd0 hd1 (by omega) (vC_less hdv (by omega)) (fun j j0 j1 => hdc j j0 (by omega)) (fun t t1 t2 => ?_)
        show wp PP _ _ _ [some (vR _), some (vI _), some (vI _), some (vI _), some (vI _), _] [] _ _
        refine x_iload rfl ?_
        refine x_aload rfl ?_
        refine h_getR sc_94 rfl (by omega) ?_
        refine x_iload rfl ?_
        refine h_iald sc_111 ⟨by omega, by omega⟩ (by decide) ?_
        refine n_call [vI _] [vI _] (by omega) (Nat.le_of_ble_eq_true rfl) rfl rfl (Nat.le_of_ble_eq_true rfl) ?_
        rw [t2 111 (by omega) f, hd1]
        refine r_bitsOf hd0 ?_
        show wp PP _ _ _ [some (vR _), some (vI _), some (vI _), some (vI _), some (vI _), _] [vI _, vI _] _ _
        refine n_icmp_ge ⟨by omega, by omega⟩ ⟨by omega, by omega⟩ (fun c4 => ?_) (fun c4 => ?_)
        · refine x_ci ?_
          refine x_fall ?_
          refine n_istore [some (vR _), some (vI _), some (vI _), some (vI _), some (vI _), some (vI _)] (Nat.le_of_ble_eq_true rfl) rfl ?_
          refine x_iload rfl ?_
          refine x_aload rfl ?_
          refine h_getR sc_94 rfl (by omega) ?_
          refine x_iload rfl ?_
          refine h_bald2 sc_128 ⟨by omega, by omega⟩ (by decide) ?_
          rw [t2 128 (by omega) i, q3.2.2]
          refine n_icmp_ne ⟨by omega, by omega⟩ ⟨by omega, by omega⟩ (fun c5 => ?_) (fun c5 => ?_)
          · refine x_ci ?_
            refine x_fall ?_
            refine x_zret (by first | exact bI_01 _ | omega) ?_
            first
              | (exfalso; omega)
              | (refine cB0 (k s rfr_rfl) (fun y => ?_)
                 rcases y with y | ⟨y1, y2, y3⟩
                 · omega
                 · first
                     | exact absurd y1 (by omega)
                     | exact absurd (y3 (by omega)).1 (by omega))
              | (refine cB1 (k t t2) (Or.inr ⟨by omega, fun y => ?_, fun y => ?_⟩)
                 · first
                     | (exfalso; omega)
                     | (have key := key trivial
                        rw [← key]
                        omega)
                 · first
                     | (exfalso; omega)
                     | (refine ⟨by omega, ?_⟩
                        omega))
              | (refine cB0 (k t t2) (fun y => ?_)
                 rcases y with y | ⟨y1, y2, y3⟩
                 · omega
                 · first
                     | (have y3 := (y3 (by omega)).2
                        omega)
                     | (have y2 := y2 (by omega)
                        have key := key trivial
                        rw [← key] at y2
                        omega))
          · refine x_ci ?_
            refine x_goto ?_
            refine x_zret (by first | exact bI_01 _ | omega) ?_
            first
              | (exfalso; omega)
              | (refine cB0 (k s rfr_rfl) (fun y => ?_)
                 rcases y with y | ⟨y1, y2, y3⟩
                 · omega
                 · first
                     | exact absurd y1 (by omega)
                     | exact absurd (y3 (by omega)).1 (by omega))
              | (refine cB1 (k t t2) (Or.inr ⟨by omega, fun y => ?_, fun y => ?_⟩)
                 · first
                     | (exfalso; omega)
                     | (have key := key trivial
                        rw [← key]
                        omega)
                 · first
                     | (exfalso; omega)
                     | (refine ⟨by omega, ?_⟩
                        omega))
              | (refine cB0 (k t t2) (fun y => ?_)
                 rcases y with y | ⟨y1, y2, y3⟩
                 · omega
                 · first
                     | (have y3 := (y3 (by omega)).2
                        omega)
                     | (have y2 := y2 (by omega)
                        have key := key trivial
                        rw [← key] at y2
                        omega))
        · refine x_aload rfl ?_
          refine h_getR sc_94 rfl (by omega) ?_
          refine x_iload rfl ?_
          refine h_iald sc_114 ⟨by omega, by omega⟩ (by decide) ?_
          have wo := wO_R hd0 (vC_less hdv (show (min (mu i) n).toNat ≤ n by omega)) (ot i) (by omega) (by omega)
          rw [t1.1 _ (by omega) (by omega)]
          refine x_iload rfl ?_
          refine n_icmp_ne ⟨by omega, by omega⟩ ⟨by omega, by omega⟩ (fun c5 => ?_) (fun c5 => ?_)
          · refine x_ci ?_
            refine x_fall ?_
            refine n_istore [some (vR _), some (vI _), some (vI _), some (vI _), some (vI _), some (vI _)] (Nat.le_of_ble_eq_true rfl) rfl ?_
            refine x_iload rfl ?_
            refine x_aload rfl ?_
            refine h_getR sc_94 rfl (by omega) ?_
            refine x_iload rfl ?_
            refine h_bald2 sc_128 ⟨by omega, by omega⟩ (by decide) ?_
            rw [t2 128 (by omega) i, q3.2.2]
            refine n_icmp_ne ⟨by omega, by omega⟩ ⟨by omega, by omega⟩ (fun c6 => ?_) (fun c6 => ?_)
            · refine x_ci ?_
              refine x_fall ?_
              refine x_zret (by first | exact bI_01 _ | omega) ?_
              first
                | (exfalso; omega)
                | (refine cB0 (k s rfr_rfl) (fun y => ?_)
                   rcases y with y | ⟨y1, y2, y3⟩
                   · omega
                   · first
                       | exact absurd y1 (by omega)
                       | exact absurd (y3 (by omega)).1 (by omega))
                | (refine cB1 (k t t2) (Or.inr ⟨by omega, fun y => ?_, fun y => ?_⟩)
                   · first
                       | (exfalso; omega)
                       | (have key := key trivial
                          rw [← key]
                          omega)
                   · first
                       | (exfalso; omega)
                       | (refine ⟨by omega, ?_⟩
                          omega))
                | (refine cB0 (k t t2) (fun y => ?_)
                   rcases y with y | ⟨y1, y2, y3⟩
                   · omega
                   · first
                       | (have y3 := (y3 (by omega)).2
                          omega)
                       | (have y2 := y2 (by omega)
                          have key := key trivial
                          rw [← key] at y2
                          omega))
            · refine x_ci ?_
              refine x_goto ?_
              refine x_zret (by first | exact bI_01 _ | omega) ?_
              first
                | (exfalso; omega)
                | (refine cB0 (k s rfr_rfl) (fun y => ?_)
                   rcases y with y | ⟨y1, y2, y3⟩
                   · omega
                   · first
                       | exact absurd y1 (by omega)
                       | exact absurd (y3 (by omega)).1 (by omega))
                | (refine cB1 (k t t2) (Or.inr ⟨by omega, fun y => ?_, fun y => ?_⟩)
                   · first
                       | (exfalso; omega)
                       | (have key := key trivial
                          rw [← key]
                          omega)
                   · first
                       | (exfalso; omega)
                       | (refine ⟨by omega, ?_⟩
                          omega))
                | (refine cB0 (k t t2) (fun y => ?_)
                   rcases y with y | ⟨y1, y2, y3⟩
                   · omega
                   · first
                       | (have y3 := (y3 (by omega)).2
                          omega)
                       | (have y2 := y2 (by omega)
                          have key := key trivial
                          rw [← key] at y2
                          omega))
          · refine x_ci ?_
            refine x_goto ?_
            refine n_istore [some (vR _), some (vI _), some (vI _), some (vI _), some (vI _), some (vI _)] (Nat.le_of_ble_eq_true rfl) rfl ?_
            refine x_iload rfl ?_
            refine x_aload rfl ?_
            refine h_getR sc_94 rfl (by omega) ?_
            refine x_iload rfl ?_
            refine h_bald2 sc_128 ⟨by omega, by omega⟩ (by decide) ?_
            rw [t2 128 (by omega) i, q3.2.2]
            refine n_icmp_ne ⟨by omega, by omega⟩ ⟨by omega, by omega⟩ (fun c6 => ?_) (fun c6 => ?_)
            · refine x_ci ?_
              refine x_fall ?_
              refine x_zret (by first | exact bI_01 _ | omega) ?_
              first
                | (exfalso; omega)
                | (refine cB0 (k s rfr_rfl) (fun y => ?_)
                   rcases y with y | ⟨y1, y2, y3⟩
                   · omega
                   · first
                       | exact absurd y1 (by omega)
                       | exact absurd (y3 (by omega)).1 (by omega))
                | (refine cB1 (k t t2) (Or.inr ⟨by omega, fun y => ?_, fun y => ?_⟩)
                   · first
                       | (exfalso; omega)
                       | (have key := key trivial
                          rw [← key]
                          omega)
                   · first
                       | (exfalso; omega)
                       | (refine ⟨by omega, ?_⟩
                          omega))
                | (refine cB0 (k t t2) (fun y => ?_)
                   rcases y with y | ⟨y1, y2, y3⟩
                   · omega
                   · first
                       | (have y3 := (y3 (by omega)).2
                          omega)
                       | (have y2 := y2 (by omega)
                          have key := key trivial
                          rw [← key] at y2
                          omega))
            · refine x_ci ?_
              refine x_goto ?_
              refine x_zret (by first | exact bI_01 _ | omega) ?_
              first
                | (exfalso; omega)
                | (refine cB0 (k s rfr_rfl) (fun y => ?_)
                   rcases y with y | ⟨y1, y2, y3⟩
                   · omega
                   · first
                       | exact absurd y1 (by omega)
                       | exact absurd (y3 (by omega)).1 (by omega))
                | (refine cB1 (k t t2) (Or.inr ⟨by omega, fun y => ?_, fun y => ?_⟩)
                   · first
                       | (exfalso; omega)
                       | (have key := key trivial
                          rw [← key]
                          omega)
                   · first
                       | (exfalso; omega)
                       | (refine ⟨by omega, ?_⟩
                          omega))
                | (refine cB0 (k t t2) (fun y => ?_)
                   rcases y with y | ⟨y1, y2, y3⟩
                   · omega
                   · first
                       | (have y3 := (y3 (by omega)).2
                          omega)
                       | (have y2 := y2 (by omega)
                          have key := key trivial
                          rw [← key] at y2
                          omega))
      · refine x_aload rfl ?_
        refine x_iload rfl ?_
        refine n_call [vR _, vI _] [] (by omega) (Nat.le_of_ble_eq_true rfl) rfl rfl (Nat.le_of_ble_eq_true rfl) ?_
        refine r_standsAll ⟨by omega, by omega⟩ (by omega) hR (fun t t1 t2 => ?_)
        have wr := wB_R (L := L) (c := c) n (6 * on i + ot i)
        show wp PP _ _ _ [some (vR _), some (vI _), some (vI _), some (vI _), some (vI _), _] [] _ _
        refine x_aload rfl ?_
        refine h_getR sc_94 rfl (by omega) ?_
        refine x_ci ?_
        refine x_iload rfl ?_
        refine x_imul ?_
        refine x_iload rfl ?_
        refine x_iadd ?_
        refine h_iald sc_115 ⟨by omega, by omega⟩ (by decide) ?_
        rw [t1.2.1 _ (by omega) (by omega)]
        refine x_aload rfl ?_
        refine h_getR sc_94 rfl (by omega) ?_
        refine x_iload rfl ?_
        refine h_iald sc_127 ⟨by omega, by omega⟩ (by decide) ?_
        rw [t2 127 (by omega) i, q3.2.1]
        refine n_icmp_lt ⟨by omega, by omega⟩ ⟨by omega, by omega⟩ (fun c4 => ?_) (fun c4 => ?_)
        · refine x_ci ?_
          refine x_fall ?_
          refine x_aload rfl ?_
          refine h_getR sc_94 rfl (by omega) ?_
          refine x_iload rfl ?_
          refine h_bald2 sc_128 ⟨by omega, by omega⟩ (by decide) ?_
          rw [t2 128 (by omega) i, q3.2.2]
          refine n_icmp_ne ⟨by omega, by omega⟩ ⟨by omega, by omega⟩ (fun c5 => ?_) (fun c5 => ?_)
          · refine x_ci ?_
            refine x_fall ?_
            refine x_zret (by first | exact bI_01 _ | omega) ?_
            first
              | (exfalso; omega)
              | (refine cB0 (k s rfr_rfl) (fun y => ?_)
                 rcases y with y | ⟨y1, y2, y3⟩
                 · omega
                 · first
                     | exact absurd y1 (by omega)
                     | exact absurd (y3 (by omega)).1 (by omega))
              | (refine cB1 (k t t2) (Or.inr ⟨by omega, fun y => ?_, fun y => ?_⟩)
                 · first
                     | (exfalso; omega)
                     | (have key := key trivial
                        rw [← key]
                        omega)
                 · first
                     | (exfalso; omega)
                     | (refine ⟨by omega, ?_⟩
                        omega))
              | (refine cB0 (k t t2) (fun y => ?_)
                 rcases y with y | ⟨y1, y2, y3⟩
                 · omega
                 · first
                     | (have y3 := (y3 (by omega)).2
                        omega)
                     | (have y2 := y2 (by omega)
                        have key := key trivial
                        rw [← key] at y2
                        omega))
          · refine x_ci ?_
            refine x_goto ?_
            refine x_zret (by first | exact bI_01 _ | omega) ?_
            first
              | (exfalso; omega)
              | (refine cB0 (k s rfr_rfl) (fun y => ?_)
                 rcases y with y | ⟨y1, y2, y3⟩
                 · omega
                 · first
                     | exact absurd y1 (by omega)
                     | exact absurd (y3 (by omega)).1 (by omega))
              | (refine cB1 (k t t2) (Or.inr ⟨by omega, fun y => ?_, fun y => ?_⟩)
                 · first
                     | (exfalso; omega)
                     | (have key := key trivial
                        rw [← key]
                        omega)
                 · first
                     | (exfalso; omega)
                     | (refine ⟨by omega, ?_⟩
                        omega))
              | (refine cB0 (k t t2) (fun y => ?_)
                 rcases y with y | ⟨y1, y2, y3⟩
                 · omega
                 · first
                     | (have y3 := (y3 (by omega)).2
                        omega)
                     | (have y2 := y2 (by omega)
                        have key := key trivial
                        rw [← key] at y2
                        omega))
        · refine x_ci ?_
          refine x_goto ?_
          refine x_aload rfl ?_
          refine h_getR sc_94 rfl (by omega) ?_
          refine x_iload rfl ?_
          refine h_bald2 sc_128 ⟨by omega, by omega⟩ (by decide) ?_
          rw [t2 128 (by omega) i, q3.2.2]
          refine n_icmp_ne ⟨by omega, by omega⟩ ⟨by omega, by omega⟩ (fun c5 => ?_) (fun c5 => ?_)
          · refine x_ci ?_
            refine x_fall ?_
            refine x_zret (by first | exact bI_01 _ | omega) ?_
            first
              | (exfalso; omega)
              | (refine cB0 (k s rfr_rfl) (fun y => ?_)
                 rcases y with y | ⟨y1, y2, y3⟩
                 · omega
                 · first
                     | exact absurd y1 (by omega)
                     | exact absurd (y3 (by omega)).1 (by omega))
              | (refine cB1 (k t t2) (Or.inr ⟨by omega, fun y => ?_, fun y => ?_⟩)
                 · first
                     | (exfalso; omega)
                     | (have key := key trivial
                        rw [← key]
                        omega)
                 · first
                     | (exfalso; omega)
                     | (refine ⟨by omega, ?_⟩
                        omega))
              | (refine cB0 (k t t2) (fun y => ?_)
                 rcases y with y | ⟨y1, y2, y3⟩
                 · omega
                 · first
                     | (have y3 := (y3 (by omega)).2
                        omega)
                     | (have y2 := y2 (by omega)
                        have key := key trivial
                        rw [← key] at y2
                        omega))
          · refine x_ci ?_
            refine x_goto ?_
            refine x_zret (by first | exact bI_01 _ | omega) ?_
            first
              | (exfalso; omega)
              | (refine cB0 (k s rfr_rfl) (fun y => ?_)
                 rcases y with y | ⟨y1, y2, y3⟩
                 · omega
                 · first
                     | exact absurd y1 (by omega)
                     | exact absurd (y3 (by omega)).1 (by omega))
              | (refine cB1 (k t t2) (Or.inr ⟨by omega, fun y => ?_, fun y => ?_⟩)
                 · first
                     | (exfalso; omega)
                     | (have key := key trivial
                        rw [← key]
                        omega)
                 · first
                     | (exfalso; omega)
                     | (refine ⟨by omega, ?_⟩
                        omega))
              | (refine cB0 (k t t2) (fun y => ?_)
                 rcases y with y | ⟨y1, y2, y3⟩
                 · omega
                 · first
                     | (have y3 := (y3 (by omega)).2
                        omega)
                     | (have y2 := y2 (by omega)
                        have key := key trivial
                        rw [← key] at y2
                        omega))
    · refine x_aload rfl ?_
      refine x_iload rfl ?_
      refine x_iload rfl ?_
      refine n_call [vR _, vI _, vI _] [] (by omega) (Nat.le_of_ble_eq_true rfl) rfl rfl (Nat.le_of_ble_eq_true rfl) ?_
      refine r_isLeft ⟨by omega, by omega⟩ (by rw [hd1]; exact hd0) ⟨by omega, by omega⟩ ?_
      rw [hd1]
      show wp PP _ _ _ [some (vR _), some (vI _), some (vI _), some (vI _), some (vI _), _] [vI _] _ _
      refine z_if_ne (fun c3 => ?_) (fun c3 => ?_)
      · refine x_aload rfl ?_
        refine h_getR sc_94 rfl (by omega) ?_
        refine x_iload rfl ?_
        refine h_iald sc_124 ⟨by omega, by omega⟩ (by decide) ?_
        rw [q1]
        refine x_ci ?_
        refine n_icmp_ne ⟨by omega, by omega⟩ ⟨by omega, by omega⟩ (fun c4 => ?_) (fun c4 => ?_)
        · have k0 : kd i = 0 := by omega
          have o3 := o3 k0
          refine x_aload rfl ?_
          refine x_iload rfl ?_
          refine x_aload rfl ?_
          refine h_getR sc_94 rfl (by omega) ?_
          refine x_iload rfl ?_
          refine h_iald sc_127 ⟨by omega, by omega⟩ (by decide) ?_
          rw [q3.2.1]
          refine x_aload rfl ?_
          refine h_getR sc_94 rfl (by omega) ?_
          refine x_iload rfl ?_
          refine h_iald sc_112 ⟨by omega, by omega⟩ (by decide) ?_
          rw [hdn]
          refine n_imin ⟨by omega, by omega⟩ ⟨by omega, by omega⟩ (by omega) (Nat.le_of_ble_eq_true rfl) ?_
          refine n_call [vR _, vI _, vI _] [] (by omega) (Nat.le_of_ble_eq_true rfl) rfl rfl (Nat.le_of_ble_eq_true rfl) ?_
          have key := fun (_ : True) => wO_iff hd0 (vC_less hdv (show (min (mu i) n).toNat ≤ n by omega)) ⟨o2.1, o2.2.1, c1⟩ o2.2.2.1
          have hct := cnt_R L
          rw [show min (mu i) (n : Int) = (((min (mu i) n).toNat : Nat) : Int) by omega]
          refine r_stands (c := c) (L := L) ⟨by omega, by omega⟩ (m := (min (mu i) n).toNat) (by omega) hd0 hd1 (by omega) (vC_less hdv (by omega)) (fun j j0 j1 => hdc j j0 (by omega)) (fun t t1 t2 => ?_)
          show wp PP _ _ _ [some (vR _), some (vI _), some (vI _), some (vI _), some (vI _), _] [] _ _
          refine x_iload rfl ?_
          refine x_aload rfl ?_
          refine h_getR sc_94 rfl (by omega) ?_
          refine x_iload rfl ?_
          refine h_iald sc_111 ⟨by omega, by omega⟩ (by decide) ?_
          refine n_call [vI _] [vI _] (by omega) (Nat.le_of_ble_eq_true rfl) rfl rfl (Nat.le_of_ble_eq_true rfl) ?_
          rw [t2 111 (by omega) f, hd1]
          refine r_bitsOf hd0 ?_
          show wp PP _ _ _ [some (vR _), some (vI _), some (vI _), some (vI _), some (vI _), _] [vI _, vI _] _ _
          refine n_icmp_ge ⟨by omega, by omega⟩ ⟨by omega, by omega⟩ (fun c5 => ?_) (fun c5 => ?_)
          · refine x_ci ?_
            refine x_fall ?_
            refine n_istore [some (vR _), some (vI _), some (vI _), some (vI _), some (vI _), some (vI _)] (Nat.le_of_ble_eq_true rfl) rfl ?_
            refine x_iload rfl ?_
            refine x_aload rfl ?_
            refine h_getR sc_94 rfl (by omega) ?_
            refine x_iload rfl ?_
            refine h_bald2 sc_128 ⟨by omega, by omega⟩ (by decide) ?_
            rw [t2 128 (by omega) i, q3.2.2]
            refine n_icmp_ne ⟨by omega, by omega⟩ ⟨by omega, by omega⟩ (fun c6 => ?_) (fun c6 => ?_)
            · refine x_ci ?_
              refine x_fall ?_
              refine x_zret (by first | exact bI_01 _ | omega) ?_
              first
                | (exfalso; omega)
                | (refine cB0 (k s rfr_rfl) (fun y => ?_)
                   rcases y with y | ⟨y1, y2, y3⟩
                   · omega
                   · first
                       | exact absurd y1 (by omega)
                       | exact absurd (y3 (by omega)).1 (by omega))
                | (refine cB1 (k t t2) (Or.inr ⟨by omega, fun y => ?_, fun y => ?_⟩)
                   · first
                       | (exfalso; omega)
                       | (have key := key trivial
                          rw [← key]
                          omega)
                   · first
                       | (exfalso; omega)
                       | (refine ⟨by omega, ?_⟩
                          omega))
                | (refine cB0 (k t t2) (fun y => ?_)
                   rcases y with y | ⟨y1, y2, y3⟩
                   · omega
                   · first
                       | (have y3 := (y3 (by omega)).2
                          omega)
                       | (have y2 := y2 (by omega)
                          have key := key trivial
                          rw [← key] at y2
                          omega))
            · refine x_ci ?_
              refine x_goto ?_
              refine x_zret (by first | exact bI_01 _ | omega) ?_
              first
                | (exfalso; omega)
                | (refine cB0 (k s rfr_rfl) (fun y => ?_)
                   rcases y with y | ⟨y1, y2, y3⟩
                   · omega
                   · first
                       | exact absurd y1 (by omega)
                       | exact absurd (y3 (by omega)).1 (by omega))
                | (refine cB1 (k t t2) (Or.inr ⟨by omega, fun y => ?_, fun y => ?_⟩)
                   · first
                       | (exfalso; omega)
                       | (have key := key trivial
                          rw [← key]
                          omega)
                   · first
                       | (exfalso; omega)
                       | (refine ⟨by omega, ?_⟩
                          omega))
                | (refine cB0 (k t t2) (fun y => ?_)
                   rcases y with y | ⟨y1, y2, y3⟩
                   · omega
                   · first
                       | (have y3 := (y3 (by omega)).2
                          omega)
                       | (have y2 := y2 (by omega)
                          have key := key trivial
                          rw [← key] at y2
                          omega))
          · refine x_aload rfl ?_
            refine h_getR sc_94 rfl (by omega) ?_
            refine x_iload rfl ?_
            refine h_iald sc_114 ⟨by omega, by omega⟩ (by decide) ?_
            have wo := wO_R hd0 (vC_less hdv (show (min (mu i) n).toNat ≤ n by omega)) (ot i) (by omega) (by omega)
            rw [t1.1 _ (by omega) (by omega)]
            refine x_iload rfl ?_
            refine n_icmp_ne ⟨by omega, by omega⟩ ⟨by omega, by omega⟩ (fun c6 => ?_) (fun c6 => ?_)
            · refine x_ci ?_
              refine x_fall ?_
              refine n_istore [some (vR _), some (vI _), some (vI _), some (vI _), some (vI _), some (vI _)] (Nat.le_of_ble_eq_true rfl) rfl ?_
              refine x_iload rfl ?_
              refine x_aload rfl ?_
              refine h_getR sc_94 rfl (by omega) ?_
              refine x_iload rfl ?_
              refine h_bald2 sc_128 ⟨by omega, by omega⟩ (by decide) ?_
              rw [t2 128 (by omega) i, q3.2.2]
              refine n_icmp_ne ⟨by omega, by omega⟩ ⟨by omega, by omega⟩ (fun c7 => ?_) (fun c7 => ?_)
              · refine x_ci ?_
                refine x_fall ?_
                refine x_zret (by first | exact bI_01 _ | omega) ?_
                first
                  | (exfalso; omega)
                  | (refine cB0 (k s rfr_rfl) (fun y => ?_)
                     rcases y with y | ⟨y1, y2, y3⟩
                     · omega
                     · first
                         | exact absurd y1 (by omega)
                         | exact absurd (y3 (by omega)).1 (by omega))
                  | (refine cB1 (k t t2) (Or.inr ⟨by omega, fun y => ?_, fun y => ?_⟩)
                     · first
                         | (exfalso; omega)
                         | (have key := key trivial
                            rw [← key]
                            omega)
                     · first
                         | (exfalso; omega)
                         | (refine ⟨by omega, ?_⟩
                            omega))
                  | (refine cB0 (k t t2) (fun y => ?_)
                     rcases y with y | ⟨y1, y2, y3⟩
                     · omega
                     · first
                         | (have y3 := (y3 (by omega)).2
                            omega)
                         | (have y2 := y2 (by omega)
                            have key := key trivial
                            rw [← key] at y2
                            omega))
              · refine x_ci ?_
                refine x_goto ?_
                refine x_zret (by first | exact bI_01 _ | omega) ?_
                first
                  | (exfalso; omega)
                  | (refine cB0 (k s rfr_rfl) (fun y => ?_)
                     rcases y with y | ⟨y1, y2, y3⟩
                     · omega
                     · first
                         | exact absurd y1 (by omega)
                         | exact absurd (y3 (by omega)).1 (by omega))
                  | (refine cB1 (k t t2) (Or.inr ⟨by omega, fun y => ?_, fun y => ?_⟩)
                     · first
                         | (exfalso; omega)
                         | (have key := key trivial
                            rw [← key]
                            omega)
                     · first
                         | (exfalso; omega)
                         | (refine ⟨by omega, ?_⟩
                            omega))
                  | (refine cB0 (k t t2) (fun y => ?_)
                     rcases y with y | ⟨y1, y2, y3⟩
                     · omega
                     · first
                         | (have y3 := (y3 (by omega)).2
                            omega)
                         | (have y2 := y2 (by omega)
                            have key := key trivial
                            rw [← key] at y2
                            omega))
            · refine x_ci ?_
              refine x_goto ?_
              refine n_istore [some (vR _), some (vI _), some (vI _), some (vI _), some (vI _), some (vI _)] (Nat.le_of_ble_eq_true rfl) rfl ?_
              refine x_iload rfl ?_
              refine x_aload rfl ?_
              refine h_getR sc_94 rfl (by omega) ?_
              refine x_iload rfl ?_
              refine h_bald2 sc_128 ⟨by omega, by omega⟩ (by decide) ?_
              rw [t2 128 (by omega) i, q3.2.2]
              refine n_icmp_ne ⟨by omega, by omega⟩ ⟨by omega, by omega⟩ (fun c7 => ?_) (fun c7 => ?_)
              · refine x_ci ?_
                refine x_fall ?_
                refine x_zret (by first | exact bI_01 _ | omega) ?_
                first
                  | (exfalso; omega)
                  | (refine cB0 (k s rfr_rfl) (fun y => ?_)
                     rcases y with y | ⟨y1, y2, y3⟩
                     · omega
                     · first
                         | exact absurd y1 (by omega)
                         | exact absurd (y3 (by omega)).1 (by omega))
                  | (refine cB1 (k t t2) (Or.inr ⟨by omega, fun y => ?_, fun y => ?_⟩)
                     · first
                         | (exfalso; omega)
                         | (have key := key trivial
                            rw [← key]
                            omega)
                     · first
                         | (exfalso; omega)
                         | (refine ⟨by omega, ?_⟩
                            omega))
                  | (refine cB0 (k t t2) (fun y => ?_)
                     rcases y with y | ⟨y1, y2, y3⟩
                     · omega
                     · first
                         | (have y3 := (y3 (by omega)).2
                            omega)
                         | (have y2 := y2 (by omega)
                            have key := key trivial
                            rw [← key] at y2
                            omega))
              · refine x_ci ?_
                refine x_goto ?_
                refine x_zret (by first | exact bI_01 _ | omega) ?_
                first
                  | (exfalso; omega)
                  | (refine cB0 (k s rfr_rfl) (fun y => ?_)
                     rcases y with y | ⟨y1, y2, y3⟩
                     · omega
                     · first
                         | exact absurd y1 (by omega)
                         | exact absurd (y3 (by omega)).1 (by omega))
                  | (refine cB1 (k t t2) (Or.inr ⟨by omega, fun y => ?_, fun y => ?_⟩)
                     · first
                         | (exfalso; omega)
                         | (have key := key trivial
                            rw [← key]
                            omega)
                     · first
                         | (exfalso; omega)
                         | (refine ⟨by omega, ?_⟩
                            omega))
                  | (refine cB0 (k t t2) (fun y => ?_)
                     rcases y with y | ⟨y1, y2, y3⟩
                     · omega
                     · first
                         | (have y3 := (y3 (by omega)).2
                            omega)
                         | (have y2 := y2 (by omega)
                            have key := key trivial
                            rw [← key] at y2
                            omega))
        · refine x_aload rfl ?_
          refine x_iload rfl ?_
          refine n_call [vR _, vI _] [] (by omega) (Nat.le_of_ble_eq_true rfl) rfl rfl (Nat.le_of_ble_eq_true rfl) ?_
          refine r_standsAll ⟨by omega, by omega⟩ (by omega) hR (fun t t1 t2 => ?_)
          have wr := wB_R (L := L) (c := c) n (6 * on i + ot i)
          show wp PP _ _ _ [some (vR _), some (vI _), some (vI _), some (vI _), some (vI _), _] [] _ _
          refine x_aload rfl ?_
          refine h_getR sc_94 rfl (by omega) ?_
          refine x_ci ?_
          refine x_iload rfl ?_
          refine x_imul ?_
          refine x_iload rfl ?_
          refine x_iadd ?_
          refine h_iald sc_115 ⟨by omega, by omega⟩ (by decide) ?_
          rw [t1.2.1 _ (by omega) (by omega)]
          refine x_aload rfl ?_
          refine h_getR sc_94 rfl (by omega) ?_
          refine x_iload rfl ?_
          refine h_iald sc_127 ⟨by omega, by omega⟩ (by decide) ?_
          rw [t2 127 (by omega) i, q3.2.1]
          refine n_icmp_lt ⟨by omega, by omega⟩ ⟨by omega, by omega⟩ (fun c5 => ?_) (fun c5 => ?_)
          · refine x_ci ?_
            refine x_fall ?_
            refine x_aload rfl ?_
            refine h_getR sc_94 rfl (by omega) ?_
            refine x_iload rfl ?_
            refine h_bald2 sc_128 ⟨by omega, by omega⟩ (by decide) ?_
            rw [t2 128 (by omega) i, q3.2.2]
            refine n_icmp_ne ⟨by omega, by omega⟩ ⟨by omega, by omega⟩ (fun c6 => ?_) (fun c6 => ?_)
            · refine x_ci ?_
              refine x_fall ?_
              refine x_zret (by first | exact bI_01 _ | omega) ?_
              first
                | (exfalso; omega)
                | (refine cB0 (k s rfr_rfl) (fun y => ?_)
                   rcases y with y | ⟨y1, y2, y3⟩
                   · omega
                   · first
                       | exact absurd y1 (by omega)
                       | exact absurd (y3 (by omega)).1 (by omega))
                | (refine cB1 (k t t2) (Or.inr ⟨by omega, fun y => ?_, fun y => ?_⟩)
                   · first
                       | (exfalso; omega)
                       | (have key := key trivial
                          rw [← key]
                          omega)
                   · first
                       | (exfalso; omega)
                       | (refine ⟨by omega, ?_⟩
                          omega))
                | (refine cB0 (k t t2) (fun y => ?_)
                   rcases y with y | ⟨y1, y2, y3⟩
                   · omega
                   · first
                       | (have y3 := (y3 (by omega)).2
                          omega)
                       | (have y2 := y2 (by omega)
                          have key := key trivial
                          rw [← key] at y2
                          omega))
            · refine x_ci ?_
              refine x_goto ?_
              refine x_zret (by first | exact bI_01 _ | omega) ?_
              first
                | (exfalso; omega)
                | (refine cB0 (k s rfr_rfl) (fun y => ?_)
                   rcases y with y | ⟨y1, y2, y3⟩
                   · omega
                   · first
                       | exact absurd y1 (by omega)
                       | exact absurd (y3 (by omega)).1 (by omega))
                | (refine cB1 (k t t2) (Or.inr ⟨by omega, fun y => ?_, fun y => ?_⟩)
                   · first
                       | (exfalso; omega)
                       | (have key := key trivial
                          rw [← key]
                          omega)
                   · first
                       | (exfalso; omega)
                       | (refine ⟨by omega, ?_⟩
                          omega))
                | (refine cB0 (k t t2) (fun y => ?_)
                   rcases y with y | ⟨y1, y2, y3⟩
                   · omega
                   · first
                       | (have y3 := (y3 (by omega)).2
                          omega)
                       | (have y2 := y2 (by omega)
                          have key := key trivial
                          rw [← key] at y2
                          omega))
          · refine x_ci ?_
            refine x_goto ?_
            refine x_aload rfl ?_
            refine h_getR sc_94 rfl (by omega) ?_
            refine x_iload rfl ?_
            refine h_bald2 sc_128 ⟨by omega, by omega⟩ (by decide) ?_
            rw [t2 128 (by omega) i, q3.2.2]
            refine n_icmp_ne ⟨by omega, by omega⟩ ⟨by omega, by omega⟩ (fun c6 => ?_) (fun c6 => ?_)
            · refine x_ci ?_
              refine x_fall ?_
              refine x_zret (by first | exact bI_01 _ | omega) ?_
              first
                | (exfalso; omega)
                | (refine cB0 (k s rfr_rfl) (fun y => ?_)
                   rcases y with y | ⟨y1, y2, y3⟩
                   · omega
                   · first
                       | exact absurd y1 (by omega)
                       | exact absurd (y3 (by omega)).1 (by omega))
                | (refine cB1 (k t t2) (Or.inr ⟨by omega, fun y => ?_, fun y => ?_⟩)
                   · first
                       | (exfalso; omega)
                       | (have key := key trivial
                          rw [← key]
                          omega)
                   · first
                       | (exfalso; omega)
                       | (refine ⟨by omega, ?_⟩
                          omega))
                | (refine cB0 (k t t2) (fun y => ?_)
                   rcases y with y | ⟨y1, y2, y3⟩
                   · omega
                   · first
                       | (have y3 := (y3 (by omega)).2
                          omega)
                       | (have y2 := y2 (by omega)
                          have key := key trivial
                          rw [← key] at y2
                          omega))
            · refine x_ci ?_
              refine x_goto ?_
              refine x_zret (by first | exact bI_01 _ | omega) ?_
              first
                | (exfalso; omega)
                | (refine cB0 (k s rfr_rfl) (fun y => ?_)
                   rcases y with y | ⟨y1, y2, y3⟩
                   · omega
                   · first
                       | exact absurd y1 (by omega)
                       | exact absurd (y3 (by omega)).1 (by omega))
                | (refine cB1 (k t t2) (Or.inr ⟨by omega, fun y => ?_, fun y => ?_⟩)
                   · first
                       | (exfalso; omega)
                       | (have key := key trivial
                          rw [← key]
                          omega)
                   · first
                       | (exfalso; omega)
                       | (refine ⟨by omega, ?_⟩
                          omega))
                | (refine cB0 (k t t2) (fun y => ?_)
                   rcases y with y | ⟨y1, y2, y3⟩
                   · omega
                   · first
                       | (have y3 := (y3 (by omega)).2
                          omega)
                       | (have y2 := y2 (by omega)
                          have key := key trivial
                          rw [← key] at y2
                          omega))
      · refine x_fall ?_
        refine x_ci ?_
        refine x_zret (by first | exact bI_01 _ | omega) ?_
        first
          | (exfalso; omega)
          | (refine cB0 (k s rfr_rfl) (fun y => ?_)
             rcases y with y | ⟨y1, y2, y3⟩
             · omega
             · first
                 | exact absurd y1 (by omega)
                 | exact absurd (y3 (by omega)).1 (by omega))
          | (refine cB1 (k t t2) (Or.inr ⟨by omega, fun y => ?_, fun y => ?_⟩)
             · first
                 | (exfalso; omega)
                 | (have key := key trivial
                    rw [← key]
                    omega)
             · first
                 | (exfalso; omega)
                 | (refine ⟨by omega, ?_⟩
                    omega))
          | (refine cB0 (k t t2) (fun y => ?_)
             rcases y with y | ⟨y1, y2, y3⟩
             · omega
             · first
                 | (have y3 := (y3 (by omega)).2
                    omega)
                 | (have y2 := y2 (by omega)
                    have key := key trivial
                    rw [← key] at y2
                    omega))
theorem r_areSo {z : Nat} {kf : Int} {kd on ot mu ia : Int → Int} {X : Int → Int} (hd : 9 ≤ d) (hf : 0 ≤ f ∧ f < 23) (hR : RD f L n c s) (hr : RN z kf kd on ot mu ia s) (ho : okR z kf kd on ot mu ia) (hX : ∀ r : Int, 0 ≤ r → r < kz z kf → s 129 r = X r) (hX1 : ∀ r, X r = 0 ∨ X r = 1) (k : ∀ t, rfr s t → Q (some (vI (bI (allP (kz z kf).toNat X L n c kd on ot mu ia)))) (HP h0 t)) : wpM PP d 175 [vR 94, vI f] (HP h0 s) Q := by
  have hz := ho.1
  have hk := kz_R ho
  have hkf := ho.2.1
  have hkf2 := ho.2.2.1
  have L1 : ∀ N : Nat, ∀ (i : Int) (t : St), (0 ≤ i ∧ i ≤ kz z kf) → (N = (kz z kf).toNat - i.toNat) → (rfr s t) → (∀ r : Int, 0 ≤ r → r < i → ¬ X r = 0 ∨ soP L n c kd on ot mu ia r) →  wp PP d mb175 (mb175.getD 1 []) [some (vR 94), some (vI f), some (vI i)] [] (HP h0 t) Q := by
    refine s_ind (fun N ih => ?_)
    intro i t hi hn g1 g
    refine x_iload rfl ?_
    refine x_aload rfl ?_
    refine n_call [vR _] [vI _] (by omega) (Nat.le_of_ble_eq_true rfl) rfl rfl (Nat.le_of_ble_eq_true rfl) ?_
    refine r_knownMany (z := z) (kf := kf) ((g1 94 (by omega) _).trans hr.1) ((g1 94 (by omega) _).trans hr.2.1) (by omega) ?_
    show wp PP _ _ _ [some (vR _), some (vI _), some (vI _)] [vI _, vI _] _ _
    refine n_icmp_ge ⟨by omega, by omega⟩ ⟨by omega, by omega⟩ (fun c1 => ?_) (fun c1 => ?_)
    · refine x_ci ?_
      refine x_zret (by first | exact bI_01 _ | omega) ?_
      first
        | exact cB0 (k _ (rfr_tr g1 u1)) (ex_all (P := fun i => ¬ X i = 0 ∨ soP L n c kd on ot mu ia i) hi.1 (by omega) (fun y => y.elim (fun y => y c2) c4))
        | exact cB1 (k t g1) (all_fin (P := fun i => ¬ X i = 0 ∨ soP L n c kd on ot mu ia i) (fun r r0 r1 => g r r0 (by omega)))
    · refine x_aload rfl ?_
      refine h_getR sc_94 rfl (by omega) ?_
      refine x_iload rfl ?_
      refine h_bald2 sc_129 ⟨by omega, by omega⟩ (by decide) ?_
      rw [g1 129 (by omega) i, hX i (by omega) (by omega)]
      have xr := hX1 i
      refine n_if_ne ⟨by omega, by omega⟩ (fun c2 => ?_) (fun c2 => ?_)
      · refine n_iinc [some (vR _), some (vI _), some (vI _)] rfl rfl ?_
        refine x_goto ?_
        refine ih ((kz z kf).toNat - (i + 1).toNat) (by omega) (i + 1) _ (by omega) (by omega) (g1) (fun r r0 r1 => ?_)
        by_cases e : r = i
        · rw [e]
          exact Or.inl c2
        · exact g r r0 (by omega)
      · refine x_aload rfl ?_
        refine h_getR sc_94 rfl (by omega) ?_
        refine x_iload rfl ?_
        refine h_iald sc_124 ⟨by omega, by omega⟩ (by decide) ?_
        rw [g1 124 (by omega) i, (hr.2.2 i (by omega) (by omega)).1]
        have o1 := (ho.2.2.2 i (by omega) (by omega)).1
        refine x_ci ?_
        refine n_icmp_eq ⟨by omega, by omega⟩ ⟨by omega, by omega⟩ (fun c3 => ?_) (fun c3 => ?_)
        · refine n_iinc [some (vR _), some (vI _), some (vI _)] rfl rfl ?_
          refine x_goto ?_
          refine ih ((kz z kf).toNat - (i + 1).toNat) (by omega) (i + 1) _ (by omega) (by omega) (g1) (fun r r0 r1 => ?_)
          by_cases e : r = i
          · rw [e]
            exact Or.inr (Or.inl c3)
          · exact g r r0 (by omega)
        · refine x_aload rfl ?_
          refine x_iload rfl ?_
          refine x_iload rfl ?_
          refine n_call [vR _, vI _, vI _] [] (by omega) (Nat.le_of_ble_eq_true rfl) rfl rfl (Nat.le_of_ble_eq_true rfl) ?_
          have hr' : RN z kf kd on ot mu ia t := ⟨(g1 94 (by omega) _).trans hr.1, (g1 94 (by omega) _).trans hr.2.1, fun r r0 r1 => by
            rw [g1 124 (by omega), g1 125 (by omega), g1 126 (by omega), g1 127 (by omega), g1 128 (by omega)]
            exact hr.2.2 r r0 r1⟩
          refine r_isSo (by omega) hf (g1.rd hR) hr' ho ⟨by omega, by omega⟩ c3 (fun u u1 => ?_)
          show wp PP _ _ _ [some (vR _), some (vI _), some (vI _)] [vI _] _ _
          refine z_if_ne (fun c4 => ?_) (fun c4 => ?_)
          · refine n_iinc [some (vR _), some (vI _), some (vI _)] rfl rfl ?_
            refine x_goto ?_
            refine ih ((kz z kf).toNat - (i + 1).toNat) (by omega) (i + 1) _ (by omega) (by omega) (rfr_tr g1 u1) (fun r r0 r1 => ?_)
            by_cases e : r = i
            · rw [e]
              exact Or.inr c4
            · exact g r r0 (by omega)
          · refine x_ci ?_
            refine x_zret (by first | exact bI_01 _ | omega) ?_
            first
              | exact cB0 (k _ (rfr_tr g1 u1)) (ex_all (P := fun i => ¬ X i = 0 ∨ soP L n c kd on ot mu ia i) hi.1 (by omega) (fun y => y.elim (fun y => y c2) c4))
              | exact cB1 (k t g1) (all_fin (P := fun i => ¬ X i = 0 ∨ soP L n c kd on ot mu ia i) (fun r r0 r1 => g r r0 (by omega)))
  refine n_at (m := 175) (q := mr175) (kn := (0, 2)) [some (vR _), some (vI _), none] mb175 rfl rfl (h_rcv sc_94) (Nat.le_of_ble_eq_true rfl) rfl rfl ?_
  refine x_ci ?_
  refine n_istore [some (vR _), some (vI _), some (vI _)] (Nat.le_of_ble_eq_true rfl) rfl ?_
  refine x_fall ?_
  refine L1 (kz z kf).toNat 0 s (by omega) (by omega) rfr_rfl (fun r r0 r1 => by omega)
end RG
