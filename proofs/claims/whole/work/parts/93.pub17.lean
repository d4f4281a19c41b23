/-! AHEAD of the reference; TRIED -/
section PA8
variable {d tp : Nat} {h0 : pheap} {s : St} {Q : Option pv → pheap → Prop} {L : Int} {n zqq K N : Nat} {c c' : Int → Int} {Hs : Hst} {vw rf sl yr la slp : Int} {kc lb le ty tc : Int → Int} {Y : YS}
theorem r_ahead (hd : 16 ≤ d) (hD : DR 0 vw rf sl yr la L n c s) (hoy : okY (yOf vw rf sl yr la n c)) (hyr : 0 ≤ yr ∧ yr ≤ 9900) (h45 : s 94 45 = 0) (htl : TLN K ty tc s) (hsl : s 96 2 = slp) (hsr : 0 ≤ slp ∧ slp ≤ 100) (hw : LWR kc lb le s) (ho : okL kc lb le) {m wqq : Int} (hm : iR m) (hw0 : iR wqq) (kY : (0 ≤ m ∧ m ≤ 99 ∧ 0 ≤ wqq ∧ wqq ≤ 4) → ∀ tqq, lkN s tqq → Q (some (vI (ahA L rf (yrN L kc lb le 0 0 1 slp K ty tc (yOf vw rf sl yr la n c) m.toNat) wqq))) (HP h0 tqq)) (kN : ¬ (0 ≤ m ∧ m ≤ 99 ∧ 0 ≤ wqq ∧ wqq ≤ 4) → Q (some (vI (-2147483648))) (HP h0 (up s 94 0 0))) : wpM PP d 151 [vR 94, vI m, vI wqq] (HP h0 s) Q := by
  obtain ⟨w1qq, w2qq, w3qq, w4qq, w5qq, hr0⟩ := hD
  have hD0 : DR 0 vw rf sl yr la L n c s := ⟨w1qq, w2qq, w3qq, w4qq, w5qq, hr0⟩
  obtain ⟨hL, hn, hv, r1, r2, r3⟩ := hr0
  have hct := cnt_R L
  refine n_at (m := 151) (q := mr151) (kn := (0, 3)) [some (vR _), some (vI _), some (vI _)] mb151 rfl rfl (h_rcv sc_94) (Nat.le_of_ble_eq_true rfl) rfl rfl ?_
  refine x_aload rfl ?_
  refine x_ci ?_
  refine h_putI 0 sc_94 rfl rfl ?_
  refine x_iload rfl ?_
  refine n_if_lt ⟨by omega, by omega⟩ (fun c1 => ?_) (fun c1 => ?_)
  · refine x_ci ?_
    refine x_iret ?_
    first
      | exact kN (fun q => by omega)
      | (have e : wqq = 0 := by omega
         subst e
         exact cI (kY (by omega) vqq gk) ((fv 112 1 (by omega)).trans x5).symm)
      | (have e : wqq = 1 := by omega
         subst e
         exact cI (kY (by omega) vqq gk) ((fv 110 1 (by omega)).trans u1qq.2.1).symm)
      | (have e : wqq = 2 := by omega
         subst e
         refine cI (kY (by omega) vqq gk) ?_
         rw [fv 108 1 (by omega), u1qq.2.2.1, fv 108 0 (by omega), u2qq 108 0 (by omega) (by omega) (by omega) (by omega) (by omega) (by omega), ft 108 0 (by omega) (by omega) (by omega), w2qq]
         rfl)
      | (have e : wqq = 3 := by omega
         subst e
         exact cI (kY (by omega) vqq gk) rfl)
      | (have e : wqq = 4 := by omega
         subst e
         refine cI (kY (by omega) vqq gk) ?_
         show bI (tpO (wO L (yrN L kc lb le 0 0 1 slp K ty tc (yOf vw rf sl yr la n c) mm).1.2.2.2 (yrN L kc lb le 0 0 1 slp K ty tc (yOf vw rf sl yr la n c) mm).1.2.2.1) (cnt L).toNat (cnt L).toNat = 0) = _
         first
           | exact bI_t (by assumption)
           | exact bI_f (by assumption))
  · refine x_iload rfl ?_
    refine x_ci ?_
    refine n_icmp_gt ⟨by omega, by omega⟩ ⟨by omega, by omega⟩ (fun c2 => ?_) (fun c2 => ?_)
    · refine x_ci ?_
      refine x_iret ?_
      first
        | exact kN (fun q => by omega)
        | (have e : wqq = 0 := by omega
           subst e
           exact cI (kY (by omega) vqq gk) ((fv 112 1 (by omega)).trans x5).symm)
        | (have e : wqq = 1 := by omega
           subst e
           exact cI (kY (by omega) vqq gk) ((fv 110 1 (by omega)).trans u1qq.2.1).symm)
        | (have e : wqq = 2 := by omega
           subst e
           refine cI (kY (by omega) vqq gk) ?_
           rw [fv 108 1 (by omega), u1qq.2.2.1, fv 108 0 (by omega), u2qq 108 0 (by omega) (by omega) (by omega) (by omega) (by omega) (by omega), ft 108 0 (by omega) (by omega) (by omega), w2qq]
           rfl)
        | (have e : wqq = 3 := by omega
           subst e
           exact cI (kY (by omega) vqq gk) rfl)
        | (have e : wqq = 4 := by omega
           subst e
           refine cI (kY (by omega) vqq gk) ?_
           show bI (tpO (wO L (yrN L kc lb le 0 0 1 slp K ty tc (yOf vw rf sl yr la n c) mm).1.2.2.2 (yrN L kc lb le 0 0 1 slp K ty tc (yOf vw rf sl yr la n c) mm).1.2.2.1) (cnt L).toNat (cnt L).toNat = 0) = _
           first
             | exact bI_t (by assumption)
             | exact bI_f (by assumption))
    · refine x_iload rfl ?_
      refine n_if_lt ⟨by omega, by omega⟩ (fun c3 => ?_) (fun c3 => ?_)
      · refine x_ci ?_
        refine x_iret ?_
        first
          | exact kN (fun q => by omega)
          | (have e : wqq = 0 := by omega
             subst e
             exact cI (kY (by omega) vqq gk) ((fv 112 1 (by omega)).trans x5).symm)
          | (have e : wqq = 1 := by omega
             subst e
             exact cI (kY (by omega) vqq gk) ((fv 110 1 (by omega)).trans u1qq.2.1).symm)
          | (have e : wqq = 2 := by omega
             subst e
             refine cI (kY (by omega) vqq gk) ?_
             rw [fv 108 1 (by omega), u1qq.2.2.1, fv 108 0 (by omega), u2qq 108 0 (by omega) (by omega) (by omega) (by omega) (by omega) (by omega), ft 108 0 (by omega) (by omega) (by omega), w2qq]
             rfl)
          | (have e : wqq = 3 := by omega
             subst e
             exact cI (kY (by omega) vqq gk) rfl)
          | (have e : wqq = 4 := by omega
             subst e
             refine cI (kY (by omega) vqq gk) ?_
             show bI (tpO (wO L (yrN L kc lb le 0 0 1 slp K ty tc (yOf vw rf sl yr la n c) mm).1.2.2.2 (yrN L kc lb le 0 0 1 slp K ty tc (yOf vw rf sl yr la n c) mm).1.2.2.1) (cnt L).toNat (cnt L).toNat = 0) = _
             first
               | exact bI_t (by assumption)
               | exact bI_f (by assumption))
      · refine x_iload rfl ?_
        refine x_ci ?_
        refine n_icmp_le ⟨by omega, by omega⟩ ⟨by omega, by omega⟩ (fun c4 => ?_) (fun c4 => ?_)
        · refine x_aload rfl ?_
          refine x_ci ?_
          refine x_ci ?_
          refine n_call [vR _, vI _, vI _] [] (by omega) (Nat.le_of_ble_eq_true rfl) rfl rfl (Nat.le_of_ble_eq_true rfl) ?_
          refine r_copies (to := 1) (as := 0) (n := n) (by omega) (by omega) (by omega) ((up_a (by decide)).trans r2) hn (fun tqq t1qq => ?_)
          have ft : ∀ (b : Nat) (r : Int), ¬ (106 ≤ b ∧ b ≤ 112 ∧ r = 1) → ¬ (b = 113 ∧ 48 ≤ r ∧ r < 96) → ¬ (b = 94 ∧ r = 0) → tqq b r = s b r := fun b r q1 q2 q3 => by
            rw [t1qq.1 b r q1 (by omega), up_f (by omega)]
          have hDt : DR 1 vw rf sl yr la L n c tqq := t1qq.dr (hD0.up (by decide))
          show wp PP _ _ _ [some (vR _), some (vI _), some (vI _)] [] _ _
          refine x_aload rfl ?_
          refine x_iload rfl ?_
          refine n_call [vR _, vI _] [] (by omega) (Nat.le_of_ble_eq_true rfl) rfl rfl (Nat.le_of_ble_eq_true rfl) ?_
          obtain ⟨mm, hmm⟩ : ∃ mm : Nat, m = mm := ⟨m.toNat, by omega⟩
          subst hmm
          refine r_goesOn (m := mm) (am := 0) (tu := 0) (way := 1) (tw := 0) (slp := slp) (K := K) (ty := ty) (tc := tc) (kc := kc) (lb := lb) (le := le) (by omega) (by omega) hDt.rs hoy ?_ (htl.of (fun b r q => ft b r (by omega) (by omega) (by omega))) ((ft 94 45 (by omega) (by omega) (by omega)).trans h45) (by omega) (Or.inr ⟨by omega, rfl⟩) (Or.inr ⟨by omega, rfl⟩) (Or.inr ⟨by omega, rfl⟩) ((ft 96 2 (by omega) (by omega) (by omega)).trans hsl) hsr (hw.of (fun b r q => ft b r (by omega) (by omega) (by omega))) ho (fun uqq u1qq u2qq => ?_)
          · show 0 ≤ yr ∧ yr ≤ 90000
            omega
          show wp PP _ _ _ [some (vR _), some (vI _), some (vI _)] [] _ _
          refine x_aload rfl ?_
          refine x_ci ?_
          refine n_call [vR _, vI _] [] (by omega) (Nat.le_of_ble_eq_true rfl) rfl rfl (Nat.le_of_ble_eq_true rfl) ?_
          refine r_standsAll (f := 1) (by omega) (by omega) u1qq.1 (fun vqq v1qq v2qq => ?_)
          have fv : ∀ (b : Nat) (r : Int), ¬ (114 ≤ b ∧ b ≤ 117) → vqq b r = uqq b r := fun b r q => v2qq b (by omega) r
          have gk : lkN s vqq := fun b r q1 q2 q3 q4 q5 q6 q7 => by
            rw [fv b r (by omega), u2qq b r (by omega) (by omega) (by omega) (by omega) (by omega) (by omega), ft b r (by omega) (by omega) (by omega)]
          obtain ⟨x1, x2, x3, x4, x5, x6⟩ := u1qq.1
          have hr1 : RD 1 L (yrN L kc lb le 0 0 1 slp K ty tc (yOf vw rf sl yr la n c) mm).1.2.2.1 (yrN L kc lb le 0 0 1 slp K ty tc (yOf vw rf sl yr la n c) mm).1.2.2.2 vqq := ⟨x1, x2, x3, (fv 111 1 (by omega)).trans x4, (fv 112 1 (by omega)).trans x5, fun i i0 i1 => (fv 113 _ (by omega)).trans (x6 i i0 i1)⟩
          show wp PP _ _ _ [some (vR _), some (vI _), some (vI _)] [] _ _
          refine x_iload rfl ?_
          refine n_tsw 4 rfl ⟨by omega, by omega⟩ (fun c5 => ?_) (And.intro (fun c5 => ?_) (And.intro (fun c5 => ?_) (And.intro (fun c5 => ?_) (And.intro (fun c5 => ?_) trivial))))
          · refine x_aload rfl ?_
            refine x_ci ?_
            refine n_call [vR _, vI _] [] (by omega) (Nat.le_of_ble_eq_true rfl) rfl rfl (Nat.le_of_ble_eq_true rfl) ?_
            refine r_areHome (f := 1) (by omega) (by omega) hr1 v1qq ?_
            show wp PP _ _ _ [some (vR _), some (vI _), some (vI _)] [vI _] _ _
            refine z_if_eq (fun c6 => ?_) (fun c6 => ?_)
            · refine x_ci ?_
              refine x_fall ?_
              refine x_iret ?_
              first
                | exact kN (fun q => by omega)
                | (have e : wqq = 0 := by omega
                   subst e
                   exact cI (kY (by omega) vqq gk) ((fv 112 1 (by omega)).trans x5).symm)
                | (have e : wqq = 1 := by omega
                   subst e
                   exact cI (kY (by omega) vqq gk) ((fv 110 1 (by omega)).trans u1qq.2.1).symm)
                | (have e : wqq = 2 := by omega
                   subst e
                   refine cI (kY (by omega) vqq gk) ?_
                   rw [fv 108 1 (by omega), u1qq.2.2.1, fv 108 0 (by omega), u2qq 108 0 (by omega) (by omega) (by omega) (by omega) (by omega) (by omega), ft 108 0 (by omega) (by omega) (by omega), w2qq]
                   rfl)
                | (have e : wqq = 3 := by omega
                   subst e
                   exact cI (kY (by omega) vqq gk) rfl)
                | (have e : wqq = 4 := by omega
                   subst e
                   refine cI (kY (by omega) vqq gk) ?_
                   show bI (tpO (wO L (yrN L kc lb le 0 0 1 slp K ty tc (yOf vw rf sl yr la n c) mm).1.2.2.2 (yrN L kc lb le 0 0 1 slp K ty tc (yOf vw rf sl yr la n c) mm).1.2.2.1) (cnt L).toNat (cnt L).toNat = 0) = _
                   first
                     | exact bI_t (by assumption)
                     | exact bI_f (by assumption))
            · refine x_ci ?_
              refine x_goto ?_
              refine x_iret ?_
              first
                | exact kN (fun q => by omega)
                | (have e : wqq = 0 := by omega
                   subst e
                   exact cI (kY (by omega) vqq gk) ((fv 112 1 (by omega)).trans x5).symm)
                | (have e : wqq = 1 := by omega
                   subst e
                   exact cI (kY (by omega) vqq gk) ((fv 110 1 (by omega)).trans u1qq.2.1).symm)
                | (have e : wqq = 2 := by omega
                   subst e
                   refine cI (kY (by omega) vqq gk) ?_
                   rw [fv 108 1 (by omega), u1qq.2.2.1, fv 108 0 (by omega), u2qq 108 0 (by omega) (by omega) (by omega) (by omega) (by omega) (by omega), ft 108 0 (by omega) (by omega) (by omega), w2qq]
                   rfl)
                | (have e : wqq = 3 := by omega
                   subst e
                   exact cI (kY (by omega) vqq gk) rfl)
                | (have e : wqq = 4 := by omega
                   subst e
                   refine cI (kY (by omega) vqq gk) ?_
                   show bI (tpO (wO L (yrN L kc lb le 0 0 1 slp K ty tc (yOf vw rf sl yr la n c) mm).1.2.2.2 (yrN L kc lb le 0 0 1 slp K ty tc (yOf vw rf sl yr la n c) mm).1.2.2.1) (cnt L).toNat (cnt L).toNat = 0) = _
                   first
                     | exact bI_t (by assumption)
                     | exact bI_f (by assumption))
          · refine x_aload rfl ?_
            refine h_getR sc_94 rfl (by omega) ?_
            refine x_ci ?_
            refine h_iald sc_112 ⟨by omega, by omega⟩ (by decide) ?_
            refine x_iret ?_
            first
              | exact kN (fun q => by omega)
              | (have e : wqq = 0 := by omega
                 subst e
                 exact cI (kY (by omega) vqq gk) ((fv 112 1 (by omega)).trans x5).symm)
              | (have e : wqq = 1 := by omega
                 subst e
                 exact cI (kY (by omega) vqq gk) ((fv 110 1 (by omega)).trans u1qq.2.1).symm)
              | (have e : wqq = 2 := by omega
                 subst e
                 refine cI (kY (by omega) vqq gk) ?_
                 rw [fv 108 1 (by omega), u1qq.2.2.1, fv 108 0 (by omega), u2qq 108 0 (by omega) (by omega) (by omega) (by omega) (by omega) (by omega), ft 108 0 (by omega) (by omega) (by omega), w2qq]
                 rfl)
              | (have e : wqq = 3 := by omega
                 subst e
                 exact cI (kY (by omega) vqq gk) rfl)
              | (have e : wqq = 4 := by omega
                 subst e
                 refine cI (kY (by omega) vqq gk) ?_
                 show bI (tpO (wO L (yrN L kc lb le 0 0 1 slp K ty tc (yOf vw rf sl yr la n c) mm).1.2.2.2 (yrN L kc lb le 0 0 1 slp K ty tc (yOf vw rf sl yr la n c) mm).1.2.2.1) (cnt L).toNat (cnt L).toNat = 0) = _
                 first
                   | exact bI_t (by assumption)
                   | exact bI_f (by assumption))
          · refine x_aload rfl ?_
            refine h_getR sc_94 rfl (by omega) ?_
            refine x_ci ?_
            refine h_iald sc_110 ⟨by omega, by omega⟩ (by decide) ?_
            refine x_iret ?_
            first
              | exact kN (fun q => by omega)
              | (have e : wqq = 0 := by omega
                 subst e
                 exact cI (kY (by omega) vqq gk) ((fv 112 1 (by omega)).trans x5).symm)
              | (have e : wqq = 1 := by omega
                 subst e
                 exact cI (kY (by omega) vqq gk) ((fv 110 1 (by omega)).trans u1qq.2.1).symm)
              | (have e : wqq = 2 := by omega
                 subst e
                 refine cI (kY (by omega) vqq gk) ?_
                 rw [fv 108 1 (by omega), u1qq.2.2.1, fv 108 0 (by omega), u2qq 108 0 (by omega) (by omega) (by omega) (by omega) (by omega) (by omega), ft 108 0 (by omega) (by omega) (by omega), w2qq]
                 rfl)
              | (have e : wqq = 3 := by omega
                 subst e
                 exact cI (kY (by omega) vqq gk) rfl)
              | (have e : wqq = 4 := by omega
                 subst e
                 refine cI (kY (by omega) vqq gk) ?_
                 show bI (tpO (wO L (yrN L kc lb le 0 0 1 slp K ty tc (yOf vw rf sl yr la n c) mm).1.2.2.2 (yrN L kc lb le 0 0 1 slp K ty tc (yOf vw rf sl yr la n c) mm).1.2.2.1) (cnt L).toNat (cnt L).toNat = 0) = _
                 first
                   | exact bI_t (by assumption)
                   | exact bI_f (by assumption))
          · refine x_aload rfl ?_
            refine h_getR sc_94 rfl (by omega) ?_
            refine x_ci ?_
            refine h_iald sc_108 ⟨by omega, by omega⟩ (by decide) ?_
            refine x_aload rfl ?_
            refine h_getR sc_94 rfl (by omega) ?_
            refine x_ci ?_
            refine h_iald sc_108 ⟨by omega, by omega⟩ (by decide) ?_
            refine x_isub ?_
            refine x_iret ?_
            first
              | exact kN (fun q => by omega)
              | (have e : wqq = 0 := by omega
                 subst e
                 exact cI (kY (by omega) vqq gk) ((fv 112 1 (by omega)).trans x5).symm)
              | (have e : wqq = 1 := by omega
                 subst e
                 exact cI (kY (by omega) vqq gk) ((fv 110 1 (by omega)).trans u1qq.2.1).symm)
              | (have e : wqq = 2 := by omega
                 subst e
                 refine cI (kY (by omega) vqq gk) ?_
                 rw [fv 108 1 (by omega), u1qq.2.2.1, fv 108 0 (by omega), u2qq 108 0 (by omega) (by omega) (by omega) (by omega) (by omega) (by omega), ft 108 0 (by omega) (by omega) (by omega), w2qq]
                 rfl)
              | (have e : wqq = 3 := by omega
                 subst e
                 exact cI (kY (by omega) vqq gk) rfl)
              | (have e : wqq = 4 := by omega
                 subst e
                 refine cI (kY (by omega) vqq gk) ?_
                 show bI (tpO (wO L (yrN L kc lb le 0 0 1 slp K ty tc (yOf vw rf sl yr la n c) mm).1.2.2.2 (yrN L kc lb le 0 0 1 slp K ty tc (yOf vw rf sl yr la n c) mm).1.2.2.1) (cnt L).toNat (cnt L).toNat = 0) = _
                 first
                   | exact bI_t (by assumption)
                   | exact bI_f (by assumption))
          · refine x_aload rfl ?_
            refine n_call [vR _] [] (by omega) (Nat.le_of_ble_eq_true rfl) rfl rfl (Nat.le_of_ble_eq_true rfl) ?_
            refine r_boundPairs (by omega) (by omega) v1qq ?_
            rw [wC_is x1 x3]
            show wp PP _ _ _ [some (vR _), some (vI _), some (vI _)] [vI _] _ _
            refine x_iret ?_
            first
              | exact kN (fun q => by omega)
              | (have e : wqq = 0 := by omega
                 subst e
                 exact cI (kY (by omega) vqq gk) ((fv 112 1 (by omega)).trans x5).symm)
              | (have e : wqq = 1 := by omega
                 subst e
                 exact cI (kY (by omega) vqq gk) ((fv 110 1 (by omega)).trans u1qq.2.1).symm)
              | (have e : wqq = 2 := by omega
                 subst e
                 refine cI (kY (by omega) vqq gk) ?_
                 rw [fv 108 1 (by omega), u1qq.2.2.1, fv 108 0 (by omega), u2qq 108 0 (by omega) (by omega) (by omega) (by omega) (by omega) (by omega), ft 108 0 (by omega) (by omega) (by omega), w2qq]
                 rfl)
              | (have e : wqq = 3 := by omega
                 subst e
                 exact cI (kY (by omega) vqq gk) rfl)
              | (have e : wqq = 4 := by omega
                 subst e
                 refine cI (kY (by omega) vqq gk) ?_
                 show bI (tpO (wO L (yrN L kc lb le 0 0 1 slp K ty tc (yOf vw rf sl yr la n c) mm).1.2.2.2 (yrN L kc lb le 0 0 1 slp K ty tc (yOf vw rf sl yr la n c) mm).1.2.2.1) (cnt L).toNat (cnt L).toNat = 0) = _
                 first
                   | exact bI_t (by assumption)
                   | exact bI_f (by assumption))
        · refine x_fall ?_
          refine x_ci ?_
          refine x_iret ?_
          first
            | exact kN (fun q => by omega)
            | (have e : wqq = 0 := by omega
               subst e
               exact cI (kY (by omega) vqq gk) ((fv 112 1 (by omega)).trans x5).symm)
            | (have e : wqq = 1 := by omega
               subst e
               exact cI (kY (by omega) vqq gk) ((fv 110 1 (by omega)).trans u1qq.2.1).symm)
            | (have e : wqq = 2 := by omega
               subst e
               refine cI (kY (by omega) vqq gk) ?_
               rw [fv 108 1 (by omega), u1qq.2.2.1, fv 108 0 (by omega), u2qq 108 0 (by omega) (by omega) (by omega) (by omega) (by omega) (by omega), ft 108 0 (by omega) (by omega) (by omega), w2qq]
               rfl)
            | (have e : wqq = 3 := by omega
               subst e
               exact cI (kY (by omega) vqq gk) rfl)
            | (have e : wqq = 4 := by omega
               subst e
               refine cI (kY (by omega) vqq gk) ?_
               show bI (tpO (wO L (yrN L kc lb le 0 0 1 slp K ty tc (yOf vw rf sl yr la n c) mm).1.2.2.2 (yrN L kc lb le 0 0 1 slp K ty tc (yOf vw rf sl yr la n c) mm).1.2.2.1) (cnt L).toNat (cnt L).toNat = 0) = _
               first
                 | exact bI_t (by assumption)
                 | exact bI_f (by assumption))
end PA8
