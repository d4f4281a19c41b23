/-! AHEAD, TRIED -/
section PA7
variable {d tp : Nat} {h0 : pheap} {s : St} {Q : Option pv → pheap → Prop} {L : Int} {n zqq K N : Nat} {c c' : Int → Int} {Hs : Hst} {vw rf sl yr la slp : Int} {kc lb le ty tc : Int → Int} {Y : YS}
/-- what AHEAD tells of years gone through -/
def ahA (L rf : Int) (Y : YS) (wqq : Int) : Int := if wqq = 0 then Y.1.2.2.1 else if wqq = 1 then Y.1.1 else if wqq = 2 then Y.1.2.1 - rf else if wqq = 3 then wC L Y.1.2.2.2 Y.1.2.2.1 else bI (tpO (wO L Y.1.2.2.2 Y.1.2.2.1) (cnt L).toNat (cnt L).toNat = 0)
theorem m_ahead (hd : 17 ≤ d) (htp : tp = 37 ∨ tp = 45) (hT : s 32 2 = (tp : Int) + 1) (hD : DA 53 vw rf sl yr la L n c s) (hoy : okY (yOf vw rf sl yr la n c)) (hyr : 0 ≤ yr ∧ yr ≤ 9900) (htl : TLC tp K ty tc s) (hsl : s tp 5 = slp) (hsr : 0 ≤ slp ∧ slp ≤ 100) (hw : LWC tp kc lb le s) (ho : okL kc lb le) {m wqq : Int} (hm : iR m) (hw0 : iR wqq) (kY : (0 ≤ m ∧ m ≤ 99 ∧ 0 ≤ wqq ∧ wqq ≤ 4) → ∀ tqq, lkC tp s tqq → Q (some (vI (ahA L rf (yrN L kc lb le 0 0 1 slp K ty tc (yOf vw rf sl yr la n c) m.toNat) wqq))) (HP h0 tqq)) (kN : ¬ (0 ≤ m ∧ m ≤ 99 ∧ 0 ≤ wqq ∧ wqq ≤ 4) → Q (some (vI (-2147483648))) (HP h0 s)) : wpM PP d 25 [vR 32, vI m, vI wqq] (HP h0 s) Q := by
  obtain ⟨hS, htq⟩ := isc_tp htp
  clear htp
  have hct := cnt_R L
  refine n_at (m := 25) (q := mr25) (kn := (0, 3)) [some (vR _), some (vI _), some (vI _)] mb25 rfl rfl (h_rcv sc_32) (Nat.le_of_ble_eq_true rfl) rfl rfl ?_
  refine x_iload rfl ?_
  refine n_if_lt ⟨by omega, by omega⟩ (fun c1 => ?_) (fun c1 => ?_)
  · refine x_ci ?_
    refine x_iret ?_
    first
      | exact kN (fun q => by omega)
      | (have e : wqq = 0 := by omega
         subst e
         exact cI (kY (by omega) uqq (fun b r q1 q2 q3 q4 => fu b r (by omega) q3 q4)) u1qq.1.size.symm)
      | (have e : wqq = 1 := by omega
         subst e
         exact cI (kY (by omega) uqq (fun b r q1 q2 q3 q4 => fu b r (by omega) q3 q4)) u1qq.2.1.symm)
      | (have e : wqq = 2 := by omega
         subst e
         refine cI (kY (by omega) uqq (fun b r q1 q2 q3 q4 => fu b r (by omega) q3 q4)) ?_
         rw [u1qq.2.2.1, fu 53 2 (by omega) (by omega) (by omega), hD.2.1]
         rfl)
      | (have e : wqq = 3 := by omega
         subst e
         exact cI (kY (by omega) uqq (fun b r q1 q2 q3 q4 => fu b r (by omega) q3 q4)) u1qq.1.bound.symm)
      | (have e : wqq = 4 := by omega
         subst e
         exact cI (kY (by omega) uqq (fun b r q1 q2 q3 q4 => fu b r (by omega) q3 q4)) rfl)
      | (have e : wqq = 4 := by omega
         subst e
         refine cI (kY (by omega) uqq (fun b r q1 q2 q3 q4 => fu b r (by omega) q3 q4)) ?_
         show bI (tpO (wO L (yrN L kc lb le 0 0 1 slp K ty tc (yOf vw rf sl yr la n c) mm).1.2.2.2 (yrN L kc lb le 0 0 1 slp K ty tc (yOf vw rf sl yr la n c) mm).1.2.2.1) (cnt L).toNat (cnt L).toNat = 0) = _
         first
           | exact bI_t (by omega)
           | exact bI_f (by omega))
  · refine x_iload rfl ?_
    refine x_ci ?_
    refine n_icmp_gt ⟨by omega, by omega⟩ ⟨by omega, by omega⟩ (fun c2 => ?_) (fun c2 => ?_)
    · refine x_ci ?_
      refine x_iret ?_
      first
        | exact kN (fun q => by omega)
        | (have e : wqq = 0 := by omega
           subst e
           exact cI (kY (by omega) uqq (fun b r q1 q2 q3 q4 => fu b r (by omega) q3 q4)) u1qq.1.size.symm)
        | (have e : wqq = 1 := by omega
           subst e
           exact cI (kY (by omega) uqq (fun b r q1 q2 q3 q4 => fu b r (by omega) q3 q4)) u1qq.2.1.symm)
        | (have e : wqq = 2 := by omega
           subst e
           refine cI (kY (by omega) uqq (fun b r q1 q2 q3 q4 => fu b r (by omega) q3 q4)) ?_
           rw [u1qq.2.2.1, fu 53 2 (by omega) (by omega) (by omega), hD.2.1]
           rfl)
        | (have e : wqq = 3 := by omega
           subst e
           exact cI (kY (by omega) uqq (fun b r q1 q2 q3 q4 => fu b r (by omega) q3 q4)) u1qq.1.bound.symm)
        | (have e : wqq = 4 := by omega
           subst e
           exact cI (kY (by omega) uqq (fun b r q1 q2 q3 q4 => fu b r (by omega) q3 q4)) rfl)
        | (have e : wqq = 4 := by omega
           subst e
           refine cI (kY (by omega) uqq (fun b r q1 q2 q3 q4 => fu b r (by omega) q3 q4)) ?_
           show bI (tpO (wO L (yrN L kc lb le 0 0 1 slp K ty tc (yOf vw rf sl yr la n c) mm).1.2.2.2 (yrN L kc lb le 0 0 1 slp K ty tc (yOf vw rf sl yr la n c) mm).1.2.2.1) (cnt L).toNat (cnt L).toNat = 0) = _
           first
             | exact bI_t (by omega)
             | exact bI_f (by omega))
    · refine x_iload rfl ?_
      refine n_if_lt ⟨by omega, by omega⟩ (fun c3 => ?_) (fun c3 => ?_)
      · refine x_ci ?_
        refine x_iret ?_
        first
          | exact kN (fun q => by omega)
          | (have e : wqq = 0 := by omega
             subst e
             exact cI (kY (by omega) uqq (fun b r q1 q2 q3 q4 => fu b r (by omega) q3 q4)) u1qq.1.size.symm)
          | (have e : wqq = 1 := by omega
             subst e
             exact cI (kY (by omega) uqq (fun b r q1 q2 q3 q4 => fu b r (by omega) q3 q4)) u1qq.2.1.symm)
          | (have e : wqq = 2 := by omega
             subst e
             refine cI (kY (by omega) uqq (fun b r q1 q2 q3 q4 => fu b r (by omega) q3 q4)) ?_
             rw [u1qq.2.2.1, fu 53 2 (by omega) (by omega) (by omega), hD.2.1]
             rfl)
          | (have e : wqq = 3 := by omega
             subst e
             exact cI (kY (by omega) uqq (fun b r q1 q2 q3 q4 => fu b r (by omega) q3 q4)) u1qq.1.bound.symm)
          | (have e : wqq = 4 := by omega
             subst e
             exact cI (kY (by omega) uqq (fun b r q1 q2 q3 q4 => fu b r (by omega) q3 q4)) rfl)
          | (have e : wqq = 4 := by omega
             subst e
             refine cI (kY (by omega) uqq (fun b r q1 q2 q3 q4 => fu b r (by omega) q3 q4)) ?_
             show bI (tpO (wO L (yrN L kc lb le 0 0 1 slp K ty tc (yOf vw rf sl yr la n c) mm).1.2.2.2 (yrN L kc lb le 0 0 1 slp K ty tc (yOf vw rf sl yr la n c) mm).1.2.2.1) (cnt L).toNat (cnt L).toNat = 0) = _
             first
               | exact bI_t (by omega)
               | exact bI_f (by omega))
      · refine x_iload rfl ?_
        refine x_ci ?_
        refine n_icmp_le ⟨by omega, by omega⟩ ⟨by omega, by omega⟩ (fun c4 => ?_) (fun c4 => ?_)
        · refine x_aload rfl ?_
          refine h_getR sc_32 rfl (by omega) ?_
          refine x_aload rfl ?_
          refine h_getR sc_32 rfl (by omega) ?_
          refine n_call [vR _, vR _] [] (by omega) (Nat.le_of_ble_eq_true rfl) rfl rfl (Nat.le_of_ble_eq_true rfl) ?_
          refine m_danceTake da_63 da_53 (by omega) (by omega) hD (fun tqq t1qq t2qq => ?_)
          show wp PP _ _ _ [some (vR _), some (vI _), some (vI _)] [] _ _
          refine x_aload rfl ?_
          refine h_getR sc_32 rfl (by omega) ?_
          refine x_ci ?_
          refine x_ci ?_
          refine x_ci ?_
          refine n_call [vR _, vI _, vI _, vI _] [] (by omega) (Nat.le_of_ble_eq_true rfl) rfl rfl (Nat.le_of_ble_eq_true rfl) ?_
          have hT3 : ∀ x y wqq : Int, up (up (up tqq 68 1 x) 68 2 y) 68 3 wqq 32 2 = (tp : Int) + 1 := fun x y wqq => by
            rw [up_a (by decide), up_a (by decide), up_a (by decide)]
            exact (t2qq 32 (by omega) 2).trans hT
          refine m_choose (by omega) (by omega) ?_
          show wp PP _ _ _ [some (vR _), some (vI _), some (vI _)] [] _ _
          refine x_aload rfl ?_
          refine h_getR sc_32 rfl (by omega) ?_
          refine x_aload rfl ?_
          refine h_getB 2 sc_32 rfl rfl (by first | exact hT | exact hT2 | exact hT3 _ _ _) ?_
          refine x_aload rfl ?_
          refine h_getR sc_32 rfl (by omega) ?_
          refine x_iload rfl ?_
          refine n_call [vR _, vR _, vR _, vI _] [] (by omega) (Nat.le_of_ble_eq_true rfl) rfl rfl (Nat.le_of_ble_eq_true rfl) ?_
          obtain ⟨mm, hmm⟩ : ∃ mm : Nat, m = mm := ⟨m.toNat, by omega⟩
          subst hmm
          have f_ : ∀ (b : Nat) (r : Int), (b < 63 ∨ 68 < b) → up (up (up tqq 68 1 1) 68 2 0) 68 3 0 b r = s b r := fun b r q => by
            rw [up_a (by omega), up_a (by omega), up_a (by omega)]
            exact t2qq b (by omega) r
          refine m_pass (am := 0) (tu := 0) (way := 1) (slp := slp) (K := K) (ty := ty) (tc := tc) (kc := kc) (lb := lb) (le := le) da_63 hS (by omega) (by omega) (by omega) (by omega) (by omega) (PSup (PSup (PSup t1qq.ps (by decide)) (by decide)) (by decide)) hoy (by omega) ?_ (htl.of (fun b r q => f_ b r (by omega))) ?_ (by omega) ?_ (by omega) ?_ (by omega) ((f_ tp 5 (by omega)).trans hsl) hsr (hw.of (fun b r q => f_ b r (by omega))) ho (fun uqq u1qq u2qq => ?_)
          · show 0 ≤ yr ∧ yr ≤ 90000
            omega
          · rw [up_i (by decide), up_e]
          · rw [up_e]
          · rw [up_i (by decide), up_i (by decide), up_e]
          have fu : ∀ (b : Nat) (r : Int), (b < 63 ∨ 69 < b) → ¬ b = tp + 7 → ¬ (b = tp ∧ r = 15) → uqq b r = s b r := fun b r q1 q2 q3 => by
            rw [u2qq b r (by omega) (by omega) q2 q3]
            exact f_ b r (by omega)
          have hT2 : uqq 32 2 = (tp : Int) + 1 := (fu 32 2 (by omega) (by omega) (by omega)).trans hT
          show wp PP _ _ _ [some (vR _), some (vI _), some (vI _)] [] _ _
          refine x_iload rfl ?_
          refine n_tsw 4 rfl ⟨by omega, by omega⟩ (fun c5 => ?_) (And.intro (fun c5 => ?_) (And.intro (fun c5 => ?_) (And.intro (fun c5 => ?_) (And.intro (fun c5 => ?_) trivial))))
          · refine x_aload rfl ?_
            refine h_getR sc_32 rfl (by omega) ?_
            refine h_getR sc_63 rfl (by omega) ?_
            refine n_call [vR _] [] (by omega) (Nat.le_of_ble_eq_true rfl) rfl rfl (Nat.le_of_ble_eq_true rfl) ?_
            have tpq : ((cnt L).toNat : Int) * ((cnt L).toNat : Int) ≤ 36 := by
              have := Nat.mul_le_mul (show (cnt L).toNat ≤ 6 by omega) (show (cnt L).toNat ≤ 6 by omega)
              have e := Int.natCast_mul (cnt L).toNat (cnt L).toNat
              omega
            have tpR := tpO_R (wO L (yrN L kc lb le 0 0 1 slp K ty tc (yOf vw rf sl yr la n c) mm).1.2.2.2 (yrN L kc lb le 0 0 1 slp K ty tc (yOf vw rf sl yr la n c) mm).1.2.2.1) (cnt L).toNat (cnt L).toNat
            refine m_turnedPairs pl_64 (by omega) u1qq.1 ?_
            show wp PP _ _ _ [some (vR _), some (vI _), some (vI _)] [vI _] _ _
            refine n_if_ne ⟨by omega, by omega⟩ (fun c6 => ?_) (fun c6 => ?_)
            · refine x_ci ?_
              refine x_fall ?_
              refine n_call [vI _] [] (by omega) (Nat.le_of_ble_eq_true rfl) rfl rfl (Nat.le_of_ble_eq_true rfl) ?_
              refine m_bit (by first | exact bI_01 _ | omega) ?_
              show wp PP _ _ _ [some (vR _), some (vI _), some (vI _)] [vI _] _ _
              refine x_iret ?_
              first
                | exact kN (fun q => by omega)
                | (have e : wqq = 0 := by omega
                   subst e
                   exact cI (kY (by omega) uqq (fun b r q1 q2 q3 q4 => fu b r (by omega) q3 q4)) u1qq.1.size.symm)
                | (have e : wqq = 1 := by omega
                   subst e
                   exact cI (kY (by omega) uqq (fun b r q1 q2 q3 q4 => fu b r (by omega) q3 q4)) u1qq.2.1.symm)
                | (have e : wqq = 2 := by omega
                   subst e
                   refine cI (kY (by omega) uqq (fun b r q1 q2 q3 q4 => fu b r (by omega) q3 q4)) ?_
                   rw [u1qq.2.2.1, fu 53 2 (by omega) (by omega) (by omega), hD.2.1]
                   rfl)
                | (have e : wqq = 3 := by omega
                   subst e
                   exact cI (kY (by omega) uqq (fun b r q1 q2 q3 q4 => fu b r (by omega) q3 q4)) u1qq.1.bound.symm)
                | (have e : wqq = 4 := by omega
                   subst e
                   exact cI (kY (by omega) uqq (fun b r q1 q2 q3 q4 => fu b r (by omega) q3 q4)) rfl)
                | (have e : wqq = 4 := by omega
                   subst e
                   refine cI (kY (by omega) uqq (fun b r q1 q2 q3 q4 => fu b r (by omega) q3 q4)) ?_
                   show bI (tpO (wO L (yrN L kc lb le 0 0 1 slp K ty tc (yOf vw rf sl yr la n c) mm).1.2.2.2 (yrN L kc lb le 0 0 1 slp K ty tc (yOf vw rf sl yr la n c) mm).1.2.2.1) (cnt L).toNat (cnt L).toNat = 0) = _
                   first
                     | exact bI_t (by omega)
                     | exact bI_f (by omega))
            · refine x_ci ?_
              refine x_goto ?_
              refine n_call [vI _] [] (by omega) (Nat.le_of_ble_eq_true rfl) rfl rfl (Nat.le_of_ble_eq_true rfl) ?_
              refine m_bit (by first | exact bI_01 _ | omega) ?_
              show wp PP _ _ _ [some (vR _), some (vI _), some (vI _)] [vI _] _ _
              refine x_iret ?_
              first
                | exact kN (fun q => by omega)
                | (have e : wqq = 0 := by omega
                   subst e
                   exact cI (kY (by omega) uqq (fun b r q1 q2 q3 q4 => fu b r (by omega) q3 q4)) u1qq.1.size.symm)
                | (have e : wqq = 1 := by omega
                   subst e
                   exact cI (kY (by omega) uqq (fun b r q1 q2 q3 q4 => fu b r (by omega) q3 q4)) u1qq.2.1.symm)
                | (have e : wqq = 2 := by omega
                   subst e
                   refine cI (kY (by omega) uqq (fun b r q1 q2 q3 q4 => fu b r (by omega) q3 q4)) ?_
                   rw [u1qq.2.2.1, fu 53 2 (by omega) (by omega) (by omega), hD.2.1]
                   rfl)
                | (have e : wqq = 3 := by omega
                   subst e
                   exact cI (kY (by omega) uqq (fun b r q1 q2 q3 q4 => fu b r (by omega) q3 q4)) u1qq.1.bound.symm)
                | (have e : wqq = 4 := by omega
                   subst e
                   exact cI (kY (by omega) uqq (fun b r q1 q2 q3 q4 => fu b r (by omega) q3 q4)) rfl)
                | (have e : wqq = 4 := by omega
                   subst e
                   refine cI (kY (by omega) uqq (fun b r q1 q2 q3 q4 => fu b r (by omega) q3 q4)) ?_
                   show bI (tpO (wO L (yrN L kc lb le 0 0 1 slp K ty tc (yOf vw rf sl yr la n c) mm).1.2.2.2 (yrN L kc lb le 0 0 1 slp K ty tc (yOf vw rf sl yr la n c) mm).1.2.2.1) (cnt L).toNat (cnt L).toNat = 0) = _
                   first
                     | exact bI_t (by omega)
                     | exact bI_f (by omega))
          · refine x_aload rfl ?_
            refine h_getR sc_32 rfl (by omega) ?_
            refine h_getR sc_63 rfl (by omega) ?_
            refine h_getI 5 sc_64 rfl rfl ?_
            refine x_iret ?_
            first
              | exact kN (fun q => by omega)
              | (have e : wqq = 0 := by omega
                 subst e
                 exact cI (kY (by omega) uqq (fun b r q1 q2 q3 q4 => fu b r (by omega) q3 q4)) u1qq.1.size.symm)
              | (have e : wqq = 1 := by omega
                 subst e
                 exact cI (kY (by omega) uqq (fun b r q1 q2 q3 q4 => fu b r (by omega) q3 q4)) u1qq.2.1.symm)
              | (have e : wqq = 2 := by omega
                 subst e
                 refine cI (kY (by omega) uqq (fun b r q1 q2 q3 q4 => fu b r (by omega) q3 q4)) ?_
                 rw [u1qq.2.2.1, fu 53 2 (by omega) (by omega) (by omega), hD.2.1]
                 rfl)
              | (have e : wqq = 3 := by omega
                 subst e
                 exact cI (kY (by omega) uqq (fun b r q1 q2 q3 q4 => fu b r (by omega) q3 q4)) u1qq.1.bound.symm)
              | (have e : wqq = 4 := by omega
                 subst e
                 exact cI (kY (by omega) uqq (fun b r q1 q2 q3 q4 => fu b r (by omega) q3 q4)) rfl)
              | (have e : wqq = 4 := by omega
                 subst e
                 refine cI (kY (by omega) uqq (fun b r q1 q2 q3 q4 => fu b r (by omega) q3 q4)) ?_
                 show bI (tpO (wO L (yrN L kc lb le 0 0 1 slp K ty tc (yOf vw rf sl yr la n c) mm).1.2.2.2 (yrN L kc lb le 0 0 1 slp K ty tc (yOf vw rf sl yr la n c) mm).1.2.2.1) (cnt L).toNat (cnt L).toNat = 0) = _
                 first
                   | exact bI_t (by omega)
                   | exact bI_f (by omega))
          · refine x_aload rfl ?_
            refine h_getR sc_32 rfl (by omega) ?_
            refine h_getI 1 sc_63 rfl rfl ?_
            refine x_iret ?_
            first
              | exact kN (fun q => by omega)
              | (have e : wqq = 0 := by omega
                 subst e
                 exact cI (kY (by omega) uqq (fun b r q1 q2 q3 q4 => fu b r (by omega) q3 q4)) u1qq.1.size.symm)
              | (have e : wqq = 1 := by omega
                 subst e
                 exact cI (kY (by omega) uqq (fun b r q1 q2 q3 q4 => fu b r (by omega) q3 q4)) u1qq.2.1.symm)
              | (have e : wqq = 2 := by omega
                 subst e
                 refine cI (kY (by omega) uqq (fun b r q1 q2 q3 q4 => fu b r (by omega) q3 q4)) ?_
                 rw [u1qq.2.2.1, fu 53 2 (by omega) (by omega) (by omega), hD.2.1]
                 rfl)
              | (have e : wqq = 3 := by omega
                 subst e
                 exact cI (kY (by omega) uqq (fun b r q1 q2 q3 q4 => fu b r (by omega) q3 q4)) u1qq.1.bound.symm)
              | (have e : wqq = 4 := by omega
                 subst e
                 exact cI (kY (by omega) uqq (fun b r q1 q2 q3 q4 => fu b r (by omega) q3 q4)) rfl)
              | (have e : wqq = 4 := by omega
                 subst e
                 refine cI (kY (by omega) uqq (fun b r q1 q2 q3 q4 => fu b r (by omega) q3 q4)) ?_
                 show bI (tpO (wO L (yrN L kc lb le 0 0 1 slp K ty tc (yOf vw rf sl yr la n c) mm).1.2.2.2 (yrN L kc lb le 0 0 1 slp K ty tc (yOf vw rf sl yr la n c) mm).1.2.2.1) (cnt L).toNat (cnt L).toNat = 0) = _
                 first
                   | exact bI_t (by omega)
                   | exact bI_f (by omega))
          · refine x_aload rfl ?_
            refine h_getR sc_32 rfl (by omega) ?_
            refine h_getI 2 sc_63 rfl rfl ?_
            refine x_aload rfl ?_
            refine h_getR sc_32 rfl (by omega) ?_
            refine h_getI 2 sc_53 rfl rfl ?_
            refine x_isub ?_
            refine x_iret ?_
            first
              | exact kN (fun q => by omega)
              | (have e : wqq = 0 := by omega
                 subst e
                 exact cI (kY (by omega) uqq (fun b r q1 q2 q3 q4 => fu b r (by omega) q3 q4)) u1qq.1.size.symm)
              | (have e : wqq = 1 := by omega
                 subst e
                 exact cI (kY (by omega) uqq (fun b r q1 q2 q3 q4 => fu b r (by omega) q3 q4)) u1qq.2.1.symm)
              | (have e : wqq = 2 := by omega
                 subst e
                 refine cI (kY (by omega) uqq (fun b r q1 q2 q3 q4 => fu b r (by omega) q3 q4)) ?_
                 rw [u1qq.2.2.1, fu 53 2 (by omega) (by omega) (by omega), hD.2.1]
                 rfl)
              | (have e : wqq = 3 := by omega
                 subst e
                 exact cI (kY (by omega) uqq (fun b r q1 q2 q3 q4 => fu b r (by omega) q3 q4)) u1qq.1.bound.symm)
              | (have e : wqq = 4 := by omega
                 subst e
                 exact cI (kY (by omega) uqq (fun b r q1 q2 q3 q4 => fu b r (by omega) q3 q4)) rfl)
              | (have e : wqq = 4 := by omega
                 subst e
                 refine cI (kY (by omega) uqq (fun b r q1 q2 q3 q4 => fu b r (by omega) q3 q4)) ?_
                 show bI (tpO (wO L (yrN L kc lb le 0 0 1 slp K ty tc (yOf vw rf sl yr la n c) mm).1.2.2.2 (yrN L kc lb le 0 0 1 slp K ty tc (yOf vw rf sl yr la n c) mm).1.2.2.1) (cnt L).toNat (cnt L).toNat = 0) = _
                 first
                   | exact bI_t (by omega)
                   | exact bI_f (by omega))
          · refine x_aload rfl ?_
            refine h_getR sc_32 rfl (by omega) ?_
            refine h_getR sc_63 rfl (by omega) ?_
            refine h_getI 6 sc_64 rfl rfl ?_
            refine x_iret ?_
            first
              | exact kN (fun q => by omega)
              | (have e : wqq = 0 := by omega
                 subst e
                 exact cI (kY (by omega) uqq (fun b r q1 q2 q3 q4 => fu b r (by omega) q3 q4)) u1qq.1.size.symm)
              | (have e : wqq = 1 := by omega
                 subst e
                 exact cI (kY (by omega) uqq (fun b r q1 q2 q3 q4 => fu b r (by omega) q3 q4)) u1qq.2.1.symm)
              | (have e : wqq = 2 := by omega
                 subst e
                 refine cI (kY (by omega) uqq (fun b r q1 q2 q3 q4 => fu b r (by omega) q3 q4)) ?_
                 rw [u1qq.2.2.1, fu 53 2 (by omega) (by omega) (by omega), hD.2.1]
                 rfl)
              | (have e : wqq = 3 := by omega
                 subst e
                 exact cI (kY (by omega) uqq (fun b r q1 q2 q3 q4 => fu b r (by omega) q3 q4)) u1qq.1.bound.symm)
              | (have e : wqq = 4 := by omega
                 subst e
                 exact cI (kY (by omega) uqq (fun b r q1 q2 q3 q4 => fu b r (by omega) q3 q4)) rfl)
              | (have e : wqq = 4 := by omega
                 subst e
                 refine cI (kY (by omega) uqq (fun b r q1 q2 q3 q4 => fu b r (by omega) q3 q4)) ?_
                 show bI (tpO (wO L (yrN L kc lb le 0 0 1 slp K ty tc (yOf vw rf sl yr la n c) mm).1.2.2.2 (yrN L kc lb le 0 0 1 slp K ty tc (yOf vw rf sl yr la n c) mm).1.2.2.1) (cnt L).toNat (cnt L).toNat = 0) = _
                 first
                   | exact bI_t (by omega)
                   | exact bI_f (by omega))
        · refine x_fall ?_
          refine x_ci ?_
          refine x_iret ?_
          first
            | exact kN (fun q => by omega)
            | (have e : wqq = 0 := by omega
               subst e
               exact cI (kY (by omega) uqq (fun b r q1 q2 q3 q4 => fu b r (by omega) q3 q4)) u1qq.1.size.symm)
            | (have e : wqq = 1 := by omega
               subst e
               exact cI (kY (by omega) uqq (fun b r q1 q2 q3 q4 => fu b r (by omega) q3 q4)) u1qq.2.1.symm)
            | (have e : wqq = 2 := by omega
               subst e
               refine cI (kY (by omega) uqq (fun b r q1 q2 q3 q4 => fu b r (by omega) q3 q4)) ?_
               rw [u1qq.2.2.1, fu 53 2 (by omega) (by omega) (by omega), hD.2.1]
               rfl)
            | (have e : wqq = 3 := by omega
               subst e
               exact cI (kY (by omega) uqq (fun b r q1 q2 q3 q4 => fu b r (by omega) q3 q4)) u1qq.1.bound.symm)
            | (have e : wqq = 4 := by omega
               subst e
               exact cI (kY (by omega) uqq (fun b r q1 q2 q3 q4 => fu b r (by omega) q3 q4)) rfl)
            | (have e : wqq = 4 := by omega
               subst e
               refine cI (kY (by omega) uqq (fun b r q1 q2 q3 q4 => fu b r (by omega) q3 q4)) ?_
               show bI (tpO (wO L (yrN L kc lb le 0 0 1 slp K ty tc (yOf vw rf sl yr la n c) mm).1.2.2.2 (yrN L kc lb le 0 0 1 slp K ty tc (yOf vw rf sl yr la n c) mm).1.2.2.1) (cnt L).toNat (cnt L).toNat = 0) = _
               first
                 | exact bI_t (by omega)
                 | exact bI_f (by omega))
end PA7
