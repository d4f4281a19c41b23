/-! LAW, CROSS; CANCEL of the reference -/
section PA3
variable {d tp : Nat} {h0 h : pheap} {s : St} {Q : Option pv → pheap → Prop} {L : Int} {n zqq : Nat} {c c' : Int → Int} {Hs : Hst} {vw rf sl yr la : Int} {kc lb le : Int → Int}
theorem isc_tp (h : tp = 37 ∨ tp = 45) : isSc tp ∧ (37 ≤ tp ∧ tp ≤ 45) := by
  rcases h with h | h
  · subst h
    exact ⟨isc_37, by decide, by decide⟩
  · subst h
    exact ⟨isc_45, by decide, by decide⟩
def laA (L : Int) (n : Nat) (c : Int → Int) (yr : Int) (kc lb le : Int → Int) (wqq x : Int) : Int := if wqq = 2 then (if n = 0 then -9223372036854775808 else vLs L (n - 1) c yr kc lb le) else if (wqq = 0 ∨ wqq = 1) ∧ 0 ≤ x ∧ x < 2 * (cnt L - 1) then vNx L n c yr kc lb le x wqq else -9223372036854775808
theorem laA_no {wqq x : Int} (h : ¬ lb wqq < le wqq) : laA L n c yr kc lb le wqq x = -9223372036854775808 := by
  unfold laA
  split
  · rename_i e
    subst e
    split
    · rfl
    · exact if_neg h
  · split
    · exact if_neg h
    · rfl
theorem vNx_cg {x r : Int} (e : ∀ i : Int, 0 ≤ i → i < n → c i = c' i) : vNx L n c yr kc lb le x r = vNx L n c' yr kc lb le x r := by
  obtain ⟨e1, e2, e3⟩ := w_cg (L := L) e
  unfold vNx
  rw [e1, e2]
theorem LWR.ua {b : Nat} {i x : Int} (h : LWR kc lb le s) (hb : b < 100 ∨ 103 < b) : LWR kc lb le (up s b i x) := fun r r0 r1 => by
  obtain ⟨q1, q2, q3⟩ := h r r0 r1
  refine ⟨(up_a (by omega)).trans q1, (up_a (by omega)).trans q2, fun i i0 i1 => ?_⟩
  rw [up_a (by omega), up_a (by omega)]
  exact q3 i i0 i1
theorem m_law (hd : 13 ≤ d) (htp : tp = 37 ∨ tp = 45) (hT : s 32 2 = (tp : Int) + 1) (hp : PL 54 L n c s) (hyv : s 53 4 = yr) (hyr : 0 ≤ yr ∧ yr ≤ 100000) (hw : LWC tp kc lb le s) (ho : okL kc lb le) {wqq x : Int} (hw0 : iR wqq) (hx : iR x) (k : ∀ tqq, lkC tp s tqq → Q (some (vL (laA L n c yr kc lb le wqq x))) (HP h0 tqq)) : wpM PP d 17 [vR 32, vI wqq, vI x] (HP h0 s) Q := by
  obtain ⟨hS, htq⟩ := isc_tp htp
  clear htp
  have hct := cnt_R L
  have hn := hp.hn
  refine n_at (m := 17) (q := mr17) (kn := (0, 3)) [some (vR _), some (vI _), some (vI _)] mb17 rfl rfl (h_rcv sc_32) (Nat.le_of_ble_eq_true rfl) rfl rfl ?_
  refine x_iload rfl ?_
  refine x_ci ?_
  refine n_icmp_ne ⟨by omega, by omega⟩ ⟨by omega, by omega⟩ (fun c1 => ?_) (fun c1 => ?_)
  · refine x_iload rfl ?_
    refine n_if_eq ⟨by omega, by omega⟩ (fun c2 => ?_) (fun c2 => ?_)
    · refine x_aload rfl ?_
      refine h_getR sc_32 rfl (by omega) ?_
      refine h_getR sc_53 rfl (by omega) ?_
      refine x_iload rfl ?_
      refine n_call [vR _, vI _] [] (by omega) (Nat.le_of_ble_eq_true rfl) rfl rfl (Nat.le_of_ble_eq_true rfl) ?_
      refine m_hasCode pl_54 (by omega) (by rw [hp.count]; omega) ⟨by omega, by omega⟩ ?_
      rw [hp.count]
      show wp PP _ _ _ [some (vR _), some (vI _), some (vI _)] [vI _] _ _
      refine z_if_ne (fun c3 => ?_) (fun c3 => ?_)
      · refine x_aload rfl ?_
        refine h_getR sc_32 rfl (by omega) ?_
        refine x_aload rfl ?_
        refine h_getB 2 sc_32 rfl rfl (by first | exact hT | exact hT2) ?_
        refine x_aload rfl ?_
        refine h_getR sc_32 rfl (by omega) ?_
        refine x_iload rfl ?_
        refine x_iload rfl ?_
        refine n_call [vR _, vR _, vR _, vI _, vI _] [] (by omega) (Nat.le_of_ble_eq_true rfl) rfl rfl (Nat.le_of_ble_eq_true rfl) ?_
        refine m_worthNext (r := wqq) da_53 hS (by omega) (by omega) (by omega) (by omega) hp hyv hyr (by assumption) (by omega) hw ho (fun tqq t1qq => ?_)
        show wp PP _ _ _ [some (vR _), some (vI _), some (vI _)] [vL _] _ _
        refine x_lret ?_
        first
          | (refine cL (k s lkC_rfl) ?_
             unfold laA
             rw [if_pos (by omega), if_pos (by omega)]
             done)
          | (refine cL (k s lkC_rfl) ?_
             unfold laA
             rw [if_neg (by omega), if_neg (by omega)]
             done)
          | (refine cL (k tqq (fun b r q1 q2 q3 q4 => t1qq b r (by omega) q3 q4)) ?_
             unfold laA
             rw [if_pos (by omega), if_neg (by omega)]
             rfl)
          | (refine cL (k tqq (fun b r q1 q2 q3 q4 => t1qq b r (by omega) q3 q4)) ?_
             unfold laA
             rw [if_neg (by omega), if_pos ⟨by omega, by omega, by omega⟩]
             rfl)
      · refine x_fall ?_
        refine x_cl ?_
        refine x_lret ?_
        first
          | (refine cL (k s lkC_rfl) ?_
             unfold laA
             rw [if_pos (by omega), if_pos (by omega)]
             done)
          | (refine cL (k s lkC_rfl) ?_
             unfold laA
             rw [if_neg (by omega), if_neg (by omega)]
             done)
          | (refine cL (k tqq (fun b r q1 q2 q3 q4 => t1qq b r (by omega) q3 q4)) ?_
             unfold laA
             rw [if_pos (by omega), if_neg (by omega)]
             rfl)
          | (refine cL (k tqq (fun b r q1 q2 q3 q4 => t1qq b r (by omega) q3 q4)) ?_
             unfold laA
             rw [if_neg (by omega), if_pos ⟨by omega, by omega, by omega⟩]
             rfl)
    · refine x_iload rfl ?_
      refine x_ci ?_
      refine n_icmp_ne ⟨by omega, by omega⟩ ⟨by omega, by omega⟩ (fun c3 => ?_) (fun c3 => ?_)
      · refine x_cl ?_
        refine x_lret ?_
        first
          | (refine cL (k s lkC_rfl) ?_
             unfold laA
             rw [if_pos (by omega), if_pos (by omega)]
             done)
          | (refine cL (k s lkC_rfl) ?_
             unfold laA
             rw [if_neg (by omega), if_neg (by omega)]
             done)
          | (refine cL (k tqq (fun b r q1 q2 q3 q4 => t1qq b r (by omega) q3 q4)) ?_
             unfold laA
             rw [if_pos (by omega), if_neg (by omega)]
             rfl)
          | (refine cL (k tqq (fun b r q1 q2 q3 q4 => t1qq b r (by omega) q3 q4)) ?_
             unfold laA
             rw [if_neg (by omega), if_pos ⟨by omega, by omega, by omega⟩]
             rfl)
      · refine x_fall ?_
        refine x_aload rfl ?_
        refine h_getR sc_32 rfl (by omega) ?_
        refine h_getR sc_53 rfl (by omega) ?_
        refine x_iload rfl ?_
        refine n_call [vR _, vI _] [] (by omega) (Nat.le_of_ble_eq_true rfl) rfl rfl (Nat.le_of_ble_eq_true rfl) ?_
        refine m_hasCode pl_54 (by omega) (by rw [hp.count]; omega) ⟨by omega, by omega⟩ ?_
        rw [hp.count]
        show wp PP _ _ _ [some (vR _), some (vI _), some (vI _)] [vI _] _ _
        refine z_if_ne (fun c4 => ?_) (fun c4 => ?_)
        · refine x_aload rfl ?_
          refine h_getR sc_32 rfl (by omega) ?_
          refine x_aload rfl ?_
          refine h_getB 2 sc_32 rfl rfl (by first | exact hT | exact hT2) ?_
          refine x_aload rfl ?_
          refine h_getR sc_32 rfl (by omega) ?_
          refine x_iload rfl ?_
          refine x_iload rfl ?_
          refine n_call [vR _, vR _, vR _, vI _, vI _] [] (by omega) (Nat.le_of_ble_eq_true rfl) rfl rfl (Nat.le_of_ble_eq_true rfl) ?_
          refine m_worthNext (r := wqq) da_53 hS (by omega) (by omega) (by omega) (by omega) hp hyv hyr (by assumption) (by omega) hw ho (fun tqq t1qq => ?_)
          show wp PP _ _ _ [some (vR _), some (vI _), some (vI _)] [vL _] _ _
          refine x_lret ?_
          first
            | (refine cL (k s lkC_rfl) ?_
               unfold laA
               rw [if_pos (by omega), if_pos (by omega)]
               done)
            | (refine cL (k s lkC_rfl) ?_
               unfold laA
               rw [if_neg (by omega), if_neg (by omega)]
               done)
            | (refine cL (k tqq (fun b r q1 q2 q3 q4 => t1qq b r (by omega) q3 q4)) ?_
               unfold laA
               rw [if_pos (by omega), if_neg (by omega)]
               rfl)
            | (refine cL (k tqq (fun b r q1 q2 q3 q4 => t1qq b r (by omega) q3 q4)) ?_
               unfold laA
               rw [if_neg (by omega), if_pos ⟨by omega, by omega, by omega⟩]
               rfl)
        · refine x_fall ?_
          refine x_cl ?_
          refine x_lret ?_
          first
            | (refine cL (k s lkC_rfl) ?_
               unfold laA
               rw [if_pos (by omega), if_pos (by omega)]
               done)
            | (refine cL (k s lkC_rfl) ?_
               unfold laA
               rw [if_neg (by omega), if_neg (by omega)]
               done)
            | (refine cL (k tqq (fun b r q1 q2 q3 q4 => t1qq b r (by omega) q3 q4)) ?_
               unfold laA
               rw [if_pos (by omega), if_neg (by omega)]
               rfl)
            | (refine cL (k tqq (fun b r q1 q2 q3 q4 => t1qq b r (by omega) q3 q4)) ?_
               unfold laA
               rw [if_neg (by omega), if_pos ⟨by omega, by omega, by omega⟩]
               rfl)
  · refine x_aload rfl ?_
    refine h_getR sc_32 rfl (by omega) ?_
    refine h_getR sc_53 rfl (by omega) ?_
    refine h_getI 5 sc_54 rfl rfl ?_
    rw [hp.size]
    refine n_if_ne ⟨by omega, by omega⟩ (fun c2 => ?_) (fun c2 => ?_)
    · obtain ⟨k0, hk0⟩ : ∃ k0 : Nat, n = k0 + 1 := ⟨n - 1, by omega⟩
      subst hk0
      refine x_aload rfl ?_
      refine h_getR sc_32 rfl (by omega) ?_
      refine x_aload rfl ?_
      refine h_getB 2 sc_32 rfl rfl (by first | exact hT | exact hT2) ?_
      refine x_aload rfl ?_
      refine h_getR sc_32 rfl (by omega) ?_
      refine n_call [vR _, vR _, vR _] [] (by omega) (Nat.le_of_ble_eq_true rfl) rfl rfl (Nat.le_of_ble_eq_true rfl) ?_
      refine m_worthLast da_53 hS (by omega) (by omega) (by omega) (by omega) hp hyv hyr hw ho (fun tqq t1qq => ?_)
      show wp PP _ _ _ [some (vR _), some (vI _), some (vI _)] [vL _] _ _
      refine x_fall ?_
      refine x_lret ?_
      first
        | (refine cL (k s lkC_rfl) ?_
           unfold laA
           rw [if_pos (by omega), if_pos (by omega)]
           done)
        | (refine cL (k s lkC_rfl) ?_
           unfold laA
           rw [if_neg (by omega), if_neg (by omega)]
           done)
        | (refine cL (k tqq (fun b r q1 q2 q3 q4 => t1qq b r (by omega) q3 q4)) ?_
           unfold laA
           rw [if_pos (by omega), if_neg (by omega)]
           rfl)
        | (refine cL (k tqq (fun b r q1 q2 q3 q4 => t1qq b r (by omega) q3 q4)) ?_
           unfold laA
           rw [if_neg (by omega), if_pos ⟨by omega, by omega, by omega⟩]
           rfl)
    · refine x_cl ?_
      refine x_goto ?_
      refine x_lret ?_
      first
        | (refine cL (k s lkC_rfl) ?_
           unfold laA
           rw [if_pos (by omega), if_pos (by omega)]
           done)
        | (refine cL (k s lkC_rfl) ?_
           unfold laA
           rw [if_neg (by omega), if_neg (by omega)]
           done)
        | (refine cL (k tqq (fun b r q1 q2 q3 q4 => t1qq b r (by omega) q3 q4)) ?_
           unfold laA
           rw [if_pos (by omega), if_neg (by omega)]
           rfl)
        | (refine cL (k tqq (fun b r q1 q2 q3 q4 => t1qq b r (by omega) q3 q4)) ?_
           unfold laA
           rw [if_neg (by omega), if_pos ⟨by omega, by omega, by omega⟩]
           rfl)
theorem r_law (hd : 13 ≤ d) (hr0 : RD 0 L n c s) (hyv : s 106 0 = yr) (hyr : 0 ≤ yr ∧ yr ≤ 100000) (hw : LWR kc lb le s) (ho : okL kc lb le) {wqq x : Int} (hw0 : iR wqq) (hx : iR x) (k : ∀ tqq, lkN s tqq → Q (some (vL (laA L n c yr kc lb le wqq x))) (HP h0 tqq)) : wpM PP d 141 [vR 94, vI wqq, vI x] (HP h0 s) Q := by
  obtain ⟨hL, hn, hv, r1, r2, r3⟩ := hr0
  have hr0 : RD 0 L n c s := ⟨hL, hn, hv, r1, r2, r3⟩
  have hct := cnt_R L
  have hw2 : LWR kc lb le (up s 94 0 0) := hw.ua (by decide)
  refine n_at (m := 141) (q := mr141) (kn := (0, 3)) [some (vR _), some (vI _), some (vI _)] mb141 rfl rfl (h_rcv sc_94) (Nat.le_of_ble_eq_true rfl) rfl rfl ?_
  refine x_aload rfl ?_
  refine x_ci ?_
  refine h_putI 0 sc_94 rfl rfl ?_
  refine x_iload rfl ?_
  refine n_if_lt ⟨by omega, by omega⟩ (fun c1 => ?_) (fun c1 => ?_)
  · refine x_cl ?_
    refine x_lret ?_
    first
      | (refine cL (k _ (fun b r q1 q2 q3 q4 q5 q6 q7 => up_f (by omega))) ?_
         unfold laA
         rw [if_pos (by omega), if_pos (by omega)]
         done)
      | (refine cL (k _ (fun b r q1 q2 q3 q4 q5 q6 q7 => up_f (by omega))) ?_
         unfold laA
         rw [if_neg (by omega), if_neg (by omega)]
         done)
      | exact cL (k _ (fun b r q1 q2 q3 q4 q5 q6 q7 => up_f (by omega))) (laA_no (by assumption))
      | (refine cL (k uqq gk) ?_
         have q : lawV (nv) kc (lb wqq) (le wqq) = -9223372036854775808 := by
           first
             | assumption
             | exact Classical.not_not.mp (by assumption)
         unfold laA
         first
           | (rw [if_neg (by omega), if_pos (show (wqq = 0 ∨ wqq = 1) ∧ 0 ≤ x ∧ x < 2 * (cnt L - 1) from ⟨by omega, by omega, by omega⟩)]
              first | exact q | exact q.symm)
           | (have ew : wqq = 2 := by omega
              subst ew
              rw [if_pos rfl, if_neg (by omega)]
              first | exact q | exact q.symm))
      | (refine cL (k uqq gk) ?_
         unfold laA
         first
           | (rw [if_neg (by omega), if_pos (show (wqq = 0 ∨ wqq = 1) ∧ 0 ≤ x ∧ x < 2 * (cnt L - 1) from ⟨by omega, by omega, by omega⟩)]
              rfl)
           | (have ew : wqq = 2 := by omega
              subst ew
              rw [if_pos rfl, if_neg (by omega)]
              rfl))
  · refine x_iload rfl ?_
    refine x_ci ?_
    refine n_icmp_gt ⟨by omega, by omega⟩ ⟨by omega, by omega⟩ (fun c2 => ?_) (fun c2 => ?_)
    · refine x_cl ?_
      refine x_lret ?_
      first
        | (refine cL (k _ (fun b r q1 q2 q3 q4 q5 q6 q7 => up_f (by omega))) ?_
           unfold laA
           rw [if_pos (by omega), if_pos (by omega)]
           done)
        | (refine cL (k _ (fun b r q1 q2 q3 q4 q5 q6 q7 => up_f (by omega))) ?_
           unfold laA
           rw [if_neg (by omega), if_neg (by omega)]
           done)
        | exact cL (k _ (fun b r q1 q2 q3 q4 q5 q6 q7 => up_f (by omega))) (laA_no (by assumption))
        | (refine cL (k uqq gk) ?_
           have q : lawV (nv) kc (lb wqq) (le wqq) = -9223372036854775808 := by
             first
               | assumption
               | exact Classical.not_not.mp (by assumption)
           unfold laA
           first
             | (rw [if_neg (by omega), if_pos (show (wqq = 0 ∨ wqq = 1) ∧ 0 ≤ x ∧ x < 2 * (cnt L - 1) from ⟨by omega, by omega, by omega⟩)]
                first | exact q | exact q.symm)
             | (have ew : wqq = 2 := by omega
                subst ew
                rw [if_pos rfl, if_neg (by omega)]
                first | exact q | exact q.symm))
        | (refine cL (k uqq gk) ?_
           unfold laA
           first
             | (rw [if_neg (by omega), if_pos (show (wqq = 0 ∨ wqq = 1) ∧ 0 ≤ x ∧ x < 2 * (cnt L - 1) from ⟨by omega, by omega, by omega⟩)]
                rfl)
             | (have ew : wqq = 2 := by omega
                subst ew
                rw [if_pos rfl, if_neg (by omega)]
                rfl))
    · refine x_aload rfl ?_
      refine x_iload rfl ?_
      refine n_call [vR _, vI _] [] (by omega) (Nat.le_of_ble_eq_true rfl) rfl rfl (Nat.le_of_ble_eq_true rfl) ?_
      have o := ho wqq (by omega) (by omega)
      obtain ⟨w1qq, w2qq, w3qq⟩ := hw2 wqq (by omega) (by omega)
      refine r_hasLaw (x := wqq) (by omega) (by rw [w1qq]; have := o.1; have := o.2.1; have := o.2.2.1; omega) (by rw [w2qq]; have := o.1; have := o.2.1; have := o.2.2.1; omega) ?_
      rw [w1qq, w2qq]
      show wp PP _ _ _ [some (vR _), some (vI _), some (vI _)] [vI _] _ _
      refine z_if_ne (fun c3 => ?_) (fun c3 => ?_)
      · refine x_iload rfl ?_
        refine x_ci ?_
        refine n_icmp_ne ⟨by omega, by omega⟩ ⟨by omega, by omega⟩ (fun c4 => ?_) (fun c4 => ?_)
        · refine x_iload rfl ?_
          refine n_if_lt ⟨by omega, by omega⟩ (fun c5 => ?_) (fun c5 => ?_)
          · refine x_cl ?_
            refine x_lret ?_
            first
              | (refine cL (k _ (fun b r q1 q2 q3 q4 q5 q6 q7 => up_f (by omega))) ?_
                 unfold laA
                 rw [if_pos (by omega), if_pos (by omega)]
                 done)
              | (refine cL (k _ (fun b r q1 q2 q3 q4 q5 q6 q7 => up_f (by omega))) ?_
                 unfold laA
                 rw [if_neg (by omega), if_neg (by omega)]
                 done)
              | exact cL (k _ (fun b r q1 q2 q3 q4 q5 q6 q7 => up_f (by omega))) (laA_no (by assumption))
              | (refine cL (k uqq gk) ?_
                 have q : lawV (nv) kc (lb wqq) (le wqq) = -9223372036854775808 := by
                   first
                     | assumption
                     | exact Classical.not_not.mp (by assumption)
                 unfold laA
                 first
                   | (rw [if_neg (by omega), if_pos (show (wqq = 0 ∨ wqq = 1) ∧ 0 ≤ x ∧ x < 2 * (cnt L - 1) from ⟨by omega, by omega, by omega⟩)]
                      first | exact q | exact q.symm)
                   | (have ew : wqq = 2 := by omega
                      subst ew
                      rw [if_pos rfl, if_neg (by omega)]
                      first | exact q | exact q.symm))
              | (refine cL (k uqq gk) ?_
                 unfold laA
                 first
                   | (rw [if_neg (by omega), if_pos (show (wqq = 0 ∨ wqq = 1) ∧ 0 ≤ x ∧ x < 2 * (cnt L - 1) from ⟨by omega, by omega, by omega⟩)]
                      rfl)
                   | (have ew : wqq = 2 := by omega
                      subst ew
                      rw [if_pos rfl, if_neg (by omega)]
                      rfl))
          · refine x_iload rfl ?_
            refine x_aload rfl ?_
            refine x_ci ?_
            refine n_call [vR _, vI _] [vI _] (by omega) (Nat.le_of_ble_eq_true rfl) rfl rfl (Nat.le_of_ble_eq_true rfl) ?_
            refine r_codesOf (f := 0) (by omega) (by omega) (by rw [up_a (by decide), r1]; exact hL) ?_
            rw [up_a (b := 111) (by decide), r1]
            show wp PP _ _ _ [some (vR _), some (vI _), some (vI _)] [vI _, vI _] _ _
            refine n_icmp_lt ⟨by omega, by omega⟩ ⟨by omega, by omega⟩ (fun c6 => ?_) (fun c6 => ?_)
            · refine x_iload rfl ?_
              refine x_ci ?_
              refine n_icmp_ne ⟨by omega, by omega⟩ ⟨by omega, by omega⟩ (fun c7 => ?_) (fun c7 => ?_)
              · refine x_aload rfl ?_
                refine x_ci ?_
                refine x_iload rfl ?_
                refine x_aload rfl ?_
                refine h_getR sc_94 rfl (by omega) ?_
                refine x_ci ?_
                refine h_iald sc_112 ⟨by omega, by omega⟩ (by decide) ?_
                rw [up_a (b := 112) (by decide), r2]
                refine n_call [vR _, vI _, vI _, vI _] [] (by omega) (Nat.le_of_ble_eq_true rfl) rfl rfl (Nat.le_of_ble_eq_true rfl) ?_
                have hnv := nvE_R (one := wO L c n (x / 2)) (other := wO L c n (x / 2 + 1)) (x := x) (wb := wB L c n (6 * wO L c n (x / 2) + wO L c n (x / 2 + 1))) (n := n) (cn := cnt L) (yr := yr) (by
                  have o1 := wO_R hL hv (x / 2) (by omega) (by omega)
                  exact ⟨o1.1, o1.2.1⟩) (by
                  have o2 := wO_R hL hv (x / 2 + 1) (by omega) (by omega)
                  exact ⟨o2.1, o2.2.1⟩) (by omega) (by
                  have wr := wB_R (L := L) (c := c) n (6 * wO L c n (x / 2) + wO L c n (x / 2 + 1))
                  omega) (by omega) (by omega) hyr
                refine r_calls (m := n) (f := 0) (by omega) (by omega) (RD.up hr0 (by decide)) (by omega) (x := x) (by omega) ((up_a (by decide)).trans hyv) hyr (fun tqq t1qq t2qq => ?_)
                show wp PP _ _ _ [some (vR _), some (vI _), some (vI _)] [] _ _
                refine x_fall ?_
                refine x_aload rfl ?_
                refine x_iload rfl ?_
                refine n_call [vR _, vI _] [] (by omega) (Nat.le_of_ble_eq_true rfl) rfl rfl (Nat.le_of_ble_eq_true rfl) ?_
                have w4qq := (hw2.q t2qq) wqq (by omega) (by omega)
                have hll : lb wqq < le wqq := by assumption
                refine r_goes (nv := nvE (wO L c n (x / 2)) (wO L c n (x / 2 + 1)) x (wB L c n (6 * wO L c n (x / 2) + wO L c n (x / 2 + 1))) n (cnt L) yr) (b := lb wqq) (e := le wqq) (kc := kc) (by omega) (by omega) w4qq.1 w4qq.2.1 hll o w4qq.2.2 t1qq hnv (fun uqq u1qq u2qq => ?_)
                have g := qfr_tr t2qq u1qq.q
                have gk : lkN s uqq := fun b r q1 q2 q3 q4 q5 q6 q7 => by
                  rw [g b r (by omega) (by omega) (by omega) (by omega), up_f (by omega)]
                show wp PP _ _ _ [some (vR _), some (vI _), some (vI _)] [vI _] _ _
                refine z_if_eq (fun c8 => ?_) (fun c8 => ?_)
                · refine x_cl ?_
                  refine x_fall ?_
                  refine x_lret ?_
                  first
                    | (refine cL (k _ (fun b r q1 q2 q3 q4 q5 q6 q7 => up_f (by omega))) ?_
                       unfold laA
                       rw [if_pos (by omega), if_pos (by omega)]
                       done)
                    | (refine cL (k _ (fun b r q1 q2 q3 q4 q5 q6 q7 => up_f (by omega))) ?_
                       unfold laA
                       rw [if_neg (by omega), if_neg (by omega)]
                       done)
                    | exact cL (k _ (fun b r q1 q2 q3 q4 q5 q6 q7 => up_f (by omega))) (laA_no (by assumption))
                    | (refine cL (k uqq gk) ?_
                       have q : lawV (nvE (wO L c n (x / 2)) (wO L c n (x / 2 + 1)) x (wB L c n (6 * wO L c n (x / 2) + wO L c n (x / 2 + 1))) n (cnt L) yr) kc (lb wqq) (le wqq) = -9223372036854775808 := by
                         first
                           | assumption
                           | exact Classical.not_not.mp (by assumption)
                       unfold laA
                       first
                         | (rw [if_neg (by omega), if_pos (show (wqq = 0 ∨ wqq = 1) ∧ 0 ≤ x ∧ x < 2 * (cnt L - 1) from ⟨by omega, by omega, by omega⟩)]
                            first | exact q | exact q.symm)
                         | (have ew : wqq = 2 := by omega
                            subst ew
                            rw [if_pos rfl, if_neg (by omega)]
                            first | exact q | exact q.symm))
                    | (refine cL (k uqq gk) ?_
                       unfold laA
                       first
                         | (rw [if_neg (by omega), if_pos (show (wqq = 0 ∨ wqq = 1) ∧ 0 ≤ x ∧ x < 2 * (cnt L - 1) from ⟨by omega, by omega, by omega⟩)]
                            rfl)
                         | (have ew : wqq = 2 := by omega
                            subst ew
                            rw [if_pos rfl, if_neg (by omega)]
                            rfl))
                · refine x_aload rfl ?_
                  refine h_getR sc_94 rfl (by omega) ?_
                  refine x_ci ?_
                  refine h_lald sc_105 ⟨by omega, by omega⟩ (by decide) ?_
                  rw [u2qq (by assumption)]
                  refine x_goto ?_
                  refine x_lret ?_
                  first
                    | (refine cL (k _ (fun b r q1 q2 q3 q4 q5 q6 q7 => up_f (by omega))) ?_
                       unfold laA
                       rw [if_pos (by omega), if_pos (by omega)]
                       done)
                    | (refine cL (k _ (fun b r q1 q2 q3 q4 q5 q6 q7 => up_f (by omega))) ?_
                       unfold laA
                       rw [if_neg (by omega), if_neg (by omega)]
                       done)
                    | exact cL (k _ (fun b r q1 q2 q3 q4 q5 q6 q7 => up_f (by omega))) (laA_no (by assumption))
                    | (refine cL (k uqq gk) ?_
                       have q : lawV (nvE (wO L c n (x / 2)) (wO L c n (x / 2 + 1)) x (wB L c n (6 * wO L c n (x / 2) + wO L c n (x / 2 + 1))) n (cnt L) yr) kc (lb wqq) (le wqq) = -9223372036854775808 := by
                         first
                           | assumption
                           | exact Classical.not_not.mp (by assumption)
                       unfold laA
                       first
                         | (rw [if_neg (by omega), if_pos (show (wqq = 0 ∨ wqq = 1) ∧ 0 ≤ x ∧ x < 2 * (cnt L - 1) from ⟨by omega, by omega, by omega⟩)]
                            first | exact q | exact q.symm)
                         | (have ew : wqq = 2 := by omega
                            subst ew
                            rw [if_pos rfl, if_neg (by omega)]
                            first | exact q | exact q.symm))
                    | (refine cL (k uqq gk) ?_
                       unfold laA
                       first
                         | (rw [if_neg (by omega), if_pos (show (wqq = 0 ∨ wqq = 1) ∧ 0 ≤ x ∧ x < 2 * (cnt L - 1) from ⟨by omega, by omega, by omega⟩)]
                            rfl)
                         | (have ew : wqq = 2 := by omega
                            subst ew
                            rw [if_pos rfl, if_neg (by omega)]
                            rfl))
              · refine x_aload rfl ?_
                refine x_ci ?_
                refine n_call [vR _, vI _] [] (by omega) (Nat.le_of_ble_eq_true rfl) rfl rfl (Nat.le_of_ble_eq_true rfl) ?_
                obtain ⟨k0, hk0⟩ : ∃ k0 : Nat, n = k0 + 1 := ⟨n - 1, by omega⟩
                subst hk0
                have hvk := hv k0 (by omega) (by omega)
                have hnv := nvE_R (one := wO L c k0 (c k0 / 2)) (other := wO L c k0 (c k0 / 2 + 1)) (x := c k0) (wb := wB L c (k0 + 1) (6 * wO L c k0 (c k0 / 2) + wO L c k0 (c k0 / 2 + 1))) (n := ((k0 + 1 : Nat) : Int)) (cn := cnt L) (yr := yr) (by
                  have o1 := wO_R hL (vC_less hv (Nat.le_succ k0)) (c k0 / 2) (by omega) (by omega)
                  exact ⟨o1.1, o1.2.1⟩) (by
                  have o2 := wO_R hL (vC_less hv (Nat.le_succ k0)) (c k0 / 2 + 1) (by omega) (by omega)
                  exact ⟨o2.1, o2.2.1⟩) (by omega) (by
                  have wr := wB_R (L := L) (c := c) (k0 + 1) (6 * wO L c k0 (c k0 / 2) + wO L c k0 (c k0 / 2 + 1))
                  omega) (by omega) (by omega) hyr
                refine r_callsLast (n := k0) (f := 0) (by omega) (by omega) (RD.up hr0 (by decide)) ((up_a (by decide)).trans hyv) hyr (fun tqq t1qq t2qq => ?_)
                show wp PP _ _ _ [some (vR _), some (vI _), some (vI _)] [] _ _
                refine x_goto ?_
                refine x_aload rfl ?_
                refine x_iload rfl ?_
                refine n_call [vR _, vI _] [] (by omega) (Nat.le_of_ble_eq_true rfl) rfl rfl (Nat.le_of_ble_eq_true rfl) ?_
                have w4qq := (hw2.q t2qq) wqq (by omega) (by omega)
                have hll : lb wqq < le wqq := by assumption
                refine r_goes (nv := nvE (wO L c k0 (c k0 / 2)) (wO L c k0 (c k0 / 2 + 1)) (c k0) (wB L c (k0 + 1) (6 * wO L c k0 (c k0 / 2) + wO L c k0 (c k0 / 2 + 1))) ((k0 + 1 : Nat) : Int) (cnt L) yr) (b := lb wqq) (e := le wqq) (kc := kc) (by omega) (by omega) w4qq.1 w4qq.2.1 hll o w4qq.2.2 t1qq hnv (fun uqq u1qq u2qq => ?_)
                have g := qfr_tr t2qq u1qq.q
                have gk : lkN s uqq := fun b r q1 q2 q3 q4 q5 q6 q7 => by
                  rw [g b r (by omega) (by omega) (by omega) (by omega), up_f (by omega)]
                show wp PP _ _ _ [some (vR _), some (vI _), some (vI _)] [vI _] _ _
                refine z_if_eq (fun c8 => ?_) (fun c8 => ?_)
                · refine x_cl ?_
                  refine x_fall ?_
                  refine x_lret ?_
                  first
                    | (refine cL (k _ (fun b r q1 q2 q3 q4 q5 q6 q7 => up_f (by omega))) ?_
                       unfold laA
                       rw [if_pos (by omega), if_pos (by omega)]
                       done)
                    | (refine cL (k _ (fun b r q1 q2 q3 q4 q5 q6 q7 => up_f (by omega))) ?_
                       unfold laA
                       rw [if_neg (by omega), if_neg (by omega)]
                       done)
                    | exact cL (k _ (fun b r q1 q2 q3 q4 q5 q6 q7 => up_f (by omega))) (laA_no (by assumption))
                    | (refine cL (k uqq gk) ?_
                       have q : lawV (nvE (wO L c k0 (c k0 / 2)) (wO L c k0 (c k0 / 2 + 1)) (c k0) (wB L c (k0 + 1) (6 * wO L c k0 (c k0 / 2) + wO L c k0 (c k0 / 2 + 1))) ((k0 + 1 : Nat) : Int) (cnt L) yr) kc (lb wqq) (le wqq) = -9223372036854775808 := by
                         first
                           | assumption
                           | exact Classical.not_not.mp (by assumption)
                       unfold laA
                       first
                         | (rw [if_neg (by omega), if_pos (show (wqq = 0 ∨ wqq = 1) ∧ 0 ≤ x ∧ x < 2 * (cnt L - 1) from ⟨by omega, by omega, by omega⟩)]
                            first | exact q | exact q.symm)
                         | (have ew : wqq = 2 := by omega
                            subst ew
                            rw [if_pos rfl, if_neg (by omega)]
                            first | exact q | exact q.symm))
                    | (refine cL (k uqq gk) ?_
                       unfold laA
                       first
                         | (rw [if_neg (by omega), if_pos (show (wqq = 0 ∨ wqq = 1) ∧ 0 ≤ x ∧ x < 2 * (cnt L - 1) from ⟨by omega, by omega, by omega⟩)]
                            rfl)
                         | (have ew : wqq = 2 := by omega
                            subst ew
                            rw [if_pos rfl, if_neg (by omega)]
                            rfl))
                · refine x_aload rfl ?_
                  refine h_getR sc_94 rfl (by omega) ?_
                  refine x_ci ?_
                  refine h_lald sc_105 ⟨by omega, by omega⟩ (by decide) ?_
                  rw [u2qq (by assumption)]
                  refine x_goto ?_
                  refine x_lret ?_
                  first
                    | (refine cL (k _ (fun b r q1 q2 q3 q4 q5 q6 q7 => up_f (by omega))) ?_
                       unfold laA
                       rw [if_pos (by omega), if_pos (by omega)]
                       done)
                    | (refine cL (k _ (fun b r q1 q2 q3 q4 q5 q6 q7 => up_f (by omega))) ?_
                       unfold laA
                       rw [if_neg (by omega), if_neg (by omega)]
                       done)
                    | exact cL (k _ (fun b r q1 q2 q3 q4 q5 q6 q7 => up_f (by omega))) (laA_no (by assumption))
                    | (refine cL (k uqq gk) ?_
                       have q : lawV (nvE (wO L c k0 (c k0 / 2)) (wO L c k0 (c k0 / 2 + 1)) (c k0) (wB L c (k0 + 1) (6 * wO L c k0 (c k0 / 2) + wO L c k0 (c k0 / 2 + 1))) ((k0 + 1 : Nat) : Int) (cnt L) yr) kc (lb wqq) (le wqq) = -9223372036854775808 := by
                         first
                           | assumption
                           | exact Classical.not_not.mp (by assumption)
                       unfold laA
                       first
                         | (rw [if_neg (by omega), if_pos (show (wqq = 0 ∨ wqq = 1) ∧ 0 ≤ x ∧ x < 2 * (cnt L - 1) from ⟨by omega, by omega, by omega⟩)]
                            first | exact q | exact q.symm)
                         | (have ew : wqq = 2 := by omega
                            subst ew
                            rw [if_pos rfl, if_neg (by omega)]
                            first | exact q | exact q.symm))
                    | (refine cL (k uqq gk) ?_
                       unfold laA
                       first
                         | (rw [if_neg (by omega), if_pos (show (wqq = 0 ∨ wqq = 1) ∧ 0 ≤ x ∧ x < 2 * (cnt L - 1) from ⟨by omega, by omega, by omega⟩)]
                            rfl)
                         | (have ew : wqq = 2 := by omega
                            subst ew
                            rw [if_pos rfl, if_neg (by omega)]
                            rfl))
            · refine x_fall ?_
              refine x_cl ?_
              refine x_lret ?_
              first
                | (refine cL (k _ (fun b r q1 q2 q3 q4 q5 q6 q7 => up_f (by omega))) ?_
                   unfold laA
                   rw [if_pos (by omega), if_pos (by omega)]
                   done)
                | (refine cL (k _ (fun b r q1 q2 q3 q4 q5 q6 q7 => up_f (by omega))) ?_
                   unfold laA
                   rw [if_neg (by omega), if_neg (by omega)]
                   done)
                | exact cL (k _ (fun b r q1 q2 q3 q4 q5 q6 q7 => up_f (by omega))) (laA_no (by assumption))
                | (refine cL (k uqq gk) ?_
                   have q : lawV (nvE (wO L c k0 (c k0 / 2)) (wO L c k0 (c k0 / 2 + 1)) (c k0) (wB L c (k0 + 1) (6 * wO L c k0 (c k0 / 2) + wO L c k0 (c k0 / 2 + 1))) ((k0 + 1 : Nat) : Int) (cnt L) yr) kc (lb wqq) (le wqq) = -9223372036854775808 := by
                     first
                       | assumption
                       | exact Classical.not_not.mp (by assumption)
                   unfold laA
                   first
                     | (rw [if_neg (by omega), if_pos (show (wqq = 0 ∨ wqq = 1) ∧ 0 ≤ x ∧ x < 2 * (cnt L - 1) from ⟨by omega, by omega, by omega⟩)]
                        first | exact q | exact q.symm)
                     | (have ew : wqq = 2 := by omega
                        subst ew
                        rw [if_pos rfl, if_neg (by omega)]
                        first | exact q | exact q.symm))
                | (refine cL (k uqq gk) ?_
                   unfold laA
                   first
                     | (rw [if_neg (by omega), if_pos (show (wqq = 0 ∨ wqq = 1) ∧ 0 ≤ x ∧ x < 2 * (cnt L - 1) from ⟨by omega, by omega, by omega⟩)]
                        rfl)
                     | (have ew : wqq = 2 := by omega
                        subst ew
                        rw [if_pos rfl, if_neg (by omega)]
                        rfl))
        · refine x_aload rfl ?_
          refine h_getR sc_94 rfl (by omega) ?_
          refine x_ci ?_
          refine h_iald sc_112 ⟨by omega, by omega⟩ (by decide) ?_
          rw [up_a (b := 112) (by decide), r2]
          refine n_if_ne ⟨by omega, by omega⟩ (fun c5 => ?_) (fun c5 => ?_)
          · refine x_iload rfl ?_
            refine x_ci ?_
            refine n_icmp_ne ⟨by omega, by omega⟩ ⟨by omega, by omega⟩ (fun c6 => ?_) (fun c6 => ?_)
            · refine x_aload rfl ?_
              refine x_ci ?_
              refine x_iload rfl ?_
              refine x_aload rfl ?_
              refine h_getR sc_94 rfl (by omega) ?_
              refine x_ci ?_
              refine h_iald sc_112 ⟨by omega, by omega⟩ (by decide) ?_
              rw [up_a (b := 112) (by decide), r2]
              refine n_call [vR _, vI _, vI _, vI _] [] (by omega) (Nat.le_of_ble_eq_true rfl) rfl rfl (Nat.le_of_ble_eq_true rfl) ?_
              have hnv := nvE_R (one := wO L c n (x / 2)) (other := wO L c n (x / 2 + 1)) (x := x) (wb := wB L c n (6 * wO L c n (x / 2) + wO L c n (x / 2 + 1))) (n := n) (cn := cnt L) (yr := yr) (by
                have o1 := wO_R hL hv (x / 2) (by omega) (by omega)
                exact ⟨o1.1, o1.2.1⟩) (by
                have o2 := wO_R hL hv (x / 2 + 1) (by omega) (by omega)
                exact ⟨o2.1, o2.2.1⟩) (by omega) (by
                have wr := wB_R (L := L) (c := c) n (6 * wO L c n (x / 2) + wO L c n (x / 2 + 1))
                omega) (by omega) (by omega) hyr
              refine r_calls (m := n) (f := 0) (by omega) (by omega) (RD.up hr0 (by decide)) (by omega) (x := x) (by omega) ((up_a (by decide)).trans hyv) hyr (fun tqq t1qq t2qq => ?_)
              show wp PP _ _ _ [some (vR _), some (vI _), some (vI _)] [] _ _
              refine x_fall ?_
              refine x_aload rfl ?_
              refine x_iload rfl ?_
              refine n_call [vR _, vI _] [] (by omega) (Nat.le_of_ble_eq_true rfl) rfl rfl (Nat.le_of_ble_eq_true rfl) ?_
              have w4qq := (hw2.q t2qq) wqq (by omega) (by omega)
              have hll : lb wqq < le wqq := by assumption
              refine r_goes (nv := nvE (wO L c n (x / 2)) (wO L c n (x / 2 + 1)) x (wB L c n (6 * wO L c n (x / 2) + wO L c n (x / 2 + 1))) n (cnt L) yr) (b := lb wqq) (e := le wqq) (kc := kc) (by omega) (by omega) w4qq.1 w4qq.2.1 hll o w4qq.2.2 t1qq hnv (fun uqq u1qq u2qq => ?_)
              have g := qfr_tr t2qq u1qq.q
              have gk : lkN s uqq := fun b r q1 q2 q3 q4 q5 q6 q7 => by
                rw [g b r (by omega) (by omega) (by omega) (by omega), up_f (by omega)]
              show wp PP _ _ _ [some (vR _), some (vI _), some (vI _)] [vI _] _ _
              refine z_if_eq (fun c7 => ?_) (fun c7 => ?_)
              · refine x_cl ?_
                refine x_fall ?_
                refine x_lret ?_
                first
                  | (refine cL (k _ (fun b r q1 q2 q3 q4 q5 q6 q7 => up_f (by omega))) ?_
                     unfold laA
                     rw [if_pos (by omega), if_pos (by omega)]
                     done)
                  | (refine cL (k _ (fun b r q1 q2 q3 q4 q5 q6 q7 => up_f (by omega))) ?_
                     unfold laA
                     rw [if_neg (by omega), if_neg (by omega)]
                     done)
                  | exact cL (k _ (fun b r q1 q2 q3 q4 q5 q6 q7 => up_f (by omega))) (laA_no (by assumption))
                  | (refine cL (k uqq gk) ?_
                     have q : lawV (nvE (wO L c n (x / 2)) (wO L c n (x / 2 + 1)) x (wB L c n (6 * wO L c n (x / 2) + wO L c n (x / 2 + 1))) n (cnt L) yr) kc (lb wqq) (le wqq) = -9223372036854775808 := by
                       first
                         | assumption
                         | exact Classical.not_not.mp (by assumption)
                     unfold laA
                     first
                       | (rw [if_neg (by omega), if_pos (show (wqq = 0 ∨ wqq = 1) ∧ 0 ≤ x ∧ x < 2 * (cnt L - 1) from ⟨by omega, by omega, by omega⟩)]
                          first | exact q | exact q.symm)
                       | (have ew : wqq = 2 := by omega
                          subst ew
                          rw [if_pos rfl, if_neg (by omega)]
                          first | exact q | exact q.symm))
                  | (refine cL (k uqq gk) ?_
                     unfold laA
                     first
                       | (rw [if_neg (by omega), if_pos (show (wqq = 0 ∨ wqq = 1) ∧ 0 ≤ x ∧ x < 2 * (cnt L - 1) from ⟨by omega, by omega, by omega⟩)]
                          rfl)
                       | (have ew : wqq = 2 := by omega
                          subst ew
                          rw [if_pos rfl, if_neg (by omega)]
                          rfl))
              · refine x_aload rfl ?_
                refine h_getR sc_94 rfl (by omega) ?_
                refine x_ci ?_
                refine h_lald sc_105 ⟨by omega, by omega⟩ (by decide) ?_
                rw [u2qq (by assumption)]
                refine x_goto ?_
                refine x_lret ?_
                first
                  | (refine cL (k _ (fun b r q1 q2 q3 q4 q5 q6 q7 => up_f (by omega))) ?_
                     unfold laA
                     rw [if_pos (by omega), if_pos (by omega)]
                     done)
                  | (refine cL (k _ (fun b r q1 q2 q3 q4 q5 q6 q7 => up_f (by omega))) ?_
                     unfold laA
                     rw [if_neg (by omega), if_neg (by omega)]
                     done)
                  | exact cL (k _ (fun b r q1 q2 q3 q4 q5 q6 q7 => up_f (by omega))) (laA_no (by assumption))
                  | (refine cL (k uqq gk) ?_
                     have q : lawV (nvE (wO L c n (x / 2)) (wO L c n (x / 2 + 1)) x (wB L c n (6 * wO L c n (x / 2) + wO L c n (x / 2 + 1))) n (cnt L) yr) kc (lb wqq) (le wqq) = -9223372036854775808 := by
                       first
                         | assumption
                         | exact Classical.not_not.mp (by assumption)
                     unfold laA
                     first
                       | (rw [if_neg (by omega), if_pos (show (wqq = 0 ∨ wqq = 1) ∧ 0 ≤ x ∧ x < 2 * (cnt L - 1) from ⟨by omega, by omega, by omega⟩)]
                          first | exact q | exact q.symm)
                       | (have ew : wqq = 2 := by omega
                          subst ew
                          rw [if_pos rfl, if_neg (by omega)]
                          first | exact q | exact q.symm))
                  | (refine cL (k uqq gk) ?_
                     unfold laA
                     first
                       | (rw [if_neg (by omega), if_pos (show (wqq = 0 ∨ wqq = 1) ∧ 0 ≤ x ∧ x < 2 * (cnt L - 1) from ⟨by omega, by omega, by omega⟩)]
                          rfl)
                       | (have ew : wqq = 2 := by omega
                          subst ew
                          rw [if_pos rfl, if_neg (by omega)]
                          rfl))
            · refine x_aload rfl ?_
              refine x_ci ?_
              refine n_call [vR _, vI _] [] (by omega) (Nat.le_of_ble_eq_true rfl) rfl rfl (Nat.le_of_ble_eq_true rfl) ?_
              obtain ⟨k0, hk0⟩ : ∃ k0 : Nat, n = k0 + 1 := ⟨n - 1, by omega⟩
              subst hk0
              have hvk := hv k0 (by omega) (by omega)
              have hnv := nvE_R (one := wO L c k0 (c k0 / 2)) (other := wO L c k0 (c k0 / 2 + 1)) (x := c k0) (wb := wB L c (k0 + 1) (6 * wO L c k0 (c k0 / 2) + wO L c k0 (c k0 / 2 + 1))) (n := ((k0 + 1 : Nat) : Int)) (cn := cnt L) (yr := yr) (by
                have o1 := wO_R hL (vC_less hv (Nat.le_succ k0)) (c k0 / 2) (by omega) (by omega)
                exact ⟨o1.1, o1.2.1⟩) (by
                have o2 := wO_R hL (vC_less hv (Nat.le_succ k0)) (c k0 / 2 + 1) (by omega) (by omega)
                exact ⟨o2.1, o2.2.1⟩) (by omega) (by
                have wr := wB_R (L := L) (c := c) (k0 + 1) (6 * wO L c k0 (c k0 / 2) + wO L c k0 (c k0 / 2 + 1))
                omega) (by omega) (by omega) hyr
              refine r_callsLast (n := k0) (f := 0) (by omega) (by omega) (RD.up hr0 (by decide)) ((up_a (by decide)).trans hyv) hyr (fun tqq t1qq t2qq => ?_)
              show wp PP _ _ _ [some (vR _), some (vI _), some (vI _)] [] _ _
              refine x_goto ?_
              refine x_aload rfl ?_
              refine x_iload rfl ?_
              refine n_call [vR _, vI _] [] (by omega) (Nat.le_of_ble_eq_true rfl) rfl rfl (Nat.le_of_ble_eq_true rfl) ?_
              have w4qq := (hw2.q t2qq) wqq (by omega) (by omega)
              have hll : lb wqq < le wqq := by assumption
              refine r_goes (nv := nvE (wO L c k0 (c k0 / 2)) (wO L c k0 (c k0 / 2 + 1)) (c k0) (wB L c (k0 + 1) (6 * wO L c k0 (c k0 / 2) + wO L c k0 (c k0 / 2 + 1))) ((k0 + 1 : Nat) : Int) (cnt L) yr) (b := lb wqq) (e := le wqq) (kc := kc) (by omega) (by omega) w4qq.1 w4qq.2.1 hll o w4qq.2.2 t1qq hnv (fun uqq u1qq u2qq => ?_)
              have g := qfr_tr t2qq u1qq.q
              have gk : lkN s uqq := fun b r q1 q2 q3 q4 q5 q6 q7 => by
                rw [g b r (by omega) (by omega) (by omega) (by omega), up_f (by omega)]
              show wp PP _ _ _ [some (vR _), some (vI _), some (vI _)] [vI _] _ _
              refine z_if_eq (fun c7 => ?_) (fun c7 => ?_)
              · refine x_cl ?_
                refine x_fall ?_
                refine x_lret ?_
                first
                  | (refine cL (k _ (fun b r q1 q2 q3 q4 q5 q6 q7 => up_f (by omega))) ?_
                     unfold laA
                     rw [if_pos (by omega), if_pos (by omega)]
                     done)
                  | (refine cL (k _ (fun b r q1 q2 q3 q4 q5 q6 q7 => up_f (by omega))) ?_
                     unfold laA
                     rw [if_neg (by omega), if_neg (by omega)]
                     done)
                  | exact cL (k _ (fun b r q1 q2 q3 q4 q5 q6 q7 => up_f (by omega))) (laA_no (by assumption))
                  | (refine cL (k uqq gk) ?_
                     have q : lawV (nvE (wO L c k0 (c k0 / 2)) (wO L c k0 (c k0 / 2 + 1)) (c k0) (wB L c (k0 + 1) (6 * wO L c k0 (c k0 / 2) + wO L c k0 (c k0 / 2 + 1))) ((k0 + 1 : Nat) : Int) (cnt L) yr) kc (lb wqq) (le wqq) = -9223372036854775808 := by
                       first
                         | assumption
                         | exact Classical.not_not.mp (by assumption)
                     unfold laA
                     first
                       | (rw [if_neg (by omega), if_pos (show (wqq = 0 ∨ wqq = 1) ∧ 0 ≤ x ∧ x < 2 * (cnt L - 1) from ⟨by omega, by omega, by omega⟩)]
                          first | exact q | exact q.symm)
                       | (have ew : wqq = 2 := by omega
                          subst ew
                          rw [if_pos rfl, if_neg (by omega)]
                          first | exact q | exact q.symm))
                  | (refine cL (k uqq gk) ?_
                     unfold laA
                     first
                       | (rw [if_neg (by omega), if_pos (show (wqq = 0 ∨ wqq = 1) ∧ 0 ≤ x ∧ x < 2 * (cnt L - 1) from ⟨by omega, by omega, by omega⟩)]
                          rfl)
                       | (have ew : wqq = 2 := by omega
                          subst ew
                          rw [if_pos rfl, if_neg (by omega)]
                          rfl))
              · refine x_aload rfl ?_
                refine h_getR sc_94 rfl (by omega) ?_
                refine x_ci ?_
                refine h_lald sc_105 ⟨by omega, by omega⟩ (by decide) ?_
                rw [u2qq (by assumption)]
                refine x_goto ?_
                refine x_lret ?_
                first
                  | (refine cL (k _ (fun b r q1 q2 q3 q4 q5 q6 q7 => up_f (by omega))) ?_
                     unfold laA
                     rw [if_pos (by omega), if_pos (by omega)]
                     done)
                  | (refine cL (k _ (fun b r q1 q2 q3 q4 q5 q6 q7 => up_f (by omega))) ?_
                     unfold laA
                     rw [if_neg (by omega), if_neg (by omega)]
                     done)
                  | exact cL (k _ (fun b r q1 q2 q3 q4 q5 q6 q7 => up_f (by omega))) (laA_no (by assumption))
                  | (refine cL (k uqq gk) ?_
                     have q : lawV (nvE (wO L c k0 (c k0 / 2)) (wO L c k0 (c k0 / 2 + 1)) (c k0) (wB L c (k0 + 1) (6 * wO L c k0 (c k0 / 2) + wO L c k0 (c k0 / 2 + 1))) ((k0 + 1 : Nat) : Int) (cnt L) yr) kc (lb wqq) (le wqq) = -9223372036854775808 := by
                       first
                         | assumption
                         | exact Classical.not_not.mp (by assumption)
                     unfold laA
                     first
                       | (rw [if_neg (by omega), if_pos (show (wqq = 0 ∨ wqq = 1) ∧ 0 ≤ x ∧ x < 2 * (cnt L - 1) from ⟨by omega, by omega, by omega⟩)]
                          first | exact q | exact q.symm)
                       | (have ew : wqq = 2 := by omega
                          subst ew
                          rw [if_pos rfl, if_neg (by omega)]
                          first | exact q | exact q.symm))
                  | (refine cL (k uqq gk) ?_
                     unfold laA
                     first
                       | (rw [if_neg (by omega), if_pos (show (wqq = 0 ∨ wqq = 1) ∧ 0 ≤ x ∧ x < 2 * (cnt L - 1) from ⟨by omega, by omega, by omega⟩)]
                          rfl)
                       | (have ew : wqq = 2 := by omega
                          subst ew
                          rw [if_pos rfl, if_neg (by omega)]
                          rfl))
          · refine x_goto ?_
            refine x_cl ?_
            refine x_lret ?_
            first
              | (refine cL (k _ (fun b r q1 q2 q3 q4 q5 q6 q7 => up_f (by omega))) ?_
                 unfold laA
                 rw [if_pos (by omega), if_pos (by omega)]
                 done)
              | (refine cL (k _ (fun b r q1 q2 q3 q4 q5 q6 q7 => up_f (by omega))) ?_
                 unfold laA
                 rw [if_neg (by omega), if_neg (by omega)]
                 done)
              | exact cL (k _ (fun b r q1 q2 q3 q4 q5 q6 q7 => up_f (by omega))) (laA_no (by assumption))
              | (refine cL (k uqq gk) ?_
                 have q : lawV (nvE (wO L c k0 (c k0 / 2)) (wO L c k0 (c k0 / 2 + 1)) (c k0) (wB L c (k0 + 1) (6 * wO L c k0 (c k0 / 2) + wO L c k0 (c k0 / 2 + 1))) ((k0 + 1 : Nat) : Int) (cnt L) yr) kc (lb wqq) (le wqq) = -9223372036854775808 := by
                   first
                     | assumption
                     | exact Classical.not_not.mp (by assumption)
                 unfold laA
                 first
                   | (rw [if_neg (by omega), if_pos (show (wqq = 0 ∨ wqq = 1) ∧ 0 ≤ x ∧ x < 2 * (cnt L - 1) from ⟨by omega, by omega, by omega⟩)]
                      first | exact q | exact q.symm)
                   | (have ew : wqq = 2 := by omega
                      subst ew
                      rw [if_pos rfl, if_neg (by omega)]
                      first | exact q | exact q.symm))
              | (refine cL (k uqq gk) ?_
                 unfold laA
                 first
                   | (rw [if_neg (by omega), if_pos (show (wqq = 0 ∨ wqq = 1) ∧ 0 ≤ x ∧ x < 2 * (cnt L - 1) from ⟨by omega, by omega, by omega⟩)]
                      rfl)
                   | (have ew : wqq = 2 := by omega
                      subst ew
                      rw [if_pos rfl, if_neg (by omega)]
                      rfl))
      · refine x_fall ?_
        refine x_cl ?_
        refine x_lret ?_
        first
          | (refine cL (k _ (fun b r q1 q2 q3 q4 q5 q6 q7 => up_f (by omega))) ?_
             unfold laA
             rw [if_pos (by omega), if_pos (by omega)]
             done)
          | (refine cL (k _ (fun b r q1 q2 q3 q4 q5 q6 q7 => up_f (by omega))) ?_
             unfold laA
             rw [if_neg (by omega), if_neg (by omega)]
             done)
          | exact cL (k _ (fun b r q1 q2 q3 q4 q5 q6 q7 => up_f (by omega))) (laA_no (by assumption))
          | (refine cL (k uqq gk) ?_
             have q : lawV (nvE (wO L c k0 (c k0 / 2)) (wO L c k0 (c k0 / 2 + 1)) (c k0) (wB L c (k0 + 1) (6 * wO L c k0 (c k0 / 2) + wO L c k0 (c k0 / 2 + 1))) ((k0 + 1 : Nat) : Int) (cnt L) yr) kc (lb wqq) (le wqq) = -9223372036854775808 := by
               first
                 | assumption
                 | exact Classical.not_not.mp (by assumption)
             unfold laA
             first
               | (rw [if_neg (by omega), if_pos (show (wqq = 0 ∨ wqq = 1) ∧ 0 ≤ x ∧ x < 2 * (cnt L - 1) from ⟨by omega, by omega, by omega⟩)]
                  first | exact q | exact q.symm)
               | (have ew : wqq = 2 := by omega
                  subst ew
                  rw [if_pos rfl, if_neg (by omega)]
                  first | exact q | exact q.symm))
          | (refine cL (k uqq gk) ?_
             unfold laA
             first
               | (rw [if_neg (by omega), if_pos (show (wqq = 0 ∨ wqq = 1) ∧ 0 ≤ x ∧ x < 2 * (cnt L - 1) from ⟨by omega, by omega, by omega⟩)]
                  rfl)
               | (have ew : wqq = 2 := by omega
                  subst ew
                  rw [if_pos rfl, if_neg (by omega)]
                  rfl))
abbrev csP (L : Int) (n : Nat) (c : Int → Int) (yr : Int) (kc lb le : Int → Int) (q : Int) : Prop := n < 48 ∧ ¬ vNx L n c yr kc lb le q 0 = 0
def csC (c : Int → Int) (n : Nat) (q : Int) : Int → Int := fun i => if i = n then q else c i
theorem csC_n {q : Int} : csC c n q n = q := if_pos rfl
theorem csC_lt {q : Int} : ∀ i : Int, 0 ≤ i → i < n → c i = csC c n q i := fun i _ h => (if_neg (by omega)).symm
theorem m_cross (hd : 15 ≤ d) (htp : tp = 37 ∨ tp = 45) (hT : s 32 2 = (tp : Int) + 1) (hD : DA 53 vw rf sl yr la L n c s) (ha : PAs zqq Hs s) (hok : hOk zqq Hs) (hn48 : n ≤ 48) (hyr : 0 ≤ yr ∧ yr ≤ 100000) (hvr : -9999 ≤ vw ∧ vw ≤ 9999) (hw : LWC tp kc lb le s) (ho : okL kc lb le) {x o q : Int} (hx : iR x) (ho1 : o = 0 ∨ o = 1) (hq : 2 * x + (1 - o) = q) (kA : ¬ (0 ≤ x ∧ x < cnt L - 1) → Q (some (vI (-1))) (HP h0 s)) (kB : 0 ≤ x ∧ x < cnt L - 1 → ¬ csP L n c yr kc lb le q → ∀ tqq, lkC tp s tqq → Q (some (vI (-2))) (HP h0 tqq)) (kY : 0 ≤ x ∧ x < cnt L - 1 → csP L n c yr kc lb le q → ∀ tqq, DA 53 (vwN vw (vNx L n c yr kc lb le q 1)) rf sl yr la L (n + 1) (csC c n q) tqq → PAs (min 20 (zqq + 1)) (hput1 vw L n c Hs) tqq → nwC tp s tqq → Q (some (vI ((n : Int) + 1))) (HP h0 tqq)) : wpM PP d 18 [vR 32, vI x, vI o] (HP h0 s) Q := by
  obtain ⟨hS, htq⟩ := isc_tp htp
  clear htp
  obtain ⟨v1qq, v2qq, v3qq, v4qq, v5qq, hp⟩ := hD
  have hct := cnt_R L
  refine n_at (m := 18) (q := mr18) (kn := (0, 3)) [some (vR _), some (vI _), some (vI _), none] mb18 rfl rfl (h_rcv sc_32) (Nat.le_of_ble_eq_true rfl) rfl rfl ?_
  refine x_aload rfl ?_
  refine h_getR sc_32 rfl (by omega) ?_
  refine h_getR sc_53 rfl (by omega) ?_
  refine x_iload rfl ?_
  refine n_call [vR _, vI _] [] (by omega) (Nat.le_of_ble_eq_true rfl) rfl rfl (Nat.le_of_ble_eq_true rfl) ?_
  refine m_hasPlace pl_54 (by rw [hp.count]; omega) ⟨by omega, by omega⟩ ?_
  rw [hp.count]
  show wp PP _ _ _ [some (vR _), some (vI _), some (vI _), _] [vI _] _ _
  refine z_if_ne (fun c1 => ?_) (fun c1 => ?_)
  · refine x_iload rfl ?_
    refine x_iload rfl ?_
    refine n_call [vI _, vI _] [] (by omega) (Nat.le_of_ble_eq_true rfl) rfl rfl (Nat.le_of_ble_eq_true rfl) ?_
    refine m_codeOf (by omega) ?_
    refine t_I q hq ?_
    show wp PP _ _ _ [some (vR _), some (vI _), some (vI _), _] [vI _] _ _
    refine n_istore [some (vR _), some (vI _), some (vI _), some (vI _)] (Nat.le_of_ble_eq_true rfl) rfl ?_
    refine x_aload rfl ?_
    refine h_getR sc_32 rfl (by omega) ?_
    refine x_aload rfl ?_
    refine h_getB 2 sc_32 rfl rfl (by first | exact hT | exact hT2) ?_
    refine x_aload rfl ?_
    refine h_getR sc_32 rfl (by omega) ?_
    refine x_iload rfl ?_
    refine n_call [vR _, vR _, vR _, vI _] [] (by omega) (Nat.le_of_ble_eq_true rfl) rfl rfl (Nat.le_of_ble_eq_true rfl) ?_
    refine m_allows da_53 hS (by omega) (by omega) (by omega) (by omega) hp v4qq hyr (by omega) hw ho (fun tqq t1qq => ?_)
    show wp PP _ _ _ [some (vR _), some (vI _), some (vI _), some (vI _)] [vI _] _ _
    refine z_if_ne (fun c2 => ?_) (fun c2 => ?_)
    · refine x_aload rfl ?_
      refine h_getR sc_32 rfl (by omega) ?_
      refine x_aload rfl ?_
      refine h_getR sc_32 rfl (by omega) ?_
      refine n_call [vR _, vR _] [] (by omega) (Nat.le_of_ble_eq_true rfl) rfl rfl (Nat.le_of_ble_eq_true rfl) ?_
      have g1 : ∀ b : Nat, ¬ b = 69 → ¬ (37 ≤ b ∧ b ≤ 52) → ∀ r, tqq b r = s b r := fun b h1 h2 r => t1qq b r h1 (by omega) (by omega)
      have hT2 : tqq 32 2 = (tp : Int) + 1 := (g1 32 (by decide) (by decide) 2).trans hT
      refine m_put (by omega) (ha.out (fun b q1 q2 r => g1 b (by omega) (by omega) r)) hok ((g1 53 (by decide) (by decide) 1).trans v1qq) (PLout hp (fun b h1 h2 r => g1 b (by omega) (by omega) r)) hn48 (fun uqq u1qq u2qq => ?_)
      have g2 : ∀ b : Nat, ¬ b = 69 → ¬ (37 ≤ b ∧ b ≤ 52) → ¬ (70 ≤ b ∧ b ≤ 74) → ∀ r, uqq b r = s b r := fun b h1 h2 h3 r => (u2qq b (by omega) r).trans (g1 b h1 h2 r)
      have hT2 : uqq 32 2 = (tp : Int) + 1 := (g2 32 (by decide) (by decide) (by decide) 2).trans hT
      have hwu : LWC tp kc lb le uqq := fun r r0 r1 => by
        obtain ⟨q1, q2, q3⟩ := (hw.y t1qq (by omega)) r r0 r1
        refine ⟨(u2qq _ (by omega) r).trans q1, (u2qq _ (by omega) r).trans q2, fun i i0 i1 => (u2qq _ (by omega) i).trans (q3 i i0 i1)⟩
      show wp PP _ _ _ [some (vR _), some (vI _), some (vI _), some (vI _)] [] _ _
      refine x_aload rfl ?_
      refine h_getR sc_32 rfl (by omega) ?_
      refine x_aload rfl ?_
      refine h_getB 2 sc_32 rfl rfl (by first | exact hT | exact hT2) ?_
      refine x_aload rfl ?_
      refine h_getR sc_32 rfl (by omega) ?_
      refine x_iload rfl ?_
      refine n_call [vR _, vR _, vR _, vI _] [] (by omega) (Nat.le_of_ble_eq_true rfl) rfl rfl (Nat.le_of_ble_eq_true rfl) ?_
      refine m_dance (c := csC c n q) (n := n) (vw := vw) da_53 hS (by omega) (by omega) (by omega) (by omega) ((PLout hp (fun b h1 h2 r => g2 b (by omega) (by omega) (by omega) r)).cg csC_lt) (by omega) csC_n ((g2 53 (by decide) (by decide) (by decide) 4).trans v4qq) hyr ((g2 53 (by decide) (by decide) (by decide) 1).trans v1qq) hvr (by omega) hwu ho (fun x_ v1_ v2_ v3_ => ?_)
      rw [← vNx_cg csC_lt] at v2_
      show wp PP _ _ _ [some (vR _), some (vI _), some (vI _), some (vI _)] [] _ _
      refine x_aload rfl ?_
      refine h_getR sc_32 rfl (by omega) ?_
      refine h_getR sc_53 rfl (by omega) ?_
      refine h_getI 5 sc_54 rfl rfl ?_
      rw [v1_.size]
      refine x_iret ?_
      first
        | exact kA (fun q => by omega)
        | exact kB (by omega) (fun q => by have := c2; omega) tqq (fun b r q1 q2 q3 q4 => t1qq b r (by omega) q3 q4)
        | (refine cI (kY (by omega) ⟨by omega, by omega⟩ x_ ⟨v2_, ?_, ?_, ?_, ?_, v1_⟩ (u1qq.out (fun b q1 q2 r => v3_ b r (by omega) (by omega) (by omega) (by omega))) (fun b r q1 q2 q3 q4 q5 => ?_)) (by omega)
           · rw [v3_ 53 2 (by omega) (by omega) (by omega) (by omega), g2 53 (by decide) (by decide) (by decide) 2, v2qq]
           · rw [v3_ 53 3 (by omega) (by omega) (by omega) (by omega), g2 53 (by decide) (by decide) (by decide) 3, v3qq]
           · rw [v3_ 53 4 (by omega) (by omega) (by omega) (by omega), g2 53 (by decide) (by decide) (by decide) 4, v4qq]
           · rw [v3_ 53 5 (by omega) (by omega) (by omega) (by omega), g2 53 (by decide) (by decide) (by decide) 5, v5qq]
           · rw [v3_ b r (by omega) (by omega) (by omega) (by omega), u2qq b (by omega) r, t1qq b r (by omega) (by omega) (by omega)])
    · refine x_ci ?_
      refine x_iret ?_
      first
        | exact kA (fun q => by omega)
        | exact kB (by omega) (fun q => by have := c2; omega) tqq (fun b r q1 q2 q3 q4 => t1qq b r (by omega) q3 q4)
        | (refine cI (kY (by omega) ⟨by omega, by omega⟩ x_ ⟨v2_, ?_, ?_, ?_, ?_, v1_⟩ (u1qq.out (fun b q1 q2 r => v3_ b r (by omega) (by omega) (by omega) (by omega))) (fun b r q1 q2 q3 q4 q5 => ?_)) (by omega)
           · rw [v3_ 53 2 (by omega) (by omega) (by omega) (by omega), g2 53 (by decide) (by decide) (by decide) 2, v2qq]
           · rw [v3_ 53 3 (by omega) (by omega) (by omega) (by omega), g2 53 (by decide) (by decide) (by decide) 3, v3qq]
           · rw [v3_ 53 4 (by omega) (by omega) (by omega) (by omega), g2 53 (by decide) (by decide) (by decide) 4, v4qq]
           · rw [v3_ 53 5 (by omega) (by omega) (by omega) (by omega), g2 53 (by decide) (by decide) (by decide) 5, v5qq]
           · rw [v3_ b r (by omega) (by omega) (by omega) (by omega), u2qq b (by omega) r, t1qq b r (by omega) (by omega) (by omega)])
  · refine x_ci ?_
    refine x_iret ?_
    first
      | exact kA (fun q => by omega)
      | exact kB (by omega) (fun q => by have := c2; omega) tqq (fun b r q1 q2 q3 q4 => t1qq b r (by omega) q3 q4)
      | (refine cI (kY (by omega) ⟨by omega, by omega⟩ x_ ⟨v2_, ?_, ?_, ?_, ?_, v1_⟩ (u1qq.out (fun b q1 q2 r => v3_ b r (by omega) (by omega) (by omega) (by omega))) (fun b r q1 q2 q3 q4 q5 => ?_)) (by omega)
         · rw [v3_ 53 2 (by omega) (by omega) (by omega) (by omega), g2 53 (by decide) (by decide) (by decide) 2, v2qq]
         · rw [v3_ 53 3 (by omega) (by omega) (by omega) (by omega), g2 53 (by decide) (by decide) (by decide) 3, v3qq]
         · rw [v3_ 53 4 (by omega) (by omega) (by omega) (by omega), g2 53 (by decide) (by decide) (by decide) 4, v4qq]
         · rw [v3_ 53 5 (by omega) (by omega) (by omega) (by omega), g2 53 (by decide) (by decide) (by decide) 5, v5qq]
         · rw [v3_ b r (by omega) (by omega) (by omega) (by omega), u2qq b (by omega) r, t1qq b r (by omega) (by omega) (by omega)])
theorem r_cross (hd : 13 ≤ d) (hu : PUs zqq Hs rf sl yr la s) (hok : hOk zqq Hs) (hD : DR 0 vw rf sl yr la L n c s) (hyr : 0 ≤ yr ∧ yr ≤ 100000) (hvr : -9999 ≤ vw ∧ vw ≤ 9999) (h45 : s 94 45 = 0) (hw : LWR kc lb le s) (ho : okL kc lb le) {x o q : Int} (hx : iR x) (ho1 : o = 0 ∨ o = 1) (hq : 2 * x + (1 - o) = q) (kA : ¬ (0 ≤ x ∧ x < cnt L - 1) → Q (some (vI (-1))) (HP h0 (up s 94 0 0))) (kB : 0 ≤ x ∧ x < cnt L - 1 → ¬ csP L n c yr kc lb le q → ∀ tqq, lkN s tqq → Q (some (vI (-2))) (HP h0 tqq)) (kY : 0 ≤ x ∧ x < cnt L - 1 → csP L n c yr kc lb le q → ∀ tqq, DR 0 (vwN vw (vNx L n c yr kc lb le q 1)) rf sl yr la L (n + 1) (csC c n q) tqq → PUs (min 20 (zqq + 1)) (hput1 vw L n c Hs) rf sl yr la tqq → nwN s tqq → Q (some (vI ((n : Int) + 1))) (HP h0 tqq)) : wpM PP d 143 [vR 94, vI x, vI o] (HP h0 s) Q := by
  obtain ⟨w1qq, w2qq, w3qq, w4qq, w5qq, hr0⟩ := hD
  have hD0 : DR 0 vw rf sl yr la L n c s := ⟨w1qq, w2qq, w3qq, w4qq, w5qq, hr0⟩
  obtain ⟨hL, hn, hv, r1, r2, r3⟩ := hr0
  obtain ⟨p1, p2, p3⟩ := hu
  have hu0 : PUs zqq Hs rf sl yr la (up s 94 0 0) := ⟨p1, (up_i (by decide)).trans p2, fun i hi => (p3 i hi).up (by decide)⟩
  have hct := cnt_R L
  have hr0_ : RD 0 L n c s := ⟨hL, hn, hv, r1, r2, r3⟩
  have hdt : ∀ tqq, qfr (up s 94 0 0) tqq → DR 0 vw rf sl yr la L n c tqq := fun tqq g => DRof (hD0.up (by decide)) (by omega) (fun b r q1 q2 => g b r (by omega) (by omega) (by omega) (by omega)) (fun r q1 q2 => g 113 r (by omega) (by omega) (by omega) (by omega))
  have hut : ∀ tqq, qfr (up s 94 0 0) tqq → PUs zqq Hs rf sl yr la tqq := fun tqq g => hu0.out (fun b r q1 q2 q3 => g b r (by omega) (by omega) (by omega) (by omega)) (fun r q1 q2 => g 113 r (by omega) (by omega) (by omega) (by omega)) (g 94 36 (by omega) (by omega) (by omega) (by omega))
  refine n_at (m := 143) (q := mr143) (kn := (0, 3)) [some (vR _), some (vI _), some (vI _), none] mb143 rfl rfl (h_rcv sc_94) (Nat.le_of_ble_eq_true rfl) rfl rfl ?_
  refine x_aload rfl ?_
  refine x_ci ?_
  refine h_putI 0 sc_94 rfl rfl ?_
  refine x_iload rfl ?_
  refine n_if_lt ⟨by omega, by omega⟩ (fun c1 => ?_) (fun c1 => ?_)
  · refine x_ci ?_
    refine x_iret ?_
    first
      | exact kA (fun q => by omega)
      | exact kB (by omega) (fun q => by have := c4; omega) tqq (fun b r q1 q2 q3 q4 q5 q6 q7 => by rw [t1qq b r (by omega) (by omega) (by omega) (by omega), up_f (by omega)])
      | (refine cI (kY (by omega) ⟨by omega, by omega⟩ x_ ⟨v2_, ?_, ?_, ?_, ?_, v1_⟩ (u1qq.out (fun b r q1 q2 q3 => ?_) (fun r q1 q2 => ?_) ?_) (fun b r q1 q2 q3 q4 q5 q6 q7 => ?_)) (by omega)
         · rw [v3_ 108 0 (by omega) (by omega) (by omega) (by omega) (by omega) (by omega) (by omega)]
           exact u2qq.2.1
         · rw [v3_ 109 0 (by omega) (by omega) (by omega) (by omega) (by omega) (by omega) (by omega)]
           exact u2qq.2.2.1
         · rw [v3_ 106 0 (by omega) (by omega) (by omega) (by omega) (by omega) (by omega) (by omega)]
           exact u2qq.2.2.2.1
         · rw [v3_ 107 0 (by omega) (by omega) (by omega) (by omega) (by omega) (by omega) (by omega)]
           exact u2qq.2.2.2.2.1
         · exact v3_ b r (by omega) (by omega) (by omega) (by omega) (by omega) (by omega) (by omega)
         · exact v3_ 113 r (by omega) (by omega) (by omega) (by omega) (by omega) (by omega) (by omega)
         · exact v3_ 94 36 (by omega) (by omega) (by omega) (by omega) (by omega) (by omega) (by omega)
         · exact f_ b r (by omega) (by omega) (by omega) (by omega) (by omega) (by omega) (by omega))
  · refine x_iload rfl ?_
    refine x_aload rfl ?_
    refine x_ci ?_
    refine n_call [vR _, vI _] [vI _] (by omega) (Nat.le_of_ble_eq_true rfl) rfl rfl (Nat.le_of_ble_eq_true rfl) ?_
    refine r_codesOf (f := 0) (by omega) (by omega) (by rw [up_a (by decide), r1]; exact hL) ?_
    rw [up_a (b := 111) (by decide), r1]
    show wp PP _ _ _ [some (vR _), some (vI _), some (vI _), _] [vI _, vI _] _ _
    refine x_ci ?_
    refine n_idiv ⟨by omega, by omega⟩ ⟨by omega, by omega⟩ ?_
    refine n_icmp_lt ⟨by omega, by omega⟩ ⟨by omega, by omega⟩ (fun c2 => ?_) (fun c2 => ?_)
    · refine x_ci ?_
      refine x_iload rfl ?_
      refine x_imul ?_
      refine x_iload rfl ?_
      refine n_if_eq ⟨by omega, by omega⟩ (fun c3 => ?_) (fun c3 => ?_)
      · refine x_ci ?_
        refine x_fall ?_
        refine x_iadd ?_
        refine t_I q (by omega) ?_
        refine n_istore [some (vR _), some (vI _), some (vI _), some (vI _)] (Nat.le_of_ble_eq_true rfl) rfl ?_
        refine x_aload rfl ?_
        refine x_ci ?_
        refine x_iload rfl ?_
        refine n_call [vR _, vI _, vI _] [] (by omega) (Nat.le_of_ble_eq_true rfl) rfl rfl (Nat.le_of_ble_eq_true rfl) ?_
        refine r_canDance (f := 0) (tw := 0) (am := 0) (yr := yr) (by omega) (by omega) (RD.up hr0_ (by decide)) (x := q) (by omega) ((up_a (by decide)).trans w4qq) hyr ((up_i (by decide)).trans h45) (by omega) (Or.inr ⟨by omega, rfl⟩) (hw.ua (by decide)) ho (fun tqq t1qq => ?_)
        show wp PP _ _ _ [some (vR _), some (vI _), some (vI _), some (vI _)] [vI _] _ _
        refine z_if_ne (fun c4 => ?_) (fun c4 => ?_)
        · refine x_aload rfl ?_
          refine n_call [vR _] [] (by omega) (Nat.le_of_ble_eq_true rfl) rfl rfl (Nat.le_of_ble_eq_true rfl) ?_
          refine r_keepNow (by omega) (hut tqq t1qq) hok (hdt tqq t1qq) (fun uqq u1qq u2qq u3qq => ?_)
          have hwu : LWR kc lb le uqq := fun r r0 r1 => by
            obtain ⟨q1, q2, q3⟩ := ((hw.ua (b := 94) (i := 0) (x := 0) (by decide)).q t1qq) r r0 r1
            refine ⟨(u3qq 100 r (by omega) (by omega) (by omega)).trans q1, (u3qq 101 r (by omega) (by omega) (by omega)).trans q2, fun i i0 i1 => ?_⟩
            rw [u3qq 102 i (by omega) (by omega) (by omega), u3qq 103 i (by omega) (by omega) (by omega)]
            exact q3 i i0 i1
          show wp PP _ _ _ [some (vR _), some (vI _), some (vI _), some (vI _)] [] _ _
          refine x_aload rfl ?_
          refine x_ci ?_
          refine x_iload rfl ?_
          refine n_call [vR _, vI _, vI _] [] (by omega) (Nat.le_of_ble_eq_true rfl) rfl rfl (Nat.le_of_ble_eq_true rfl) ?_
          refine r_dances (c := csC c n q) (n := n) (f := 0) (vw := vw) (yr := yr) (by omega) (by omega) (u2qq.2.2.2.2.2.cg csC_lt) (by omega) csC_n (by omega) u2qq.2.2.2.1 hyr u2qq.1 hvr hwu ho (fun x_ v1_ v2_ v3_ => ?_)
          rw [← vNx_cg csC_lt] at v2_
          have f_ : ∀ (b : Nat) (r : Int), ¬ (114 ≤ b ∧ b ≤ 117) → ¬ b = 104 → ¬ b = 105 → ¬ (b = 94 ∧ (r = 0 ∨ r = 26 ∨ r = 36)) → ¬ (106 ≤ b ∧ b ≤ 112 ∧ (r = 0 ∨ 3 ≤ r ∧ r < 23)) → ¬ (b = 113 ∧ 0 ≤ r ∧ r < 48) → ¬ (b = 113 ∧ 144 ≤ r ∧ r < 1104) → x_ b r = s b r := fun b r q1 q2 q3 q4 q5 q6 q7 => by
            rw [v3_ b r (by omega) (by omega) (by omega) (by omega) (by omega) (by omega) (by omega), u3qq b r (by omega) (by omega) (by omega), t1qq b r (by omega) (by omega) (by omega) (by omega), up_f (by omega)]
          show wp PP _ _ _ [some (vR _), some (vI _), some (vI _), some (vI _)] [] _ _
          refine x_aload rfl ?_
          refine h_getR sc_94 rfl (by omega) ?_
          refine x_ci ?_
          refine h_iald sc_112 ⟨by omega, by omega⟩ (by decide) ?_
          rw [v1_.2.2.2.2.1]
          refine x_iret ?_
          first
            | exact kA (fun q => by omega)
            | exact kB (by omega) (fun q => by have := c4; omega) tqq (fun b r q1 q2 q3 q4 q5 q6 q7 => by rw [t1qq b r (by omega) (by omega) (by omega) (by omega), up_f (by omega)])
            | (refine cI (kY (by omega) ⟨by omega, by omega⟩ x_ ⟨v2_, ?_, ?_, ?_, ?_, v1_⟩ (u1qq.out (fun b r q1 q2 q3 => ?_) (fun r q1 q2 => ?_) ?_) (fun b r q1 q2 q3 q4 q5 q6 q7 => ?_)) (by omega)
               · rw [v3_ 108 0 (by omega) (by omega) (by omega) (by omega) (by omega) (by omega) (by omega)]
                 exact u2qq.2.1
               · rw [v3_ 109 0 (by omega) (by omega) (by omega) (by omega) (by omega) (by omega) (by omega)]
                 exact u2qq.2.2.1
               · rw [v3_ 106 0 (by omega) (by omega) (by omega) (by omega) (by omega) (by omega) (by omega)]
                 exact u2qq.2.2.2.1
               · rw [v3_ 107 0 (by omega) (by omega) (by omega) (by omega) (by omega) (by omega) (by omega)]
                 exact u2qq.2.2.2.2.1
               · exact v3_ b r (by omega) (by omega) (by omega) (by omega) (by omega) (by omega) (by omega)
               · exact v3_ 113 r (by omega) (by omega) (by omega) (by omega) (by omega) (by omega) (by omega)
               · exact v3_ 94 36 (by omega) (by omega) (by omega) (by omega) (by omega) (by omega) (by omega)
               · exact f_ b r (by omega) (by omega) (by omega) (by omega) (by omega) (by omega) (by omega))
        · refine x_ci ?_
          refine x_iret ?_
          first
            | exact kA (fun q => by omega)
            | exact kB (by omega) (fun q => by have := c4; omega) tqq (fun b r q1 q2 q3 q4 q5 q6 q7 => by rw [t1qq b r (by omega) (by omega) (by omega) (by omega), up_f (by omega)])
            | (refine cI (kY (by omega) ⟨by omega, by omega⟩ x_ ⟨v2_, ?_, ?_, ?_, ?_, v1_⟩ (u1qq.out (fun b r q1 q2 q3 => ?_) (fun r q1 q2 => ?_) ?_) (fun b r q1 q2 q3 q4 q5 q6 q7 => ?_)) (by omega)
               · rw [v3_ 108 0 (by omega) (by omega) (by omega) (by omega) (by omega) (by omega) (by omega)]
                 exact u2qq.2.1
               · rw [v3_ 109 0 (by omega) (by omega) (by omega) (by omega) (by omega) (by omega) (by omega)]
                 exact u2qq.2.2.1
               · rw [v3_ 106 0 (by omega) (by omega) (by omega) (by omega) (by omega) (by omega) (by omega)]
                 exact u2qq.2.2.2.1
               · rw [v3_ 107 0 (by omega) (by omega) (by omega) (by omega) (by omega) (by omega) (by omega)]
                 exact u2qq.2.2.2.2.1
               · exact v3_ b r (by omega) (by omega) (by omega) (by omega) (by omega) (by omega) (by omega)
               · exact v3_ 113 r (by omega) (by omega) (by omega) (by omega) (by omega) (by omega) (by omega)
               · exact v3_ 94 36 (by omega) (by omega) (by omega) (by omega) (by omega) (by omega) (by omega)
               · exact f_ b r (by omega) (by omega) (by omega) (by omega) (by omega) (by omega) (by omega))
      · refine x_ci ?_
        refine x_goto ?_
        refine x_iadd ?_
        refine t_I q (by omega) ?_
        refine n_istore [some (vR _), some (vI _), some (vI _), some (vI _)] (Nat.le_of_ble_eq_true rfl) rfl ?_
        refine x_aload rfl ?_
        refine x_ci ?_
        refine x_iload rfl ?_
        refine n_call [vR _, vI _, vI _] [] (by omega) (Nat.le_of_ble_eq_true rfl) rfl rfl (Nat.le_of_ble_eq_true rfl) ?_
        refine r_canDance (f := 0) (tw := 0) (am := 0) (yr := yr) (by omega) (by omega) (RD.up hr0_ (by decide)) (x := q) (by omega) ((up_a (by decide)).trans w4qq) hyr ((up_i (by decide)).trans h45) (by omega) (Or.inr ⟨by omega, rfl⟩) (hw.ua (by decide)) ho (fun tqq t1qq => ?_)
        show wp PP _ _ _ [some (vR _), some (vI _), some (vI _), some (vI _)] [vI _] _ _
        refine z_if_ne (fun c4 => ?_) (fun c4 => ?_)
        · refine x_aload rfl ?_
          refine n_call [vR _] [] (by omega) (Nat.le_of_ble_eq_true rfl) rfl rfl (Nat.le_of_ble_eq_true rfl) ?_
          refine r_keepNow (by omega) (hut tqq t1qq) hok (hdt tqq t1qq) (fun uqq u1qq u2qq u3qq => ?_)
          have hwu : LWR kc lb le uqq := fun r r0 r1 => by
            obtain ⟨q1, q2, q3⟩ := ((hw.ua (b := 94) (i := 0) (x := 0) (by decide)).q t1qq) r r0 r1
            refine ⟨(u3qq 100 r (by omega) (by omega) (by omega)).trans q1, (u3qq 101 r (by omega) (by omega) (by omega)).trans q2, fun i i0 i1 => ?_⟩
            rw [u3qq 102 i (by omega) (by omega) (by omega), u3qq 103 i (by omega) (by omega) (by omega)]
            exact q3 i i0 i1
          show wp PP _ _ _ [some (vR _), some (vI _), some (vI _), some (vI _)] [] _ _
          refine x_aload rfl ?_
          refine x_ci ?_
          refine x_iload rfl ?_
          refine n_call [vR _, vI _, vI _] [] (by omega) (Nat.le_of_ble_eq_true rfl) rfl rfl (Nat.le_of_ble_eq_true rfl) ?_
          refine r_dances (c := csC c n q) (n := n) (f := 0) (vw := vw) (yr := yr) (by omega) (by omega) (u2qq.2.2.2.2.2.cg csC_lt) (by omega) csC_n (by omega) u2qq.2.2.2.1 hyr u2qq.1 hvr hwu ho (fun x_ v1_ v2_ v3_ => ?_)
          rw [← vNx_cg csC_lt] at v2_
          have f_ : ∀ (b : Nat) (r : Int), ¬ (114 ≤ b ∧ b ≤ 117) → ¬ b = 104 → ¬ b = 105 → ¬ (b = 94 ∧ (r = 0 ∨ r = 26 ∨ r = 36)) → ¬ (106 ≤ b ∧ b ≤ 112 ∧ (r = 0 ∨ 3 ≤ r ∧ r < 23)) → ¬ (b = 113 ∧ 0 ≤ r ∧ r < 48) → ¬ (b = 113 ∧ 144 ≤ r ∧ r < 1104) → x_ b r = s b r := fun b r q1 q2 q3 q4 q5 q6 q7 => by
            rw [v3_ b r (by omega) (by omega) (by omega) (by omega) (by omega) (by omega) (by omega), u3qq b r (by omega) (by omega) (by omega), t1qq b r (by omega) (by omega) (by omega) (by omega), up_f (by omega)]
          show wp PP _ _ _ [some (vR _), some (vI _), some (vI _), some (vI _)] [] _ _
          refine x_aload rfl ?_
          refine h_getR sc_94 rfl (by omega) ?_
          refine x_ci ?_
          refine h_iald sc_112 ⟨by omega, by omega⟩ (by decide) ?_
          rw [v1_.2.2.2.2.1]
          refine x_iret ?_
          first
            | exact kA (fun q => by omega)
            | exact kB (by omega) (fun q => by have := c4; omega) tqq (fun b r q1 q2 q3 q4 q5 q6 q7 => by rw [t1qq b r (by omega) (by omega) (by omega) (by omega), up_f (by omega)])
            | (refine cI (kY (by omega) ⟨by omega, by omega⟩ x_ ⟨v2_, ?_, ?_, ?_, ?_, v1_⟩ (u1qq.out (fun b r q1 q2 q3 => ?_) (fun r q1 q2 => ?_) ?_) (fun b r q1 q2 q3 q4 q5 q6 q7 => ?_)) (by omega)
               · rw [v3_ 108 0 (by omega) (by omega) (by omega) (by omega) (by omega) (by omega) (by omega)]
                 exact u2qq.2.1
               · rw [v3_ 109 0 (by omega) (by omega) (by omega) (by omega) (by omega) (by omega) (by omega)]
                 exact u2qq.2.2.1
               · rw [v3_ 106 0 (by omega) (by omega) (by omega) (by omega) (by omega) (by omega) (by omega)]
                 exact u2qq.2.2.2.1
               · rw [v3_ 107 0 (by omega) (by omega) (by omega) (by omega) (by omega) (by omega) (by omega)]
                 exact u2qq.2.2.2.2.1
               · exact v3_ b r (by omega) (by omega) (by omega) (by omega) (by omega) (by omega) (by omega)
               · exact v3_ 113 r (by omega) (by omega) (by omega) (by omega) (by omega) (by omega) (by omega)
               · exact v3_ 94 36 (by omega) (by omega) (by omega) (by omega) (by omega) (by omega) (by omega)
               · exact f_ b r (by omega) (by omega) (by omega) (by omega) (by omega) (by omega) (by omega))
        · refine x_ci ?_
          refine x_iret ?_
          first
            | exact kA (fun q => by omega)
            | exact kB (by omega) (fun q => by have := c4; omega) tqq (fun b r q1 q2 q3 q4 q5 q6 q7 => by rw [t1qq b r (by omega) (by omega) (by omega) (by omega), up_f (by omega)])
            | (refine cI (kY (by omega) ⟨by omega, by omega⟩ x_ ⟨v2_, ?_, ?_, ?_, ?_, v1_⟩ (u1qq.out (fun b r q1 q2 q3 => ?_) (fun r q1 q2 => ?_) ?_) (fun b r q1 q2 q3 q4 q5 q6 q7 => ?_)) (by omega)
               · rw [v3_ 108 0 (by omega) (by omega) (by omega) (by omega) (by omega) (by omega) (by omega)]
                 exact u2qq.2.1
               · rw [v3_ 109 0 (by omega) (by omega) (by omega) (by omega) (by omega) (by omega) (by omega)]
                 exact u2qq.2.2.1
               · rw [v3_ 106 0 (by omega) (by omega) (by omega) (by omega) (by omega) (by omega) (by omega)]
                 exact u2qq.2.2.2.1
               · rw [v3_ 107 0 (by omega) (by omega) (by omega) (by omega) (by omega) (by omega) (by omega)]
                 exact u2qq.2.2.2.2.1
               · exact v3_ b r (by omega) (by omega) (by omega) (by omega) (by omega) (by omega) (by omega)
               · exact v3_ 113 r (by omega) (by omega) (by omega) (by omega) (by omega) (by omega) (by omega)
               · exact v3_ 94 36 (by omega) (by omega) (by omega) (by omega) (by omega) (by omega) (by omega)
               · exact f_ b r (by omega) (by omega) (by omega) (by omega) (by omega) (by omega) (by omega))
    · refine x_fall ?_
      refine x_ci ?_
      refine x_iret ?_
      first
        | exact kA (fun q => by omega)
        | exact kB (by omega) (fun q => by have := c4; omega) tqq (fun b r q1 q2 q3 q4 q5 q6 q7 => by rw [t1qq b r (by omega) (by omega) (by omega) (by omega), up_f (by omega)])
        | (refine cI (kY (by omega) ⟨by omega, by omega⟩ x_ ⟨v2_, ?_, ?_, ?_, ?_, v1_⟩ (u1qq.out (fun b r q1 q2 q3 => ?_) (fun r q1 q2 => ?_) ?_) (fun b r q1 q2 q3 q4 q5 q6 q7 => ?_)) (by omega)
           · rw [v3_ 108 0 (by omega) (by omega) (by omega) (by omega) (by omega) (by omega) (by omega)]
             exact u2qq.2.1
           · rw [v3_ 109 0 (by omega) (by omega) (by omega) (by omega) (by omega) (by omega) (by omega)]
             exact u2qq.2.2.1
           · rw [v3_ 106 0 (by omega) (by omega) (by omega) (by omega) (by omega) (by omega) (by omega)]
             exact u2qq.2.2.2.1
           · rw [v3_ 107 0 (by omega) (by omega) (by omega) (by omega) (by omega) (by omega) (by omega)]
             exact u2qq.2.2.2.2.1
           · exact v3_ b r (by omega) (by omega) (by omega) (by omega) (by omega) (by omega) (by omega)
           · exact v3_ 113 r (by omega) (by omega) (by omega) (by omega) (by omega) (by omega) (by omega)
           · exact v3_ 94 36 (by omega) (by omega) (by omega) (by omega) (by omega) (by omega) (by omega)
           · exact f_ b r (by omega) (by omega) (by omega) (by omega) (by omega) (by omega) (by omega))
theorem r_cancel (hd : 10 ≤ d) (hu : PUs zqq Hs rf sl yr la s) (hok : hOk zqq Hs) (hD : DR 0 vw rf sl yr la L n c s) {x : Int} (hx : iR x) (kY : cnP n c x → ∀ tqq, DR 0 vw rf sl yr la L (n - 2) (cnC c x) tqq → PUs (min 20 (zqq + 1)) (hput1 vw L n c Hs) rf sl yr la tqq → nwN s tqq → Q (some (vI 1)) (HP h0 tqq)) (kN : ¬ cnP n c x → Q (some (vI 0)) (HP h0 (up s 94 0 0))) : wpM PP d 146 [vR 94, vI x] (HP h0 s) Q := by
  obtain ⟨w1qq, w2qq, w3qq, w4qq, w5qq, hr0⟩ := hD
  have hD0 : DR 0 vw rf sl yr la L n c s := ⟨w1qq, w2qq, w3qq, w4qq, w5qq, hr0⟩
  obtain ⟨hL, hn, hv, r1, r2, r3⟩ := hr0
  obtain ⟨p1, p2, p3⟩ := hu
  have hu0 : PUs zqq Hs rf sl yr la (up s 94 0 0) := ⟨p1, (up_i (by decide)).trans p2, fun i hi => (p3 i hi).up (by decide)⟩
  have hct := cnt_R L
  have rd : ∀ q : Int, 0 ≤ q → q < n → s 113 q = c q := fun q q0 q1 => by
    have := r3 q q0 q1
    rwa [show 48 * (0 : Int) + q = q by omega] at this
  have LL : ∀ (t0qq : St), 0 ≤ x → x + 1 < n → t0qq 112 0 = n → (∀ q : Int, 0 ≤ q → q < n → t0qq 113 q = c q) → (kL : ∀ (tqq : St) (i : Int), i = n → (∀ q : Int, 0 ≤ q → q < n → tqq 113 q = if x ≤ q ∧ q < i - 2 then c (q + 2) else c q) → (∀ (b : Nat) (r : Int), ¬ (b = 113 ∧ 0 ≤ r ∧ r < 48) → tqq b r = t0qq b r) → Q (some (vI 1)) (HP h0 (up tqq 112 0 ((n : Int) - 2)))) → wp PP d mb146 (mb146.getD 3 []) [some (vR 94), some (vI x), some (vI (x + 2))] [] (HP h0 t0qq) Q := by
    intro t0qq hx0 hx1 hn0 g0 kL
    have L1 : ∀ N : Nat, ∀ (i : Int) (tqq : St), (N = (n - i).toNat) → (x + 2 ≤ i ∧ i ≤ n) → ((∀ q : Int, 0 ≤ q → q < n → tqq 113 q = if x ≤ q ∧ q < i - 2 then c (q + 2) else c q)) → ((∀ (b : Nat) (r : Int), ¬ (b = 113 ∧ 0 ≤ r ∧ r < 48) → tqq b r = t0qq b r)) →  wp PP d mb146 (mb146.getD 3 []) [some (vR 94), some (vI x), some (vI i)] [] (HP h0 tqq) Q := by
      refine s_ind (fun N ih => ?_)
      intro i tqq hn2 hj g1 g2
      refine x_iload rfl ?_
      refine x_aload rfl ?_
      refine h_getR sc_94 rfl (by omega) ?_
      refine x_ci ?_
      refine h_iald sc_112 ⟨by omega, by omega⟩ (by decide) ?_
      rw [g2 112 0 (by omega), hn0]
      refine n_icmp_ge ⟨by omega, by omega⟩ ⟨by omega, by omega⟩ (fun c1 => ?_) (fun c1 => ?_)
      · refine x_aload rfl ?_
        refine h_getR sc_94 rfl (by omega) ?_
        refine x_ci ?_
        refine x_dup2 ?_
        refine h_iald sc_112 ⟨by omega, by omega⟩ (by decide) ?_
        rw [g2 112 0 (by omega), hn0]
        refine x_ci ?_
        refine x_isub ?_
        refine h_iast sc_112 ⟨by omega, by omega⟩ (by decide) ?_
        refine x_ci ?_
        refine x_zret (by first | exact bI_01 _ | omega) ?_
        exact kL tqq i (by omega) g1 g2
      · refine x_aload rfl ?_
        refine h_getR sc_94 rfl (by omega) ?_
        refine x_iload rfl ?_
        refine x_ci ?_
        refine x_isub ?_
        refine x_aload rfl ?_
        refine h_getR sc_94 rfl (by omega) ?_
        refine x_iload rfl ?_
        refine h_iald sc_113 ⟨by omega, by omega⟩ (by decide) ?_
        rw [g1 i (by omega) (by omega), if_neg (by omega)]
        refine h_iast sc_113 ⟨by omega, by omega⟩ (by decide) ?_
        refine n_iinc [some (vR _), some (vI _), some (vI _)] rfl rfl ?_
        refine x_goto ?_
        refine ih (n - (i + 1)).toNat (by omega) (i + 1) _ rfl (by omega) (fun q q0 q1 => ?_) (fun b r q1 => ?_)
        · rw [up_at]
          by_cases e : q = i - 2
          · rw [if_pos e, if_pos (by omega)]
            congr 1
            omega
          · rw [if_neg e, g1 q q0 q1]
            by_cases e2 : x ≤ q ∧ q < i - 2
            · rw [if_pos e2, if_pos (by omega)]
            · rw [if_neg e2, if_neg (by omega)]
        · rw [up_f (by omega)]
          exact g2 b r q1
    refine L1 _ (x + 2) t0qq rfl (by omega) (fun q q0 q1 => ?_) (fun b r _ => rfl)
    rw [if_neg (by omega)]
    exact g0 q q0 q1
  refine n_at (m := 146) (q := mr146) (kn := (0, 2)) [some (vR _), some (vI _), none] mb146 rfl rfl (h_rcv sc_94) (Nat.le_of_ble_eq_true rfl) rfl rfl ?_
  refine x_aload rfl ?_
  refine x_ci ?_
  refine h_putI 0 sc_94 rfl rfl ?_
  refine x_aload rfl ?_
  refine x_iload rfl ?_
  refine n_call [vR _, vI _] [] (by omega) (Nat.le_of_ble_eq_true rfl) rfl rfl (Nat.le_of_ble_eq_true rfl) ?_
  refine r_isCrossing (by rw [up_a (by decide), r2]; omega) ⟨by omega, by omega⟩ ?_
  rw [up_a (b := 112) (by decide), r2]
  show wp PP _ _ _ [some (vR _), some (vI _), _] [vI _] _ _
  refine z_if_eq (fun c1 => ?_) (fun c1 => ?_)
  · refine x_ci ?_
    refine x_zret (by first | exact bI_01 _ | omega) ?_
    exact kN (fun q => by unfold cnP at q; omega)
  · refine x_aload rfl ?_
    refine x_iload rfl ?_
    refine x_ci ?_
    refine x_iadd ?_
    refine n_call [vR _, vI _] [] (by omega) (Nat.le_of_ble_eq_true rfl) rfl rfl (Nat.le_of_ble_eq_true rfl) ?_
    refine r_isCrossing (by rw [up_a (by decide), r2]; omega) ⟨by omega, by omega⟩ ?_
    rw [up_a (b := 112) (by decide), r2]
    show wp PP _ _ _ [some (vR _), some (vI _), _] [vI _] _ _
    refine z_if_eq (fun c2 => ?_) (fun c2 => ?_)
    · refine x_ci ?_
      refine x_zret (by first | exact bI_01 _ | omega) ?_
      exact kN (fun q => by unfold cnP at q; omega)
    · have vx := hv x (by omega) (by omega)
      have vy := hv (x + 1) (by omega) (by omega)
      refine x_aload rfl ?_
      refine h_getR sc_94 rfl (by omega) ?_
      refine x_iload rfl ?_
      refine h_iald sc_113 ⟨by omega, by omega⟩ (by decide) ?_
      first
        | rw [up_a (b := 113) (by decide), rd _ (by omega) (by omega)]
        | rw [rd _ (by omega) (by omega)]
      refine x_aload rfl ?_
      refine h_getR sc_94 rfl (by omega) ?_
      refine x_iload rfl ?_
      refine x_ci ?_
      refine x_iadd ?_
      refine h_iald sc_113 ⟨by omega, by omega⟩ (by decide) ?_
      first
        | rw [up_a (b := 113) (by decide), rd _ (by omega) (by omega)]
        | rw [rd _ (by omega) (by omega)]
      refine x_ci ?_
      refine x_ixor ?_
      rw [xor1 (by omega) (by omega)]
      refine n_icmp_eq ⟨by omega, by omega⟩ ⟨by omega, by omega⟩ (fun c3 => ?_) (fun c3 => ?_)
      · refine x_aload rfl ?_
        refine n_call [vR _] [] (by omega) (Nat.le_of_ble_eq_true rfl) rfl rfl (Nat.le_of_ble_eq_true rfl) ?_
        refine r_keepNow (by omega) hu0 hok (hD0.up (by decide)) (fun tqq t1qq t2qq t3qq => ?_)
        have rt : ∀ q : Int, 0 ≤ q → q < n → tqq 113 q = c q := fun q q0 q1 => by
          have := t2qq.2.2.2.2.2.2.2.2.2.2 q q0 q1
          rwa [show 48 * (0 : Int) + q = q by omega] at this
        show wp PP _ _ _ [some (vR _), some (vI _), _] [] _ _
        refine x_iload rfl ?_
        refine x_ci ?_
        refine x_iadd ?_
        refine n_istore [some (vR _), some (vI _), some (vI _)] (Nat.le_of_ble_eq_true rfl) rfl ?_
        refine x_fall ?_
        refine LL _ (by omega) (by omega) t2qq.2.2.2.2.2.2.2.2.2.1 rt (fun uqq i hi u1qq u2qq => ?_)
        refine kY (by unfold cnP; omega) _ (DRset t2qq (fun b r q1 q2 => ?_) (by omega) ?_ (fun i i0 i1 => ?_) (fun i i0 i1 => ?_)) (t1qq.out (fun b r q1 q2 q3 => ?_) (fun r q1 q2 => ?_) ?_) (fun b r q1 q2 q3 q4 q5 q6 q7 => ?_)
        · rw [up_f (by omega), u2qq b r (by omega)]
        · rw [up_e]
          omega
        · unfold cnC
          split
          · exact hv i i0 (by omega)
          · exact hv _ (by omega) (by omega)
        · rw [up_a (by decide), show 48 * (0 : Int) + i = i by omega, u1qq i i0 (by omega)]
          unfold cnC
          split
          · rw [if_neg (by omega)]
          · rw [if_pos (by omega)]
        · rw [up_f (by omega), u2qq b r (by omega)]
        · rw [up_a (by decide), u2qq 113 r (by omega)]
        · rw [up_a (by decide), u2qq 94 36 (by omega)]
        · rw [up_f (by omega), u2qq b r (by omega), t3qq b r (by omega) (by omega) (by omega), up_f (by omega)]
      · refine x_fall ?_
        refine x_ci ?_
        refine x_zret (by first | exact bI_01 _ | omega) ?_
        exact kN (fun q => by unfold cnP at q; omega)
end PA3
