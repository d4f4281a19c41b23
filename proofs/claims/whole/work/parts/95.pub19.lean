/-! TRIED of the reference -/
section PB1
variable {d tp : Nat} {h0 : pheap} {s : St} {Q : Option pv → pheap → Prop} {L : Int} {n zqq K N : Nat} {c c' : Int → Int} {Hs : Hst} {vw rf sl yr la slp : Int} {kc lb le ty tc : Int → Int} {Y : YS}
/-- who is LEFT lies among the dancers -/
def lD (L D : Int) : Prop := ∀ x : Int, 0 ≤ x → x < 6 → bt L x = 1 → x < D
theorem r_isLeftNow (hd : 4 ≤ d) {D : Int} (h1 : s 96 0 = D) (hD6 : 0 ≤ D ∧ D ≤ 6) (hlD : lD L D) (r1 : s 111 0 = L) (hL : 0 ≤ L ∧ L < 64) {x : Int} (hx : iR x) (k : Q (some (vI (bI (0 ≤ x ∧ x < 6 ∧ bt L x = 1)))) (HP h0 s)) : wpM PP d 163 [vR 94, vI x] (HP h0 s) Q := by
  refine n_at (m := 163) (q := mr163) (kn := (0, 2)) [some (vR _), some (vI _)] mb163 rfl rfl (h_rcv sc_94) (Nat.le_of_ble_eq_true rfl) rfl rfl ?_
  refine x_aload rfl ?_
  refine x_iload rfl ?_
  refine n_call [vR _, vI _] [] (by omega) (Nat.le_of_ble_eq_true rfl) rfl rfl (Nat.le_of_ble_eq_true rfl) ?_
  refine r_isDancer (by omega) ⟨by omega, by omega⟩ ?_
  rw [h1]
  show wp PP _ _ _ [some (vR _), some (vI _)] [vI _] _ _
  refine z_if_eq (fun c1 => ?_) (fun c1 => ?_)
  · refine x_ci ?_
    refine x_fall ?_
    refine x_zret (by first | exact bI_01 _ | omega) ?_
    first
      | exact cB1 k ⟨by omega, by omega, by omega⟩
      | exact cB0 k (fun q => by omega)
      | exact cB0 k (fun q => by have := hlD x q.1 q.2.1 q.2.2; omega)
  · refine x_aload rfl ?_
    refine x_ci ?_
    refine x_iload rfl ?_
    refine n_call [vR _, vI _, vI _] [] (by omega) (Nat.le_of_ble_eq_true rfl) rfl rfl (Nat.le_of_ble_eq_true rfl) ?_
    refine r_isLeft (f := 0) (by omega) (by rw [r1]; exact hL) (by omega) ?_
    rw [r1]
    show wp PP _ _ _ [some (vR _), some (vI _)] [vI _] _ _
    refine z_if_eq (fun c2 => ?_) (fun c2 => ?_)
    · refine x_ci ?_
      refine x_fall ?_
      refine x_zret (by first | exact bI_01 _ | omega) ?_
      first
        | exact cB1 k ⟨by omega, by omega, by omega⟩
        | exact cB0 k (fun q => by omega)
        | exact cB0 k (fun q => by have := hlD x q.1 q.2.1 q.2.2; omega)
    · refine x_ci ?_
      refine x_goto ?_
      refine x_zret (by first | exact bI_01 _ | omega) ?_
      first
        | exact cB1 k ⟨by omega, by omega, by omega⟩
        | exact cB0 k (fun q => by omega)
        | exact cB0 k (fun q => by have := hlD x q.1 q.2.1 q.2.2; omega)
theorem r_tried (hd : 16 ≤ d) (hD : DR 0 vw rf sl yr la L n c s) (hoy : okY (yOf vw rf sl yr la n c)) (hyr : 0 ≤ yr ∧ yr ≤ 9900) (h45 : s 94 45 = 0) (htl : TLN K ty tc s) (hsl : s 96 2 = slp) (hsr : 0 ≤ slp ∧ slp ≤ 100) (hw : LWR kc lb le s) (ho : okL kc lb le) {D : Int} (h1 : s 96 0 = D) (hD6 : 0 ≤ D ∧ D ≤ 6) (hlD : lD L D) {wqq i m : Int} (hw0 : iR wqq) (hi : iR i) (hm : iR m) (kY : trP L wqq i m → ∀ tqq, lkN s tqq → Q (some (vI (trA kc lb le slp K ty tc vw rf sl yr la L n c wqq i m))) (HP h0 tqq)) (kN : ¬ trP L wqq i m → Q (some (vI (-1))) (HP h0 (up s 94 0 0))) : wpM PP d 178 [vR 94, vI wqq, vI i, vI m] (HP h0 s) Q := by
  obtain ⟨w1qq, w2qq, w3qq, w4qq, w5qq, hr0⟩ := hD
  have hD0 : DR 0 vw rf sl yr la L n c s := ⟨w1qq, w2qq, w3qq, w4qq, w5qq, hr0⟩
  obtain ⟨hL, hn, hv, r1, r2, r3⟩ := hr0
  have hct := cnt_R L
  have B6 : ∀ (tqq : St) (is : Int) (n2 : Nat) (c2 : Int → Int) (L2 : Int), DR 1 vw rf sl yr la L2 n2 c2 tqq → okY (yOf vw rf sl yr la n2 c2) → (∀ (b : Nat) (r : Int), ¬ (114 ≤ b ∧ b ≤ 117) → ¬ (106 ≤ b ∧ b ≤ 112 ∧ r = 1) → ¬ (b = 113 ∧ 48 ≤ r ∧ r < 96) → ¬ (b = 94 ∧ r = 0) → tqq b r = s b r) → trL L wqq i = L2 → trY vw rf sl yr la L n c wqq i = yOf vw rf sl yr la n2 c2 → ((0 ≤ wqq ∧ wqq ≤ 4) ∧ (0 ≤ m ∧ m ≤ 99)) → (k9 : ∀ tqq, tqq 94 45 = 0 → (∀ (b : Nat) (r : Int), ¬ (114 ≤ b ∧ b ≤ 123) → ¬ b = 129 → ¬ b = 104 → ¬ b = 105 → ¬ (b = 94 ∧ (r = 0 ∨ r = 26 ∨ r = 41 ∨ r = 47)) → ¬ (106 ≤ b ∧ b ≤ 112 ∧ r = 1) → ¬ (b = 113 ∧ 48 ≤ r ∧ r < 96) → ¬ (b = 94 ∧ r = 45) → tqq b r = s b r) → Q (some (vI (trA kc lb le slp K ty tc vw rf sl yr la L n c wqq i m))) (HP h0 tqq)) → wp PP d mb178 (mb178.getD 6 []) [some (vR 94), some (vI wqq), some (vI i), some (vI m), some (vI is)] [] (HP h0 tqq) Q := by
    intro tqq is n2 c2 L2 hD2 ho2 f2 eL eY hwm k9
    refine x_aload rfl ?_
    refine x_iload rfl ?_
    refine h_putI 45 sc_94 rfl rfl ?_
    refine x_aload rfl ?_
    refine x_iload rfl ?_
    refine n_call [vR _, vI _] [] (by omega) (Nat.le_of_ble_eq_true rfl) rfl rfl (Nat.le_of_ble_eq_true rfl) ?_
    obtain ⟨mm, hmm⟩ : ∃ mm : Nat, m = mm := ⟨m.toNat, by omega⟩
    subst hmm
    refine r_goesOn (L := L2) (m := mm) (am := bI (wqq = 3)) (tu := bI (wqq = 4)) (way := if wqq = 1 then 2 else 1) (tw := wqq) (slp := slp) (K := K) (ty := ty) (tc := tc) (kc := kc) (lb := lb) (le := le) (by omega) (by omega) (DR.rs (DRof hD2 (by omega) (fun b r q1 q2 => up_a (by omega)) (fun r q1 q2 => up_a (by decide)))) ho2 ?_ (htl.of (fun b r q => (up_f (by omega)).trans (f2 b r (by omega) (by omega) (by omega) (by omega)))) up_e (by omega) ?_ ?_ ?_ ((up_a (by decide)).trans ((f2 96 2 (by omega) (by omega) (by omega) (by omega)).trans hsl)) hsr (hw.of (fun b r q => (up_f (by omega)).trans (f2 b r (by omega) (by omega) (by omega) (by omega)))) ho (fun vqq v1qq v2qq => ?_)
    · show 0 ≤ yr ∧ yr ≤ 90000
      omega
    · by_cases q : wqq = 3
      · exact Or.inl ⟨q, bI_t q⟩
      · exact Or.inr ⟨q, bI_f q⟩
    · by_cases q : wqq = 4
      · exact Or.inl ⟨q, bI_t q⟩
      · exact Or.inr ⟨q, bI_f q⟩
    · by_cases q : wqq = 1
      · exact Or.inl ⟨q, if_pos q⟩
      · exact Or.inr ⟨q, if_neg q⟩
    show wp PP _ _ _ [some (vR _), some (vI _), some (vI _), some (vI _), some (vI _)] [] _ _
    refine x_aload rfl ?_
    refine x_ci ?_
    refine h_putI 45 sc_94 rfl rfl ?_
    refine x_aload rfl ?_
    refine h_getR sc_94 rfl (by omega) ?_
    refine x_ci ?_
    refine h_iald sc_112 ⟨by omega, by omega⟩ (by decide) ?_
    rw [up_a (b := 112) (by decide)]
    refine x_iret ?_
    refine cI (k9 _ (up_e) (fun b r q1 q2 q3 q4 q5 q6 q7 q8 => ?_)) ?_
    · rw [up_f (by omega), v2qq b r (by omega) (by omega) (by omega) (by omega) (by omega) (by omega), up_f (by omega)]
      exact f2 b r (by omega) (by omega) (by omega) (by omega)
    · unfold trA
      rw [eL, eY]
      exact v1qq.1.2.2.2.2.1.symm
  refine n_at (m := 178) (q := mr178) (kn := (0, 4)) [some (vR _), some (vI _), some (vI _), some (vI _), none] mb178 rfl rfl (h_rcv sc_94) (Nat.le_of_ble_eq_true rfl) rfl rfl ?_
  refine x_aload rfl ?_
  refine x_ci ?_
  refine h_putI 0 sc_94 rfl rfl ?_
  refine x_iload rfl ?_
  refine x_ci ?_
  refine n_icmp_ne ⟨by omega, by omega⟩ ⟨by omega, by omega⟩ (fun c1 => ?_) (fun c1 => ?_)
  · refine x_iload rfl ?_
    refine n_if_lt ⟨by omega, by omega⟩ (fun c2 => ?_) (fun c2 => ?_)
    · refine x_ci ?_
      refine x_fall ?_
      refine n_istore [some (vR _), some (vI _), some (vI _), some (vI _), some (vI _)] (Nat.le_of_ble_eq_true rfl) rfl ?_
      refine x_iload rfl ?_
      refine n_if_eq ⟨by omega, by omega⟩ (fun c3 => ?_) (fun c3 => ?_)
      · refine x_ci ?_
        refine x_iret ?_
        exact kN (fun q => by omega)
      · refine x_iload rfl ?_
        refine n_if_lt ⟨by omega, by omega⟩ (fun c4 => ?_) (fun c4 => ?_)
        · refine x_ci ?_
          refine x_iret ?_
          exact kN (fun q => by omega)
        · refine x_iload rfl ?_
          refine x_ci ?_
          refine n_icmp_le ⟨by omega, by omega⟩ ⟨by omega, by omega⟩ (fun c5 => ?_) (fun c5 => ?_)
          · refine x_aload rfl ?_
            refine x_ci ?_
            refine x_ci ?_
            refine n_call [vR _, vI _, vI _] [] (by omega) (Nat.le_of_ble_eq_true rfl) rfl rfl (Nat.le_of_ble_eq_true rfl) ?_
            refine r_copies (to := 1) (as := 0) (n := n) (by omega) (by omega) (by omega) ((up_a (by decide)).trans r2) hn (fun tqq t1qq => ?_)
            have ft : ∀ (b : Nat) (r : Int), ¬ (106 ≤ b ∧ b ≤ 112 ∧ r = 1) → ¬ (b = 113 ∧ 48 ≤ r ∧ r < 96) → ¬ (b = 94 ∧ r = 0) → tqq b r = s b r := fun b r q1 q2 q3 => by
              rw [t1qq.1 b r q1 (by omega), up_f (by omega)]
            have hDt : DR 1 vw rf sl yr la L n c tqq := t1qq.dr (hD0.up (by decide))
            show wp PP _ _ _ [some (vR _), some (vI _), some (vI _), some (vI _), some (vI _)] [] _ _
            refine x_iload rfl ?_
            refine x_ci ?_
            refine n_icmp_ne ⟨by omega, by omega⟩ ⟨by omega, by omega⟩ (fun c6 => ?_) (fun c6 => ?_)
            · first
                | (exfalso; omega)
                | (exact B6 tqq _ n c L hDt hoy (fun b r q1 q2 q3 q4 => ft b r q2 q3 q4) (by unfold trL; exact if_neg (by omega)) (by unfold trY; exact if_neg (by omega)) ⟨by omega, by omega⟩ (fun vqq x1 x2 => kY (by omega) vqq (fun b r q1 q2 q3 q4 q5 q6 q7 => if q8 : b = 94 ∧ r = 45 then by rw [q8.1, q8.2, x1, h45] else x2 b r q1 q2 q3 q4 q5 q6 q7 q8)))
            · refine x_aload rfl ?_
              refine x_ci ?_
              refine x_iload rfl ?_
              refine n_call [vR _, vI _, vI _] [] (by omega) (Nat.le_of_ble_eq_true rfl) rfl rfl (Nat.le_of_ble_eq_true rfl) ?_
              refine r_letsGo2 (f := 1) (by omega) (by omega) hDt.2.2.2.2.2 (x := i) (by omega) (fun uqq u1qq u2qq => ?_)
              show wp PP _ _ _ [some (vR _), some (vI _), some (vI _), some (vI _), some (vI _)] [] _ _
              refine x_fall ?_
              first
                | (exfalso; omega)
                | (obtain ⟨y1, y2, y3, y4, y5, y6⟩ := hDt
                   exact B6 uqq _ (rk L c (cntN L i.toNat) n) (rc L c (cntN L i.toNat) n) (clr L i) ⟨(u2qq 110 1 (by omega) (by omega) (by omega)).trans y1, (u2qq 108 1 (by omega) (by omega) (by omega)).trans y2, (u2qq 109 1 (by omega) (by omega) (by omega)).trans y3, (u2qq 106 1 (by omega) (by omega) (by omega)).trans y4, (u2qq 107 1 (by omega) (by omega) (by omega)).trans y5, u1qq⟩ (okY_rk hoy) (fun b r q1 q2 q3 q4 => (u2qq b r (by omega) (by omega) (by omega)).trans (ft b r q2 q3 q4)) (by unfold trL; exact if_pos (by omega)) (by unfold trY; exact if_pos (by omega)) ⟨by omega, by omega⟩ (fun vqq x1 x2 => kY (by omega) vqq (fun b r q1 q2 q3 q4 q5 q6 q7 => if q8 : b = 94 ∧ r = 45 then by rw [q8.1, q8.2, x1, h45] else x2 b r q1 q2 q3 q4 q5 q6 q7 q8)))
          · refine x_fall ?_
            refine x_ci ?_
            refine x_iret ?_
            exact kN (fun q => by omega)
    · refine x_iload rfl ?_
      refine x_ci ?_
      refine n_icmp_gt ⟨by omega, by omega⟩ ⟨by omega, by omega⟩ (fun c3 => ?_) (fun c3 => ?_)
      · refine x_ci ?_
        refine x_fall ?_
        refine n_istore [some (vR _), some (vI _), some (vI _), some (vI _), some (vI _)] (Nat.le_of_ble_eq_true rfl) rfl ?_
        refine x_iload rfl ?_
        refine n_if_eq ⟨by omega, by omega⟩ (fun c4 => ?_) (fun c4 => ?_)
        · refine x_ci ?_
          refine x_iret ?_
          exact kN (fun q => by omega)
        · refine x_iload rfl ?_
          refine n_if_lt ⟨by omega, by omega⟩ (fun c5 => ?_) (fun c5 => ?_)
          · refine x_ci ?_
            refine x_iret ?_
            exact kN (fun q => by omega)
          · refine x_iload rfl ?_
            refine x_ci ?_
            refine n_icmp_le ⟨by omega, by omega⟩ ⟨by omega, by omega⟩ (fun c6 => ?_) (fun c6 => ?_)
            · refine x_aload rfl ?_
              refine x_ci ?_
              refine x_ci ?_
              refine n_call [vR _, vI _, vI _] [] (by omega) (Nat.le_of_ble_eq_true rfl) rfl rfl (Nat.le_of_ble_eq_true rfl) ?_
              refine r_copies (to := 1) (as := 0) (n := n) (by omega) (by omega) (by omega) ((up_a (by decide)).trans r2) hn (fun tqq t1qq => ?_)
              have ft : ∀ (b : Nat) (r : Int), ¬ (106 ≤ b ∧ b ≤ 112 ∧ r = 1) → ¬ (b = 113 ∧ 48 ≤ r ∧ r < 96) → ¬ (b = 94 ∧ r = 0) → tqq b r = s b r := fun b r q1 q2 q3 => by
                rw [t1qq.1 b r q1 (by omega), up_f (by omega)]
              have hDt : DR 1 vw rf sl yr la L n c tqq := t1qq.dr (hD0.up (by decide))
              show wp PP _ _ _ [some (vR _), some (vI _), some (vI _), some (vI _), some (vI _)] [] _ _
              refine x_iload rfl ?_
              refine x_ci ?_
              refine n_icmp_ne ⟨by omega, by omega⟩ ⟨by omega, by omega⟩ (fun c7 => ?_) (fun c7 => ?_)
              · first
                  | (exfalso; omega)
                  | (exact B6 tqq _ n c L hDt hoy (fun b r q1 q2 q3 q4 => ft b r q2 q3 q4) (by unfold trL; exact if_neg (by omega)) (by unfold trY; exact if_neg (by omega)) ⟨by omega, by omega⟩ (fun vqq x1 x2 => kY (by omega) vqq (fun b r q1 q2 q3 q4 q5 q6 q7 => if q8 : b = 94 ∧ r = 45 then by rw [q8.1, q8.2, x1, h45] else x2 b r q1 q2 q3 q4 q5 q6 q7 q8)))
              · refine x_aload rfl ?_
                refine x_ci ?_
                refine x_iload rfl ?_
                refine n_call [vR _, vI _, vI _] [] (by omega) (Nat.le_of_ble_eq_true rfl) rfl rfl (Nat.le_of_ble_eq_true rfl) ?_
                refine r_letsGo2 (f := 1) (by omega) (by omega) hDt.2.2.2.2.2 (x := i) (by omega) (fun uqq u1qq u2qq => ?_)
                show wp PP _ _ _ [some (vR _), some (vI _), some (vI _), some (vI _), some (vI _)] [] _ _
                refine x_fall ?_
                first
                  | (exfalso; omega)
                  | (obtain ⟨y1, y2, y3, y4, y5, y6⟩ := hDt
                     exact B6 uqq _ (rk L c (cntN L i.toNat) n) (rc L c (cntN L i.toNat) n) (clr L i) ⟨(u2qq 110 1 (by omega) (by omega) (by omega)).trans y1, (u2qq 108 1 (by omega) (by omega) (by omega)).trans y2, (u2qq 109 1 (by omega) (by omega) (by omega)).trans y3, (u2qq 106 1 (by omega) (by omega) (by omega)).trans y4, (u2qq 107 1 (by omega) (by omega) (by omega)).trans y5, u1qq⟩ (okY_rk hoy) (fun b r q1 q2 q3 q4 => (u2qq b r (by omega) (by omega) (by omega)).trans (ft b r q2 q3 q4)) (by unfold trL; exact if_pos (by omega)) (by unfold trY; exact if_pos (by omega)) ⟨by omega, by omega⟩ (fun vqq x1 x2 => kY (by omega) vqq (fun b r q1 q2 q3 q4 q5 q6 q7 => if q8 : b = 94 ∧ r = 45 then by rw [q8.1, q8.2, x1, h45] else x2 b r q1 q2 q3 q4 q5 q6 q7 q8)))
            · refine x_fall ?_
              refine x_ci ?_
              refine x_iret ?_
              exact kN (fun q => by omega)
      · refine x_iload rfl ?_
        refine n_if_ne ⟨by omega, by omega⟩ (fun c4 => ?_) (fun c4 => ?_)
        · refine x_ci ?_
          refine x_fall ?_
          refine n_istore [some (vR _), some (vI _), some (vI _), some (vI _), some (vI _)] (Nat.le_of_ble_eq_true rfl) rfl ?_
          refine x_iload rfl ?_
          refine n_if_eq ⟨by omega, by omega⟩ (fun c5 => ?_) (fun c5 => ?_)
          · refine x_ci ?_
            refine x_iret ?_
            exact kN (fun q => by omega)
          · refine x_iload rfl ?_
            refine n_if_lt ⟨by omega, by omega⟩ (fun c6 => ?_) (fun c6 => ?_)
            · refine x_ci ?_
              refine x_iret ?_
              exact kN (fun q => by omega)
            · refine x_iload rfl ?_
              refine x_ci ?_
              refine n_icmp_le ⟨by omega, by omega⟩ ⟨by omega, by omega⟩ (fun c7 => ?_) (fun c7 => ?_)
              · refine x_aload rfl ?_
                refine x_ci ?_
                refine x_ci ?_
                refine n_call [vR _, vI _, vI _] [] (by omega) (Nat.le_of_ble_eq_true rfl) rfl rfl (Nat.le_of_ble_eq_true rfl) ?_
                refine r_copies (to := 1) (as := 0) (n := n) (by omega) (by omega) (by omega) ((up_a (by decide)).trans r2) hn (fun tqq t1qq => ?_)
                have ft : ∀ (b : Nat) (r : Int), ¬ (106 ≤ b ∧ b ≤ 112 ∧ r = 1) → ¬ (b = 113 ∧ 48 ≤ r ∧ r < 96) → ¬ (b = 94 ∧ r = 0) → tqq b r = s b r := fun b r q1 q2 q3 => by
                  rw [t1qq.1 b r q1 (by omega), up_f (by omega)]
                have hDt : DR 1 vw rf sl yr la L n c tqq := t1qq.dr (hD0.up (by decide))
                show wp PP _ _ _ [some (vR _), some (vI _), some (vI _), some (vI _), some (vI _)] [] _ _
                refine x_iload rfl ?_
                refine x_ci ?_
                refine n_icmp_ne ⟨by omega, by omega⟩ ⟨by omega, by omega⟩ (fun c8 => ?_) (fun c8 => ?_)
                · first
                    | (exfalso; omega)
                    | (exact B6 tqq _ n c L hDt hoy (fun b r q1 q2 q3 q4 => ft b r q2 q3 q4) (by unfold trL; exact if_neg (by omega)) (by unfold trY; exact if_neg (by omega)) ⟨by omega, by omega⟩ (fun vqq x1 x2 => kY (by omega) vqq (fun b r q1 q2 q3 q4 q5 q6 q7 => if q8 : b = 94 ∧ r = 45 then by rw [q8.1, q8.2, x1, h45] else x2 b r q1 q2 q3 q4 q5 q6 q7 q8)))
                · refine x_aload rfl ?_
                  refine x_ci ?_
                  refine x_iload rfl ?_
                  refine n_call [vR _, vI _, vI _] [] (by omega) (Nat.le_of_ble_eq_true rfl) rfl rfl (Nat.le_of_ble_eq_true rfl) ?_
                  refine r_letsGo2 (f := 1) (by omega) (by omega) hDt.2.2.2.2.2 (x := i) (by omega) (fun uqq u1qq u2qq => ?_)
                  show wp PP _ _ _ [some (vR _), some (vI _), some (vI _), some (vI _), some (vI _)] [] _ _
                  refine x_fall ?_
                  first
                    | (exfalso; omega)
                    | (obtain ⟨y1, y2, y3, y4, y5, y6⟩ := hDt
                       exact B6 uqq _ (rk L c (cntN L i.toNat) n) (rc L c (cntN L i.toNat) n) (clr L i) ⟨(u2qq 110 1 (by omega) (by omega) (by omega)).trans y1, (u2qq 108 1 (by omega) (by omega) (by omega)).trans y2, (u2qq 109 1 (by omega) (by omega) (by omega)).trans y3, (u2qq 106 1 (by omega) (by omega) (by omega)).trans y4, (u2qq 107 1 (by omega) (by omega) (by omega)).trans y5, u1qq⟩ (okY_rk hoy) (fun b r q1 q2 q3 q4 => (u2qq b r (by omega) (by omega) (by omega)).trans (ft b r q2 q3 q4)) (by unfold trL; exact if_pos (by omega)) (by unfold trY; exact if_pos (by omega)) ⟨by omega, by omega⟩ (fun vqq x1 x2 => kY (by omega) vqq (fun b r q1 q2 q3 q4 q5 q6 q7 => if q8 : b = 94 ∧ r = 45 then by rw [q8.1, q8.2, x1, h45] else x2 b r q1 q2 q3 q4 q5 q6 q7 q8)))
              · refine x_fall ?_
                refine x_ci ?_
                refine x_iret ?_
                exact kN (fun q => by omega)
        · refine x_ci ?_
          refine x_goto ?_
          refine n_istore [some (vR _), some (vI _), some (vI _), some (vI _), some (vI _)] (Nat.le_of_ble_eq_true rfl) rfl ?_
          refine x_iload rfl ?_
          refine n_if_eq ⟨by omega, by omega⟩ (fun c5 => ?_) (fun c5 => ?_)
          · refine x_ci ?_
            refine x_iret ?_
            exact kN (fun q => by omega)
          · refine x_iload rfl ?_
            refine n_if_lt ⟨by omega, by omega⟩ (fun c6 => ?_) (fun c6 => ?_)
            · refine x_ci ?_
              refine x_iret ?_
              exact kN (fun q => by omega)
            · refine x_iload rfl ?_
              refine x_ci ?_
              refine n_icmp_le ⟨by omega, by omega⟩ ⟨by omega, by omega⟩ (fun c7 => ?_) (fun c7 => ?_)
              · refine x_aload rfl ?_
                refine x_ci ?_
                refine x_ci ?_
                refine n_call [vR _, vI _, vI _] [] (by omega) (Nat.le_of_ble_eq_true rfl) rfl rfl (Nat.le_of_ble_eq_true rfl) ?_
                refine r_copies (to := 1) (as := 0) (n := n) (by omega) (by omega) (by omega) ((up_a (by decide)).trans r2) hn (fun tqq t1qq => ?_)
                have ft : ∀ (b : Nat) (r : Int), ¬ (106 ≤ b ∧ b ≤ 112 ∧ r = 1) → ¬ (b = 113 ∧ 48 ≤ r ∧ r < 96) → ¬ (b = 94 ∧ r = 0) → tqq b r = s b r := fun b r q1 q2 q3 => by
                  rw [t1qq.1 b r q1 (by omega), up_f (by omega)]
                have hDt : DR 1 vw rf sl yr la L n c tqq := t1qq.dr (hD0.up (by decide))
                show wp PP _ _ _ [some (vR _), some (vI _), some (vI _), some (vI _), some (vI _)] [] _ _
                refine x_iload rfl ?_
                refine x_ci ?_
                refine n_icmp_ne ⟨by omega, by omega⟩ ⟨by omega, by omega⟩ (fun c8 => ?_) (fun c8 => ?_)
                · first
                    | (exfalso; omega)
                    | (exact B6 tqq _ n c L hDt hoy (fun b r q1 q2 q3 q4 => ft b r q2 q3 q4) (by unfold trL; exact if_neg (by omega)) (by unfold trY; exact if_neg (by omega)) ⟨by omega, by omega⟩ (fun vqq x1 x2 => kY (by omega) vqq (fun b r q1 q2 q3 q4 q5 q6 q7 => if q8 : b = 94 ∧ r = 45 then by rw [q8.1, q8.2, x1, h45] else x2 b r q1 q2 q3 q4 q5 q6 q7 q8)))
                · refine x_aload rfl ?_
                  refine x_ci ?_
                  refine x_iload rfl ?_
                  refine n_call [vR _, vI _, vI _] [] (by omega) (Nat.le_of_ble_eq_true rfl) rfl rfl (Nat.le_of_ble_eq_true rfl) ?_
                  refine r_letsGo2 (f := 1) (by omega) (by omega) hDt.2.2.2.2.2 (x := i) (by omega) (fun uqq u1qq u2qq => ?_)
                  show wp PP _ _ _ [some (vR _), some (vI _), some (vI _), some (vI _), some (vI _)] [] _ _
                  refine x_fall ?_
                  first
                    | (exfalso; omega)
                    | (obtain ⟨y1, y2, y3, y4, y5, y6⟩ := hDt
                       exact B6 uqq _ (rk L c (cntN L i.toNat) n) (rc L c (cntN L i.toNat) n) (clr L i) ⟨(u2qq 110 1 (by omega) (by omega) (by omega)).trans y1, (u2qq 108 1 (by omega) (by omega) (by omega)).trans y2, (u2qq 109 1 (by omega) (by omega) (by omega)).trans y3, (u2qq 106 1 (by omega) (by omega) (by omega)).trans y4, (u2qq 107 1 (by omega) (by omega) (by omega)).trans y5, u1qq⟩ (okY_rk hoy) (fun b r q1 q2 q3 q4 => (u2qq b r (by omega) (by omega) (by omega)).trans (ft b r q2 q3 q4)) (by unfold trL; exact if_pos (by omega)) (by unfold trY; exact if_pos (by omega)) ⟨by omega, by omega⟩ (fun vqq x1 x2 => kY (by omega) vqq (fun b r q1 q2 q3 q4 q5 q6 q7 => if q8 : b = 94 ∧ r = 45 then by rw [q8.1, q8.2, x1, h45] else x2 b r q1 q2 q3 q4 q5 q6 q7 q8)))
              · refine x_fall ?_
                refine x_ci ?_
                refine x_iret ?_
                exact kN (fun q => by omega)
  · refine x_aload rfl ?_
    refine x_iload rfl ?_
    refine n_call [vR _, vI _] [] (by omega) (Nat.le_of_ble_eq_true rfl) rfl rfl (Nat.le_of_ble_eq_true rfl) ?_
    refine r_isLeftNow (L := L) (by omega) ((up_a (by decide)).trans h1) hD6 hlD ((up_a (by decide)).trans r1) hL ⟨by omega, by omega⟩ ?_
    show wp PP _ _ _ [some (vR _), some (vI _), some (vI _), some (vI _), _] [vI _] _ _
    refine x_goto ?_
    refine n_istore [some (vR _), some (vI _), some (vI _), some (vI _), some (vI _)] (Nat.le_of_ble_eq_true rfl) rfl ?_
    refine x_iload rfl ?_
    refine z_if_eq (fun c2 => ?_) (fun c2 => ?_)
    · refine x_ci ?_
      refine x_iret ?_
      exact kN (fun q => by omega)
    · refine x_iload rfl ?_
      refine n_if_lt ⟨by omega, by omega⟩ (fun c3 => ?_) (fun c3 => ?_)
      · refine x_ci ?_
        refine x_iret ?_
        exact kN (fun q => by omega)
      · refine x_iload rfl ?_
        refine x_ci ?_
        refine n_icmp_le ⟨by omega, by omega⟩ ⟨by omega, by omega⟩ (fun c4 => ?_) (fun c4 => ?_)
        · refine x_aload rfl ?_
          refine x_ci ?_
          refine x_ci ?_
          refine n_call [vR _, vI _, vI _] [] (by omega) (Nat.le_of_ble_eq_true rfl) rfl rfl (Nat.le_of_ble_eq_true rfl) ?_
          refine r_copies (to := 1) (as := 0) (n := n) (by omega) (by omega) (by omega) ((up_a (by decide)).trans r2) hn (fun tqq t1qq => ?_)
          have ft : ∀ (b : Nat) (r : Int), ¬ (106 ≤ b ∧ b ≤ 112 ∧ r = 1) → ¬ (b = 113 ∧ 48 ≤ r ∧ r < 96) → ¬ (b = 94 ∧ r = 0) → tqq b r = s b r := fun b r q1 q2 q3 => by
            rw [t1qq.1 b r q1 (by omega), up_f (by omega)]
          have hDt : DR 1 vw rf sl yr la L n c tqq := t1qq.dr (hD0.up (by decide))
          show wp PP _ _ _ [some (vR _), some (vI _), some (vI _), some (vI _), some (vI _)] [] _ _
          refine x_iload rfl ?_
          refine x_ci ?_
          refine n_icmp_ne ⟨by omega, by omega⟩ ⟨by omega, by omega⟩ (fun c5 => ?_) (fun c5 => ?_)
          · first
              | (exfalso; omega)
              | (exact B6 tqq _ n c L hDt hoy (fun b r q1 q2 q3 q4 => ft b r q2 q3 q4) (by unfold trL; exact if_neg (by omega)) (by unfold trY; exact if_neg (by omega)) ⟨by omega, by omega⟩ (fun vqq x1 x2 => kY (by omega) vqq (fun b r q1 q2 q3 q4 q5 q6 q7 => if q8 : b = 94 ∧ r = 45 then by rw [q8.1, q8.2, x1, h45] else x2 b r q1 q2 q3 q4 q5 q6 q7 q8)))
          · refine x_aload rfl ?_
            refine x_ci ?_
            refine x_iload rfl ?_
            refine n_call [vR _, vI _, vI _] [] (by omega) (Nat.le_of_ble_eq_true rfl) rfl rfl (Nat.le_of_ble_eq_true rfl) ?_
            refine r_letsGo2 (f := 1) (by omega) (by omega) hDt.2.2.2.2.2 (x := i) (by omega) (fun uqq u1qq u2qq => ?_)
            show wp PP _ _ _ [some (vR _), some (vI _), some (vI _), some (vI _), some (vI _)] [] _ _
            refine x_fall ?_
            first
              | (exfalso; omega)
              | (obtain ⟨y1, y2, y3, y4, y5, y6⟩ := hDt
                 exact B6 uqq _ (rk L c (cntN L i.toNat) n) (rc L c (cntN L i.toNat) n) (clr L i) ⟨(u2qq 110 1 (by omega) (by omega) (by omega)).trans y1, (u2qq 108 1 (by omega) (by omega) (by omega)).trans y2, (u2qq 109 1 (by omega) (by omega) (by omega)).trans y3, (u2qq 106 1 (by omega) (by omega) (by omega)).trans y4, (u2qq 107 1 (by omega) (by omega) (by omega)).trans y5, u1qq⟩ (okY_rk hoy) (fun b r q1 q2 q3 q4 => (u2qq b r (by omega) (by omega) (by omega)).trans (ft b r q2 q3 q4)) (by unfold trL; exact if_pos (by omega)) (by unfold trY; exact if_pos (by omega)) ⟨by omega, by omega⟩ (fun vqq x1 x2 => kY (by omega) vqq (fun b r q1 q2 q3 q4 q5 q6 q7 => if q8 : b = 94 ∧ r = 45 then by rw [q8.1, q8.2, x1, h45] else x2 b r q1 q2 q3 q4 q5 q6 q7 q8)))
        · refine x_fall ?_
          refine x_ci ?_
          refine x_iret ?_
          exact kN (fun q => by omega)
end PB1
