/-! DANCER of the reference -/
section PC1
variable {d tp : Nat} {h0 : pheap} {s : St} {Q : Option pv → pheap → Prop} {L : Int} {n zqq K N : Nat} {c c' : Int → Int}
theorem foN_bt (y : Fin 6) : bt (foN L c n 6) ((y : Nat) : Int) = bI (bt L ((y : Nat) : Int) = 1 ∧ bd L c n ((y : Nat) : Int) = 0) := by
  have e : foN L c n 6 = 0 + bI (bt L ((0 : Nat) : Int) = 1 ∧ bd L c n ((0 : Nat) : Int) = 0) * 1 + bI (bt L ((1 : Nat) : Int) = 1 ∧ bd L c n ((1 : Nat) : Int) = 0) * 2 + bI (bt L ((2 : Nat) : Int) = 1 ∧ bd L c n ((2 : Nat) : Int) = 0) * 4 + bI (bt L ((3 : Nat) : Int) = 1 ∧ bd L c n ((3 : Nat) : Int) = 0) * 8 + bI (bt L ((4 : Nat) : Int) = 1 ∧ bd L c n ((4 : Nat) : Int) = 0) * 16 + bI (bt L ((5 : Nat) : Int) = 1 ∧ bd L c n ((5 : Nat) : Int) = 0) * 32 := by
    simp only [foN, ite_bI]
    rfl
  rw [e]
  have b0 := bI_R (bt L ((0 : Nat) : Int) = 1 ∧ bd L c n ((0 : Nat) : Int) = 0)
  have b1 := bI_R (bt L ((1 : Nat) : Int) = 1 ∧ bd L c n ((1 : Nat) : Int) = 0)
  have b2 := bI_R (bt L ((2 : Nat) : Int) = 1 ∧ bd L c n ((2 : Nat) : Int) = 0)
  have b3 := bI_R (bt L ((3 : Nat) : Int) = 1 ∧ bd L c n ((3 : Nat) : Int) = 0)
  have b4 := bI_R (bt L ((4 : Nat) : Int) = 1 ∧ bd L c n ((4 : Nat) : Int) = 0)
  have b5 := bI_R (bt L ((5 : Nat) : Int) = 1 ∧ bd L c n ((5 : Nat) : Int) = 0)
  have hy : y = 0 ∨ y = 1 ∨ y = 2 ∨ y = 3 ∨ y = 4 ∨ y = 5 := by omega
  rcases hy with rfl | rfl | rfl | rfl | rfl | rfl
  · show _ / (1 : Int) % 2 = bI (bt L ((0 : Nat) : Int) = 1 ∧ bd L c n ((0 : Nat) : Int) = 0)
    omega
  · show _ / (2 : Int) % 2 = bI (bt L ((1 : Nat) : Int) = 1 ∧ bd L c n ((1 : Nat) : Int) = 0)
    omega
  · show _ / (4 : Int) % 2 = bI (bt L ((2 : Nat) : Int) = 1 ∧ bd L c n ((2 : Nat) : Int) = 0)
    omega
  · show _ / (8 : Int) % 2 = bI (bt L ((3 : Nat) : Int) = 1 ∧ bd L c n ((3 : Nat) : Int) = 0)
    omega
  · show _ / (16 : Int) % 2 = bI (bt L ((4 : Nat) : Int) = 1 ∧ bd L c n ((4 : Nat) : Int) = 0)
    omega
  · show _ / (32 : Int) % 2 = bI (bt L ((5 : Nat) : Int) = 1 ∧ bd L c n ((5 : Nat) : Int) = 0)
    omega
theorem foN_at {x : Int} (hx : 0 ≤ x ∧ x < 6) : bt (foN L c n 6) x = bI (bt L x = 1 ∧ bd L c n x = 0) := by
  have := foN_bt (L := L) (c := c) (n := n) ⟨x.toNat, by omega⟩
  simp only [Int.toNat_of_nonneg hx.1] at this
  exact this
/-- what is asked of a dancer -/
def dnA (L : Int) (n : Nat) (c : Int → Int) (x wqq : Int) : Int := if wqq = 0 then bt L x else if wqq = 1 then (if bt L x = 1 then plN c n (cntN L x.toNat) else -2) else if wqq = 2 then wP L c 1 x n else if wqq = 3 then wP L c 0 x n else if wqq = 4 then bI (bt L x = 1 ∧ bd L c n x = 0) else bd L c n x
theorem r_dancer (hd : 6 ≤ d) (hr0 : RD 0 L n c s) {D : Int} (h1 : s 96 0 = D) (hD6 : 0 ≤ D ∧ D ≤ 6) {x wqq : Int} (hx : iR x) (hw : iR wqq) (kA : ¬ (0 ≤ x ∧ x < D) → ∀ tqq, tqq 94 0 = 1 → lkN s tqq → Q (some (vI 0)) (HP h0 tqq)) (kB : 0 ≤ x ∧ x < D → ¬ (0 ≤ wqq ∧ wqq ≤ 5) → ∀ tqq, tqq 94 0 = 2 → lkN s tqq → Q (some (vI 0)) (HP h0 tqq)) (kY : 0 ≤ x ∧ x < D → 0 ≤ wqq ∧ wqq ≤ 5 → ∀ tqq, tqq 94 0 = 0 → lkN s tqq → Q (some (vI (dnA L n c x wqq))) (HP h0 tqq)) : wpM PP d 131 [vR 94, vI x, vI wqq] (HP h0 s) Q := by
  obtain ⟨hL, hn, hv, r1, r2, r3⟩ := hr0
  have hr0 : RD 0 L n c s := ⟨hL, hn, hv, r1, r2, r3⟩
  have hct := cnt_R L
  refine n_at (m := 131) (q := mr131) (kn := (0, 3)) [some (vR _), some (vI _), some (vI _)] mb131 rfl rfl (h_rcv sc_94) (Nat.le_of_ble_eq_true rfl) rfl rfl ?_
  refine x_aload rfl ?_
  refine x_aload rfl ?_
  refine x_iload rfl ?_
  refine n_call [vR _, vI _] [vR _] (by omega) (Nat.le_of_ble_eq_true rfl) rfl rfl (Nat.le_of_ble_eq_true rfl) ?_
  refine r_isDancer (by rw [h1]; omega) ⟨by omega, by omega⟩ ?_
  rw [h1]
  show wp PP _ _ _ [some (vR _), some (vI _), some (vI _)] [vI _, vR _] _ _
  refine z_if_ne (fun c1 => ?_) (fun c1 => ?_)
  · refine x_iload rfl ?_
    refine n_if_lt ⟨by omega, by omega⟩ (fun c2 => ?_) (fun c2 => ?_)
    · refine x_ci ?_
      refine x_goto ?_
      refine h_putI 0 sc_94 rfl rfl ?_
      refine x_aload rfl ?_
      refine h_getI 0 sc_94 rfl rfl ?_
      rw [up_e]
      refine n_if_eq ⟨by omega, by omega⟩ (fun c3 => ?_) (fun c3 => ?_)
      · first
          | (exfalso; omega)
          | (refine x_aload rfl ?_
             refine x_ci ?_
             refine n_call [vR _, vI _] [] (by omega) (Nat.le_of_ble_eq_true rfl) rfl rfl (Nat.le_of_ble_eq_true rfl) ?_
             refine r_standsAll (f := 0) (by omega) (by omega) (RD.up hr0 (by decide)) (fun tqq t1qq t2qq => ?_)
             have g : ∀ (b : Nat) (r : Int), ¬ (114 ≤ b ∧ b ≤ 117) → ¬ (b = 94 ∧ r = 0) → tqq b r = s b r := fun b r q1 q2 => by
               rw [t2qq b (by omega) r, up_f (by omega)]
             have gz : tqq 94 0 = 0 := by rw [t2qq 94 (by omega) 0, up_e]
             have hr1 : RD 0 L n c tqq := ⟨hL, hn, hv, (g 111 0 (by omega) (by omega)).trans r1, (g 112 0 (by omega) (by omega)).trans r2, fun i i0 i1 => (g 113 _ (by omega) (by omega)).trans (r3 i i0 i1)⟩
             show wp PP _ _ _ [some (vR _), some (vI _), some (vI _)] [] _ _
             refine x_iload rfl ?_
             refine n_tsw 5 rfl ⟨by omega, by omega⟩ (fun c4 => ?_) (And.intro (fun c4 => ?_) (And.intro (fun c4 => ?_) (And.intro (fun c4 => ?_) (And.intro (fun c4 => ?_) (And.intro (fun c4 => ?_) trivial)))))
             · refine x_aload rfl ?_
               refine x_iload rfl ?_
               refine n_call [vR _, vI _] [] (by omega) (Nat.le_of_ble_eq_true rfl) rfl rfl (Nat.le_of_ble_eq_true rfl) ?_
               refine r_boundTo (by omega) t1qq (x := x) (by omega) ?_
               show wp PP _ _ _ [some (vR _), some (vI _), some (vI _)] [vI _] _ _
               refine x_iret ?_
               first
                 | (exfalso; omega)
                 | exact kA (by omega) _ up_e (fun b r q1 q2 q3 q4 q5 q6 q7 => up_f (by omega))
                 | exact kB (by omega) (by omega) _ up_e (fun b r q1 q2 q3 q4 q5 q6 q7 => up_f (by omega))
                 | (refine cI (kY (by omega) (by omega) tqq gz (fun b r q1 q2 q3 q4 q5 q6 q7 => g b r (by omega) (by omega))) ?_
                    first
                      | (have e : wqq = 0 := by omega
                         subst e
                         rfl)
                      | (have e : wqq = 1 := by omega
                         subst e
                         rfl)
                      | (have e : wqq = 2 := by omega
                         subst e
                         rfl)
                      | (have e : wqq = 3 := by omega
                         subst e
                         rfl)
                      | (have e : wqq = 4 := by omega
                         subst e
                         rfl)
                      | (have e : wqq = 5 := by omega
                         subst e
                         rfl))
             · refine x_aload rfl ?_
               refine h_getR sc_94 rfl (by omega) ?_
               refine x_ci ?_
               refine h_iald sc_111 ⟨by omega, by omega⟩ (by decide) ?_
               rw [(g 111 0 (by omega) (by omega)).trans r1]
               refine x_iload rfl ?_
               refine x_ishr ?_
               refine x_ci ?_
               refine x_iand ?_
               rw [bt_shr hL (by omega)]
               refine x_iret ?_
               first
                 | (exfalso; omega)
                 | exact kA (by omega) _ up_e (fun b r q1 q2 q3 q4 q5 q6 q7 => up_f (by omega))
                 | exact kB (by omega) (by omega) _ up_e (fun b r q1 q2 q3 q4 q5 q6 q7 => up_f (by omega))
                 | (refine cI (kY (by omega) (by omega) tqq gz (fun b r q1 q2 q3 q4 q5 q6 q7 => g b r (by omega) (by omega))) ?_
                    first
                      | (have e : wqq = 0 := by omega
                         subst e
                         rfl)
                      | (have e : wqq = 1 := by omega
                         subst e
                         rfl)
                      | (have e : wqq = 2 := by omega
                         subst e
                         rfl)
                      | (have e : wqq = 3 := by omega
                         subst e
                         rfl)
                      | (have e : wqq = 4 := by omega
                         subst e
                         rfl)
                      | (have e : wqq = 5 := by omega
                         subst e
                         rfl))
             · refine x_aload rfl ?_
               refine x_iload rfl ?_
               refine n_call [vR _, vI _] [] (by omega) (Nat.le_of_ble_eq_true rfl) rfl rfl (Nat.le_of_ble_eq_true rfl) ?_
               refine r_placeOf (by omega) hr1 t1qq (x := x) (by omega) ?_
               show wp PP _ _ _ [some (vR _), some (vI _), some (vI _)] [vI _] _ _
               refine x_iret ?_
               first
                 | (exfalso; omega)
                 | exact kA (by omega) _ up_e (fun b r q1 q2 q3 q4 q5 q6 q7 => up_f (by omega))
                 | exact kB (by omega) (by omega) _ up_e (fun b r q1 q2 q3 q4 q5 q6 q7 => up_f (by omega))
                 | (refine cI (kY (by omega) (by omega) tqq gz (fun b r q1 q2 q3 q4 q5 q6 q7 => g b r (by omega) (by omega))) ?_
                    first
                      | (have e : wqq = 0 := by omega
                         subst e
                         rfl)
                      | (have e : wqq = 1 := by omega
                         subst e
                         rfl)
                      | (have e : wqq = 2 := by omega
                         subst e
                         rfl)
                      | (have e : wqq = 3 := by omega
                         subst e
                         rfl)
                      | (have e : wqq = 4 := by omega
                         subst e
                         rfl)
                      | (have e : wqq = 5 := by omega
                         subst e
                         rfl))
             · refine x_aload rfl ?_
               refine h_getR sc_94 rfl (by omega) ?_
               refine x_iload rfl ?_
               refine h_iald sc_116 ⟨by omega, by omega⟩ (by decide) ?_
               rw [t1qq.2.2.1 x (by omega) (by omega)]
               refine x_iret ?_
               first
                 | (exfalso; omega)
                 | exact kA (by omega) _ up_e (fun b r q1 q2 q3 q4 q5 q6 q7 => up_f (by omega))
                 | exact kB (by omega) (by omega) _ up_e (fun b r q1 q2 q3 q4 q5 q6 q7 => up_f (by omega))
                 | (refine cI (kY (by omega) (by omega) tqq gz (fun b r q1 q2 q3 q4 q5 q6 q7 => g b r (by omega) (by omega))) ?_
                    first
                      | (have e : wqq = 0 := by omega
                         subst e
                         rfl)
                      | (have e : wqq = 1 := by omega
                         subst e
                         rfl)
                      | (have e : wqq = 2 := by omega
                         subst e
                         rfl)
                      | (have e : wqq = 3 := by omega
                         subst e
                         rfl)
                      | (have e : wqq = 4 := by omega
                         subst e
                         rfl)
                      | (have e : wqq = 5 := by omega
                         subst e
                         rfl))
             · refine x_aload rfl ?_
               refine h_getR sc_94 rfl (by omega) ?_
               refine x_iload rfl ?_
               refine h_iald sc_117 ⟨by omega, by omega⟩ (by decide) ?_
               rw [t1qq.2.2.2 x (by omega) (by omega)]
               refine x_iret ?_
               first
                 | (exfalso; omega)
                 | exact kA (by omega) _ up_e (fun b r q1 q2 q3 q4 q5 q6 q7 => up_f (by omega))
                 | exact kB (by omega) (by omega) _ up_e (fun b r q1 q2 q3 q4 q5 q6 q7 => up_f (by omega))
                 | (refine cI (kY (by omega) (by omega) tqq gz (fun b r q1 q2 q3 q4 q5 q6 q7 => g b r (by omega) (by omega))) ?_
                    first
                      | (have e : wqq = 0 := by omega
                         subst e
                         rfl)
                      | (have e : wqq = 1 := by omega
                         subst e
                         rfl)
                      | (have e : wqq = 2 := by omega
                         subst e
                         rfl)
                      | (have e : wqq = 3 := by omega
                         subst e
                         rfl)
                      | (have e : wqq = 4 := by omega
                         subst e
                         rfl)
                      | (have e : wqq = 5 := by omega
                         subst e
                         rfl))
             · refine x_aload rfl ?_
               refine x_ci ?_
               refine n_call [vR _, vI _] [] (by omega) (Nat.le_of_ble_eq_true rfl) rfl rfl (Nat.le_of_ble_eq_true rfl) ?_
               refine r_freeOnes (f := 0) (by omega) (by omega) hr1 t1qq ?_
               have foR := foN_R (L := L) (c := c) (n := n) 6
               show wp PP _ _ _ [some (vR _), some (vI _), some (vI _)] [vI _] _ _
               refine x_iload rfl ?_
               refine x_ishr ?_
               refine x_ci ?_
               refine x_iand ?_
               rw [bt_shr ⟨foR.1, foR.2⟩ (by omega), foN_at (by omega)]
               refine x_iret ?_
               first
                 | (exfalso; omega)
                 | exact kA (by omega) _ up_e (fun b r q1 q2 q3 q4 q5 q6 q7 => up_f (by omega))
                 | exact kB (by omega) (by omega) _ up_e (fun b r q1 q2 q3 q4 q5 q6 q7 => up_f (by omega))
                 | (refine cI (kY (by omega) (by omega) tqq gz (fun b r q1 q2 q3 q4 q5 q6 q7 => g b r (by omega) (by omega))) ?_
                    first
                      | (have e : wqq = 0 := by omega
                         subst e
                         rfl)
                      | (have e : wqq = 1 := by omega
                         subst e
                         rfl)
                      | (have e : wqq = 2 := by omega
                         subst e
                         rfl)
                      | (have e : wqq = 3 := by omega
                         subst e
                         rfl)
                      | (have e : wqq = 4 := by omega
                         subst e
                         rfl)
                      | (have e : wqq = 5 := by omega
                         subst e
                         rfl)))
      · refine x_ci ?_
        refine x_iret ?_
        first
          | (exfalso; omega)
          | exact kA (by omega) _ up_e (fun b r q1 q2 q3 q4 q5 q6 q7 => up_f (by omega))
          | exact kB (by omega) (by omega) _ up_e (fun b r q1 q2 q3 q4 q5 q6 q7 => up_f (by omega))
          | (refine cI (kY (by omega) (by omega) tqq gz (fun b r q1 q2 q3 q4 q5 q6 q7 => g b r (by omega) (by omega))) ?_
             first
               | (have e : wqq = 0 := by omega
                  subst e
                  rfl)
               | (have e : wqq = 1 := by omega
                  subst e
                  rfl)
               | (have e : wqq = 2 := by omega
                  subst e
                  rfl)
               | (have e : wqq = 3 := by omega
                  subst e
                  rfl)
               | (have e : wqq = 4 := by omega
                  subst e
                  rfl)
               | (have e : wqq = 5 := by omega
                  subst e
                  rfl))
    · refine x_iload rfl ?_
      refine x_ci ?_
      refine n_icmp_le ⟨by omega, by omega⟩ ⟨by omega, by omega⟩ (fun c3 => ?_) (fun c3 => ?_)
      · refine x_ci ?_
        refine x_fall ?_
        refine h_putI 0 sc_94 rfl rfl ?_
        refine x_aload rfl ?_
        refine h_getI 0 sc_94 rfl rfl ?_
        rw [up_e]
        refine n_if_eq ⟨by omega, by omega⟩ (fun c4 => ?_) (fun c4 => ?_)
        · first
            | (exfalso; omega)
            | (refine x_aload rfl ?_
               refine x_ci ?_
               refine n_call [vR _, vI _] [] (by omega) (Nat.le_of_ble_eq_true rfl) rfl rfl (Nat.le_of_ble_eq_true rfl) ?_
               refine r_standsAll (f := 0) (by omega) (by omega) (RD.up hr0 (by decide)) (fun tqq t1qq t2qq => ?_)
               have g : ∀ (b : Nat) (r : Int), ¬ (114 ≤ b ∧ b ≤ 117) → ¬ (b = 94 ∧ r = 0) → tqq b r = s b r := fun b r q1 q2 => by
                 rw [t2qq b (by omega) r, up_f (by omega)]
               have gz : tqq 94 0 = 0 := by rw [t2qq 94 (by omega) 0, up_e]
               have hr1 : RD 0 L n c tqq := ⟨hL, hn, hv, (g 111 0 (by omega) (by omega)).trans r1, (g 112 0 (by omega) (by omega)).trans r2, fun i i0 i1 => (g 113 _ (by omega) (by omega)).trans (r3 i i0 i1)⟩
               show wp PP _ _ _ [some (vR _), some (vI _), some (vI _)] [] _ _
               refine x_iload rfl ?_
               refine n_tsw 5 rfl ⟨by omega, by omega⟩ (fun c5 => ?_) (And.intro (fun c5 => ?_) (And.intro (fun c5 => ?_) (And.intro (fun c5 => ?_) (And.intro (fun c5 => ?_) (And.intro (fun c5 => ?_) trivial)))))
               · refine x_aload rfl ?_
                 refine x_iload rfl ?_
                 refine n_call [vR _, vI _] [] (by omega) (Nat.le_of_ble_eq_true rfl) rfl rfl (Nat.le_of_ble_eq_true rfl) ?_
                 refine r_boundTo (by omega) t1qq (x := x) (by omega) ?_
                 show wp PP _ _ _ [some (vR _), some (vI _), some (vI _)] [vI _] _ _
                 refine x_iret ?_
                 first
                   | (exfalso; omega)
                   | exact kA (by omega) _ up_e (fun b r q1 q2 q3 q4 q5 q6 q7 => up_f (by omega))
                   | exact kB (by omega) (by omega) _ up_e (fun b r q1 q2 q3 q4 q5 q6 q7 => up_f (by omega))
                   | (refine cI (kY (by omega) (by omega) tqq gz (fun b r q1 q2 q3 q4 q5 q6 q7 => g b r (by omega) (by omega))) ?_
                      first
                        | (have e : wqq = 0 := by omega
                           subst e
                           rfl)
                        | (have e : wqq = 1 := by omega
                           subst e
                           rfl)
                        | (have e : wqq = 2 := by omega
                           subst e
                           rfl)
                        | (have e : wqq = 3 := by omega
                           subst e
                           rfl)
                        | (have e : wqq = 4 := by omega
                           subst e
                           rfl)
                        | (have e : wqq = 5 := by omega
                           subst e
                           rfl))
               · refine x_aload rfl ?_
                 refine h_getR sc_94 rfl (by omega) ?_
                 refine x_ci ?_
                 refine h_iald sc_111 ⟨by omega, by omega⟩ (by decide) ?_
                 rw [(g 111 0 (by omega) (by omega)).trans r1]
                 refine x_iload rfl ?_
                 refine x_ishr ?_
                 refine x_ci ?_
                 refine x_iand ?_
                 rw [bt_shr hL (by omega)]
                 refine x_iret ?_
                 first
                   | (exfalso; omega)
                   | exact kA (by omega) _ up_e (fun b r q1 q2 q3 q4 q5 q6 q7 => up_f (by omega))
                   | exact kB (by omega) (by omega) _ up_e (fun b r q1 q2 q3 q4 q5 q6 q7 => up_f (by omega))
                   | (refine cI (kY (by omega) (by omega) tqq gz (fun b r q1 q2 q3 q4 q5 q6 q7 => g b r (by omega) (by omega))) ?_
                      first
                        | (have e : wqq = 0 := by omega
                           subst e
                           rfl)
                        | (have e : wqq = 1 := by omega
                           subst e
                           rfl)
                        | (have e : wqq = 2 := by omega
                           subst e
                           rfl)
                        | (have e : wqq = 3 := by omega
                           subst e
                           rfl)
                        | (have e : wqq = 4 := by omega
                           subst e
                           rfl)
                        | (have e : wqq = 5 := by omega
                           subst e
                           rfl))
               · refine x_aload rfl ?_
                 refine x_iload rfl ?_
                 refine n_call [vR _, vI _] [] (by omega) (Nat.le_of_ble_eq_true rfl) rfl rfl (Nat.le_of_ble_eq_true rfl) ?_
                 refine r_placeOf (by omega) hr1 t1qq (x := x) (by omega) ?_
                 show wp PP _ _ _ [some (vR _), some (vI _), some (vI _)] [vI _] _ _
                 refine x_iret ?_
                 first
                   | (exfalso; omega)
                   | exact kA (by omega) _ up_e (fun b r q1 q2 q3 q4 q5 q6 q7 => up_f (by omega))
                   | exact kB (by omega) (by omega) _ up_e (fun b r q1 q2 q3 q4 q5 q6 q7 => up_f (by omega))
                   | (refine cI (kY (by omega) (by omega) tqq gz (fun b r q1 q2 q3 q4 q5 q6 q7 => g b r (by omega) (by omega))) ?_
                      first
                        | (have e : wqq = 0 := by omega
                           subst e
                           rfl)
                        | (have e : wqq = 1 := by omega
                           subst e
                           rfl)
                        | (have e : wqq = 2 := by omega
                           subst e
                           rfl)
                        | (have e : wqq = 3 := by omega
                           subst e
                           rfl)
                        | (have e : wqq = 4 := by omega
                           subst e
                           rfl)
                        | (have e : wqq = 5 := by omega
                           subst e
                           rfl))
               · refine x_aload rfl ?_
                 refine h_getR sc_94 rfl (by omega) ?_
                 refine x_iload rfl ?_
                 refine h_iald sc_116 ⟨by omega, by omega⟩ (by decide) ?_
                 rw [t1qq.2.2.1 x (by omega) (by omega)]
                 refine x_iret ?_
                 first
                   | (exfalso; omega)
                   | exact kA (by omega) _ up_e (fun b r q1 q2 q3 q4 q5 q6 q7 => up_f (by omega))
                   | exact kB (by omega) (by omega) _ up_e (fun b r q1 q2 q3 q4 q5 q6 q7 => up_f (by omega))
                   | (refine cI (kY (by omega) (by omega) tqq gz (fun b r q1 q2 q3 q4 q5 q6 q7 => g b r (by omega) (by omega))) ?_
                      first
                        | (have e : wqq = 0 := by omega
                           subst e
                           rfl)
                        | (have e : wqq = 1 := by omega
                           subst e
                           rfl)
                        | (have e : wqq = 2 := by omega
                           subst e
                           rfl)
                        | (have e : wqq = 3 := by omega
                           subst e
                           rfl)
                        | (have e : wqq = 4 := by omega
                           subst e
                           rfl)
                        | (have e : wqq = 5 := by omega
                           subst e
                           rfl))
               · refine x_aload rfl ?_
                 refine h_getR sc_94 rfl (by omega) ?_
                 refine x_iload rfl ?_
                 refine h_iald sc_117 ⟨by omega, by omega⟩ (by decide) ?_
                 rw [t1qq.2.2.2 x (by omega) (by omega)]
                 refine x_iret ?_
                 first
                   | (exfalso; omega)
                   | exact kA (by omega) _ up_e (fun b r q1 q2 q3 q4 q5 q6 q7 => up_f (by omega))
                   | exact kB (by omega) (by omega) _ up_e (fun b r q1 q2 q3 q4 q5 q6 q7 => up_f (by omega))
                   | (refine cI (kY (by omega) (by omega) tqq gz (fun b r q1 q2 q3 q4 q5 q6 q7 => g b r (by omega) (by omega))) ?_
                      first
                        | (have e : wqq = 0 := by omega
                           subst e
                           rfl)
                        | (have e : wqq = 1 := by omega
                           subst e
                           rfl)
                        | (have e : wqq = 2 := by omega
                           subst e
                           rfl)
                        | (have e : wqq = 3 := by omega
                           subst e
                           rfl)
                        | (have e : wqq = 4 := by omega
                           subst e
                           rfl)
                        | (have e : wqq = 5 := by omega
                           subst e
                           rfl))
               · refine x_aload rfl ?_
                 refine x_ci ?_
                 refine n_call [vR _, vI _] [] (by omega) (Nat.le_of_ble_eq_true rfl) rfl rfl (Nat.le_of_ble_eq_true rfl) ?_
                 refine r_freeOnes (f := 0) (by omega) (by omega) hr1 t1qq ?_
                 have foR := foN_R (L := L) (c := c) (n := n) 6
                 show wp PP _ _ _ [some (vR _), some (vI _), some (vI _)] [vI _] _ _
                 refine x_iload rfl ?_
                 refine x_ishr ?_
                 refine x_ci ?_
                 refine x_iand ?_
                 rw [bt_shr ⟨foR.1, foR.2⟩ (by omega), foN_at (by omega)]
                 refine x_iret ?_
                 first
                   | (exfalso; omega)
                   | exact kA (by omega) _ up_e (fun b r q1 q2 q3 q4 q5 q6 q7 => up_f (by omega))
                   | exact kB (by omega) (by omega) _ up_e (fun b r q1 q2 q3 q4 q5 q6 q7 => up_f (by omega))
                   | (refine cI (kY (by omega) (by omega) tqq gz (fun b r q1 q2 q3 q4 q5 q6 q7 => g b r (by omega) (by omega))) ?_
                      first
                        | (have e : wqq = 0 := by omega
                           subst e
                           rfl)
                        | (have e : wqq = 1 := by omega
                           subst e
                           rfl)
                        | (have e : wqq = 2 := by omega
                           subst e
                           rfl)
                        | (have e : wqq = 3 := by omega
                           subst e
                           rfl)
                        | (have e : wqq = 4 := by omega
                           subst e
                           rfl)
                        | (have e : wqq = 5 := by omega
                           subst e
                           rfl)))
        · refine x_ci ?_
          refine x_iret ?_
          first
            | (exfalso; omega)
            | exact kA (by omega) _ up_e (fun b r q1 q2 q3 q4 q5 q6 q7 => up_f (by omega))
            | exact kB (by omega) (by omega) _ up_e (fun b r q1 q2 q3 q4 q5 q6 q7 => up_f (by omega))
            | (refine cI (kY (by omega) (by omega) tqq gz (fun b r q1 q2 q3 q4 q5 q6 q7 => g b r (by omega) (by omega))) ?_
               first
                 | (have e : wqq = 0 := by omega
                    subst e
                    rfl)
                 | (have e : wqq = 1 := by omega
                    subst e
                    rfl)
                 | (have e : wqq = 2 := by omega
                    subst e
                    rfl)
                 | (have e : wqq = 3 := by omega
                    subst e
                    rfl)
                 | (have e : wqq = 4 := by omega
                    subst e
                    rfl)
                 | (have e : wqq = 5 := by omega
                    subst e
                    rfl))
      · refine x_fall ?_
        refine x_ci ?_
        refine x_goto ?_
        refine h_putI 0 sc_94 rfl rfl ?_
        refine x_aload rfl ?_
        refine h_getI 0 sc_94 rfl rfl ?_
        rw [up_e]
        refine n_if_eq ⟨by omega, by omega⟩ (fun c4 => ?_) (fun c4 => ?_)
        · first
            | (exfalso; omega)
            | (refine x_aload rfl ?_
               refine x_ci ?_
               refine n_call [vR _, vI _] [] (by omega) (Nat.le_of_ble_eq_true rfl) rfl rfl (Nat.le_of_ble_eq_true rfl) ?_
               refine r_standsAll (f := 0) (by omega) (by omega) (RD.up hr0 (by decide)) (fun tqq t1qq t2qq => ?_)
               have g : ∀ (b : Nat) (r : Int), ¬ (114 ≤ b ∧ b ≤ 117) → ¬ (b = 94 ∧ r = 0) → tqq b r = s b r := fun b r q1 q2 => by
                 rw [t2qq b (by omega) r, up_f (by omega)]
               have gz : tqq 94 0 = 0 := by rw [t2qq 94 (by omega) 0, up_e]
               have hr1 : RD 0 L n c tqq := ⟨hL, hn, hv, (g 111 0 (by omega) (by omega)).trans r1, (g 112 0 (by omega) (by omega)).trans r2, fun i i0 i1 => (g 113 _ (by omega) (by omega)).trans (r3 i i0 i1)⟩
               show wp PP _ _ _ [some (vR _), some (vI _), some (vI _)] [] _ _
               refine x_iload rfl ?_
               refine n_tsw 5 rfl ⟨by omega, by omega⟩ (fun c5 => ?_) (And.intro (fun c5 => ?_) (And.intro (fun c5 => ?_) (And.intro (fun c5 => ?_) (And.intro (fun c5 => ?_) (And.intro (fun c5 => ?_) trivial)))))
               · refine x_aload rfl ?_
                 refine x_iload rfl ?_
                 refine n_call [vR _, vI _] [] (by omega) (Nat.le_of_ble_eq_true rfl) rfl rfl (Nat.le_of_ble_eq_true rfl) ?_
                 refine r_boundTo (by omega) t1qq (x := x) (by omega) ?_
                 show wp PP _ _ _ [some (vR _), some (vI _), some (vI _)] [vI _] _ _
                 refine x_iret ?_
                 first
                   | (exfalso; omega)
                   | exact kA (by omega) _ up_e (fun b r q1 q2 q3 q4 q5 q6 q7 => up_f (by omega))
                   | exact kB (by omega) (by omega) _ up_e (fun b r q1 q2 q3 q4 q5 q6 q7 => up_f (by omega))
                   | (refine cI (kY (by omega) (by omega) tqq gz (fun b r q1 q2 q3 q4 q5 q6 q7 => g b r (by omega) (by omega))) ?_
                      first
                        | (have e : wqq = 0 := by omega
                           subst e
                           rfl)
                        | (have e : wqq = 1 := by omega
                           subst e
                           rfl)
                        | (have e : wqq = 2 := by omega
                           subst e
                           rfl)
                        | (have e : wqq = 3 := by omega
                           subst e
                           rfl)
                        | (have e : wqq = 4 := by omega
                           subst e
                           rfl)
                        | (have e : wqq = 5 := by omega
                           subst e
                           rfl))
               · refine x_aload rfl ?_
                 refine h_getR sc_94 rfl (by omega) ?_
                 refine x_ci ?_
                 refine h_iald sc_111 ⟨by omega, by omega⟩ (by decide) ?_
                 rw [(g 111 0 (by omega) (by omega)).trans r1]
                 refine x_iload rfl ?_
                 refine x_ishr ?_
                 refine x_ci ?_
                 refine x_iand ?_
                 rw [bt_shr hL (by omega)]
                 refine x_iret ?_
                 first
                   | (exfalso; omega)
                   | exact kA (by omega) _ up_e (fun b r q1 q2 q3 q4 q5 q6 q7 => up_f (by omega))
                   | exact kB (by omega) (by omega) _ up_e (fun b r q1 q2 q3 q4 q5 q6 q7 => up_f (by omega))
                   | (refine cI (kY (by omega) (by omega) tqq gz (fun b r q1 q2 q3 q4 q5 q6 q7 => g b r (by omega) (by omega))) ?_
                      first
                        | (have e : wqq = 0 := by omega
                           subst e
                           rfl)
                        | (have e : wqq = 1 := by omega
                           subst e
                           rfl)
                        | (have e : wqq = 2 := by omega
                           subst e
                           rfl)
                        | (have e : wqq = 3 := by omega
                           subst e
                           rfl)
                        | (have e : wqq = 4 := by omega
                           subst e
                           rfl)
                        | (have e : wqq = 5 := by omega
                           subst e
                           rfl))
               · refine x_aload rfl ?_
                 refine x_iload rfl ?_
                 refine n_call [vR _, vI _] [] (by omega) (Nat.le_of_ble_eq_true rfl) rfl rfl (Nat.le_of_ble_eq_true rfl) ?_
                 refine r_placeOf (by omega) hr1 t1qq (x := x) (by omega) ?_
                 show wp PP _ _ _ [some (vR _), some (vI _), some (vI _)] [vI _] _ _
                 refine x_iret ?_
                 first
                   | (exfalso; omega)
                   | exact kA (by omega) _ up_e (fun b r q1 q2 q3 q4 q5 q6 q7 => up_f (by omega))
                   | exact kB (by omega) (by omega) _ up_e (fun b r q1 q2 q3 q4 q5 q6 q7 => up_f (by omega))
                   | (refine cI (kY (by omega) (by omega) tqq gz (fun b r q1 q2 q3 q4 q5 q6 q7 => g b r (by omega) (by omega))) ?_
                      first
                        | (have e : wqq = 0 := by omega
                           subst e
                           rfl)
                        | (have e : wqq = 1 := by omega
                           subst e
                           rfl)
                        | (have e : wqq = 2 := by omega
                           subst e
                           rfl)
                        | (have e : wqq = 3 := by omega
                           subst e
                           rfl)
                        | (have e : wqq = 4 := by omega
                           subst e
                           rfl)
                        | (have e : wqq = 5 := by omega
                           subst e
                           rfl))
               · refine x_aload rfl ?_
                 refine h_getR sc_94 rfl (by omega) ?_
                 refine x_iload rfl ?_
                 refine h_iald sc_116 ⟨by omega, by omega⟩ (by decide) ?_
                 rw [t1qq.2.2.1 x (by omega) (by omega)]
                 refine x_iret ?_
                 first
                   | (exfalso; omega)
                   | exact kA (by omega) _ up_e (fun b r q1 q2 q3 q4 q5 q6 q7 => up_f (by omega))
                   | exact kB (by omega) (by omega) _ up_e (fun b r q1 q2 q3 q4 q5 q6 q7 => up_f (by omega))
                   | (refine cI (kY (by omega) (by omega) tqq gz (fun b r q1 q2 q3 q4 q5 q6 q7 => g b r (by omega) (by omega))) ?_
                      first
                        | (have e : wqq = 0 := by omega
                           subst e
                           rfl)
                        | (have e : wqq = 1 := by omega
                           subst e
                           rfl)
                        | (have e : wqq = 2 := by omega
                           subst e
                           rfl)
                        | (have e : wqq = 3 := by omega
                           subst e
                           rfl)
                        | (have e : wqq = 4 := by omega
                           subst e
                           rfl)
                        | (have e : wqq = 5 := by omega
                           subst e
                           rfl))
               · refine x_aload rfl ?_
                 refine h_getR sc_94 rfl (by omega) ?_
                 refine x_iload rfl ?_
                 refine h_iald sc_117 ⟨by omega, by omega⟩ (by decide) ?_
                 rw [t1qq.2.2.2 x (by omega) (by omega)]
                 refine x_iret ?_
                 first
                   | (exfalso; omega)
                   | exact kA (by omega) _ up_e (fun b r q1 q2 q3 q4 q5 q6 q7 => up_f (by omega))
                   | exact kB (by omega) (by omega) _ up_e (fun b r q1 q2 q3 q4 q5 q6 q7 => up_f (by omega))
                   | (refine cI (kY (by omega) (by omega) tqq gz (fun b r q1 q2 q3 q4 q5 q6 q7 => g b r (by omega) (by omega))) ?_
                      first
                        | (have e : wqq = 0 := by omega
                           subst e
                           rfl)
                        | (have e : wqq = 1 := by omega
                           subst e
                           rfl)
                        | (have e : wqq = 2 := by omega
                           subst e
                           rfl)
                        | (have e : wqq = 3 := by omega
                           subst e
                           rfl)
                        | (have e : wqq = 4 := by omega
                           subst e
                           rfl)
                        | (have e : wqq = 5 := by omega
                           subst e
                           rfl))
               · refine x_aload rfl ?_
                 refine x_ci ?_
                 refine n_call [vR _, vI _] [] (by omega) (Nat.le_of_ble_eq_true rfl) rfl rfl (Nat.le_of_ble_eq_true rfl) ?_
                 refine r_freeOnes (f := 0) (by omega) (by omega) hr1 t1qq ?_
                 have foR := foN_R (L := L) (c := c) (n := n) 6
                 show wp PP _ _ _ [some (vR _), some (vI _), some (vI _)] [vI _] _ _
                 refine x_iload rfl ?_
                 refine x_ishr ?_
                 refine x_ci ?_
                 refine x_iand ?_
                 rw [bt_shr ⟨foR.1, foR.2⟩ (by omega), foN_at (by omega)]
                 refine x_iret ?_
                 first
                   | (exfalso; omega)
                   | exact kA (by omega) _ up_e (fun b r q1 q2 q3 q4 q5 q6 q7 => up_f (by omega))
                   | exact kB (by omega) (by omega) _ up_e (fun b r q1 q2 q3 q4 q5 q6 q7 => up_f (by omega))
                   | (refine cI (kY (by omega) (by omega) tqq gz (fun b r q1 q2 q3 q4 q5 q6 q7 => g b r (by omega) (by omega))) ?_
                      first
                        | (have e : wqq = 0 := by omega
                           subst e
                           rfl)
                        | (have e : wqq = 1 := by omega
                           subst e
                           rfl)
                        | (have e : wqq = 2 := by omega
                           subst e
                           rfl)
                        | (have e : wqq = 3 := by omega
                           subst e
                           rfl)
                        | (have e : wqq = 4 := by omega
                           subst e
                           rfl)
                        | (have e : wqq = 5 := by omega
                           subst e
                           rfl)))
        · refine x_ci ?_
          refine x_iret ?_
          first
            | (exfalso; omega)
            | exact kA (by omega) _ up_e (fun b r q1 q2 q3 q4 q5 q6 q7 => up_f (by omega))
            | exact kB (by omega) (by omega) _ up_e (fun b r q1 q2 q3 q4 q5 q6 q7 => up_f (by omega))
            | (refine cI (kY (by omega) (by omega) tqq gz (fun b r q1 q2 q3 q4 q5 q6 q7 => g b r (by omega) (by omega))) ?_
               first
                 | (have e : wqq = 0 := by omega
                    subst e
                    rfl)
                 | (have e : wqq = 1 := by omega
                    subst e
                    rfl)
                 | (have e : wqq = 2 := by omega
                    subst e
                    rfl)
                 | (have e : wqq = 3 := by omega
                    subst e
                    rfl)
                 | (have e : wqq = 4 := by omega
                    subst e
                    rfl)
                 | (have e : wqq = 5 := by omega
                    subst e
                    rfl))
  · refine x_ci ?_
    refine x_goto ?_
    refine h_putI 0 sc_94 rfl rfl ?_
    refine x_aload rfl ?_
    refine h_getI 0 sc_94 rfl rfl ?_
    rw [up_e]
    refine n_if_eq ⟨by omega, by omega⟩ (fun c2 => ?_) (fun c2 => ?_)
    · first
        | (exfalso; omega)
        | (refine x_aload rfl ?_
           refine x_ci ?_
           refine n_call [vR _, vI _] [] (by omega) (Nat.le_of_ble_eq_true rfl) rfl rfl (Nat.le_of_ble_eq_true rfl) ?_
           refine r_standsAll (f := 0) (by omega) (by omega) (RD.up hr0 (by decide)) (fun tqq t1qq t2qq => ?_)
           have g : ∀ (b : Nat) (r : Int), ¬ (114 ≤ b ∧ b ≤ 117) → ¬ (b = 94 ∧ r = 0) → tqq b r = s b r := fun b r q1 q2 => by
             rw [t2qq b (by omega) r, up_f (by omega)]
           have gz : tqq 94 0 = 0 := by rw [t2qq 94 (by omega) 0, up_e]
           have hr1 : RD 0 L n c tqq := ⟨hL, hn, hv, (g 111 0 (by omega) (by omega)).trans r1, (g 112 0 (by omega) (by omega)).trans r2, fun i i0 i1 => (g 113 _ (by omega) (by omega)).trans (r3 i i0 i1)⟩
           show wp PP _ _ _ [some (vR _), some (vI _), some (vI _)] [] _ _
           refine x_iload rfl ?_
           refine n_tsw 5 rfl ⟨by omega, by omega⟩ (fun c3 => ?_) (And.intro (fun c3 => ?_) (And.intro (fun c3 => ?_) (And.intro (fun c3 => ?_) (And.intro (fun c3 => ?_) (And.intro (fun c3 => ?_) trivial)))))
           · refine x_aload rfl ?_
             refine x_iload rfl ?_
             refine n_call [vR _, vI _] [] (by omega) (Nat.le_of_ble_eq_true rfl) rfl rfl (Nat.le_of_ble_eq_true rfl) ?_
             refine r_boundTo (by omega) t1qq (x := x) (by omega) ?_
             show wp PP _ _ _ [some (vR _), some (vI _), some (vI _)] [vI _] _ _
             refine x_iret ?_
             first
               | (exfalso; omega)
               | exact kA (by omega) _ up_e (fun b r q1 q2 q3 q4 q5 q6 q7 => up_f (by omega))
               | exact kB (by omega) (by omega) _ up_e (fun b r q1 q2 q3 q4 q5 q6 q7 => up_f (by omega))
               | (refine cI (kY (by omega) (by omega) tqq gz (fun b r q1 q2 q3 q4 q5 q6 q7 => g b r (by omega) (by omega))) ?_
                  first
                    | (have e : wqq = 0 := by omega
                       subst e
                       rfl)
                    | (have e : wqq = 1 := by omega
                       subst e
                       rfl)
                    | (have e : wqq = 2 := by omega
                       subst e
                       rfl)
                    | (have e : wqq = 3 := by omega
                       subst e
                       rfl)
                    | (have e : wqq = 4 := by omega
                       subst e
                       rfl)
                    | (have e : wqq = 5 := by omega
                       subst e
                       rfl))
           · refine x_aload rfl ?_
             refine h_getR sc_94 rfl (by omega) ?_
             refine x_ci ?_
             refine h_iald sc_111 ⟨by omega, by omega⟩ (by decide) ?_
             rw [(g 111 0 (by omega) (by omega)).trans r1]
             refine x_iload rfl ?_
             refine x_ishr ?_
             refine x_ci ?_
             refine x_iand ?_
             rw [bt_shr hL (by omega)]
             refine x_iret ?_
             first
               | (exfalso; omega)
               | exact kA (by omega) _ up_e (fun b r q1 q2 q3 q4 q5 q6 q7 => up_f (by omega))
               | exact kB (by omega) (by omega) _ up_e (fun b r q1 q2 q3 q4 q5 q6 q7 => up_f (by omega))
               | (refine cI (kY (by omega) (by omega) tqq gz (fun b r q1 q2 q3 q4 q5 q6 q7 => g b r (by omega) (by omega))) ?_
                  first
                    | (have e : wqq = 0 := by omega
                       subst e
                       rfl)
                    | (have e : wqq = 1 := by omega
                       subst e
                       rfl)
                    | (have e : wqq = 2 := by omega
                       subst e
                       rfl)
                    | (have e : wqq = 3 := by omega
                       subst e
                       rfl)
                    | (have e : wqq = 4 := by omega
                       subst e
                       rfl)
                    | (have e : wqq = 5 := by omega
                       subst e
                       rfl))
           · refine x_aload rfl ?_
             refine x_iload rfl ?_
             refine n_call [vR _, vI _] [] (by omega) (Nat.le_of_ble_eq_true rfl) rfl rfl (Nat.le_of_ble_eq_true rfl) ?_
             refine r_placeOf (by omega) hr1 t1qq (x := x) (by omega) ?_
             show wp PP _ _ _ [some (vR _), some (vI _), some (vI _)] [vI _] _ _
             refine x_iret ?_
             first
               | (exfalso; omega)
               | exact kA (by omega) _ up_e (fun b r q1 q2 q3 q4 q5 q6 q7 => up_f (by omega))
               | exact kB (by omega) (by omega) _ up_e (fun b r q1 q2 q3 q4 q5 q6 q7 => up_f (by omega))
               | (refine cI (kY (by omega) (by omega) tqq gz (fun b r q1 q2 q3 q4 q5 q6 q7 => g b r (by omega) (by omega))) ?_
                  first
                    | (have e : wqq = 0 := by omega
                       subst e
                       rfl)
                    | (have e : wqq = 1 := by omega
                       subst e
                       rfl)
                    | (have e : wqq = 2 := by omega
                       subst e
                       rfl)
                    | (have e : wqq = 3 := by omega
                       subst e
                       rfl)
                    | (have e : wqq = 4 := by omega
                       subst e
                       rfl)
                    | (have e : wqq = 5 := by omega
                       subst e
                       rfl))
           · refine x_aload rfl ?_
             refine h_getR sc_94 rfl (by omega) ?_
             refine x_iload rfl ?_
             refine h_iald sc_116 ⟨by omega, by omega⟩ (by decide) ?_
             rw [t1qq.2.2.1 x (by omega) (by omega)]
             refine x_iret ?_
             first
               | (exfalso; omega)
               | exact kA (by omega) _ up_e (fun b r q1 q2 q3 q4 q5 q6 q7 => up_f (by omega))
               | exact kB (by omega) (by omega) _ up_e (fun b r q1 q2 q3 q4 q5 q6 q7 => up_f (by omega))
               | (refine cI (kY (by omega) (by omega) tqq gz (fun b r q1 q2 q3 q4 q5 q6 q7 => g b r (by omega) (by omega))) ?_
                  first
                    | (have e : wqq = 0 := by omega
                       subst e
                       rfl)
                    | (have e : wqq = 1 := by omega
                       subst e
                       rfl)
                    | (have e : wqq = 2 := by omega
                       subst e
                       rfl)
                    | (have e : wqq = 3 := by omega
                       subst e
                       rfl)
                    | (have e : wqq = 4 := by omega
                       subst e
                       rfl)
                    | (have e : wqq = 5 := by omega
                       subst e
                       rfl))
           · refine x_aload rfl ?_
             refine h_getR sc_94 rfl (by omega) ?_
             refine x_iload rfl ?_
             refine h_iald sc_117 ⟨by omega, by omega⟩ (by decide) ?_
             rw [t1qq.2.2.2 x (by omega) (by omega)]
             refine x_iret ?_
             first
               | (exfalso; omega)
               | exact kA (by omega) _ up_e (fun b r q1 q2 q3 q4 q5 q6 q7 => up_f (by omega))
               | exact kB (by omega) (by omega) _ up_e (fun b r q1 q2 q3 q4 q5 q6 q7 => up_f (by omega))
               | (refine cI (kY (by omega) (by omega) tqq gz (fun b r q1 q2 q3 q4 q5 q6 q7 => g b r (by omega) (by omega))) ?_
                  first
                    | (have e : wqq = 0 := by omega
                       subst e
                       rfl)
                    | (have e : wqq = 1 := by omega
                       subst e
                       rfl)
                    | (have e : wqq = 2 := by omega
                       subst e
                       rfl)
                    | (have e : wqq = 3 := by omega
                       subst e
                       rfl)
                    | (have e : wqq = 4 := by omega
                       subst e
                       rfl)
                    | (have e : wqq = 5 := by omega
                       subst e
                       rfl))
           · refine x_aload rfl ?_
             refine x_ci ?_
             refine n_call [vR _, vI _] [] (by omega) (Nat.le_of_ble_eq_true rfl) rfl rfl (Nat.le_of_ble_eq_true rfl) ?_
             refine r_freeOnes (f := 0) (by omega) (by omega) hr1 t1qq ?_
             have foR := foN_R (L := L) (c := c) (n := n) 6
             show wp PP _ _ _ [some (vR _), some (vI _), some (vI _)] [vI _] _ _
             refine x_iload rfl ?_
             refine x_ishr ?_
             refine x_ci ?_
             refine x_iand ?_
             rw [bt_shr ⟨foR.1, foR.2⟩ (by omega), foN_at (by omega)]
             refine x_iret ?_
             first
               | (exfalso; omega)
               | exact kA (by omega) _ up_e (fun b r q1 q2 q3 q4 q5 q6 q7 => up_f (by omega))
               | exact kB (by omega) (by omega) _ up_e (fun b r q1 q2 q3 q4 q5 q6 q7 => up_f (by omega))
               | (refine cI (kY (by omega) (by omega) tqq gz (fun b r q1 q2 q3 q4 q5 q6 q7 => g b r (by omega) (by omega))) ?_
                  first
                    | (have e : wqq = 0 := by omega
                       subst e
                       rfl)
                    | (have e : wqq = 1 := by omega
                       subst e
                       rfl)
                    | (have e : wqq = 2 := by omega
                       subst e
                       rfl)
                    | (have e : wqq = 3 := by omega
                       subst e
                       rfl)
                    | (have e : wqq = 4 := by omega
                       subst e
                       rfl)
                    | (have e : wqq = 5 := by omega
                       subst e
                       rfl)))
    · refine x_ci ?_
      refine x_iret ?_
      first
        | (exfalso; omega)
        | exact kA (by omega) _ up_e (fun b r q1 q2 q3 q4 q5 q6 q7 => up_f (by omega))
        | exact kB (by omega) (by omega) _ up_e (fun b r q1 q2 q3 q4 q5 q6 q7 => up_f (by omega))
        | (refine cI (kY (by omega) (by omega) tqq gz (fun b r q1 q2 q3 q4 q5 q6 q7 => g b r (by omega) (by omega))) ?_
           first
             | (have e : wqq = 0 := by omega
                subst e
                rfl)
             | (have e : wqq = 1 := by omega
                subst e
                rfl)
             | (have e : wqq = 2 := by omega
                subst e
                rfl)
             | (have e : wqq = 3 := by omega
                subst e
                rfl)
             | (have e : wqq = 4 := by omega
                subst e
                rfl)
             | (have e : wqq = 5 := by omega
                subst e
                rfl))
end PC1
