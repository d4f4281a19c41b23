/-! HOLDS, both sides -/
section HE
variable {d a tp : Nat} {h0 h : pheap} {s : St} {Q : Option pv → pheap → Prop}
def pwN (b : Int) : Nat → Int
  | 0 => 1
  | i + 1 => pwN b i * b
theorem pwN_R {b : Int} (hb : 0 ≤ b ∧ b ≤ 100) : ∀ i : Nat, 0 ≤ pwN b i ∧ pwN b i ≤ pwN 100 i
  | 0 => ⟨by simp [pwN], by simp [pwN]⟩
  | i + 1 => by
    have ih := pwN_R hb i
    simp only [pwN]
    exact ⟨Int.mul_nonneg ih.1 hb.1, Int.mul_le_mul ih.2 hb.2 hb.1 (by omega)⟩
theorem pw100 : ∀ i : Nat, i < 7 → pwN 100 i ≤ 1000000000000 ∧ 1 ≤ pwN 100 i := by decide
def hoA (slp n w : Int) : Int := if n < 0 ∨ 6 < n ∨ w < 0 ∨ 1 < w then -1 else (if w = 0 then pwN (100 - slp) n.toNat else pwN 100 n.toNat) / (Int.gcd (pwN (100 - slp) n.toNat) (pwN 100 n.toNat) : Int)
theorem gcd_pos {x y : Int} (h : 1 ≤ y) : 1 ≤ (Int.gcd x y : Int) := by
  have : 0 < Int.gcd x y := Int.gcd_pos_of_ne_zero_right _ (by omega)
  omega
theorem gcd_le2 {x y : Int} (h : 1 ≤ y) : (Int.gcd x y : Int) ≤ y := Int.le_of_dvd (by omega) (Int.gcd_dvd_right x y)
theorem m_holds (hd : 2 ≤ d) (hS : isSc tp) (hT : s 32 2 = (tp : Int) + 1) {slp n w : Int} (hs : s tp 5 = slp) (hsr : 0 ≤ slp ∧ slp ≤ 100) (hn : iR n) (hw : iR w) (k : Q (some (vL (hoA slp n w))) (HP h0 s)) : wpM PP d 32 [vR 32, vI n, vI w] (HP h0 s) Q := by
  refine n_at (m := 32) (q := mr32) (kn := (0, 3)) [some (vR _), some (vI _), some (vI _), none, none, none, none, none, none] mb32 rfl rfl (h_rcv sc_32) (Nat.le_of_ble_eq_true rfl) rfl rfl ?_
  refine x_iload rfl ?_
  refine n_if_lt ⟨by omega, by omega⟩ (fun c1 => ?_) (fun c1 => ?_)
  · refine x_cl ?_
    refine x_lret ?_
    first
      | (exfalso; omega)
      | (refine cL k ?_
         unfold hoA
         rw [if_neg (by omega), ← e, ← hu, ← hv, ← hgg]
         first | rw [if_pos (by omega)] | rw [if_neg (by omega)])
      | (refine cL k ?_
         unfold hoA
         exact if_pos (by omega))
  · refine x_iload rfl ?_
    refine x_ci ?_
    refine n_icmp_gt ⟨by omega, by omega⟩ ⟨by omega, by omega⟩ (fun c2 => ?_) (fun c2 => ?_)
    · refine x_cl ?_
      refine x_lret ?_
      first
        | (exfalso; omega)
        | (refine cL k ?_
           unfold hoA
           rw [if_neg (by omega), ← e, ← hu, ← hv, ← hgg]
           first | rw [if_pos (by omega)] | rw [if_neg (by omega)])
        | (refine cL k ?_
           unfold hoA
           exact if_pos (by omega))
    · refine x_iload rfl ?_
      refine n_if_lt ⟨by omega, by omega⟩ (fun c3 => ?_) (fun c3 => ?_)
      · refine x_cl ?_
        refine x_lret ?_
        first
          | (exfalso; omega)
          | (refine cL k ?_
             unfold hoA
             rw [if_neg (by omega), ← e, ← hu, ← hv, ← hgg]
             first | rw [if_pos (by omega)] | rw [if_neg (by omega)])
          | (refine cL k ?_
             unfold hoA
             exact if_pos (by omega))
      · refine x_iload rfl ?_
        refine x_ci ?_
        refine n_icmp_le ⟨by omega, by omega⟩ ⟨by omega, by omega⟩ (fun c4 => ?_) (fun c4 => ?_)
        · refine x_cl ?_
          refine n_lstore [some (vR _), some (vI _), some (vI _), some (vL _), _, _, _, _, _] (Nat.le_of_ble_eq_true rfl) rfl ?_
          refine x_cl ?_
          refine n_lstore [some (vR _), some (vI _), some (vI _), some (vL _), _, some (vL _), _, _, _] (Nat.le_of_ble_eq_true rfl) rfl ?_
          refine x_ci ?_
          refine n_istore [some (vR _), some (vI _), some (vI _), some (vL _), _, some (vL _), _, some (vI _), _] (Nat.le_of_ble_eq_true rfl) rfl ?_
          refine x_fall ?_
          have L1 : ∀ N : Nat, ∀ {o8 : Option pv} (j : Nat) (i : Int) (u : Int) (v : Int), (i = j) → (N = n.toNat - j ∧ j ≤ n.toNat) → (u = pwN (100 - slp) j) → (v = pwN 100 j) →  wp PP d mb32 (mb32.getD 3 []) [some (vR 32), some (vI n), some (vI w), some (vL u), none, some (vL v), none, some (vI i), o8] [] (HP h0 s) Q := by
            refine s_ind (fun N ih => ?_)
            intro o8 j i u v hj hn2 hu hv
            have ru := pwN_R (b := 100 - slp) (by omega) j
            have rv := pw100 j (by omega)
            rw [← hu] at ru
            rw [← hv] at ru rv
            refine x_iload rfl ?_
            refine x_iload rfl ?_
            refine n_icmp_ge ⟨by omega, by omega⟩ ⟨by omega, by omega⟩ (fun c1 => ?_) (fun c1 => ?_)
            · refine x_lload rfl ?_
              refine x_lload rfl ?_
              refine n_call [vL _, vL _] [] (by omega) (Nat.le_of_ble_eq_true rfl) rfl rfl (Nat.le_of_ble_eq_true rfl) ?_
              have e : j = n.toNat := by omega
              have gp := gcd_pos (x := u) rv.2
              have gl := gcd_le2 (x := u) rv.2
              refine m_shared ⟨ru.1, ru.2⟩ rv.1 ?_
              show wp PP _ _ _ [some (vR _), some (vI _), some (vI _), some (vL _), _, some (vL _), _, some (vI _), _] [vL _] _ _
              obtain ⟨gg, hgg⟩ : ∃ gg, gg = (Int.gcd u v : Int) := ⟨_, rfl⟩
              rw [← hgg] at gp gl
              refine t_L gg hgg.symm ?_
              refine n_lstore [some (vR _), some (vI _), some (vI _), some (vL _), _, some (vL _), _, some (vL _), _] (Nat.le_of_ble_eq_true rfl) rfl ?_
              refine x_lload rfl ?_
              refine x_cl ?_
              refine n_lif_ge ⟨by omega, by omega⟩ ⟨by omega, by omega⟩ (fun c2 => ?_) (fun c2 => ?_)
              · refine x_iload rfl ?_
                refine n_if_ne ⟨by omega, by omega⟩ (fun c3 => ?_) (fun c3 => ?_)
                · refine x_lload rfl ?_
                  refine x_lload rfl ?_
                  refine x_ldiv (by rw [w64_R ⟨by omega, by omega⟩]; omega) ?_
                  rw [ldiv_nn (by omega) (by omega)]
                  refine x_fall ?_
                  refine x_lret ?_
                  first
                    | (exfalso; omega)
                    | (refine cL k ?_
                       unfold hoA
                       rw [if_neg (by omega), ← e, ← hu, ← hv, ← hgg]
                       first | rw [if_pos (by omega)] | rw [if_neg (by omega)])
                    | (refine cL k ?_
                       unfold hoA
                       exact if_pos (by omega))
                · refine x_lload rfl ?_
                  refine x_lload rfl ?_
                  refine x_ldiv (by rw [w64_R ⟨by omega, by omega⟩]; omega) ?_
                  rw [ldiv_nn (by omega) (by omega)]
                  refine x_goto ?_
                  refine x_lret ?_
                  first
                    | (exfalso; omega)
                    | (refine cL k ?_
                       unfold hoA
                       rw [if_neg (by omega), ← e, ← hu, ← hv, ← hgg]
                       first | rw [if_pos (by omega)] | rw [if_neg (by omega)])
                    | (refine cL k ?_
                       unfold hoA
                       exact if_pos (by omega))
              · refine x_cl ?_
                refine x_lret ?_
                first
                  | (exfalso; omega)
                  | (refine cL k ?_
                     unfold hoA
                     rw [if_neg (by omega), ← e, ← hu, ← hv, ← hgg]
                     first | rw [if_pos (by omega)] | rw [if_neg (by omega)])
                  | (refine cL k ?_
                     unfold hoA
                     exact if_pos (by omega))
            · refine x_lload rfl ?_
              refine x_ci ?_
              refine x_aload rfl ?_
              refine h_getB 2 sc_32 rfl rfl hT ?_
              refine h_getI 5 hS.1 rfl rfl ?_
              rw [hs]
              refine x_isub ?_
              refine n_i2l ⟨by omega, by omega⟩ ?_
              refine x_lmul ?_
              refine n_lstore [some (vR _), some (vI _), some (vI _), some (vL _), _, some (vL _), _, some (vI _), _] (Nat.le_of_ble_eq_true rfl) rfl ?_
              refine x_lload rfl ?_
              refine x_cl ?_
              refine x_lmul ?_
              refine n_lstore [some (vR _), some (vI _), some (vI _), some (vL _), _, some (vL _), _, some (vI _), _] (Nat.le_of_ble_eq_true rfl) rfl ?_
              refine n_iinc [some (vR _), some (vI _), some (vI _), some (vL _), _, some (vL _), _, some (vI _), _] rfl rfl ?_
              refine x_goto ?_
              refine ih (n.toNat - (j + 1)) (by omega) (j + 1) _ _ _ (by omega) (by omega) ?_ ?_
              · rw [hu]
                rfl
              · rw [hv]
                rfl
          refine L1 n.toNat 0 0 1 1 rfl (by omega) rfl rfl
        · refine x_fall ?_
          refine x_cl ?_
          refine x_lret ?_
          first
            | (exfalso; omega)
            | (refine cL k ?_
               unfold hoA
               rw [if_neg (by omega), ← e, ← hu, ← hv, ← hgg]
               first | rw [if_pos (by omega)] | rw [if_neg (by omega)])
            | (refine cL k ?_
               unfold hoA
               exact if_pos (by omega))
theorem r_holds (hd : 2 ≤ d) {slp n w : Int} (hs : s 96 2 = slp) (hsr : 0 ≤ slp ∧ slp ≤ 100) (hn : iR n) (hw : iR w) (k : Q (some (vL (hoA slp n w))) (HP h0 (up s 94 0 0))) : wpM PP d 167 [vR 94, vI n, vI w] (HP h0 s) Q := by
  refine n_at (m := 167) (q := mr167) (kn := (0, 3)) [some (vR _), some (vI _), some (vI _), none, none, none, none, none, none] mb167 rfl rfl (h_rcv sc_94) (Nat.le_of_ble_eq_true rfl) rfl rfl ?_
  refine x_aload rfl ?_
  refine x_ci ?_
  refine h_putI 0 sc_94 rfl rfl ?_
  refine x_iload rfl ?_
  refine n_if_lt ⟨by omega, by omega⟩ (fun c1 => ?_) (fun c1 => ?_)
  · refine x_cl ?_
    refine x_lret ?_
    first
      | (exfalso; omega)
      | (refine cL k ?_
         unfold hoA
         rw [if_neg (by omega), ← e, ← hu, ← hv, ← hgg]
         first | rw [if_pos (by omega)] | rw [if_neg (by omega)])
      | (refine cL k ?_
         unfold hoA
         exact if_pos (by omega))
  · refine x_iload rfl ?_
    refine x_ci ?_
    refine n_icmp_gt ⟨by omega, by omega⟩ ⟨by omega, by omega⟩ (fun c2 => ?_) (fun c2 => ?_)
    · refine x_cl ?_
      refine x_lret ?_
      first
        | (exfalso; omega)
        | (refine cL k ?_
           unfold hoA
           rw [if_neg (by omega), ← e, ← hu, ← hv, ← hgg]
           first | rw [if_pos (by omega)] | rw [if_neg (by omega)])
        | (refine cL k ?_
           unfold hoA
           exact if_pos (by omega))
    · refine x_iload rfl ?_
      refine n_if_lt ⟨by omega, by omega⟩ (fun c3 => ?_) (fun c3 => ?_)
      · refine x_cl ?_
        refine x_lret ?_
        first
          | (exfalso; omega)
          | (refine cL k ?_
             unfold hoA
             rw [if_neg (by omega), ← e, ← hu, ← hv, ← hgg]
             first | rw [if_pos (by omega)] | rw [if_neg (by omega)])
          | (refine cL k ?_
             unfold hoA
             exact if_pos (by omega))
      · refine x_iload rfl ?_
        refine x_ci ?_
        refine n_icmp_le ⟨by omega, by omega⟩ ⟨by omega, by omega⟩ (fun c4 => ?_) (fun c4 => ?_)
        · refine x_cl ?_
          refine n_lstore [some (vR _), some (vI _), some (vI _), some (vL _), _, _, _, _, _] (Nat.le_of_ble_eq_true rfl) rfl ?_
          refine x_cl ?_
          refine n_lstore [some (vR _), some (vI _), some (vI _), some (vL _), _, some (vL _), _, _, _] (Nat.le_of_ble_eq_true rfl) rfl ?_
          refine x_ci ?_
          refine n_istore [some (vR _), some (vI _), some (vI _), some (vL _), _, some (vL _), _, some (vI _), _] (Nat.le_of_ble_eq_true rfl) rfl ?_
          refine x_fall ?_
          have L1 : ∀ N : Nat, ∀ {o8 : Option pv} (j : Nat) (i : Int) (u : Int) (v : Int), (i = j) → (N = n.toNat - j ∧ j ≤ n.toNat) → (u = pwN (100 - slp) j) → (v = pwN 100 j) →  wp PP d mb167 (mb167.getD 3 []) [some (vR 94), some (vI n), some (vI w), some (vL u), none, some (vL v), none, some (vI i), o8] [] (HP h0 (up s 94 0 0)) Q := by
            refine s_ind (fun N ih => ?_)
            intro o8 j i u v hj hn2 hu hv
            have ru := pwN_R (b := 100 - slp) (by omega) j
            have rv := pw100 j (by omega)
            rw [← hu] at ru
            rw [← hv] at ru rv
            refine x_iload rfl ?_
            refine x_iload rfl ?_
            refine n_icmp_ge ⟨by omega, by omega⟩ ⟨by omega, by omega⟩ (fun c1 => ?_) (fun c1 => ?_)
            · refine x_lload rfl ?_
              refine x_lload rfl ?_
              refine n_call [vL _, vL _] [] (by omega) (Nat.le_of_ble_eq_true rfl) rfl rfl (Nat.le_of_ble_eq_true rfl) ?_
              have e : j = n.toNat := by omega
              have gp := gcd_pos (x := u) rv.2
              have gl := gcd_le2 (x := u) rv.2
              refine r_common ⟨ru.1, by omega⟩ ⟨by omega, rv.1⟩ ?_
              show wp PP _ _ _ [some (vR _), some (vI _), some (vI _), some (vL _), _, some (vL _), _, some (vI _), _] [vL _] _ _
              obtain ⟨gg, hgg⟩ : ∃ gg, gg = (Int.gcd u v : Int) := ⟨_, rfl⟩
              rw [← hgg] at gp gl
              refine t_L gg hgg.symm ?_
              refine n_lstore [some (vR _), some (vI _), some (vI _), some (vL _), _, some (vL _), _, some (vL _), _] (Nat.le_of_ble_eq_true rfl) rfl ?_
              refine x_iload rfl ?_
              refine n_if_ne ⟨by omega, by omega⟩ (fun c2 => ?_) (fun c2 => ?_)
              · refine x_lload rfl ?_
                refine x_lload rfl ?_
                refine x_ldiv (by rw [w64_R ⟨by omega, by omega⟩]; omega) ?_
                rw [ldiv_nn (by omega) (by omega)]
                refine x_fall ?_
                refine x_lret ?_
                first
                  | (exfalso; omega)
                  | (refine cL k ?_
                     unfold hoA
                     rw [if_neg (by omega), ← e, ← hu, ← hv, ← hgg]
                     first | rw [if_pos (by omega)] | rw [if_neg (by omega)])
                  | (refine cL k ?_
                     unfold hoA
                     exact if_pos (by omega))
              · refine x_lload rfl ?_
                refine x_lload rfl ?_
                refine x_ldiv (by rw [w64_R ⟨by omega, by omega⟩]; omega) ?_
                rw [ldiv_nn (by omega) (by omega)]
                refine x_goto ?_
                refine x_lret ?_
                first
                  | (exfalso; omega)
                  | (refine cL k ?_
                     unfold hoA
                     rw [if_neg (by omega), ← e, ← hu, ← hv, ← hgg]
                     first | rw [if_pos (by omega)] | rw [if_neg (by omega)])
                  | (refine cL k ?_
                     unfold hoA
                     exact if_pos (by omega))
            · refine x_lload rfl ?_
              refine x_cl ?_
              refine x_aload rfl ?_
              refine h_getR sc_94 rfl (by omega) ?_
              refine x_ci ?_
              refine h_iald sc_96 ⟨by omega, by omega⟩ (by decide) ?_
              rw [up_a (b := 96) (by decide), hs]
              refine n_i2l ⟨by omega, by omega⟩ ?_
              refine x_lsub ?_
              refine x_lmul ?_
              refine n_lstore [some (vR _), some (vI _), some (vI _), some (vL _), _, some (vL _), _, some (vI _), _] (Nat.le_of_ble_eq_true rfl) rfl ?_
              refine x_lload rfl ?_
              refine x_cl ?_
              refine x_lmul ?_
              refine n_lstore [some (vR _), some (vI _), some (vI _), some (vL _), _, some (vL _), _, some (vI _), _] (Nat.le_of_ble_eq_true rfl) rfl ?_
              refine n_iinc [some (vR _), some (vI _), some (vI _), some (vL _), _, some (vL _), _, some (vI _), _] rfl rfl ?_
              refine x_goto ?_
              refine ih (n.toNat - (j + 1)) (by omega) (j + 1) _ _ _ (by omega) (by omega) ?_ ?_
              · rw [hu]
                rfl
              · rw [hv]
                rfl
          refine L1 n.toNat 0 0 1 1 rfl (by omega) rfl rfl
        · refine x_fall ?_
          refine x_cl ?_
          refine x_lret ?_
          first
            | (exfalso; omega)
            | (refine cL k ?_
               unfold hoA
               rw [if_neg (by omega), ← e, ← hu, ← hv, ← hgg]
               first | rw [if_pos (by omega)] | rw [if_neg (by omega)])
            | (refine cL k ?_
               unfold hoA
               exact if_pos (by omega))
end HE
