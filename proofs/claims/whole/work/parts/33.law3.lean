/-! WHAT A LAW IS WORTH: the reference's walk through its knots -/
section LD
variable {d a : Nat} {h0 h : pheap} {s : St} {Q : Option pv → pheap → Prop}
/-- the reference's name of a sign -/
def chr (g : Int) : Int := if g = 0 then 262 else if g = 1 then 261 else if g = 2 then 260 else if g = 3 then 60 else if g = 4 then 256 else if g = 5 then 61 else if g = 6 then 257 else if g = 7 then 258 else if g = 8 then 62 else if g = 9 then 43 else if g = 10 then 45 else if g = 11 then 42 else 47
theorem chr_f : ∀ g : Fin 13, (chr ((g : Nat) : Int) = 42 → ((g : Nat) : Int) = 11) ∧ (chr ((g : Nat) : Int) = 43 → ((g : Nat) : Int) = 9) ∧ (chr ((g : Nat) : Int) = 45 → ((g : Nat) : Int) = 10) ∧ (chr ((g : Nat) : Int) = 47 → ((g : Nat) : Int) = 12) ∧ (chr ((g : Nat) : Int) = 60 → ((g : Nat) : Int) = 3) ∧ (chr ((g : Nat) : Int) = 61 → ((g : Nat) : Int) = 5) ∧ (chr ((g : Nat) : Int) = 62 → ((g : Nat) : Int) = 8) ∧ (chr ((g : Nat) : Int) = 256 → ((g : Nat) : Int) = 4) ∧ (chr ((g : Nat) : Int) = 257 → ((g : Nat) : Int) = 6) ∧ (chr ((g : Nat) : Int) = 258 → ((g : Nat) : Int) = 7) ∧ (chr ((g : Nat) : Int) = 261 → ((g : Nat) : Int) = 1) ∧ (chr ((g : Nat) : Int) = 260 → ((g : Nat) : Int) = 2) ∧ 42 ≤ chr ((g : Nat) : Int) ∧ chr ((g : Nat) : Int) ≤ 262 := by decide +kernel
theorem chr_is {g : Int} (hg : 0 ≤ g ∧ g ≤ 12) : (chr g = 42 → g = 11) ∧ (chr g = 43 → g = 9) ∧ (chr g = 45 → g = 10) ∧ (chr g = 47 → g = 12) ∧ (chr g = 60 → g = 3) ∧ (chr g = 61 → g = 5) ∧ (chr g = 62 → g = 8) ∧ (chr g = 256 → g = 4) ∧ (chr g = 257 → g = 6) ∧ (chr g = 258 → g = 7) ∧ (chr g = 261 → g = 1) ∧ (chr g = 260 → g = 2) ∧ 42 ≤ chr g ∧ chr g ≤ 262 := by
  have := chr_f ⟨g.toNat, by omega⟩
  simp only [Int.toNat_of_nonneg hg.1] at this
  exact this
theorem chr_0 {g : Int} (hg : 0 ≤ g ∧ g ≤ 12) (h2 : ¬ chr g = 260) (c : lswN (chr g) [42, 6, 43, 4, 45, 5, 47, 8, 60, 10, 61, 16, 62, 13, 256, 19, 257, 25, 258, 22, 261, 28]) : g = 0 := by
  have : g = 0 ∨ g = 1 ∨ g = 2 ∨ g = 3 ∨ g = 4 ∨ g = 5 ∨ g = 6 ∨ g = 7 ∨ g = 8 ∨ g = 9 ∨ g = 10 ∨ g = 11 ∨ g = 12 := by omega
  rcases this with rfl | rfl | rfl | rfl | rfl | rfl | rfl | rfl | rfl | rfl | rfl | rfl | rfl
  · rfl
  all_goals
    exfalso
    simp [lswN, chr] at c h2
theorem mul_sw {x y : Int} : (¬ y = 0 ∧ 1000000000000 / max y (-y) < max x (-x)) ↔ (¬ x = 0 ∧ 1000000000000 / max x (-x) < max y (-y)) := by
  have key : ∀ u v : Int, ¬ v = 0 → 1000000000000 / max v (-v) < max u (-u) → ¬ u = 0 ∧ 1000000000000 / max u (-u) < max v (-v) := fun u v hv h => by
    have h1 : 0 ≤ 1000000000000 / max v (-v) := Int.ediv_nonneg (by decide) (by omega)
    have hu : ¬ u = 0 := by omega
    refine ⟨hu, ?_⟩
    have h2 := (Int.ediv_lt_iff_lt_mul (show 0 < max v (-v) by omega)).mp h
    refine (Int.ediv_lt_iff_lt_mul (show 0 < max u (-u) by omega)).mpr ?_
    rw [Int.mul_comm]
    exact h2
  exact ⟨fun q => key x y q.1 q.2, fun q => key y x q.1 q.2⟩
/-- all but the row of values and its height -/
def wfr (s t : St) : Prop := ∀ (b : Nat) (r : Int), ¬ b = 105 → ¬ (b = 94 ∧ r = 26) → t b r = s b r
theorem wfr_tr {s t u : St} (h1 : wfr s t) (h2 : wfr t u) : wfr s u := fun b r q1 q2 => (h2 b r q1 q2).trans (h1 b r q1 q2)
theorem r_is {x : Int} (hx : x = 0 ∨ x = 1) (k : Q (some (vL x)) h) : wpM PP d 91 [vI x] h Q := by
  refine n_at (m := 91) (q := mr91) (kn := (1, 1)) [some (vI _)] mb91 rfl rfl rfl (Nat.le_of_ble_eq_true rfl) rfl rfl ?_
  refine x_iload rfl ?_
  refine n_if_eq ⟨by omega, by omega⟩ (fun c1 => ?_) (fun c1 => ?_)
  · refine x_cl ?_
    refine x_fall ?_
    refine x_lret ?_
    exact cL k (by omega)
  · refine x_cl ?_
    refine x_goto ?_
    refine x_lret ?_
    exact cL k (by omega)
theorem r_worksN {x : Int} {ht : Nat} (hd : 1 ≤ d) (h1 : s 94 26 = (ht : Int) + 1) (h2 : ht < 64) (hx0 : s 105 ht = x) (hb : -1000000000000 ≤ x ∧ x ≤ 1000000000000) (k : Q (some (vI 1)) (HP h0 (up s 105 ht (bI (x = 0))))) : wpM PP d 92 [vR 94, vI 260] (HP h0 s) Q := by
  refine n_at (m := 92) (q := mr92) (kn := (0, 2)) [some (vR _), some (vI _), none, none, none, none, none, none] mb92 rfl rfl (h_rcv sc_94) (Nat.le_of_ble_eq_true rfl) rfl rfl ?_
  refine x_aload rfl ?_
  refine h_getR sc_94 rfl (by omega) ?_
  refine x_aload rfl ?_
  refine h_getI 26 sc_94 rfl rfl ?_
  rw [h1]
  refine x_ci ?_
  refine x_isub ?_
  refine t_I (ht : Int) (by omega) ?_
  refine h_lald sc_105 ⟨by omega, by omega⟩ (by decide) ?_
  rw [hx0]
  refine n_lstore [some (vR _), some (vI _), some (vL _), _, _, _, _, _] (Nat.le_of_ble_eq_true rfl) rfl ?_
  refine x_iload rfl ?_
  refine x_ci ?_
  refine n_icmp_ne ⟨by omega, by omega⟩ ⟨by omega, by omega⟩ (fun c1 => ?_) (fun c1 => ?_)
  · exfalso
    omega
  · refine x_aload rfl ?_
    refine h_getR sc_94 rfl (by omega) ?_
    refine x_aload rfl ?_
    refine h_getI 26 sc_94 rfl rfl ?_
    rw [h1]
    refine x_ci ?_
    refine x_isub ?_
    refine t_I (ht : Int) (by omega) ?_
    refine x_lload rfl ?_
    refine x_cl ?_
    refine n_lif_ne ⟨by omega, by omega⟩ ⟨by omega, by omega⟩ (fun c2 => ?_) (fun c2 => ?_)
    · refine x_ci ?_
      refine x_fall ?_
      refine n_call [vI _] [vI _, vR _] (by omega) (Nat.le_of_ble_eq_true rfl) rfl rfl (Nat.le_of_ble_eq_true rfl) ?_
      refine r_is (by omega) ?_
      show wp PP _ _ _ [some (vR _), some (vI _), some (vL _), _, _, _, _, _] [vL _, vI _, vR _] _ _
      refine h_last sc_105 ⟨by omega, by omega⟩ (by decide) ?_
      refine x_ci ?_
      refine x_zret (by first | exact bI_01 _ | omega) ?_
      first
        | exact cS k (by rw [bI_t (by omega)])
        | exact cS k (by rw [bI_f (by omega)])
    · refine x_ci ?_
      refine x_goto ?_
      refine n_call [vI _] [vI _, vR _] (by omega) (Nat.le_of_ble_eq_true rfl) rfl rfl (Nat.le_of_ble_eq_true rfl) ?_
      refine r_is (by omega) ?_
      show wp PP _ _ _ [some (vR _), some (vI _), some (vL _), _, _, _, _, _] [vL _, vI _, vR _] _ _
      refine h_last sc_105 ⟨by omega, by omega⟩ (by decide) ?_
      refine x_ci ?_
      refine x_zret (by first | exact bI_01 _ | omega) ?_
      first
        | exact cS k (by rw [bI_t (by omega)])
        | exact cS k (by rw [bI_f (by omega)])
theorem r_worksB {g x y : Int} {ht : Nat} (hd : 9 ≤ d) (hg : 0 ≤ g ∧ g ≤ 12) (hg2 : ¬ g = 2) (h1 : s 94 26 = (ht : Int) + 2) (h2 : ht < 63) (hy0 : s 105 ((ht : Int) + 1) = y) (hx0 : s 105 ht = x) (hx : -1000000000000 ≤ x ∧ x ≤ 1000000000000) (hy : -1000000000000 ≤ y ∧ y ≤ 1000000000000) (k : ∀ t, wfr s t → (∀ i : Int, i < ht → t 105 i = s 105 i) → (-1000000000000 ≤ jn g x y ∧ jn g x y ≤ 1000000000000 → t 105 ht = jn g x y ∧ t 94 26 = (ht : Int) + 1) → Q (some (vI (bI (-1000000000000 ≤ jn g x y ∧ jn g x y ≤ 1000000000000)))) (HP h0 t)) : wpM PP d 92 [vR 94, vI (chr g)] (HP h0 s) Q := by
  refine n_at (m := 92) (q := mr92) (kn := (0, 2)) [some (vR _), some (vI _), none, none, none, none, none, none] mb92 rfl rfl (h_rcv sc_94) (Nat.le_of_ble_eq_true rfl) rfl rfl ?_
  refine x_aload rfl ?_
  refine h_getR sc_94 rfl (by omega) ?_
  refine x_aload rfl ?_
  refine h_getI 26 sc_94 rfl rfl ?_
  rw [h1]
  refine x_ci ?_
  refine x_isub ?_
  refine t_I ((ht : Int) + 1) (by omega) ?_
  refine h_lald sc_105 ⟨by omega, by omega⟩ (by decide) ?_
  rw [hy0]
  refine n_lstore [some (vR _), some (vI _), some (vL _), _, _, _, _, _] (Nat.le_of_ble_eq_true rfl) rfl ?_
  have cr := fun (_ : True) => chr_is hg
  have cr2 : 42 ≤ chr g ∧ chr g ≤ 262 := (cr trivial).2.2.2.2.2.2.2.2.2.2.2.2
  refine x_iload rfl ?_
  refine x_ci ?_
  refine n_icmp_ne ⟨by omega, by omega⟩ ⟨by omega, by omega⟩ (fun c1 => ?_) (fun c1 => ?_)
  · refine x_aload rfl ?_
    refine h_getR sc_94 rfl (by omega) ?_
    refine x_aload rfl ?_
    refine h_getI 26 sc_94 rfl rfl ?_
    rw [h1]
    refine x_ci ?_
    refine x_isub ?_
    refine t_I (ht : Int) (by omega) ?_
    refine h_lald sc_105 ⟨by omega, by omega⟩ (by decide) ?_
    rw [hx0]
    refine n_lstore [some (vR _), some (vI _), some (vL _), _, some (vL _), _, _, _] (Nat.le_of_ble_eq_true rfl) rfl ?_
    refine x_aload rfl ?_
    refine x_dupR ?_
    refine h_getI 26 sc_94 rfl rfl ?_
    rw [h1]
    refine x_ci ?_
    refine x_isub ?_
    refine t_I ((ht : Int) + 1) (by omega) ?_
    refine h_putI 26 sc_94 rfl rfl ?_
    refine x_iload rfl ?_
    refine n_lsw ⟨by omega, by omega⟩ (fun c2 => ?_) (And.intro (fun c2 => ?_) (And.intro (fun c2 => ?_) (And.intro (fun c2 => ?_) (And.intro (fun c2 => ?_) (And.intro (fun c2 => ?_) (And.intro (fun c2 => ?_) (And.intro (fun c2 => ?_) (And.intro (fun c2 => ?_) (And.intro (fun c2 => ?_) (And.intro (fun c2 => ?_) (And.intro (fun c2 => ?_) trivial)))))))))))
    · have ge : g = 0 := chr_0 hg c1 c2
      refine x_lload rfl ?_
      refine x_cl ?_
      refine n_lif_ne ⟨by omega, by omega⟩ ⟨by omega, by omega⟩ (fun c3 => ?_) (fun c3 => ?_)
      · refine x_ci ?_
        refine x_goto ?_
        refine n_call [vI _] [] (by omega) (Nat.le_of_ble_eq_true rfl) rfl rfl (Nat.le_of_ble_eq_true rfl) ?_
        refine r_is (by omega) ?_
        show wp PP _ _ _ [some (vR _), some (vI _), some (vL _), _, some (vL _), _, _, _] [vL _] _ _
        refine t_L (jn g x y) (by rw [ge, jn_0]; first | exact (bI_t (by omega)).symm | exact (bI_f (by omega)).symm) ?_
        refine n_lstore [some (vR _), some (vI _), some (vL _), _, some (vL _), _, some (vL _), _] (Nat.le_of_ble_eq_true rfl) rfl ?_
        refine x_fall ?_
        have jr := jn_R (g := g) hx hy
        refine x_aload rfl ?_
        refine h_getR sc_94 rfl (by omega) ?_
        refine x_aload rfl ?_
        refine h_getI 26 sc_94 rfl rfl ?_
        rw [up_e]
        refine x_ci ?_
        refine x_isub ?_
        refine t_I (ht : Int) (by omega) ?_
        refine x_lload rfl ?_
        refine h_last sc_105 ⟨by omega, by omega⟩ (by decide) ?_
        refine x_lload rfl ?_
        refine x_cl ?_
        refine n_lif_gt ⟨by omega, by omega⟩ ⟨by omega, by omega⟩ (fun c4 => ?_) (fun c4 => ?_)
        · refine x_ci ?_
          refine x_fall ?_
          refine x_zret (by first | exact bI_01 _ | omega) ?_
          first
            | (refine cB1 (k _ (fun b2 r2 w1 w2 => ?_) (fun i0 i1 => ?_) (fun _ => ⟨?_, ?_⟩)) ⟨by omega, by omega⟩
               · simp only [up]
                 repeat rw [if_neg (by omega)]
               · simp only [up]
                 repeat rw [if_neg (by omega)]
               · rw [up_e]
               · rw [up_a (by decide), up_e])
            | (refine cB0 (k _ (fun b2 r2 w1 w2 => ?_) (fun i0 i1 => ?_) (fun q => absurd q (by omega))) (by omega)
               all_goals
                 simp only [up]
                 repeat rw [if_neg (by omega)])
            | (have je : jn g x y = -9223372036854775808 := by
                 first
                   | rw [ge, jn_11, if_pos (mul_sw.mpr ⟨by omega, by omega⟩)]
                   | rw [ge, jn_12, if_pos (by omega)]
               refine cB0 (k _ (fun b2 r2 w1 w2 => ?_) (fun i0 i1 => ?_) (fun q => absurd q (by omega))) (by omega)
               all_goals
                 simp only [up]
                 repeat rw [if_neg (by omega)])
        · refine x_lload rfl ?_
          refine x_cl ?_
          refine n_lif_lt ⟨by omega, by omega⟩ ⟨by omega, by omega⟩ (fun c5 => ?_) (fun c5 => ?_)
          · refine x_ci ?_
            refine x_fall ?_
            refine x_zret (by first | exact bI_01 _ | omega) ?_
            first
              | (refine cB1 (k _ (fun b2 r2 w1 w2 => ?_) (fun i0 i1 => ?_) (fun _ => ⟨?_, ?_⟩)) ⟨by omega, by omega⟩
                 · simp only [up]
                   repeat rw [if_neg (by omega)]
                 · simp only [up]
                   repeat rw [if_neg (by omega)]
                 · rw [up_e]
                 · rw [up_a (by decide), up_e])
              | (refine cB0 (k _ (fun b2 r2 w1 w2 => ?_) (fun i0 i1 => ?_) (fun q => absurd q (by omega))) (by omega)
                 all_goals
                   simp only [up]
                   repeat rw [if_neg (by omega)])
              | (have je : jn g x y = -9223372036854775808 := by
                   first
                     | rw [ge, jn_11, if_pos (mul_sw.mpr ⟨by omega, by omega⟩)]
                     | rw [ge, jn_12, if_pos (by omega)]
                 refine cB0 (k _ (fun b2 r2 w1 w2 => ?_) (fun i0 i1 => ?_) (fun q => absurd q (by omega))) (by omega)
                 all_goals
                   simp only [up]
                   repeat rw [if_neg (by omega)])
          · refine x_ci ?_
            refine x_goto ?_
            refine x_zret (by first | exact bI_01 _ | omega) ?_
            first
              | (refine cB1 (k _ (fun b2 r2 w1 w2 => ?_) (fun i0 i1 => ?_) (fun _ => ⟨?_, ?_⟩)) ⟨by omega, by omega⟩
                 · simp only [up]
                   repeat rw [if_neg (by omega)]
                 · simp only [up]
                   repeat rw [if_neg (by omega)]
                 · rw [up_e]
                 · rw [up_a (by decide), up_e])
              | (refine cB0 (k _ (fun b2 r2 w1 w2 => ?_) (fun i0 i1 => ?_) (fun q => absurd q (by omega))) (by omega)
                 all_goals
                   simp only [up]
                   repeat rw [if_neg (by omega)])
              | (have je : jn g x y = -9223372036854775808 := by
                   first
                     | rw [ge, jn_11, if_pos (mul_sw.mpr ⟨by omega, by omega⟩)]
                     | rw [ge, jn_12, if_pos (by omega)]
                 refine cB0 (k _ (fun b2 r2 w1 w2 => ?_) (fun i0 i1 => ?_) (fun q => absurd q (by omega))) (by omega)
                 all_goals
                   simp only [up]
                   repeat rw [if_neg (by omega)])
      · refine x_lload rfl ?_
        refine x_cl ?_
        refine n_lif_eq ⟨by omega, by omega⟩ ⟨by omega, by omega⟩ (fun c4 => ?_) (fun c4 => ?_)
        · refine x_ci ?_
          refine x_fall ?_
          refine n_call [vI _] [] (by omega) (Nat.le_of_ble_eq_true rfl) rfl rfl (Nat.le_of_ble_eq_true rfl) ?_
          refine r_is (by omega) ?_
          show wp PP _ _ _ [some (vR _), some (vI _), some (vL _), _, some (vL _), _, _, _] [vL _] _ _
          refine t_L (jn g x y) (by rw [ge, jn_0]; first | exact (bI_t (by omega)).symm | exact (bI_f (by omega)).symm) ?_
          refine n_lstore [some (vR _), some (vI _), some (vL _), _, some (vL _), _, some (vL _), _] (Nat.le_of_ble_eq_true rfl) rfl ?_
          refine x_fall ?_
          have jr := jn_R (g := g) hx hy
          refine x_aload rfl ?_
          refine h_getR sc_94 rfl (by omega) ?_
          refine x_aload rfl ?_
          refine h_getI 26 sc_94 rfl rfl ?_
          rw [up_e]
          refine x_ci ?_
          refine x_isub ?_
          refine t_I (ht : Int) (by omega) ?_
          refine x_lload rfl ?_
          refine h_last sc_105 ⟨by omega, by omega⟩ (by decide) ?_
          refine x_lload rfl ?_
          refine x_cl ?_
          refine n_lif_gt ⟨by omega, by omega⟩ ⟨by omega, by omega⟩ (fun c5 => ?_) (fun c5 => ?_)
          · refine x_ci ?_
            refine x_fall ?_
            refine x_zret (by first | exact bI_01 _ | omega) ?_
            first
              | (refine cB1 (k _ (fun b2 r2 w1 w2 => ?_) (fun i0 i1 => ?_) (fun _ => ⟨?_, ?_⟩)) ⟨by omega, by omega⟩
                 · simp only [up]
                   repeat rw [if_neg (by omega)]
                 · simp only [up]
                   repeat rw [if_neg (by omega)]
                 · rw [up_e]
                 · rw [up_a (by decide), up_e])
              | (refine cB0 (k _ (fun b2 r2 w1 w2 => ?_) (fun i0 i1 => ?_) (fun q => absurd q (by omega))) (by omega)
                 all_goals
                   simp only [up]
                   repeat rw [if_neg (by omega)])
              | (have je : jn g x y = -9223372036854775808 := by
                   first
                     | rw [ge, jn_11, if_pos (mul_sw.mpr ⟨by omega, by omega⟩)]
                     | rw [ge, jn_12, if_pos (by omega)]
                 refine cB0 (k _ (fun b2 r2 w1 w2 => ?_) (fun i0 i1 => ?_) (fun q => absurd q (by omega))) (by omega)
                 all_goals
                   simp only [up]
                   repeat rw [if_neg (by omega)])
          · refine x_lload rfl ?_
            refine x_cl ?_
            refine n_lif_lt ⟨by omega, by omega⟩ ⟨by omega, by omega⟩ (fun c6 => ?_) (fun c6 => ?_)
            · refine x_ci ?_
              refine x_fall ?_
              refine x_zret (by first | exact bI_01 _ | omega) ?_
              first
                | (refine cB1 (k _ (fun b2 r2 w1 w2 => ?_) (fun i0 i1 => ?_) (fun _ => ⟨?_, ?_⟩)) ⟨by omega, by omega⟩
                   · simp only [up]
                     repeat rw [if_neg (by omega)]
                   · simp only [up]
                     repeat rw [if_neg (by omega)]
                   · rw [up_e]
                   · rw [up_a (by decide), up_e])
                | (refine cB0 (k _ (fun b2 r2 w1 w2 => ?_) (fun i0 i1 => ?_) (fun q => absurd q (by omega))) (by omega)
                   all_goals
                     simp only [up]
                     repeat rw [if_neg (by omega)])
                | (have je : jn g x y = -9223372036854775808 := by
                     first
                       | rw [ge, jn_11, if_pos (mul_sw.mpr ⟨by omega, by omega⟩)]
                       | rw [ge, jn_12, if_pos (by omega)]
                   refine cB0 (k _ (fun b2 r2 w1 w2 => ?_) (fun i0 i1 => ?_) (fun q => absurd q (by omega))) (by omega)
                   all_goals
                     simp only [up]
                     repeat rw [if_neg (by omega)])
            · refine x_ci ?_
              refine x_goto ?_
              refine x_zret (by first | exact bI_01 _ | omega) ?_
              first
                | (refine cB1 (k _ (fun b2 r2 w1 w2 => ?_) (fun i0 i1 => ?_) (fun _ => ⟨?_, ?_⟩)) ⟨by omega, by omega⟩
                   · simp only [up]
                     repeat rw [if_neg (by omega)]
                   · simp only [up]
                     repeat rw [if_neg (by omega)]
                   · rw [up_e]
                   · rw [up_a (by decide), up_e])
                | (refine cB0 (k _ (fun b2 r2 w1 w2 => ?_) (fun i0 i1 => ?_) (fun q => absurd q (by omega))) (by omega)
                   all_goals
                     simp only [up]
                     repeat rw [if_neg (by omega)])
                | (have je : jn g x y = -9223372036854775808 := by
                     first
                       | rw [ge, jn_11, if_pos (mul_sw.mpr ⟨by omega, by omega⟩)]
                       | rw [ge, jn_12, if_pos (by omega)]
                   refine cB0 (k _ (fun b2 r2 w1 w2 => ?_) (fun i0 i1 => ?_) (fun q => absurd q (by omega))) (by omega)
                   all_goals
                     simp only [up]
                     repeat rw [if_neg (by omega)])
        · refine x_fall ?_
          refine x_ci ?_
          refine x_goto ?_
          refine n_call [vI _] [] (by omega) (Nat.le_of_ble_eq_true rfl) rfl rfl (Nat.le_of_ble_eq_true rfl) ?_
          refine r_is (by omega) ?_
          show wp PP _ _ _ [some (vR _), some (vI _), some (vL _), _, some (vL _), _, _, _] [vL _] _ _
          refine t_L (jn g x y) (by rw [ge, jn_0]; first | exact (bI_t (by omega)).symm | exact (bI_f (by omega)).symm) ?_
          refine n_lstore [some (vR _), some (vI _), some (vL _), _, some (vL _), _, some (vL _), _] (Nat.le_of_ble_eq_true rfl) rfl ?_
          refine x_fall ?_
          have jr := jn_R (g := g) hx hy
          refine x_aload rfl ?_
          refine h_getR sc_94 rfl (by omega) ?_
          refine x_aload rfl ?_
          refine h_getI 26 sc_94 rfl rfl ?_
          rw [up_e]
          refine x_ci ?_
          refine x_isub ?_
          refine t_I (ht : Int) (by omega) ?_
          refine x_lload rfl ?_
          refine h_last sc_105 ⟨by omega, by omega⟩ (by decide) ?_
          refine x_lload rfl ?_
          refine x_cl ?_
          refine n_lif_gt ⟨by omega, by omega⟩ ⟨by omega, by omega⟩ (fun c5 => ?_) (fun c5 => ?_)
          · refine x_ci ?_
            refine x_fall ?_
            refine x_zret (by first | exact bI_01 _ | omega) ?_
            first
              | (refine cB1 (k _ (fun b2 r2 w1 w2 => ?_) (fun i0 i1 => ?_) (fun _ => ⟨?_, ?_⟩)) ⟨by omega, by omega⟩
                 · simp only [up]
                   repeat rw [if_neg (by omega)]
                 · simp only [up]
                   repeat rw [if_neg (by omega)]
                 · rw [up_e]
                 · rw [up_a (by decide), up_e])
              | (refine cB0 (k _ (fun b2 r2 w1 w2 => ?_) (fun i0 i1 => ?_) (fun q => absurd q (by omega))) (by omega)
                 all_goals
                   simp only [up]
                   repeat rw [if_neg (by omega)])
              | (have je : jn g x y = -9223372036854775808 := by
                   first
                     | rw [ge, jn_11, if_pos (mul_sw.mpr ⟨by omega, by omega⟩)]
                     | rw [ge, jn_12, if_pos (by omega)]
                 refine cB0 (k _ (fun b2 r2 w1 w2 => ?_) (fun i0 i1 => ?_) (fun q => absurd q (by omega))) (by omega)
                 all_goals
                   simp only [up]
                   repeat rw [if_neg (by omega)])
          · refine x_lload rfl ?_
            refine x_cl ?_
            refine n_lif_lt ⟨by omega, by omega⟩ ⟨by omega, by omega⟩ (fun c6 => ?_) (fun c6 => ?_)
            · refine x_ci ?_
              refine x_fall ?_
              refine x_zret (by first | exact bI_01 _ | omega) ?_
              first
                | (refine cB1 (k _ (fun b2 r2 w1 w2 => ?_) (fun i0 i1 => ?_) (fun _ => ⟨?_, ?_⟩)) ⟨by omega, by omega⟩
                   · simp only [up]
                     repeat rw [if_neg (by omega)]
                   · simp only [up]
                     repeat rw [if_neg (by omega)]
                   · rw [up_e]
                   · rw [up_a (by decide), up_e])
                | (refine cB0 (k _ (fun b2 r2 w1 w2 => ?_) (fun i0 i1 => ?_) (fun q => absurd q (by omega))) (by omega)
                   all_goals
                     simp only [up]
                     repeat rw [if_neg (by omega)])
                | (have je : jn g x y = -9223372036854775808 := by
                     first
                       | rw [ge, jn_11, if_pos (mul_sw.mpr ⟨by omega, by omega⟩)]
                       | rw [ge, jn_12, if_pos (by omega)]
                   refine cB0 (k _ (fun b2 r2 w1 w2 => ?_) (fun i0 i1 => ?_) (fun q => absurd q (by omega))) (by omega)
                   all_goals
                     simp only [up]
                     repeat rw [if_neg (by omega)])
            · refine x_ci ?_
              refine x_goto ?_
              refine x_zret (by first | exact bI_01 _ | omega) ?_
              first
                | (refine cB1 (k _ (fun b2 r2 w1 w2 => ?_) (fun i0 i1 => ?_) (fun _ => ⟨?_, ?_⟩)) ⟨by omega, by omega⟩
                   · simp only [up]
                     repeat rw [if_neg (by omega)]
                   · simp only [up]
                     repeat rw [if_neg (by omega)]
                   · rw [up_e]
                   · rw [up_a (by decide), up_e])
                | (refine cB0 (k _ (fun b2 r2 w1 w2 => ?_) (fun i0 i1 => ?_) (fun q => absurd q (by omega))) (by omega)
                   all_goals
                     simp only [up]
                     repeat rw [if_neg (by omega)])
                | (have je : jn g x y = -9223372036854775808 := by
                     first
                       | rw [ge, jn_11, if_pos (mul_sw.mpr ⟨by omega, by omega⟩)]
                       | rw [ge, jn_12, if_pos (by omega)]
                   refine cB0 (k _ (fun b2 r2 w1 w2 => ?_) (fun i0 i1 => ?_) (fun q => absurd q (by omega))) (by omega)
                   all_goals
                     simp only [up]
                     repeat rw [if_neg (by omega)])
    · have ge : g = 11 := (cr trivial).1 c2
      refine x_lload rfl ?_
      refine x_cl ?_
      refine n_lif_eq ⟨by omega, by omega⟩ ⟨by omega, by omega⟩ (fun c3 => ?_) (fun c3 => ?_)
      · refine x_lload rfl ?_
        refine x_lload rfl ?_
        refine x_lmul ?_
        refine t_L (jn g x y) (by rw [ge, jn_11, if_neg (fun q => by have := mul_sw.mp q; omega)]) ?_
        refine n_lstore [some (vR _), some (vI _), some (vL _), _, some (vL _), _, some (vL _), _] (Nat.le_of_ble_eq_true rfl) rfl ?_
        refine x_goto ?_
        have jr := jn_R (g := g) hx hy
        refine x_aload rfl ?_
        refine h_getR sc_94 rfl (by omega) ?_
        refine x_aload rfl ?_
        refine h_getI 26 sc_94 rfl rfl ?_
        rw [up_e]
        refine x_ci ?_
        refine x_isub ?_
        refine t_I (ht : Int) (by omega) ?_
        refine x_lload rfl ?_
        refine h_last sc_105 ⟨by omega, by omega⟩ (by decide) ?_
        refine x_lload rfl ?_
        refine x_cl ?_
        refine n_lif_gt ⟨by omega, by omega⟩ ⟨by omega, by omega⟩ (fun c4 => ?_) (fun c4 => ?_)
        · refine x_ci ?_
          refine x_fall ?_
          refine x_zret (by first | exact bI_01 _ | omega) ?_
          first
            | (refine cB1 (k _ (fun b2 r2 w1 w2 => ?_) (fun i0 i1 => ?_) (fun _ => ⟨?_, ?_⟩)) ⟨by omega, by omega⟩
               · simp only [up]
                 repeat rw [if_neg (by omega)]
               · simp only [up]
                 repeat rw [if_neg (by omega)]
               · rw [up_e]
               · rw [up_a (by decide), up_e])
            | (refine cB0 (k _ (fun b2 r2 w1 w2 => ?_) (fun i0 i1 => ?_) (fun q => absurd q (by omega))) (by omega)
               all_goals
                 simp only [up]
                 repeat rw [if_neg (by omega)])
            | (have je : jn g x y = -9223372036854775808 := by
                 first
                   | rw [ge, jn_11, if_pos (mul_sw.mpr ⟨by omega, by omega⟩)]
                   | rw [ge, jn_12, if_pos (by omega)]
               refine cB0 (k _ (fun b2 r2 w1 w2 => ?_) (fun i0 i1 => ?_) (fun q => absurd q (by omega))) (by omega)
               all_goals
                 simp only [up]
                 repeat rw [if_neg (by omega)])
        · refine x_lload rfl ?_
          refine x_cl ?_
          refine n_lif_lt ⟨by omega, by omega⟩ ⟨by omega, by omega⟩ (fun c5 => ?_) (fun c5 => ?_)
          · refine x_ci ?_
            refine x_fall ?_
            refine x_zret (by first | exact bI_01 _ | omega) ?_
            first
              | (refine cB1 (k _ (fun b2 r2 w1 w2 => ?_) (fun i0 i1 => ?_) (fun _ => ⟨?_, ?_⟩)) ⟨by omega, by omega⟩
                 · simp only [up]
                   repeat rw [if_neg (by omega)]
                 · simp only [up]
                   repeat rw [if_neg (by omega)]
                 · rw [up_e]
                 · rw [up_a (by decide), up_e])
              | (refine cB0 (k _ (fun b2 r2 w1 w2 => ?_) (fun i0 i1 => ?_) (fun q => absurd q (by omega))) (by omega)
                 all_goals
                   simp only [up]
                   repeat rw [if_neg (by omega)])
              | (have je : jn g x y = -9223372036854775808 := by
                   first
                     | rw [ge, jn_11, if_pos (mul_sw.mpr ⟨by omega, by omega⟩)]
                     | rw [ge, jn_12, if_pos (by omega)]
                 refine cB0 (k _ (fun b2 r2 w1 w2 => ?_) (fun i0 i1 => ?_) (fun q => absurd q (by omega))) (by omega)
                 all_goals
                   simp only [up]
                   repeat rw [if_neg (by omega)])
          · refine x_ci ?_
            refine x_goto ?_
            refine x_zret (by first | exact bI_01 _ | omega) ?_
            first
              | (refine cB1 (k _ (fun b2 r2 w1 w2 => ?_) (fun i0 i1 => ?_) (fun _ => ⟨?_, ?_⟩)) ⟨by omega, by omega⟩
                 · simp only [up]
                   repeat rw [if_neg (by omega)]
                 · simp only [up]
                   repeat rw [if_neg (by omega)]
                 · rw [up_e]
                 · rw [up_a (by decide), up_e])
              | (refine cB0 (k _ (fun b2 r2 w1 w2 => ?_) (fun i0 i1 => ?_) (fun q => absurd q (by omega))) (by omega)
                 all_goals
                   simp only [up]
                   repeat rw [if_neg (by omega)])
              | (have je : jn g x y = -9223372036854775808 := by
                   first
                     | rw [ge, jn_11, if_pos (mul_sw.mpr ⟨by omega, by omega⟩)]
                     | rw [ge, jn_12, if_pos (by omega)]
                 refine cB0 (k _ (fun b2 r2 w1 w2 => ?_) (fun i0 i1 => ?_) (fun q => absurd q (by omega))) (by omega)
                 all_goals
                   simp only [up]
                   repeat rw [if_neg (by omega)])
      · refine x_lload rfl ?_
        refine n_labs ⟨by omega, by omega⟩ (by omega) (Nat.le_of_ble_eq_true rfl) ?_
        refine x_cl ?_
        refine x_lload rfl ?_
        refine n_labs ⟨by omega, by omega⟩ (by omega) (Nat.le_of_ble_eq_true rfl) ?_
        refine x_ldiv (by rw [w64_R ⟨by omega, by omega⟩]; omega) ?_
        rw [ldiv_nn (by omega) (by omega)]
        have hq1 : 0 ≤ 1000000000000 / max x (-x) := Int.ediv_nonneg (by decide) (by omega)
        have hq2 : 1000000000000 / max x (-x) ≤ 1000000000000 := Int.ediv_le_self _ (by decide)
        refine n_lif_le ⟨by omega, by omega⟩ ⟨by omega, by omega⟩ (fun c4 => ?_) (fun c4 => ?_)
        · refine x_lload rfl ?_
          refine x_lload rfl ?_
          refine x_lmul ?_
          refine t_L (jn g x y) (by rw [ge, jn_11, if_neg (fun q => by have := mul_sw.mp q; omega)]) ?_
          refine n_lstore [some (vR _), some (vI _), some (vL _), _, some (vL _), _, some (vL _), _] (Nat.le_of_ble_eq_true rfl) rfl ?_
          refine x_goto ?_
          have jr := jn_R (g := g) hx hy
          refine x_aload rfl ?_
          refine h_getR sc_94 rfl (by omega) ?_
          refine x_aload rfl ?_
          refine h_getI 26 sc_94 rfl rfl ?_
          rw [up_e]
          refine x_ci ?_
          refine x_isub ?_
          refine t_I (ht : Int) (by omega) ?_
          refine x_lload rfl ?_
          refine h_last sc_105 ⟨by omega, by omega⟩ (by decide) ?_
          refine x_lload rfl ?_
          refine x_cl ?_
          refine n_lif_gt ⟨by omega, by omega⟩ ⟨by omega, by omega⟩ (fun c5 => ?_) (fun c5 => ?_)
          · refine x_ci ?_
            refine x_fall ?_
            refine x_zret (by first | exact bI_01 _ | omega) ?_
            first
              | (refine cB1 (k _ (fun b2 r2 w1 w2 => ?_) (fun i0 i1 => ?_) (fun _ => ⟨?_, ?_⟩)) ⟨by omega, by omega⟩
                 · simp only [up]
                   repeat rw [if_neg (by omega)]
                 · simp only [up]
                   repeat rw [if_neg (by omega)]
                 · rw [up_e]
                 · rw [up_a (by decide), up_e])
              | (refine cB0 (k _ (fun b2 r2 w1 w2 => ?_) (fun i0 i1 => ?_) (fun q => absurd q (by omega))) (by omega)
                 all_goals
                   simp only [up]
                   repeat rw [if_neg (by omega)])
              | (have je : jn g x y = -9223372036854775808 := by
                   first
                     | rw [ge, jn_11, if_pos (mul_sw.mpr ⟨by omega, by omega⟩)]
                     | rw [ge, jn_12, if_pos (by omega)]
                 refine cB0 (k _ (fun b2 r2 w1 w2 => ?_) (fun i0 i1 => ?_) (fun q => absurd q (by omega))) (by omega)
                 all_goals
                   simp only [up]
                   repeat rw [if_neg (by omega)])
          · refine x_lload rfl ?_
            refine x_cl ?_
            refine n_lif_lt ⟨by omega, by omega⟩ ⟨by omega, by omega⟩ (fun c6 => ?_) (fun c6 => ?_)
            · refine x_ci ?_
              refine x_fall ?_
              refine x_zret (by first | exact bI_01 _ | omega) ?_
              first
                | (refine cB1 (k _ (fun b2 r2 w1 w2 => ?_) (fun i0 i1 => ?_) (fun _ => ⟨?_, ?_⟩)) ⟨by omega, by omega⟩
                   · simp only [up]
                     repeat rw [if_neg (by omega)]
                   · simp only [up]
                     repeat rw [if_neg (by omega)]
                   · rw [up_e]
                   · rw [up_a (by decide), up_e])
                | (refine cB0 (k _ (fun b2 r2 w1 w2 => ?_) (fun i0 i1 => ?_) (fun q => absurd q (by omega))) (by omega)
                   all_goals
                     simp only [up]
                     repeat rw [if_neg (by omega)])
                | (have je : jn g x y = -9223372036854775808 := by
                     first
                       | rw [ge, jn_11, if_pos (mul_sw.mpr ⟨by omega, by omega⟩)]
                       | rw [ge, jn_12, if_pos (by omega)]
                   refine cB0 (k _ (fun b2 r2 w1 w2 => ?_) (fun i0 i1 => ?_) (fun q => absurd q (by omega))) (by omega)
                   all_goals
                     simp only [up]
                     repeat rw [if_neg (by omega)])
            · refine x_ci ?_
              refine x_goto ?_
              refine x_zret (by first | exact bI_01 _ | omega) ?_
              first
                | (refine cB1 (k _ (fun b2 r2 w1 w2 => ?_) (fun i0 i1 => ?_) (fun _ => ⟨?_, ?_⟩)) ⟨by omega, by omega⟩
                   · simp only [up]
                     repeat rw [if_neg (by omega)]
                   · simp only [up]
                     repeat rw [if_neg (by omega)]
                   · rw [up_e]
                   · rw [up_a (by decide), up_e])
                | (refine cB0 (k _ (fun b2 r2 w1 w2 => ?_) (fun i0 i1 => ?_) (fun q => absurd q (by omega))) (by omega)
                   all_goals
                     simp only [up]
                     repeat rw [if_neg (by omega)])
                | (have je : jn g x y = -9223372036854775808 := by
                     first
                       | rw [ge, jn_11, if_pos (mul_sw.mpr ⟨by omega, by omega⟩)]
                       | rw [ge, jn_12, if_pos (by omega)]
                   refine cB0 (k _ (fun b2 r2 w1 w2 => ?_) (fun i0 i1 => ?_) (fun q => absurd q (by omega))) (by omega)
                   all_goals
                     simp only [up]
                     repeat rw [if_neg (by omega)])
        · refine x_ci ?_
          refine x_zret (by first | exact bI_01 _ | omega) ?_
          first
            | (refine cB1 (k _ (fun b2 r2 w1 w2 => ?_) (fun i0 i1 => ?_) (fun _ => ⟨?_, ?_⟩)) ⟨by omega, by omega⟩
               · simp only [up]
                 repeat rw [if_neg (by omega)]
               · simp only [up]
                 repeat rw [if_neg (by omega)]
               · rw [up_e]
               · rw [up_a (by decide), up_e])
            | (refine cB0 (k _ (fun b2 r2 w1 w2 => ?_) (fun i0 i1 => ?_) (fun q => absurd q (by omega))) (by omega)
               all_goals
                 simp only [up]
                 repeat rw [if_neg (by omega)])
            | (have je : jn g x y = -9223372036854775808 := by
                 first
                   | rw [ge, jn_11, if_pos (mul_sw.mpr ⟨by omega, by omega⟩)]
                   | rw [ge, jn_12, if_pos (by omega)]
               refine cB0 (k _ (fun b2 r2 w1 w2 => ?_) (fun i0 i1 => ?_) (fun q => absurd q (by omega))) (by omega)
               all_goals
                 simp only [up]
                 repeat rw [if_neg (by omega)])
    · have ge : g = 9 := (cr trivial).2.1 c2
      refine x_lload rfl ?_
      refine x_lload rfl ?_
      refine x_ladd ?_
      refine t_L (jn g x y) (by rw [ge, jn_9]) ?_
      refine n_lstore [some (vR _), some (vI _), some (vL _), _, some (vL _), _, some (vL _), _] (Nat.le_of_ble_eq_true rfl) rfl ?_
      refine x_goto ?_
      have jr := jn_R (g := g) hx hy
      refine x_aload rfl ?_
      refine h_getR sc_94 rfl (by omega) ?_
      refine x_aload rfl ?_
      refine h_getI 26 sc_94 rfl rfl ?_
      rw [up_e]
      refine x_ci ?_
      refine x_isub ?_
      refine t_I (ht : Int) (by omega) ?_
      refine x_lload rfl ?_
      refine h_last sc_105 ⟨by omega, by omega⟩ (by decide) ?_
      refine x_lload rfl ?_
      refine x_cl ?_
      refine n_lif_gt ⟨by omega, by omega⟩ ⟨by omega, by omega⟩ (fun c3 => ?_) (fun c3 => ?_)
      · refine x_ci ?_
        refine x_fall ?_
        refine x_zret (by first | exact bI_01 _ | omega) ?_
        first
          | (refine cB1 (k _ (fun b2 r2 w1 w2 => ?_) (fun i0 i1 => ?_) (fun _ => ⟨?_, ?_⟩)) ⟨by omega, by omega⟩
             · simp only [up]
               repeat rw [if_neg (by omega)]
             · simp only [up]
               repeat rw [if_neg (by omega)]
             · rw [up_e]
             · rw [up_a (by decide), up_e])
          | (refine cB0 (k _ (fun b2 r2 w1 w2 => ?_) (fun i0 i1 => ?_) (fun q => absurd q (by omega))) (by omega)
             all_goals
               simp only [up]
               repeat rw [if_neg (by omega)])
          | (have je : jn g x y = -9223372036854775808 := by
               first
                 | rw [ge, jn_11, if_pos (mul_sw.mpr ⟨by omega, by omega⟩)]
                 | rw [ge, jn_12, if_pos (by omega)]
             refine cB0 (k _ (fun b2 r2 w1 w2 => ?_) (fun i0 i1 => ?_) (fun q => absurd q (by omega))) (by omega)
             all_goals
               simp only [up]
               repeat rw [if_neg (by omega)])
      · refine x_lload rfl ?_
        refine x_cl ?_
        refine n_lif_lt ⟨by omega, by omega⟩ ⟨by omega, by omega⟩ (fun c4 => ?_) (fun c4 => ?_)
        · refine x_ci ?_
          refine x_fall ?_
          refine x_zret (by first | exact bI_01 _ | omega) ?_
          first
            | (refine cB1 (k _ (fun b2 r2 w1 w2 => ?_) (fun i0 i1 => ?_) (fun _ => ⟨?_, ?_⟩)) ⟨by omega, by omega⟩
               · simp only [up]
                 repeat rw [if_neg (by omega)]
               · simp only [up]
                 repeat rw [if_neg (by omega)]
               · rw [up_e]
               · rw [up_a (by decide), up_e])
            | (refine cB0 (k _ (fun b2 r2 w1 w2 => ?_) (fun i0 i1 => ?_) (fun q => absurd q (by omega))) (by omega)
               all_goals
                 simp only [up]
                 repeat rw [if_neg (by omega)])
            | (have je : jn g x y = -9223372036854775808 := by
                 first
                   | rw [ge, jn_11, if_pos (mul_sw.mpr ⟨by omega, by omega⟩)]
                   | rw [ge, jn_12, if_pos (by omega)]
               refine cB0 (k _ (fun b2 r2 w1 w2 => ?_) (fun i0 i1 => ?_) (fun q => absurd q (by omega))) (by omega)
               all_goals
                 simp only [up]
                 repeat rw [if_neg (by omega)])
        · refine x_ci ?_
          refine x_goto ?_
          refine x_zret (by first | exact bI_01 _ | omega) ?_
          first
            | (refine cB1 (k _ (fun b2 r2 w1 w2 => ?_) (fun i0 i1 => ?_) (fun _ => ⟨?_, ?_⟩)) ⟨by omega, by omega⟩
               · simp only [up]
                 repeat rw [if_neg (by omega)]
               · simp only [up]
                 repeat rw [if_neg (by omega)]
               · rw [up_e]
               · rw [up_a (by decide), up_e])
            | (refine cB0 (k _ (fun b2 r2 w1 w2 => ?_) (fun i0 i1 => ?_) (fun q => absurd q (by omega))) (by omega)
               all_goals
                 simp only [up]
                 repeat rw [if_neg (by omega)])
            | (have je : jn g x y = -9223372036854775808 := by
                 first
                   | rw [ge, jn_11, if_pos (mul_sw.mpr ⟨by omega, by omega⟩)]
                   | rw [ge, jn_12, if_pos (by omega)]
               refine cB0 (k _ (fun b2 r2 w1 w2 => ?_) (fun i0 i1 => ?_) (fun q => absurd q (by omega))) (by omega)
               all_goals
                 simp only [up]
                 repeat rw [if_neg (by omega)])
    · have ge : g = 10 := (cr trivial).2.2.1 c2
      refine x_lload rfl ?_
      refine x_lload rfl ?_
      refine x_lsub ?_
      refine t_L (jn g x y) (by rw [ge, jn_10]) ?_
      refine n_lstore [some (vR _), some (vI _), some (vL _), _, some (vL _), _, some (vL _), _] (Nat.le_of_ble_eq_true rfl) rfl ?_
      refine x_goto ?_
      have jr := jn_R (g := g) hx hy
      refine x_aload rfl ?_
      refine h_getR sc_94 rfl (by omega) ?_
      refine x_aload rfl ?_
      refine h_getI 26 sc_94 rfl rfl ?_
      rw [up_e]
      refine x_ci ?_
      refine x_isub ?_
      refine t_I (ht : Int) (by omega) ?_
      refine x_lload rfl ?_
      refine h_last sc_105 ⟨by omega, by omega⟩ (by decide) ?_
      refine x_lload rfl ?_
      refine x_cl ?_
      refine n_lif_gt ⟨by omega, by omega⟩ ⟨by omega, by omega⟩ (fun c3 => ?_) (fun c3 => ?_)
      · refine x_ci ?_
        refine x_fall ?_
        refine x_zret (by first | exact bI_01 _ | omega) ?_
        first
          | (refine cB1 (k _ (fun b2 r2 w1 w2 => ?_) (fun i0 i1 => ?_) (fun _ => ⟨?_, ?_⟩)) ⟨by omega, by omega⟩
             · simp only [up]
               repeat rw [if_neg (by omega)]
             · simp only [up]
               repeat rw [if_neg (by omega)]
             · rw [up_e]
             · rw [up_a (by decide), up_e])
          | (refine cB0 (k _ (fun b2 r2 w1 w2 => ?_) (fun i0 i1 => ?_) (fun q => absurd q (by omega))) (by omega)
             all_goals
               simp only [up]
               repeat rw [if_neg (by omega)])
          | (have je : jn g x y = -9223372036854775808 := by
               first
                 | rw [ge, jn_11, if_pos (mul_sw.mpr ⟨by omega, by omega⟩)]
                 | rw [ge, jn_12, if_pos (by omega)]
             refine cB0 (k _ (fun b2 r2 w1 w2 => ?_) (fun i0 i1 => ?_) (fun q => absurd q (by omega))) (by omega)
             all_goals
               simp only [up]
               repeat rw [if_neg (by omega)])
      · refine x_lload rfl ?_
        refine x_cl ?_
        refine n_lif_lt ⟨by omega, by omega⟩ ⟨by omega, by omega⟩ (fun c4 => ?_) (fun c4 => ?_)
        · refine x_ci ?_
          refine x_fall ?_
          refine x_zret (by first | exact bI_01 _ | omega) ?_
          first
            | (refine cB1 (k _ (fun b2 r2 w1 w2 => ?_) (fun i0 i1 => ?_) (fun _ => ⟨?_, ?_⟩)) ⟨by omega, by omega⟩
               · simp only [up]
                 repeat rw [if_neg (by omega)]
               · simp only [up]
                 repeat rw [if_neg (by omega)]
               · rw [up_e]
               · rw [up_a (by decide), up_e])
            | (refine cB0 (k _ (fun b2 r2 w1 w2 => ?_) (fun i0 i1 => ?_) (fun q => absurd q (by omega))) (by omega)
               all_goals
                 simp only [up]
                 repeat rw [if_neg (by omega)])
            | (have je : jn g x y = -9223372036854775808 := by
                 first
                   | rw [ge, jn_11, if_pos (mul_sw.mpr ⟨by omega, by omega⟩)]
                   | rw [ge, jn_12, if_pos (by omega)]
               refine cB0 (k _ (fun b2 r2 w1 w2 => ?_) (fun i0 i1 => ?_) (fun q => absurd q (by omega))) (by omega)
               all_goals
                 simp only [up]
                 repeat rw [if_neg (by omega)])
        · refine x_ci ?_
          refine x_goto ?_
          refine x_zret (by first | exact bI_01 _ | omega) ?_
          first
            | (refine cB1 (k _ (fun b2 r2 w1 w2 => ?_) (fun i0 i1 => ?_) (fun _ => ⟨?_, ?_⟩)) ⟨by omega, by omega⟩
               · simp only [up]
                 repeat rw [if_neg (by omega)]
               · simp only [up]
                 repeat rw [if_neg (by omega)]
               · rw [up_e]
               · rw [up_a (by decide), up_e])
            | (refine cB0 (k _ (fun b2 r2 w1 w2 => ?_) (fun i0 i1 => ?_) (fun q => absurd q (by omega))) (by omega)
               all_goals
                 simp only [up]
                 repeat rw [if_neg (by omega)])
            | (have je : jn g x y = -9223372036854775808 := by
                 first
                   | rw [ge, jn_11, if_pos (mul_sw.mpr ⟨by omega, by omega⟩)]
                   | rw [ge, jn_12, if_pos (by omega)]
               refine cB0 (k _ (fun b2 r2 w1 w2 => ?_) (fun i0 i1 => ?_) (fun q => absurd q (by omega))) (by omega)
               all_goals
                 simp only [up]
                 repeat rw [if_neg (by omega)])
    · have ge : g = 12 := (cr trivial).2.2.2.1 c2
      refine x_lload rfl ?_
      refine x_cl ?_
      refine n_lif_ne ⟨by omega, by omega⟩ ⟨by omega, by omega⟩ (fun c3 => ?_) (fun c3 => ?_)
      · refine x_lload rfl ?_
        refine x_lload rfl ?_
        refine x_ldiv (by rw [w64_R ⟨by omega, by omega⟩]; omega) ?_
        refine t_L (jn g x y) (by rw [ge, jn_12, if_neg (by omega)]) ?_
        refine n_lstore [some (vR _), some (vI _), some (vL _), _, some (vL _), _, some (vL _), _] (Nat.le_of_ble_eq_true rfl) rfl ?_
        refine x_goto ?_
        have jr := jn_R (g := g) hx hy
        refine x_aload rfl ?_
        refine h_getR sc_94 rfl (by omega) ?_
        refine x_aload rfl ?_
        refine h_getI 26 sc_94 rfl rfl ?_
        rw [up_e]
        refine x_ci ?_
        refine x_isub ?_
        refine t_I (ht : Int) (by omega) ?_
        refine x_lload rfl ?_
        refine h_last sc_105 ⟨by omega, by omega⟩ (by decide) ?_
        refine x_lload rfl ?_
        refine x_cl ?_
        refine n_lif_gt ⟨by omega, by omega⟩ ⟨by omega, by omega⟩ (fun c4 => ?_) (fun c4 => ?_)
        · refine x_ci ?_
          refine x_fall ?_
          refine x_zret (by first | exact bI_01 _ | omega) ?_
          first
            | (refine cB1 (k _ (fun b2 r2 w1 w2 => ?_) (fun i0 i1 => ?_) (fun _ => ⟨?_, ?_⟩)) ⟨by omega, by omega⟩
               · simp only [up]
                 repeat rw [if_neg (by omega)]
               · simp only [up]
                 repeat rw [if_neg (by omega)]
               · rw [up_e]
               · rw [up_a (by decide), up_e])
            | (refine cB0 (k _ (fun b2 r2 w1 w2 => ?_) (fun i0 i1 => ?_) (fun q => absurd q (by omega))) (by omega)
               all_goals
                 simp only [up]
                 repeat rw [if_neg (by omega)])
            | (have je : jn g x y = -9223372036854775808 := by
                 first
                   | rw [ge, jn_11, if_pos (mul_sw.mpr ⟨by omega, by omega⟩)]
                   | rw [ge, jn_12, if_pos (by omega)]
               refine cB0 (k _ (fun b2 r2 w1 w2 => ?_) (fun i0 i1 => ?_) (fun q => absurd q (by omega))) (by omega)
               all_goals
                 simp only [up]
                 repeat rw [if_neg (by omega)])
        · refine x_lload rfl ?_
          refine x_cl ?_
          refine n_lif_lt ⟨by omega, by omega⟩ ⟨by omega, by omega⟩ (fun c5 => ?_) (fun c5 => ?_)
          · refine x_ci ?_
            refine x_fall ?_
            refine x_zret (by first | exact bI_01 _ | omega) ?_
            first
              | (refine cB1 (k _ (fun b2 r2 w1 w2 => ?_) (fun i0 i1 => ?_) (fun _ => ⟨?_, ?_⟩)) ⟨by omega, by omega⟩
                 · simp only [up]
                   repeat rw [if_neg (by omega)]
                 · simp only [up]
                   repeat rw [if_neg (by omega)]
                 · rw [up_e]
                 · rw [up_a (by decide), up_e])
              | (refine cB0 (k _ (fun b2 r2 w1 w2 => ?_) (fun i0 i1 => ?_) (fun q => absurd q (by omega))) (by omega)
                 all_goals
                   simp only [up]
                   repeat rw [if_neg (by omega)])
              | (have je : jn g x y = -9223372036854775808 := by
                   first
                     | rw [ge, jn_11, if_pos (mul_sw.mpr ⟨by omega, by omega⟩)]
                     | rw [ge, jn_12, if_pos (by omega)]
                 refine cB0 (k _ (fun b2 r2 w1 w2 => ?_) (fun i0 i1 => ?_) (fun q => absurd q (by omega))) (by omega)
                 all_goals
                   simp only [up]
                   repeat rw [if_neg (by omega)])
          · refine x_ci ?_
            refine x_goto ?_
            refine x_zret (by first | exact bI_01 _ | omega) ?_
            first
              | (refine cB1 (k _ (fun b2 r2 w1 w2 => ?_) (fun i0 i1 => ?_) (fun _ => ⟨?_, ?_⟩)) ⟨by omega, by omega⟩
                 · simp only [up]
                   repeat rw [if_neg (by omega)]
                 · simp only [up]
                   repeat rw [if_neg (by omega)]
                 · rw [up_e]
                 · rw [up_a (by decide), up_e])
              | (refine cB0 (k _ (fun b2 r2 w1 w2 => ?_) (fun i0 i1 => ?_) (fun q => absurd q (by omega))) (by omega)
                 all_goals
                   simp only [up]
                   repeat rw [if_neg (by omega)])
              | (have je : jn g x y = -9223372036854775808 := by
                   first
                     | rw [ge, jn_11, if_pos (mul_sw.mpr ⟨by omega, by omega⟩)]
                     | rw [ge, jn_12, if_pos (by omega)]
                 refine cB0 (k _ (fun b2 r2 w1 w2 => ?_) (fun i0 i1 => ?_) (fun q => absurd q (by omega))) (by omega)
                 all_goals
                   simp only [up]
                   repeat rw [if_neg (by omega)])
      · refine x_ci ?_
        refine x_zret (by first | exact bI_01 _ | omega) ?_
        first
          | (refine cB1 (k _ (fun b2 r2 w1 w2 => ?_) (fun i0 i1 => ?_) (fun _ => ⟨?_, ?_⟩)) ⟨by omega, by omega⟩
             · simp only [up]
               repeat rw [if_neg (by omega)]
             · simp only [up]
               repeat rw [if_neg (by omega)]
             · rw [up_e]
             · rw [up_a (by decide), up_e])
          | (refine cB0 (k _ (fun b2 r2 w1 w2 => ?_) (fun i0 i1 => ?_) (fun q => absurd q (by omega))) (by omega)
             all_goals
               simp only [up]
               repeat rw [if_neg (by omega)])
          | (have je : jn g x y = -9223372036854775808 := by
               first
                 | rw [ge, jn_11, if_pos (mul_sw.mpr ⟨by omega, by omega⟩)]
                 | rw [ge, jn_12, if_pos (by omega)]
             refine cB0 (k _ (fun b2 r2 w1 w2 => ?_) (fun i0 i1 => ?_) (fun q => absurd q (by omega))) (by omega)
             all_goals
               simp only [up]
               repeat rw [if_neg (by omega)])
    · have ge : g = 3 := (cr trivial).2.2.2.2.1 c2
      refine x_lload rfl ?_
      refine x_lload rfl ?_
      refine n_lif_ge ⟨by omega, by omega⟩ ⟨by omega, by omega⟩ (fun c3 => ?_) (fun c3 => ?_)
      · refine x_ci ?_
        refine x_fall ?_
        refine n_call [vI _] [] (by omega) (Nat.le_of_ble_eq_true rfl) rfl rfl (Nat.le_of_ble_eq_true rfl) ?_
        refine r_is (by omega) ?_
        show wp PP _ _ _ [some (vR _), some (vI _), some (vL _), _, some (vL _), _, _, _] [vL _] _ _
        refine t_L (jn g x y) (by rw [ge, jn_3]; first | exact (bI_t (by omega)).symm | exact (bI_f (by omega)).symm) ?_
        refine n_lstore [some (vR _), some (vI _), some (vL _), _, some (vL _), _, some (vL _), _] (Nat.le_of_ble_eq_true rfl) rfl ?_
        refine x_goto ?_
        have jr := jn_R (g := g) hx hy
        refine x_aload rfl ?_
        refine h_getR sc_94 rfl (by omega) ?_
        refine x_aload rfl ?_
        refine h_getI 26 sc_94 rfl rfl ?_
        rw [up_e]
        refine x_ci ?_
        refine x_isub ?_
        refine t_I (ht : Int) (by omega) ?_
        refine x_lload rfl ?_
        refine h_last sc_105 ⟨by omega, by omega⟩ (by decide) ?_
        refine x_lload rfl ?_
        refine x_cl ?_
        refine n_lif_gt ⟨by omega, by omega⟩ ⟨by omega, by omega⟩ (fun c4 => ?_) (fun c4 => ?_)
        · refine x_ci ?_
          refine x_fall ?_
          refine x_zret (by first | exact bI_01 _ | omega) ?_
          first
            | (refine cB1 (k _ (fun b2 r2 w1 w2 => ?_) (fun i0 i1 => ?_) (fun _ => ⟨?_, ?_⟩)) ⟨by omega, by omega⟩
               · simp only [up]
                 repeat rw [if_neg (by omega)]
               · simp only [up]
                 repeat rw [if_neg (by omega)]
               · rw [up_e]
               · rw [up_a (by decide), up_e])
            | (refine cB0 (k _ (fun b2 r2 w1 w2 => ?_) (fun i0 i1 => ?_) (fun q => absurd q (by omega))) (by omega)
               all_goals
                 simp only [up]
                 repeat rw [if_neg (by omega)])
            | (have je : jn g x y = -9223372036854775808 := by
                 first
                   | rw [ge, jn_11, if_pos (mul_sw.mpr ⟨by omega, by omega⟩)]
                   | rw [ge, jn_12, if_pos (by omega)]
               refine cB0 (k _ (fun b2 r2 w1 w2 => ?_) (fun i0 i1 => ?_) (fun q => absurd q (by omega))) (by omega)
               all_goals
                 simp only [up]
                 repeat rw [if_neg (by omega)])
        · refine x_lload rfl ?_
          refine x_cl ?_
          refine n_lif_lt ⟨by omega, by omega⟩ ⟨by omega, by omega⟩ (fun c5 => ?_) (fun c5 => ?_)
          · refine x_ci ?_
            refine x_fall ?_
            refine x_zret (by first | exact bI_01 _ | omega) ?_
            first
              | (refine cB1 (k _ (fun b2 r2 w1 w2 => ?_) (fun i0 i1 => ?_) (fun _ => ⟨?_, ?_⟩)) ⟨by omega, by omega⟩
                 · simp only [up]
                   repeat rw [if_neg (by omega)]
                 · simp only [up]
                   repeat rw [if_neg (by omega)]
                 · rw [up_e]
                 · rw [up_a (by decide), up_e])
              | (refine cB0 (k _ (fun b2 r2 w1 w2 => ?_) (fun i0 i1 => ?_) (fun q => absurd q (by omega))) (by omega)
                 all_goals
                   simp only [up]
                   repeat rw [if_neg (by omega)])
              | (have je : jn g x y = -9223372036854775808 := by
                   first
                     | rw [ge, jn_11, if_pos (mul_sw.mpr ⟨by omega, by omega⟩)]
                     | rw [ge, jn_12, if_pos (by omega)]
                 refine cB0 (k _ (fun b2 r2 w1 w2 => ?_) (fun i0 i1 => ?_) (fun q => absurd q (by omega))) (by omega)
                 all_goals
                   simp only [up]
                   repeat rw [if_neg (by omega)])
          · refine x_ci ?_
            refine x_goto ?_
            refine x_zret (by first | exact bI_01 _ | omega) ?_
            first
              | (refine cB1 (k _ (fun b2 r2 w1 w2 => ?_) (fun i0 i1 => ?_) (fun _ => ⟨?_, ?_⟩)) ⟨by omega, by omega⟩
                 · simp only [up]
                   repeat rw [if_neg (by omega)]
                 · simp only [up]
                   repeat rw [if_neg (by omega)]
                 · rw [up_e]
                 · rw [up_a (by decide), up_e])
              | (refine cB0 (k _ (fun b2 r2 w1 w2 => ?_) (fun i0 i1 => ?_) (fun q => absurd q (by omega))) (by omega)
                 all_goals
                   simp only [up]
                   repeat rw [if_neg (by omega)])
              | (have je : jn g x y = -9223372036854775808 := by
                   first
                     | rw [ge, jn_11, if_pos (mul_sw.mpr ⟨by omega, by omega⟩)]
                     | rw [ge, jn_12, if_pos (by omega)]
                 refine cB0 (k _ (fun b2 r2 w1 w2 => ?_) (fun i0 i1 => ?_) (fun q => absurd q (by omega))) (by omega)
                 all_goals
                   simp only [up]
                   repeat rw [if_neg (by omega)])
      · refine x_ci ?_
        refine x_goto ?_
        refine n_call [vI _] [] (by omega) (Nat.le_of_ble_eq_true rfl) rfl rfl (Nat.le_of_ble_eq_true rfl) ?_
        refine r_is (by omega) ?_
        show wp PP _ _ _ [some (vR _), some (vI _), some (vL _), _, some (vL _), _, _, _] [vL _] _ _
        refine t_L (jn g x y) (by rw [ge, jn_3]; first | exact (bI_t (by omega)).symm | exact (bI_f (by omega)).symm) ?_
        refine n_lstore [some (vR _), some (vI _), some (vL _), _, some (vL _), _, some (vL _), _] (Nat.le_of_ble_eq_true rfl) rfl ?_
        refine x_goto ?_
        have jr := jn_R (g := g) hx hy
        refine x_aload rfl ?_
        refine h_getR sc_94 rfl (by omega) ?_
        refine x_aload rfl ?_
        refine h_getI 26 sc_94 rfl rfl ?_
        rw [up_e]
        refine x_ci ?_
        refine x_isub ?_
        refine t_I (ht : Int) (by omega) ?_
        refine x_lload rfl ?_
        refine h_last sc_105 ⟨by omega, by omega⟩ (by decide) ?_
        refine x_lload rfl ?_
        refine x_cl ?_
        refine n_lif_gt ⟨by omega, by omega⟩ ⟨by omega, by omega⟩ (fun c4 => ?_) (fun c4 => ?_)
        · refine x_ci ?_
          refine x_fall ?_
          refine x_zret (by first | exact bI_01 _ | omega) ?_
          first
            | (refine cB1 (k _ (fun b2 r2 w1 w2 => ?_) (fun i0 i1 => ?_) (fun _ => ⟨?_, ?_⟩)) ⟨by omega, by omega⟩
               · simp only [up]
                 repeat rw [if_neg (by omega)]
               · simp only [up]
                 repeat rw [if_neg (by omega)]
               · rw [up_e]
               · rw [up_a (by decide), up_e])
            | (refine cB0 (k _ (fun b2 r2 w1 w2 => ?_) (fun i0 i1 => ?_) (fun q => absurd q (by omega))) (by omega)
               all_goals
                 simp only [up]
                 repeat rw [if_neg (by omega)])
            | (have je : jn g x y = -9223372036854775808 := by
                 first
                   | rw [ge, jn_11, if_pos (mul_sw.mpr ⟨by omega, by omega⟩)]
                   | rw [ge, jn_12, if_pos (by omega)]
               refine cB0 (k _ (fun b2 r2 w1 w2 => ?_) (fun i0 i1 => ?_) (fun q => absurd q (by omega))) (by omega)
               all_goals
                 simp only [up]
                 repeat rw [if_neg (by omega)])
        · refine x_lload rfl ?_
          refine x_cl ?_
          refine n_lif_lt ⟨by omega, by omega⟩ ⟨by omega, by omega⟩ (fun c5 => ?_) (fun c5 => ?_)
          · refine x_ci ?_
            refine x_fall ?_
            refine x_zret (by first | exact bI_01 _ | omega) ?_
            first
              | (refine cB1 (k _ (fun b2 r2 w1 w2 => ?_) (fun i0 i1 => ?_) (fun _ => ⟨?_, ?_⟩)) ⟨by omega, by omega⟩
                 · simp only [up]
                   repeat rw [if_neg (by omega)]
                 · simp only [up]
                   repeat rw [if_neg (by omega)]
                 · rw [up_e]
                 · rw [up_a (by decide), up_e])
              | (refine cB0 (k _ (fun b2 r2 w1 w2 => ?_) (fun i0 i1 => ?_) (fun q => absurd q (by omega))) (by omega)
                 all_goals
                   simp only [up]
                   repeat rw [if_neg (by omega)])
              | (have je : jn g x y = -9223372036854775808 := by
                   first
                     | rw [ge, jn_11, if_pos (mul_sw.mpr ⟨by omega, by omega⟩)]
                     | rw [ge, jn_12, if_pos (by omega)]
                 refine cB0 (k _ (fun b2 r2 w1 w2 => ?_) (fun i0 i1 => ?_) (fun q => absurd q (by omega))) (by omega)
                 all_goals
                   simp only [up]
                   repeat rw [if_neg (by omega)])
          · refine x_ci ?_
            refine x_goto ?_
            refine x_zret (by first | exact bI_01 _ | omega) ?_
            first
              | (refine cB1 (k _ (fun b2 r2 w1 w2 => ?_) (fun i0 i1 => ?_) (fun _ => ⟨?_, ?_⟩)) ⟨by omega, by omega⟩
                 · simp only [up]
                   repeat rw [if_neg (by omega)]
                 · simp only [up]
                   repeat rw [if_neg (by omega)]
                 · rw [up_e]
                 · rw [up_a (by decide), up_e])
              | (refine cB0 (k _ (fun b2 r2 w1 w2 => ?_) (fun i0 i1 => ?_) (fun q => absurd q (by omega))) (by omega)
                 all_goals
                   simp only [up]
                   repeat rw [if_neg (by omega)])
              | (have je : jn g x y = -9223372036854775808 := by
                   first
                     | rw [ge, jn_11, if_pos (mul_sw.mpr ⟨by omega, by omega⟩)]
                     | rw [ge, jn_12, if_pos (by omega)]
                 refine cB0 (k _ (fun b2 r2 w1 w2 => ?_) (fun i0 i1 => ?_) (fun q => absurd q (by omega))) (by omega)
                 all_goals
                   simp only [up]
                   repeat rw [if_neg (by omega)])
    · have ge : g = 5 := (cr trivial).2.2.2.2.2.1 c2
      refine x_lload rfl ?_
      refine x_lload rfl ?_
      refine n_lif_ne ⟨by omega, by omega⟩ ⟨by omega, by omega⟩ (fun c3 => ?_) (fun c3 => ?_)
      · refine x_ci ?_
        refine x_fall ?_
        refine n_call [vI _] [] (by omega) (Nat.le_of_ble_eq_true rfl) rfl rfl (Nat.le_of_ble_eq_true rfl) ?_
        refine r_is (by omega) ?_
        show wp PP _ _ _ [some (vR _), some (vI _), some (vL _), _, some (vL _), _, _, _] [vL _] _ _
        refine t_L (jn g x y) (by rw [ge, jn_5]; first | exact (bI_t (by omega)).symm | exact (bI_f (by omega)).symm) ?_
        refine n_lstore [some (vR _), some (vI _), some (vL _), _, some (vL _), _, some (vL _), _] (Nat.le_of_ble_eq_true rfl) rfl ?_
        refine x_goto ?_
        have jr := jn_R (g := g) hx hy
        refine x_aload rfl ?_
        refine h_getR sc_94 rfl (by omega) ?_
        refine x_aload rfl ?_
        refine h_getI 26 sc_94 rfl rfl ?_
        rw [up_e]
        refine x_ci ?_
        refine x_isub ?_
        refine t_I (ht : Int) (by omega) ?_
        refine x_lload rfl ?_
        refine h_last sc_105 ⟨by omega, by omega⟩ (by decide) ?_
        refine x_lload rfl ?_
        refine x_cl ?_
        refine n_lif_gt ⟨by omega, by omega⟩ ⟨by omega, by omega⟩ (fun c4 => ?_) (fun c4 => ?_)
        · refine x_ci ?_
          refine x_fall ?_
          refine x_zret (by first | exact bI_01 _ | omega) ?_
          first
            | (refine cB1 (k _ (fun b2 r2 w1 w2 => ?_) (fun i0 i1 => ?_) (fun _ => ⟨?_, ?_⟩)) ⟨by omega, by omega⟩
               · simp only [up]
                 repeat rw [if_neg (by omega)]
               · simp only [up]
                 repeat rw [if_neg (by omega)]
               · rw [up_e]
               · rw [up_a (by decide), up_e])
            | (refine cB0 (k _ (fun b2 r2 w1 w2 => ?_) (fun i0 i1 => ?_) (fun q => absurd q (by omega))) (by omega)
               all_goals
                 simp only [up]
                 repeat rw [if_neg (by omega)])
            | (have je : jn g x y = -9223372036854775808 := by
                 first
                   | rw [ge, jn_11, if_pos (mul_sw.mpr ⟨by omega, by omega⟩)]
                   | rw [ge, jn_12, if_pos (by omega)]
               refine cB0 (k _ (fun b2 r2 w1 w2 => ?_) (fun i0 i1 => ?_) (fun q => absurd q (by omega))) (by omega)
               all_goals
                 simp only [up]
                 repeat rw [if_neg (by omega)])
        · refine x_lload rfl ?_
          refine x_cl ?_
          refine n_lif_lt ⟨by omega, by omega⟩ ⟨by omega, by omega⟩ (fun c5 => ?_) (fun c5 => ?_)
          · refine x_ci ?_
            refine x_fall ?_
            refine x_zret (by first | exact bI_01 _ | omega) ?_
            first
              | (refine cB1 (k _ (fun b2 r2 w1 w2 => ?_) (fun i0 i1 => ?_) (fun _ => ⟨?_, ?_⟩)) ⟨by omega, by omega⟩
                 · simp only [up]
                   repeat rw [if_neg (by omega)]
                 · simp only [up]
                   repeat rw [if_neg (by omega)]
                 · rw [up_e]
                 · rw [up_a (by decide), up_e])
              | (refine cB0 (k _ (fun b2 r2 w1 w2 => ?_) (fun i0 i1 => ?_) (fun q => absurd q (by omega))) (by omega)
                 all_goals
                   simp only [up]
                   repeat rw [if_neg (by omega)])
              | (have je : jn g x y = -9223372036854775808 := by
                   first
                     | rw [ge, jn_11, if_pos (mul_sw.mpr ⟨by omega, by omega⟩)]
                     | rw [ge, jn_12, if_pos (by omega)]
                 refine cB0 (k _ (fun b2 r2 w1 w2 => ?_) (fun i0 i1 => ?_) (fun q => absurd q (by omega))) (by omega)
                 all_goals
                   simp only [up]
                   repeat rw [if_neg (by omega)])
          · refine x_ci ?_
            refine x_goto ?_
            refine x_zret (by first | exact bI_01 _ | omega) ?_
            first
              | (refine cB1 (k _ (fun b2 r2 w1 w2 => ?_) (fun i0 i1 => ?_) (fun _ => ⟨?_, ?_⟩)) ⟨by omega, by omega⟩
                 · simp only [up]
                   repeat rw [if_neg (by omega)]
                 · simp only [up]
                   repeat rw [if_neg (by omega)]
                 · rw [up_e]
                 · rw [up_a (by decide), up_e])
              | (refine cB0 (k _ (fun b2 r2 w1 w2 => ?_) (fun i0 i1 => ?_) (fun q => absurd q (by omega))) (by omega)
                 all_goals
                   simp only [up]
                   repeat rw [if_neg (by omega)])
              | (have je : jn g x y = -9223372036854775808 := by
                   first
                     | rw [ge, jn_11, if_pos (mul_sw.mpr ⟨by omega, by omega⟩)]
                     | rw [ge, jn_12, if_pos (by omega)]
                 refine cB0 (k _ (fun b2 r2 w1 w2 => ?_) (fun i0 i1 => ?_) (fun q => absurd q (by omega))) (by omega)
                 all_goals
                   simp only [up]
                   repeat rw [if_neg (by omega)])
      · refine x_ci ?_
        refine x_goto ?_
        refine n_call [vI _] [] (by omega) (Nat.le_of_ble_eq_true rfl) rfl rfl (Nat.le_of_ble_eq_true rfl) ?_
        refine r_is (by omega) ?_
        show wp PP _ _ _ [some (vR _), some (vI _), some (vL _), _, some (vL _), _, _, _] [vL _] _ _
        refine t_L (jn g x y) (by rw [ge, jn_5]; first | exact (bI_t (by omega)).symm | exact (bI_f (by omega)).symm) ?_
        refine n_lstore [some (vR _), some (vI _), some (vL _), _, some (vL _), _, some (vL _), _] (Nat.le_of_ble_eq_true rfl) rfl ?_
        refine x_goto ?_
        have jr := jn_R (g := g) hx hy
        refine x_aload rfl ?_
        refine h_getR sc_94 rfl (by omega) ?_
        refine x_aload rfl ?_
        refine h_getI 26 sc_94 rfl rfl ?_
        rw [up_e]
        refine x_ci ?_
        refine x_isub ?_
        refine t_I (ht : Int) (by omega) ?_
        refine x_lload rfl ?_
        refine h_last sc_105 ⟨by omega, by omega⟩ (by decide) ?_
        refine x_lload rfl ?_
        refine x_cl ?_
        refine n_lif_gt ⟨by omega, by omega⟩ ⟨by omega, by omega⟩ (fun c4 => ?_) (fun c4 => ?_)
        · refine x_ci ?_
          refine x_fall ?_
          refine x_zret (by first | exact bI_01 _ | omega) ?_
          first
            | (refine cB1 (k _ (fun b2 r2 w1 w2 => ?_) (fun i0 i1 => ?_) (fun _ => ⟨?_, ?_⟩)) ⟨by omega, by omega⟩
               · simp only [up]
                 repeat rw [if_neg (by omega)]
               · simp only [up]
                 repeat rw [if_neg (by omega)]
               · rw [up_e]
               · rw [up_a (by decide), up_e])
            | (refine cB0 (k _ (fun b2 r2 w1 w2 => ?_) (fun i0 i1 => ?_) (fun q => absurd q (by omega))) (by omega)
               all_goals
                 simp only [up]
                 repeat rw [if_neg (by omega)])
            | (have je : jn g x y = -9223372036854775808 := by
                 first
                   | rw [ge, jn_11, if_pos (mul_sw.mpr ⟨by omega, by omega⟩)]
                   | rw [ge, jn_12, if_pos (by omega)]
               refine cB0 (k _ (fun b2 r2 w1 w2 => ?_) (fun i0 i1 => ?_) (fun q => absurd q (by omega))) (by omega)
               all_goals
                 simp only [up]
                 repeat rw [if_neg (by omega)])
        · refine x_lload rfl ?_
          refine x_cl ?_
          refine n_lif_lt ⟨by omega, by omega⟩ ⟨by omega, by omega⟩ (fun c5 => ?_) (fun c5 => ?_)
          · refine x_ci ?_
            refine x_fall ?_
            refine x_zret (by first | exact bI_01 _ | omega) ?_
            first
              | (refine cB1 (k _ (fun b2 r2 w1 w2 => ?_) (fun i0 i1 => ?_) (fun _ => ⟨?_, ?_⟩)) ⟨by omega, by omega⟩
                 · simp only [up]
                   repeat rw [if_neg (by omega)]
                 · simp only [up]
                   repeat rw [if_neg (by omega)]
                 · rw [up_e]
                 · rw [up_a (by decide), up_e])
              | (refine cB0 (k _ (fun b2 r2 w1 w2 => ?_) (fun i0 i1 => ?_) (fun q => absurd q (by omega))) (by omega)
                 all_goals
                   simp only [up]
                   repeat rw [if_neg (by omega)])
              | (have je : jn g x y = -9223372036854775808 := by
                   first
                     | rw [ge, jn_11, if_pos (mul_sw.mpr ⟨by omega, by omega⟩)]
                     | rw [ge, jn_12, if_pos (by omega)]
                 refine cB0 (k _ (fun b2 r2 w1 w2 => ?_) (fun i0 i1 => ?_) (fun q => absurd q (by omega))) (by omega)
                 all_goals
                   simp only [up]
                   repeat rw [if_neg (by omega)])
          · refine x_ci ?_
            refine x_goto ?_
            refine x_zret (by first | exact bI_01 _ | omega) ?_
            first
              | (refine cB1 (k _ (fun b2 r2 w1 w2 => ?_) (fun i0 i1 => ?_) (fun _ => ⟨?_, ?_⟩)) ⟨by omega, by omega⟩
                 · simp only [up]
                   repeat rw [if_neg (by omega)]
                 · simp only [up]
                   repeat rw [if_neg (by omega)]
                 · rw [up_e]
                 · rw [up_a (by decide), up_e])
              | (refine cB0 (k _ (fun b2 r2 w1 w2 => ?_) (fun i0 i1 => ?_) (fun q => absurd q (by omega))) (by omega)
                 all_goals
                   simp only [up]
                   repeat rw [if_neg (by omega)])
              | (have je : jn g x y = -9223372036854775808 := by
                   first
                     | rw [ge, jn_11, if_pos (mul_sw.mpr ⟨by omega, by omega⟩)]
                     | rw [ge, jn_12, if_pos (by omega)]
                 refine cB0 (k _ (fun b2 r2 w1 w2 => ?_) (fun i0 i1 => ?_) (fun q => absurd q (by omega))) (by omega)
                 all_goals
                   simp only [up]
                   repeat rw [if_neg (by omega)])
    · have ge : g = 8 := (cr trivial).2.2.2.2.2.2.1 c2
      refine x_lload rfl ?_
      refine x_lload rfl ?_
      refine n_lif_le ⟨by omega, by omega⟩ ⟨by omega, by omega⟩ (fun c3 => ?_) (fun c3 => ?_)
      · refine x_ci ?_
        refine x_fall ?_
        refine n_call [vI _] [] (by omega) (Nat.le_of_ble_eq_true rfl) rfl rfl (Nat.le_of_ble_eq_true rfl) ?_
        refine r_is (by omega) ?_
        show wp PP _ _ _ [some (vR _), some (vI _), some (vL _), _, some (vL _), _, _, _] [vL _] _ _
        refine t_L (jn g x y) (by rw [ge, jn_8]; first | exact (bI_t (by omega)).symm | exact (bI_f (by omega)).symm) ?_
        refine n_lstore [some (vR _), some (vI _), some (vL _), _, some (vL _), _, some (vL _), _] (Nat.le_of_ble_eq_true rfl) rfl ?_
        refine x_goto ?_
        have jr := jn_R (g := g) hx hy
        refine x_aload rfl ?_
        refine h_getR sc_94 rfl (by omega) ?_
        refine x_aload rfl ?_
        refine h_getI 26 sc_94 rfl rfl ?_
        rw [up_e]
        refine x_ci ?_
        refine x_isub ?_
        refine t_I (ht : Int) (by omega) ?_
        refine x_lload rfl ?_
        refine h_last sc_105 ⟨by omega, by omega⟩ (by decide) ?_
        refine x_lload rfl ?_
        refine x_cl ?_
        refine n_lif_gt ⟨by omega, by omega⟩ ⟨by omega, by omega⟩ (fun c4 => ?_) (fun c4 => ?_)
        · refine x_ci ?_
          refine x_fall ?_
          refine x_zret (by first | exact bI_01 _ | omega) ?_
          first
            | (refine cB1 (k _ (fun b2 r2 w1 w2 => ?_) (fun i0 i1 => ?_) (fun _ => ⟨?_, ?_⟩)) ⟨by omega, by omega⟩
               · simp only [up]
                 repeat rw [if_neg (by omega)]
               · simp only [up]
                 repeat rw [if_neg (by omega)]
               · rw [up_e]
               · rw [up_a (by decide), up_e])
            | (refine cB0 (k _ (fun b2 r2 w1 w2 => ?_) (fun i0 i1 => ?_) (fun q => absurd q (by omega))) (by omega)
               all_goals
                 simp only [up]
                 repeat rw [if_neg (by omega)])
            | (have je : jn g x y = -9223372036854775808 := by
                 first
                   | rw [ge, jn_11, if_pos (mul_sw.mpr ⟨by omega, by omega⟩)]
                   | rw [ge, jn_12, if_pos (by omega)]
               refine cB0 (k _ (fun b2 r2 w1 w2 => ?_) (fun i0 i1 => ?_) (fun q => absurd q (by omega))) (by omega)
               all_goals
                 simp only [up]
                 repeat rw [if_neg (by omega)])
        · refine x_lload rfl ?_
          refine x_cl ?_
          refine n_lif_lt ⟨by omega, by omega⟩ ⟨by omega, by omega⟩ (fun c5 => ?_) (fun c5 => ?_)
          · refine x_ci ?_
            refine x_fall ?_
            refine x_zret (by first | exact bI_01 _ | omega) ?_
            first
              | (refine cB1 (k _ (fun b2 r2 w1 w2 => ?_) (fun i0 i1 => ?_) (fun _ => ⟨?_, ?_⟩)) ⟨by omega, by omega⟩
                 · simp only [up]
                   repeat rw [if_neg (by omega)]
                 · simp only [up]
                   repeat rw [if_neg (by omega)]
                 · rw [up_e]
                 · rw [up_a (by decide), up_e])
              | (refine cB0 (k _ (fun b2 r2 w1 w2 => ?_) (fun i0 i1 => ?_) (fun q => absurd q (by omega))) (by omega)
                 all_goals
                   simp only [up]
                   repeat rw [if_neg (by omega)])
              | (have je : jn g x y = -9223372036854775808 := by
                   first
                     | rw [ge, jn_11, if_pos (mul_sw.mpr ⟨by omega, by omega⟩)]
                     | rw [ge, jn_12, if_pos (by omega)]
                 refine cB0 (k _ (fun b2 r2 w1 w2 => ?_) (fun i0 i1 => ?_) (fun q => absurd q (by omega))) (by omega)
                 all_goals
                   simp only [up]
                   repeat rw [if_neg (by omega)])
          · refine x_ci ?_
            refine x_goto ?_
            refine x_zret (by first | exact bI_01 _ | omega) ?_
            first
              | (refine cB1 (k _ (fun b2 r2 w1 w2 => ?_) (fun i0 i1 => ?_) (fun _ => ⟨?_, ?_⟩)) ⟨by omega, by omega⟩
                 · simp only [up]
                   repeat rw [if_neg (by omega)]
                 · simp only [up]
                   repeat rw [if_neg (by omega)]
                 · rw [up_e]
                 · rw [up_a (by decide), up_e])
              | (refine cB0 (k _ (fun b2 r2 w1 w2 => ?_) (fun i0 i1 => ?_) (fun q => absurd q (by omega))) (by omega)
                 all_goals
                   simp only [up]
                   repeat rw [if_neg (by omega)])
              | (have je : jn g x y = -9223372036854775808 := by
                   first
                     | rw [ge, jn_11, if_pos (mul_sw.mpr ⟨by omega, by omega⟩)]
                     | rw [ge, jn_12, if_pos (by omega)]
                 refine cB0 (k _ (fun b2 r2 w1 w2 => ?_) (fun i0 i1 => ?_) (fun q => absurd q (by omega))) (by omega)
                 all_goals
                   simp only [up]
                   repeat rw [if_neg (by omega)])
      · refine x_ci ?_
        refine x_goto ?_
        refine n_call [vI _] [] (by omega) (Nat.le_of_ble_eq_true rfl) rfl rfl (Nat.le_of_ble_eq_true rfl) ?_
        refine r_is (by omega) ?_
        show wp PP _ _ _ [some (vR _), some (vI _), some (vL _), _, some (vL _), _, _, _] [vL _] _ _
        refine t_L (jn g x y) (by rw [ge, jn_8]; first | exact (bI_t (by omega)).symm | exact (bI_f (by omega)).symm) ?_
        refine n_lstore [some (vR _), some (vI _), some (vL _), _, some (vL _), _, some (vL _), _] (Nat.le_of_ble_eq_true rfl) rfl ?_
        refine x_goto ?_
        have jr := jn_R (g := g) hx hy
        refine x_aload rfl ?_
        refine h_getR sc_94 rfl (by omega) ?_
        refine x_aload rfl ?_
        refine h_getI 26 sc_94 rfl rfl ?_
        rw [up_e]
        refine x_ci ?_
        refine x_isub ?_
        refine t_I (ht : Int) (by omega) ?_
        refine x_lload rfl ?_
        refine h_last sc_105 ⟨by omega, by omega⟩ (by decide) ?_
        refine x_lload rfl ?_
        refine x_cl ?_
        refine n_lif_gt ⟨by omega, by omega⟩ ⟨by omega, by omega⟩ (fun c4 => ?_) (fun c4 => ?_)
        · refine x_ci ?_
          refine x_fall ?_
          refine x_zret (by first | exact bI_01 _ | omega) ?_
          first
            | (refine cB1 (k _ (fun b2 r2 w1 w2 => ?_) (fun i0 i1 => ?_) (fun _ => ⟨?_, ?_⟩)) ⟨by omega, by omega⟩
               · simp only [up]
                 repeat rw [if_neg (by omega)]
               · simp only [up]
                 repeat rw [if_neg (by omega)]
               · rw [up_e]
               · rw [up_a (by decide), up_e])
            | (refine cB0 (k _ (fun b2 r2 w1 w2 => ?_) (fun i0 i1 => ?_) (fun q => absurd q (by omega))) (by omega)
               all_goals
                 simp only [up]
                 repeat rw [if_neg (by omega)])
            | (have je : jn g x y = -9223372036854775808 := by
                 first
                   | rw [ge, jn_11, if_pos (mul_sw.mpr ⟨by omega, by omega⟩)]
                   | rw [ge, jn_12, if_pos (by omega)]
               refine cB0 (k _ (fun b2 r2 w1 w2 => ?_) (fun i0 i1 => ?_) (fun q => absurd q (by omega))) (by omega)
               all_goals
                 simp only [up]
                 repeat rw [if_neg (by omega)])
        · refine x_lload rfl ?_
          refine x_cl ?_
          refine n_lif_lt ⟨by omega, by omega⟩ ⟨by omega, by omega⟩ (fun c5 => ?_) (fun c5 => ?_)
          · refine x_ci ?_
            refine x_fall ?_
            refine x_zret (by first | exact bI_01 _ | omega) ?_
            first
              | (refine cB1 (k _ (fun b2 r2 w1 w2 => ?_) (fun i0 i1 => ?_) (fun _ => ⟨?_, ?_⟩)) ⟨by omega, by omega⟩
                 · simp only [up]
                   repeat rw [if_neg (by omega)]
                 · simp only [up]
                   repeat rw [if_neg (by omega)]
                 · rw [up_e]
                 · rw [up_a (by decide), up_e])
              | (refine cB0 (k _ (fun b2 r2 w1 w2 => ?_) (fun i0 i1 => ?_) (fun q => absurd q (by omega))) (by omega)
                 all_goals
                   simp only [up]
                   repeat rw [if_neg (by omega)])
              | (have je : jn g x y = -9223372036854775808 := by
                   first
                     | rw [ge, jn_11, if_pos (mul_sw.mpr ⟨by omega, by omega⟩)]
                     | rw [ge, jn_12, if_pos (by omega)]
                 refine cB0 (k _ (fun b2 r2 w1 w2 => ?_) (fun i0 i1 => ?_) (fun q => absurd q (by omega))) (by omega)
                 all_goals
                   simp only [up]
                   repeat rw [if_neg (by omega)])
          · refine x_ci ?_
            refine x_goto ?_
            refine x_zret (by first | exact bI_01 _ | omega) ?_
            first
              | (refine cB1 (k _ (fun b2 r2 w1 w2 => ?_) (fun i0 i1 => ?_) (fun _ => ⟨?_, ?_⟩)) ⟨by omega, by omega⟩
                 · simp only [up]
                   repeat rw [if_neg (by omega)]
                 · simp only [up]
                   repeat rw [if_neg (by omega)]
                 · rw [up_e]
                 · rw [up_a (by decide), up_e])
              | (refine cB0 (k _ (fun b2 r2 w1 w2 => ?_) (fun i0 i1 => ?_) (fun q => absurd q (by omega))) (by omega)
                 all_goals
                   simp only [up]
                   repeat rw [if_neg (by omega)])
              | (have je : jn g x y = -9223372036854775808 := by
                   first
                     | rw [ge, jn_11, if_pos (mul_sw.mpr ⟨by omega, by omega⟩)]
                     | rw [ge, jn_12, if_pos (by omega)]
                 refine cB0 (k _ (fun b2 r2 w1 w2 => ?_) (fun i0 i1 => ?_) (fun q => absurd q (by omega))) (by omega)
                 all_goals
                   simp only [up]
                   repeat rw [if_neg (by omega)])
    · have ge : g = 4 := (cr trivial).2.2.2.2.2.2.2.1 c2
      refine x_lload rfl ?_
      refine x_lload rfl ?_
      refine n_lif_gt ⟨by omega, by omega⟩ ⟨by omega, by omega⟩ (fun c3 => ?_) (fun c3 => ?_)
      · refine x_ci ?_
        refine x_fall ?_
        refine n_call [vI _] [] (by omega) (Nat.le_of_ble_eq_true rfl) rfl rfl (Nat.le_of_ble_eq_true rfl) ?_
        refine r_is (by omega) ?_
        show wp PP _ _ _ [some (vR _), some (vI _), some (vL _), _, some (vL _), _, _, _] [vL _] _ _
        refine t_L (jn g x y) (by rw [ge, jn_4]; first | exact (bI_t (by omega)).symm | exact (bI_f (by omega)).symm) ?_
        refine n_lstore [some (vR _), some (vI _), some (vL _), _, some (vL _), _, some (vL _), _] (Nat.le_of_ble_eq_true rfl) rfl ?_
        refine x_goto ?_
        have jr := jn_R (g := g) hx hy
        refine x_aload rfl ?_
        refine h_getR sc_94 rfl (by omega) ?_
        refine x_aload rfl ?_
        refine h_getI 26 sc_94 rfl rfl ?_
        rw [up_e]
        refine x_ci ?_
        refine x_isub ?_
        refine t_I (ht : Int) (by omega) ?_
        refine x_lload rfl ?_
        refine h_last sc_105 ⟨by omega, by omega⟩ (by decide) ?_
        refine x_lload rfl ?_
        refine x_cl ?_
        refine n_lif_gt ⟨by omega, by omega⟩ ⟨by omega, by omega⟩ (fun c4 => ?_) (fun c4 => ?_)
        · refine x_ci ?_
          refine x_fall ?_
          refine x_zret (by first | exact bI_01 _ | omega) ?_
          first
            | (refine cB1 (k _ (fun b2 r2 w1 w2 => ?_) (fun i0 i1 => ?_) (fun _ => ⟨?_, ?_⟩)) ⟨by omega, by omega⟩
               · simp only [up]
                 repeat rw [if_neg (by omega)]
               · simp only [up]
                 repeat rw [if_neg (by omega)]
               · rw [up_e]
               · rw [up_a (by decide), up_e])
            | (refine cB0 (k _ (fun b2 r2 w1 w2 => ?_) (fun i0 i1 => ?_) (fun q => absurd q (by omega))) (by omega)
               all_goals
                 simp only [up]
                 repeat rw [if_neg (by omega)])
            | (have je : jn g x y = -9223372036854775808 := by
                 first
                   | rw [ge, jn_11, if_pos (mul_sw.mpr ⟨by omega, by omega⟩)]
                   | rw [ge, jn_12, if_pos (by omega)]
               refine cB0 (k _ (fun b2 r2 w1 w2 => ?_) (fun i0 i1 => ?_) (fun q => absurd q (by omega))) (by omega)
               all_goals
                 simp only [up]
                 repeat rw [if_neg (by omega)])
        · refine x_lload rfl ?_
          refine x_cl ?_
          refine n_lif_lt ⟨by omega, by omega⟩ ⟨by omega, by omega⟩ (fun c5 => ?_) (fun c5 => ?_)
          · refine x_ci ?_
            refine x_fall ?_
            refine x_zret (by first | exact bI_01 _ | omega) ?_
            first
              | (refine cB1 (k _ (fun b2 r2 w1 w2 => ?_) (fun i0 i1 => ?_) (fun _ => ⟨?_, ?_⟩)) ⟨by omega, by omega⟩
                 · simp only [up]
                   repeat rw [if_neg (by omega)]
                 · simp only [up]
                   repeat rw [if_neg (by omega)]
                 · rw [up_e]
                 · rw [up_a (by decide), up_e])
              | (refine cB0 (k _ (fun b2 r2 w1 w2 => ?_) (fun i0 i1 => ?_) (fun q => absurd q (by omega))) (by omega)
                 all_goals
                   simp only [up]
                   repeat rw [if_neg (by omega)])
              | (have je : jn g x y = -9223372036854775808 := by
                   first
                     | rw [ge, jn_11, if_pos (mul_sw.mpr ⟨by omega, by omega⟩)]
                     | rw [ge, jn_12, if_pos (by omega)]
                 refine cB0 (k _ (fun b2 r2 w1 w2 => ?_) (fun i0 i1 => ?_) (fun q => absurd q (by omega))) (by omega)
                 all_goals
                   simp only [up]
                   repeat rw [if_neg (by omega)])
          · refine x_ci ?_
            refine x_goto ?_
            refine x_zret (by first | exact bI_01 _ | omega) ?_
            first
              | (refine cB1 (k _ (fun b2 r2 w1 w2 => ?_) (fun i0 i1 => ?_) (fun _ => ⟨?_, ?_⟩)) ⟨by omega, by omega⟩
                 · simp only [up]
                   repeat rw [if_neg (by omega)]
                 · simp only [up]
                   repeat rw [if_neg (by omega)]
                 · rw [up_e]
                 · rw [up_a (by decide), up_e])
              | (refine cB0 (k _ (fun b2 r2 w1 w2 => ?_) (fun i0 i1 => ?_) (fun q => absurd q (by omega))) (by omega)
                 all_goals
                   simp only [up]
                   repeat rw [if_neg (by omega)])
              | (have je : jn g x y = -9223372036854775808 := by
                   first
                     | rw [ge, jn_11, if_pos (mul_sw.mpr ⟨by omega, by omega⟩)]
                     | rw [ge, jn_12, if_pos (by omega)]
                 refine cB0 (k _ (fun b2 r2 w1 w2 => ?_) (fun i0 i1 => ?_) (fun q => absurd q (by omega))) (by omega)
                 all_goals
                   simp only [up]
                   repeat rw [if_neg (by omega)])
      · refine x_ci ?_
        refine x_goto ?_
        refine n_call [vI _] [] (by omega) (Nat.le_of_ble_eq_true rfl) rfl rfl (Nat.le_of_ble_eq_true rfl) ?_
        refine r_is (by omega) ?_
        show wp PP _ _ _ [some (vR _), some (vI _), some (vL _), _, some (vL _), _, _, _] [vL _] _ _
        refine t_L (jn g x y) (by rw [ge, jn_4]; first | exact (bI_t (by omega)).symm | exact (bI_f (by omega)).symm) ?_
        refine n_lstore [some (vR _), some (vI _), some (vL _), _, some (vL _), _, some (vL _), _] (Nat.le_of_ble_eq_true rfl) rfl ?_
        refine x_goto ?_
        have jr := jn_R (g := g) hx hy
        refine x_aload rfl ?_
        refine h_getR sc_94 rfl (by omega) ?_
        refine x_aload rfl ?_
        refine h_getI 26 sc_94 rfl rfl ?_
        rw [up_e]
        refine x_ci ?_
        refine x_isub ?_
        refine t_I (ht : Int) (by omega) ?_
        refine x_lload rfl ?_
        refine h_last sc_105 ⟨by omega, by omega⟩ (by decide) ?_
        refine x_lload rfl ?_
        refine x_cl ?_
        refine n_lif_gt ⟨by omega, by omega⟩ ⟨by omega, by omega⟩ (fun c4 => ?_) (fun c4 => ?_)
        · refine x_ci ?_
          refine x_fall ?_
          refine x_zret (by first | exact bI_01 _ | omega) ?_
          first
            | (refine cB1 (k _ (fun b2 r2 w1 w2 => ?_) (fun i0 i1 => ?_) (fun _ => ⟨?_, ?_⟩)) ⟨by omega, by omega⟩
               · simp only [up]
                 repeat rw [if_neg (by omega)]
               · simp only [up]
                 repeat rw [if_neg (by omega)]
               · rw [up_e]
               · rw [up_a (by decide), up_e])
            | (refine cB0 (k _ (fun b2 r2 w1 w2 => ?_) (fun i0 i1 => ?_) (fun q => absurd q (by omega))) (by omega)
               all_goals
                 simp only [up]
                 repeat rw [if_neg (by omega)])
            | (have je : jn g x y = -9223372036854775808 := by
                 first
                   | rw [ge, jn_11, if_pos (mul_sw.mpr ⟨by omega, by omega⟩)]
                   | rw [ge, jn_12, if_pos (by omega)]
               refine cB0 (k _ (fun b2 r2 w1 w2 => ?_) (fun i0 i1 => ?_) (fun q => absurd q (by omega))) (by omega)
               all_goals
                 simp only [up]
                 repeat rw [if_neg (by omega)])
        · refine x_lload rfl ?_
          refine x_cl ?_
          refine n_lif_lt ⟨by omega, by omega⟩ ⟨by omega, by omega⟩ (fun c5 => ?_) (fun c5 => ?_)
          · refine x_ci ?_
            refine x_fall ?_
            refine x_zret (by first | exact bI_01 _ | omega) ?_
            first
              | (refine cB1 (k _ (fun b2 r2 w1 w2 => ?_) (fun i0 i1 => ?_) (fun _ => ⟨?_, ?_⟩)) ⟨by omega, by omega⟩
                 · simp only [up]
                   repeat rw [if_neg (by omega)]
                 · simp only [up]
                   repeat rw [if_neg (by omega)]
                 · rw [up_e]
                 · rw [up_a (by decide), up_e])
              | (refine cB0 (k _ (fun b2 r2 w1 w2 => ?_) (fun i0 i1 => ?_) (fun q => absurd q (by omega))) (by omega)
                 all_goals
                   simp only [up]
                   repeat rw [if_neg (by omega)])
              | (have je : jn g x y = -9223372036854775808 := by
                   first
                     | rw [ge, jn_11, if_pos (mul_sw.mpr ⟨by omega, by omega⟩)]
                     | rw [ge, jn_12, if_pos (by omega)]
                 refine cB0 (k _ (fun b2 r2 w1 w2 => ?_) (fun i0 i1 => ?_) (fun q => absurd q (by omega))) (by omega)
                 all_goals
                   simp only [up]
                   repeat rw [if_neg (by omega)])
          · refine x_ci ?_
            refine x_goto ?_
            refine x_zret (by first | exact bI_01 _ | omega) ?_
            first
              | (refine cB1 (k _ (fun b2 r2 w1 w2 => ?_) (fun i0 i1 => ?_) (fun _ => ⟨?_, ?_⟩)) ⟨by omega, by omega⟩
                 · simp only [up]
                   repeat rw [if_neg (by omega)]
                 · simp only [up]
                   repeat rw [if_neg (by omega)]
                 · rw [up_e]
                 · rw [up_a (by decide), up_e])
              | (refine cB0 (k _ (fun b2 r2 w1 w2 => ?_) (fun i0 i1 => ?_) (fun q => absurd q (by omega))) (by omega)
                 all_goals
                   simp only [up]
                   repeat rw [if_neg (by omega)])
              | (have je : jn g x y = -9223372036854775808 := by
                   first
                     | rw [ge, jn_11, if_pos (mul_sw.mpr ⟨by omega, by omega⟩)]
                     | rw [ge, jn_12, if_pos (by omega)]
                 refine cB0 (k _ (fun b2 r2 w1 w2 => ?_) (fun i0 i1 => ?_) (fun q => absurd q (by omega))) (by omega)
                 all_goals
                   simp only [up]
                   repeat rw [if_neg (by omega)])
    · have ge : g = 6 := (cr trivial).2.2.2.2.2.2.2.2.1 c2
      refine x_lload rfl ?_
      refine x_lload rfl ?_
      refine n_lif_eq ⟨by omega, by omega⟩ ⟨by omega, by omega⟩ (fun c3 => ?_) (fun c3 => ?_)
      · refine x_ci ?_
        refine x_fall ?_
        refine n_call [vI _] [] (by omega) (Nat.le_of_ble_eq_true rfl) rfl rfl (Nat.le_of_ble_eq_true rfl) ?_
        refine r_is (by omega) ?_
        show wp PP _ _ _ [some (vR _), some (vI _), some (vL _), _, some (vL _), _, _, _] [vL _] _ _
        refine t_L (jn g x y) (by rw [ge, jn_6]; first | exact (bI_t (by omega)).symm | exact (bI_f (by omega)).symm) ?_
        refine n_lstore [some (vR _), some (vI _), some (vL _), _, some (vL _), _, some (vL _), _] (Nat.le_of_ble_eq_true rfl) rfl ?_
        refine x_goto ?_
        have jr := jn_R (g := g) hx hy
        refine x_aload rfl ?_
        refine h_getR sc_94 rfl (by omega) ?_
        refine x_aload rfl ?_
        refine h_getI 26 sc_94 rfl rfl ?_
        rw [up_e]
        refine x_ci ?_
        refine x_isub ?_
        refine t_I (ht : Int) (by omega) ?_
        refine x_lload rfl ?_
        refine h_last sc_105 ⟨by omega, by omega⟩ (by decide) ?_
        refine x_lload rfl ?_
        refine x_cl ?_
        refine n_lif_gt ⟨by omega, by omega⟩ ⟨by omega, by omega⟩ (fun c4 => ?_) (fun c4 => ?_)
        · refine x_ci ?_
          refine x_fall ?_
          refine x_zret (by first | exact bI_01 _ | omega) ?_
          first
            | (refine cB1 (k _ (fun b2 r2 w1 w2 => ?_) (fun i0 i1 => ?_) (fun _ => ⟨?_, ?_⟩)) ⟨by omega, by omega⟩
               · simp only [up]
                 repeat rw [if_neg (by omega)]
               · simp only [up]
                 repeat rw [if_neg (by omega)]
               · rw [up_e]
               · rw [up_a (by decide), up_e])
            | (refine cB0 (k _ (fun b2 r2 w1 w2 => ?_) (fun i0 i1 => ?_) (fun q => absurd q (by omega))) (by omega)
               all_goals
                 simp only [up]
                 repeat rw [if_neg (by omega)])
            | (have je : jn g x y = -9223372036854775808 := by
                 first
                   | rw [ge, jn_11, if_pos (mul_sw.mpr ⟨by omega, by omega⟩)]
                   | rw [ge, jn_12, if_pos (by omega)]
               refine cB0 (k _ (fun b2 r2 w1 w2 => ?_) (fun i0 i1 => ?_) (fun q => absurd q (by omega))) (by omega)
               all_goals
                 simp only [up]
                 repeat rw [if_neg (by omega)])
        · refine x_lload rfl ?_
          refine x_cl ?_
          refine n_lif_lt ⟨by omega, by omega⟩ ⟨by omega, by omega⟩ (fun c5 => ?_) (fun c5 => ?_)
          · refine x_ci ?_
            refine x_fall ?_
            refine x_zret (by first | exact bI_01 _ | omega) ?_
            first
              | (refine cB1 (k _ (fun b2 r2 w1 w2 => ?_) (fun i0 i1 => ?_) (fun _ => ⟨?_, ?_⟩)) ⟨by omega, by omega⟩
                 · simp only [up]
                   repeat rw [if_neg (by omega)]
                 · simp only [up]
                   repeat rw [if_neg (by omega)]
                 · rw [up_e]
                 · rw [up_a (by decide), up_e])
              | (refine cB0 (k _ (fun b2 r2 w1 w2 => ?_) (fun i0 i1 => ?_) (fun q => absurd q (by omega))) (by omega)
                 all_goals
                   simp only [up]
                   repeat rw [if_neg (by omega)])
              | (have je : jn g x y = -9223372036854775808 := by
                   first
                     | rw [ge, jn_11, if_pos (mul_sw.mpr ⟨by omega, by omega⟩)]
                     | rw [ge, jn_12, if_pos (by omega)]
                 refine cB0 (k _ (fun b2 r2 w1 w2 => ?_) (fun i0 i1 => ?_) (fun q => absurd q (by omega))) (by omega)
                 all_goals
                   simp only [up]
                   repeat rw [if_neg (by omega)])
          · refine x_ci ?_
            refine x_goto ?_
            refine x_zret (by first | exact bI_01 _ | omega) ?_
            first
              | (refine cB1 (k _ (fun b2 r2 w1 w2 => ?_) (fun i0 i1 => ?_) (fun _ => ⟨?_, ?_⟩)) ⟨by omega, by omega⟩
                 · simp only [up]
                   repeat rw [if_neg (by omega)]
                 · simp only [up]
                   repeat rw [if_neg (by omega)]
                 · rw [up_e]
                 · rw [up_a (by decide), up_e])
              | (refine cB0 (k _ (fun b2 r2 w1 w2 => ?_) (fun i0 i1 => ?_) (fun q => absurd q (by omega))) (by omega)
                 all_goals
                   simp only [up]
                   repeat rw [if_neg (by omega)])
              | (have je : jn g x y = -9223372036854775808 := by
                   first
                     | rw [ge, jn_11, if_pos (mul_sw.mpr ⟨by omega, by omega⟩)]
                     | rw [ge, jn_12, if_pos (by omega)]
                 refine cB0 (k _ (fun b2 r2 w1 w2 => ?_) (fun i0 i1 => ?_) (fun q => absurd q (by omega))) (by omega)
                 all_goals
                   simp only [up]
                   repeat rw [if_neg (by omega)])
      · refine x_ci ?_
        refine x_goto ?_
        refine n_call [vI _] [] (by omega) (Nat.le_of_ble_eq_true rfl) rfl rfl (Nat.le_of_ble_eq_true rfl) ?_
        refine r_is (by omega) ?_
        show wp PP _ _ _ [some (vR _), some (vI _), some (vL _), _, some (vL _), _, _, _] [vL _] _ _
        refine t_L (jn g x y) (by rw [ge, jn_6]; first | exact (bI_t (by omega)).symm | exact (bI_f (by omega)).symm) ?_
        refine n_lstore [some (vR _), some (vI _), some (vL _), _, some (vL _), _, some (vL _), _] (Nat.le_of_ble_eq_true rfl) rfl ?_
        refine x_goto ?_
        have jr := jn_R (g := g) hx hy
        refine x_aload rfl ?_
        refine h_getR sc_94 rfl (by omega) ?_
        refine x_aload rfl ?_
        refine h_getI 26 sc_94 rfl rfl ?_
        rw [up_e]
        refine x_ci ?_
        refine x_isub ?_
        refine t_I (ht : Int) (by omega) ?_
        refine x_lload rfl ?_
        refine h_last sc_105 ⟨by omega, by omega⟩ (by decide) ?_
        refine x_lload rfl ?_
        refine x_cl ?_
        refine n_lif_gt ⟨by omega, by omega⟩ ⟨by omega, by omega⟩ (fun c4 => ?_) (fun c4 => ?_)
        · refine x_ci ?_
          refine x_fall ?_
          refine x_zret (by first | exact bI_01 _ | omega) ?_
          first
            | (refine cB1 (k _ (fun b2 r2 w1 w2 => ?_) (fun i0 i1 => ?_) (fun _ => ⟨?_, ?_⟩)) ⟨by omega, by omega⟩
               · simp only [up]
                 repeat rw [if_neg (by omega)]
               · simp only [up]
                 repeat rw [if_neg (by omega)]
               · rw [up_e]
               · rw [up_a (by decide), up_e])
            | (refine cB0 (k _ (fun b2 r2 w1 w2 => ?_) (fun i0 i1 => ?_) (fun q => absurd q (by omega))) (by omega)
               all_goals
                 simp only [up]
                 repeat rw [if_neg (by omega)])
            | (have je : jn g x y = -9223372036854775808 := by
                 first
                   | rw [ge, jn_11, if_pos (mul_sw.mpr ⟨by omega, by omega⟩)]
                   | rw [ge, jn_12, if_pos (by omega)]
               refine cB0 (k _ (fun b2 r2 w1 w2 => ?_) (fun i0 i1 => ?_) (fun q => absurd q (by omega))) (by omega)
               all_goals
                 simp only [up]
                 repeat rw [if_neg (by omega)])
        · refine x_lload rfl ?_
          refine x_cl ?_
          refine n_lif_lt ⟨by omega, by omega⟩ ⟨by omega, by omega⟩ (fun c5 => ?_) (fun c5 => ?_)
          · refine x_ci ?_
            refine x_fall ?_
            refine x_zret (by first | exact bI_01 _ | omega) ?_
            first
              | (refine cB1 (k _ (fun b2 r2 w1 w2 => ?_) (fun i0 i1 => ?_) (fun _ => ⟨?_, ?_⟩)) ⟨by omega, by omega⟩
                 · simp only [up]
                   repeat rw [if_neg (by omega)]
                 · simp only [up]
                   repeat rw [if_neg (by omega)]
                 · rw [up_e]
                 · rw [up_a (by decide), up_e])
              | (refine cB0 (k _ (fun b2 r2 w1 w2 => ?_) (fun i0 i1 => ?_) (fun q => absurd q (by omega))) (by omega)
                 all_goals
                   simp only [up]
                   repeat rw [if_neg (by omega)])
              | (have je : jn g x y = -9223372036854775808 := by
                   first
                     | rw [ge, jn_11, if_pos (mul_sw.mpr ⟨by omega, by omega⟩)]
                     | rw [ge, jn_12, if_pos (by omega)]
                 refine cB0 (k _ (fun b2 r2 w1 w2 => ?_) (fun i0 i1 => ?_) (fun q => absurd q (by omega))) (by omega)
                 all_goals
                   simp only [up]
                   repeat rw [if_neg (by omega)])
          · refine x_ci ?_
            refine x_goto ?_
            refine x_zret (by first | exact bI_01 _ | omega) ?_
            first
              | (refine cB1 (k _ (fun b2 r2 w1 w2 => ?_) (fun i0 i1 => ?_) (fun _ => ⟨?_, ?_⟩)) ⟨by omega, by omega⟩
                 · simp only [up]
                   repeat rw [if_neg (by omega)]
                 · simp only [up]
                   repeat rw [if_neg (by omega)]
                 · rw [up_e]
                 · rw [up_a (by decide), up_e])
              | (refine cB0 (k _ (fun b2 r2 w1 w2 => ?_) (fun i0 i1 => ?_) (fun q => absurd q (by omega))) (by omega)
                 all_goals
                   simp only [up]
                   repeat rw [if_neg (by omega)])
              | (have je : jn g x y = -9223372036854775808 := by
                   first
                     | rw [ge, jn_11, if_pos (mul_sw.mpr ⟨by omega, by omega⟩)]
                     | rw [ge, jn_12, if_pos (by omega)]
                 refine cB0 (k _ (fun b2 r2 w1 w2 => ?_) (fun i0 i1 => ?_) (fun q => absurd q (by omega))) (by omega)
                 all_goals
                   simp only [up]
                   repeat rw [if_neg (by omega)])
    · have ge : g = 7 := (cr trivial).2.2.2.2.2.2.2.2.2.1 c2
      refine x_lload rfl ?_
      refine x_lload rfl ?_
      refine n_lif_lt ⟨by omega, by omega⟩ ⟨by omega, by omega⟩ (fun c3 => ?_) (fun c3 => ?_)
      · refine x_ci ?_
        refine x_fall ?_
        refine n_call [vI _] [] (by omega) (Nat.le_of_ble_eq_true rfl) rfl rfl (Nat.le_of_ble_eq_true rfl) ?_
        refine r_is (by omega) ?_
        show wp PP _ _ _ [some (vR _), some (vI _), some (vL _), _, some (vL _), _, _, _] [vL _] _ _
        refine t_L (jn g x y) (by rw [ge, jn_7]; first | exact (bI_t (by omega)).symm | exact (bI_f (by omega)).symm) ?_
        refine n_lstore [some (vR _), some (vI _), some (vL _), _, some (vL _), _, some (vL _), _] (Nat.le_of_ble_eq_true rfl) rfl ?_
        refine x_goto ?_
        have jr := jn_R (g := g) hx hy
        refine x_aload rfl ?_
        refine h_getR sc_94 rfl (by omega) ?_
        refine x_aload rfl ?_
        refine h_getI 26 sc_94 rfl rfl ?_
        rw [up_e]
        refine x_ci ?_
        refine x_isub ?_
        refine t_I (ht : Int) (by omega) ?_
        refine x_lload rfl ?_
        refine h_last sc_105 ⟨by omega, by omega⟩ (by decide) ?_
        refine x_lload rfl ?_
        refine x_cl ?_
        refine n_lif_gt ⟨by omega, by omega⟩ ⟨by omega, by omega⟩ (fun c4 => ?_) (fun c4 => ?_)
        · refine x_ci ?_
          refine x_fall ?_
          refine x_zret (by first | exact bI_01 _ | omega) ?_
          first
            | (refine cB1 (k _ (fun b2 r2 w1 w2 => ?_) (fun i0 i1 => ?_) (fun _ => ⟨?_, ?_⟩)) ⟨by omega, by omega⟩
               · simp only [up]
                 repeat rw [if_neg (by omega)]
               · simp only [up]
                 repeat rw [if_neg (by omega)]
               · rw [up_e]
               · rw [up_a (by decide), up_e])
            | (refine cB0 (k _ (fun b2 r2 w1 w2 => ?_) (fun i0 i1 => ?_) (fun q => absurd q (by omega))) (by omega)
               all_goals
                 simp only [up]
                 repeat rw [if_neg (by omega)])
            | (have je : jn g x y = -9223372036854775808 := by
                 first
                   | rw [ge, jn_11, if_pos (mul_sw.mpr ⟨by omega, by omega⟩)]
                   | rw [ge, jn_12, if_pos (by omega)]
               refine cB0 (k _ (fun b2 r2 w1 w2 => ?_) (fun i0 i1 => ?_) (fun q => absurd q (by omega))) (by omega)
               all_goals
                 simp only [up]
                 repeat rw [if_neg (by omega)])
        · refine x_lload rfl ?_
          refine x_cl ?_
          refine n_lif_lt ⟨by omega, by omega⟩ ⟨by omega, by omega⟩ (fun c5 => ?_) (fun c5 => ?_)
          · refine x_ci ?_
            refine x_fall ?_
            refine x_zret (by first | exact bI_01 _ | omega) ?_
            first
              | (refine cB1 (k _ (fun b2 r2 w1 w2 => ?_) (fun i0 i1 => ?_) (fun _ => ⟨?_, ?_⟩)) ⟨by omega, by omega⟩
                 · simp only [up]
                   repeat rw [if_neg (by omega)]
                 · simp only [up]
                   repeat rw [if_neg (by omega)]
                 · rw [up_e]
                 · rw [up_a (by decide), up_e])
              | (refine cB0 (k _ (fun b2 r2 w1 w2 => ?_) (fun i0 i1 => ?_) (fun q => absurd q (by omega))) (by omega)
                 all_goals
                   simp only [up]
                   repeat rw [if_neg (by omega)])
              | (have je : jn g x y = -9223372036854775808 := by
                   first
                     | rw [ge, jn_11, if_pos (mul_sw.mpr ⟨by omega, by omega⟩)]
                     | rw [ge, jn_12, if_pos (by omega)]
                 refine cB0 (k _ (fun b2 r2 w1 w2 => ?_) (fun i0 i1 => ?_) (fun q => absurd q (by omega))) (by omega)
                 all_goals
                   simp only [up]
                   repeat rw [if_neg (by omega)])
          · refine x_ci ?_
            refine x_goto ?_
            refine x_zret (by first | exact bI_01 _ | omega) ?_
            first
              | (refine cB1 (k _ (fun b2 r2 w1 w2 => ?_) (fun i0 i1 => ?_) (fun _ => ⟨?_, ?_⟩)) ⟨by omega, by omega⟩
                 · simp only [up]
                   repeat rw [if_neg (by omega)]
                 · simp only [up]
                   repeat rw [if_neg (by omega)]
                 · rw [up_e]
                 · rw [up_a (by decide), up_e])
              | (refine cB0 (k _ (fun b2 r2 w1 w2 => ?_) (fun i0 i1 => ?_) (fun q => absurd q (by omega))) (by omega)
                 all_goals
                   simp only [up]
                   repeat rw [if_neg (by omega)])
              | (have je : jn g x y = -9223372036854775808 := by
                   first
                     | rw [ge, jn_11, if_pos (mul_sw.mpr ⟨by omega, by omega⟩)]
                     | rw [ge, jn_12, if_pos (by omega)]
                 refine cB0 (k _ (fun b2 r2 w1 w2 => ?_) (fun i0 i1 => ?_) (fun q => absurd q (by omega))) (by omega)
                 all_goals
                   simp only [up]
                   repeat rw [if_neg (by omega)])
      · refine x_ci ?_
        refine x_goto ?_
        refine n_call [vI _] [] (by omega) (Nat.le_of_ble_eq_true rfl) rfl rfl (Nat.le_of_ble_eq_true rfl) ?_
        refine r_is (by omega) ?_
        show wp PP _ _ _ [some (vR _), some (vI _), some (vL _), _, some (vL _), _, _, _] [vL _] _ _
        refine t_L (jn g x y) (by rw [ge, jn_7]; first | exact (bI_t (by omega)).symm | exact (bI_f (by omega)).symm) ?_
        refine n_lstore [some (vR _), some (vI _), some (vL _), _, some (vL _), _, some (vL _), _] (Nat.le_of_ble_eq_true rfl) rfl ?_
        refine x_goto ?_
        have jr := jn_R (g := g) hx hy
        refine x_aload rfl ?_
        refine h_getR sc_94 rfl (by omega) ?_
        refine x_aload rfl ?_
        refine h_getI 26 sc_94 rfl rfl ?_
        rw [up_e]
        refine x_ci ?_
        refine x_isub ?_
        refine t_I (ht : Int) (by omega) ?_
        refine x_lload rfl ?_
        refine h_last sc_105 ⟨by omega, by omega⟩ (by decide) ?_
        refine x_lload rfl ?_
        refine x_cl ?_
        refine n_lif_gt ⟨by omega, by omega⟩ ⟨by omega, by omega⟩ (fun c4 => ?_) (fun c4 => ?_)
        · refine x_ci ?_
          refine x_fall ?_
          refine x_zret (by first | exact bI_01 _ | omega) ?_
          first
            | (refine cB1 (k _ (fun b2 r2 w1 w2 => ?_) (fun i0 i1 => ?_) (fun _ => ⟨?_, ?_⟩)) ⟨by omega, by omega⟩
               · simp only [up]
                 repeat rw [if_neg (by omega)]
               · simp only [up]
                 repeat rw [if_neg (by omega)]
               · rw [up_e]
               · rw [up_a (by decide), up_e])
            | (refine cB0 (k _ (fun b2 r2 w1 w2 => ?_) (fun i0 i1 => ?_) (fun q => absurd q (by omega))) (by omega)
               all_goals
                 simp only [up]
                 repeat rw [if_neg (by omega)])
            | (have je : jn g x y = -9223372036854775808 := by
                 first
                   | rw [ge, jn_11, if_pos (mul_sw.mpr ⟨by omega, by omega⟩)]
                   | rw [ge, jn_12, if_pos (by omega)]
               refine cB0 (k _ (fun b2 r2 w1 w2 => ?_) (fun i0 i1 => ?_) (fun q => absurd q (by omega))) (by omega)
               all_goals
                 simp only [up]
                 repeat rw [if_neg (by omega)])
        · refine x_lload rfl ?_
          refine x_cl ?_
          refine n_lif_lt ⟨by omega, by omega⟩ ⟨by omega, by omega⟩ (fun c5 => ?_) (fun c5 => ?_)
          · refine x_ci ?_
            refine x_fall ?_
            refine x_zret (by first | exact bI_01 _ | omega) ?_
            first
              | (refine cB1 (k _ (fun b2 r2 w1 w2 => ?_) (fun i0 i1 => ?_) (fun _ => ⟨?_, ?_⟩)) ⟨by omega, by omega⟩
                 · simp only [up]
                   repeat rw [if_neg (by omega)]
                 · simp only [up]
                   repeat rw [if_neg (by omega)]
                 · rw [up_e]
                 · rw [up_a (by decide), up_e])
              | (refine cB0 (k _ (fun b2 r2 w1 w2 => ?_) (fun i0 i1 => ?_) (fun q => absurd q (by omega))) (by omega)
                 all_goals
                   simp only [up]
                   repeat rw [if_neg (by omega)])
              | (have je : jn g x y = -9223372036854775808 := by
                   first
                     | rw [ge, jn_11, if_pos (mul_sw.mpr ⟨by omega, by omega⟩)]
                     | rw [ge, jn_12, if_pos (by omega)]
                 refine cB0 (k _ (fun b2 r2 w1 w2 => ?_) (fun i0 i1 => ?_) (fun q => absurd q (by omega))) (by omega)
                 all_goals
                   simp only [up]
                   repeat rw [if_neg (by omega)])
          · refine x_ci ?_
            refine x_goto ?_
            refine x_zret (by first | exact bI_01 _ | omega) ?_
            first
              | (refine cB1 (k _ (fun b2 r2 w1 w2 => ?_) (fun i0 i1 => ?_) (fun _ => ⟨?_, ?_⟩)) ⟨by omega, by omega⟩
                 · simp only [up]
                   repeat rw [if_neg (by omega)]
                 · simp only [up]
                   repeat rw [if_neg (by omega)]
                 · rw [up_e]
                 · rw [up_a (by decide), up_e])
              | (refine cB0 (k _ (fun b2 r2 w1 w2 => ?_) (fun i0 i1 => ?_) (fun q => absurd q (by omega))) (by omega)
                 all_goals
                   simp only [up]
                   repeat rw [if_neg (by omega)])
              | (have je : jn g x y = -9223372036854775808 := by
                   first
                     | rw [ge, jn_11, if_pos (mul_sw.mpr ⟨by omega, by omega⟩)]
                     | rw [ge, jn_12, if_pos (by omega)]
                 refine cB0 (k _ (fun b2 r2 w1 w2 => ?_) (fun i0 i1 => ?_) (fun q => absurd q (by omega))) (by omega)
                 all_goals
                   simp only [up]
                   repeat rw [if_neg (by omega)])
    · have ge : g = 1 := (cr trivial).2.2.2.2.2.2.2.2.2.2.1 c2
      refine x_lload rfl ?_
      refine x_cl ?_
      refine n_lif_eq ⟨by omega, by omega⟩ ⟨by omega, by omega⟩ (fun c3 => ?_) (fun c3 => ?_)
      · refine x_ci ?_
        refine x_fall ?_
        refine n_call [vI _] [] (by omega) (Nat.le_of_ble_eq_true rfl) rfl rfl (Nat.le_of_ble_eq_true rfl) ?_
        refine r_is (by omega) ?_
        show wp PP _ _ _ [some (vR _), some (vI _), some (vL _), _, some (vL _), _, _, _] [vL _] _ _
        refine t_L (jn g x y) (by rw [ge, jn_1]; first | exact (bI_t (by omega)).symm | exact (bI_f (by omega)).symm) ?_
        refine n_lstore [some (vR _), some (vI _), some (vL _), _, some (vL _), _, some (vL _), _] (Nat.le_of_ble_eq_true rfl) rfl ?_
        refine x_goto ?_
        have jr := jn_R (g := g) hx hy
        refine x_aload rfl ?_
        refine h_getR sc_94 rfl (by omega) ?_
        refine x_aload rfl ?_
        refine h_getI 26 sc_94 rfl rfl ?_
        rw [up_e]
        refine x_ci ?_
        refine x_isub ?_
        refine t_I (ht : Int) (by omega) ?_
        refine x_lload rfl ?_
        refine h_last sc_105 ⟨by omega, by omega⟩ (by decide) ?_
        refine x_lload rfl ?_
        refine x_cl ?_
        refine n_lif_gt ⟨by omega, by omega⟩ ⟨by omega, by omega⟩ (fun c4 => ?_) (fun c4 => ?_)
        · refine x_ci ?_
          refine x_fall ?_
          refine x_zret (by first | exact bI_01 _ | omega) ?_
          first
            | (refine cB1 (k _ (fun b2 r2 w1 w2 => ?_) (fun i0 i1 => ?_) (fun _ => ⟨?_, ?_⟩)) ⟨by omega, by omega⟩
               · simp only [up]
                 repeat rw [if_neg (by omega)]
               · simp only [up]
                 repeat rw [if_neg (by omega)]
               · rw [up_e]
               · rw [up_a (by decide), up_e])
            | (refine cB0 (k _ (fun b2 r2 w1 w2 => ?_) (fun i0 i1 => ?_) (fun q => absurd q (by omega))) (by omega)
               all_goals
                 simp only [up]
                 repeat rw [if_neg (by omega)])
            | (have je : jn g x y = -9223372036854775808 := by
                 first
                   | rw [ge, jn_11, if_pos (mul_sw.mpr ⟨by omega, by omega⟩)]
                   | rw [ge, jn_12, if_pos (by omega)]
               refine cB0 (k _ (fun b2 r2 w1 w2 => ?_) (fun i0 i1 => ?_) (fun q => absurd q (by omega))) (by omega)
               all_goals
                 simp only [up]
                 repeat rw [if_neg (by omega)])
        · refine x_lload rfl ?_
          refine x_cl ?_
          refine n_lif_lt ⟨by omega, by omega⟩ ⟨by omega, by omega⟩ (fun c5 => ?_) (fun c5 => ?_)
          · refine x_ci ?_
            refine x_fall ?_
            refine x_zret (by first | exact bI_01 _ | omega) ?_
            first
              | (refine cB1 (k _ (fun b2 r2 w1 w2 => ?_) (fun i0 i1 => ?_) (fun _ => ⟨?_, ?_⟩)) ⟨by omega, by omega⟩
                 · simp only [up]
                   repeat rw [if_neg (by omega)]
                 · simp only [up]
                   repeat rw [if_neg (by omega)]
                 · rw [up_e]
                 · rw [up_a (by decide), up_e])
              | (refine cB0 (k _ (fun b2 r2 w1 w2 => ?_) (fun i0 i1 => ?_) (fun q => absurd q (by omega))) (by omega)
                 all_goals
                   simp only [up]
                   repeat rw [if_neg (by omega)])
              | (have je : jn g x y = -9223372036854775808 := by
                   first
                     | rw [ge, jn_11, if_pos (mul_sw.mpr ⟨by omega, by omega⟩)]
                     | rw [ge, jn_12, if_pos (by omega)]
                 refine cB0 (k _ (fun b2 r2 w1 w2 => ?_) (fun i0 i1 => ?_) (fun q => absurd q (by omega))) (by omega)
                 all_goals
                   simp only [up]
                   repeat rw [if_neg (by omega)])
          · refine x_ci ?_
            refine x_goto ?_
            refine x_zret (by first | exact bI_01 _ | omega) ?_
            first
              | (refine cB1 (k _ (fun b2 r2 w1 w2 => ?_) (fun i0 i1 => ?_) (fun _ => ⟨?_, ?_⟩)) ⟨by omega, by omega⟩
                 · simp only [up]
                   repeat rw [if_neg (by omega)]
                 · simp only [up]
                   repeat rw [if_neg (by omega)]
                 · rw [up_e]
                 · rw [up_a (by decide), up_e])
              | (refine cB0 (k _ (fun b2 r2 w1 w2 => ?_) (fun i0 i1 => ?_) (fun q => absurd q (by omega))) (by omega)
                 all_goals
                   simp only [up]
                   repeat rw [if_neg (by omega)])
              | (have je : jn g x y = -9223372036854775808 := by
                   first
                     | rw [ge, jn_11, if_pos (mul_sw.mpr ⟨by omega, by omega⟩)]
                     | rw [ge, jn_12, if_pos (by omega)]
                 refine cB0 (k _ (fun b2 r2 w1 w2 => ?_) (fun i0 i1 => ?_) (fun q => absurd q (by omega))) (by omega)
                 all_goals
                   simp only [up]
                   repeat rw [if_neg (by omega)])
      · refine x_lload rfl ?_
        refine x_cl ?_
        refine n_lif_eq ⟨by omega, by omega⟩ ⟨by omega, by omega⟩ (fun c4 => ?_) (fun c4 => ?_)
        · refine x_ci ?_
          refine x_fall ?_
          refine n_call [vI _] [] (by omega) (Nat.le_of_ble_eq_true rfl) rfl rfl (Nat.le_of_ble_eq_true rfl) ?_
          refine r_is (by omega) ?_
          show wp PP _ _ _ [some (vR _), some (vI _), some (vL _), _, some (vL _), _, _, _] [vL _] _ _
          refine t_L (jn g x y) (by rw [ge, jn_1]; first | exact (bI_t (by omega)).symm | exact (bI_f (by omega)).symm) ?_
          refine n_lstore [some (vR _), some (vI _), some (vL _), _, some (vL _), _, some (vL _), _] (Nat.le_of_ble_eq_true rfl) rfl ?_
          refine x_goto ?_
          have jr := jn_R (g := g) hx hy
          refine x_aload rfl ?_
          refine h_getR sc_94 rfl (by omega) ?_
          refine x_aload rfl ?_
          refine h_getI 26 sc_94 rfl rfl ?_
          rw [up_e]
          refine x_ci ?_
          refine x_isub ?_
          refine t_I (ht : Int) (by omega) ?_
          refine x_lload rfl ?_
          refine h_last sc_105 ⟨by omega, by omega⟩ (by decide) ?_
          refine x_lload rfl ?_
          refine x_cl ?_
          refine n_lif_gt ⟨by omega, by omega⟩ ⟨by omega, by omega⟩ (fun c5 => ?_) (fun c5 => ?_)
          · refine x_ci ?_
            refine x_fall ?_
            refine x_zret (by first | exact bI_01 _ | omega) ?_
            first
              | (refine cB1 (k _ (fun b2 r2 w1 w2 => ?_) (fun i0 i1 => ?_) (fun _ => ⟨?_, ?_⟩)) ⟨by omega, by omega⟩
                 · simp only [up]
                   repeat rw [if_neg (by omega)]
                 · simp only [up]
                   repeat rw [if_neg (by omega)]
                 · rw [up_e]
                 · rw [up_a (by decide), up_e])
              | (refine cB0 (k _ (fun b2 r2 w1 w2 => ?_) (fun i0 i1 => ?_) (fun q => absurd q (by omega))) (by omega)
                 all_goals
                   simp only [up]
                   repeat rw [if_neg (by omega)])
              | (have je : jn g x y = -9223372036854775808 := by
                   first
                     | rw [ge, jn_11, if_pos (mul_sw.mpr ⟨by omega, by omega⟩)]
                     | rw [ge, jn_12, if_pos (by omega)]
                 refine cB0 (k _ (fun b2 r2 w1 w2 => ?_) (fun i0 i1 => ?_) (fun q => absurd q (by omega))) (by omega)
                 all_goals
                   simp only [up]
                   repeat rw [if_neg (by omega)])
          · refine x_lload rfl ?_
            refine x_cl ?_
            refine n_lif_lt ⟨by omega, by omega⟩ ⟨by omega, by omega⟩ (fun c6 => ?_) (fun c6 => ?_)
            · refine x_ci ?_
              refine x_fall ?_
              refine x_zret (by first | exact bI_01 _ | omega) ?_
              first
                | (refine cB1 (k _ (fun b2 r2 w1 w2 => ?_) (fun i0 i1 => ?_) (fun _ => ⟨?_, ?_⟩)) ⟨by omega, by omega⟩
                   · simp only [up]
                     repeat rw [if_neg (by omega)]
                   · simp only [up]
                     repeat rw [if_neg (by omega)]
                   · rw [up_e]
                   · rw [up_a (by decide), up_e])
                | (refine cB0 (k _ (fun b2 r2 w1 w2 => ?_) (fun i0 i1 => ?_) (fun q => absurd q (by omega))) (by omega)
                   all_goals
                     simp only [up]
                     repeat rw [if_neg (by omega)])
                | (have je : jn g x y = -9223372036854775808 := by
                     first
                       | rw [ge, jn_11, if_pos (mul_sw.mpr ⟨by omega, by omega⟩)]
                       | rw [ge, jn_12, if_pos (by omega)]
                   refine cB0 (k _ (fun b2 r2 w1 w2 => ?_) (fun i0 i1 => ?_) (fun q => absurd q (by omega))) (by omega)
                   all_goals
                     simp only [up]
                     repeat rw [if_neg (by omega)])
            · refine x_ci ?_
              refine x_goto ?_
              refine x_zret (by first | exact bI_01 _ | omega) ?_
              first
                | (refine cB1 (k _ (fun b2 r2 w1 w2 => ?_) (fun i0 i1 => ?_) (fun _ => ⟨?_, ?_⟩)) ⟨by omega, by omega⟩
                   · simp only [up]
                     repeat rw [if_neg (by omega)]
                   · simp only [up]
                     repeat rw [if_neg (by omega)]
                   · rw [up_e]
                   · rw [up_a (by decide), up_e])
                | (refine cB0 (k _ (fun b2 r2 w1 w2 => ?_) (fun i0 i1 => ?_) (fun q => absurd q (by omega))) (by omega)
                   all_goals
                     simp only [up]
                     repeat rw [if_neg (by omega)])
                | (have je : jn g x y = -9223372036854775808 := by
                     first
                       | rw [ge, jn_11, if_pos (mul_sw.mpr ⟨by omega, by omega⟩)]
                       | rw [ge, jn_12, if_pos (by omega)]
                   refine cB0 (k _ (fun b2 r2 w1 w2 => ?_) (fun i0 i1 => ?_) (fun q => absurd q (by omega))) (by omega)
                   all_goals
                     simp only [up]
                     repeat rw [if_neg (by omega)])
        · refine x_ci ?_
          refine x_goto ?_
          refine n_call [vI _] [] (by omega) (Nat.le_of_ble_eq_true rfl) rfl rfl (Nat.le_of_ble_eq_true rfl) ?_
          refine r_is (by omega) ?_
          show wp PP _ _ _ [some (vR _), some (vI _), some (vL _), _, some (vL _), _, _, _] [vL _] _ _
          refine t_L (jn g x y) (by rw [ge, jn_1]; first | exact (bI_t (by omega)).symm | exact (bI_f (by omega)).symm) ?_
          refine n_lstore [some (vR _), some (vI _), some (vL _), _, some (vL _), _, some (vL _), _] (Nat.le_of_ble_eq_true rfl) rfl ?_
          refine x_goto ?_
          have jr := jn_R (g := g) hx hy
          refine x_aload rfl ?_
          refine h_getR sc_94 rfl (by omega) ?_
          refine x_aload rfl ?_
          refine h_getI 26 sc_94 rfl rfl ?_
          rw [up_e]
          refine x_ci ?_
          refine x_isub ?_
          refine t_I (ht : Int) (by omega) ?_
          refine x_lload rfl ?_
          refine h_last sc_105 ⟨by omega, by omega⟩ (by decide) ?_
          refine x_lload rfl ?_
          refine x_cl ?_
          refine n_lif_gt ⟨by omega, by omega⟩ ⟨by omega, by omega⟩ (fun c5 => ?_) (fun c5 => ?_)
          · refine x_ci ?_
            refine x_fall ?_
            refine x_zret (by first | exact bI_01 _ | omega) ?_
            first
              | (refine cB1 (k _ (fun b2 r2 w1 w2 => ?_) (fun i0 i1 => ?_) (fun _ => ⟨?_, ?_⟩)) ⟨by omega, by omega⟩
                 · simp only [up]
                   repeat rw [if_neg (by omega)]
                 · simp only [up]
                   repeat rw [if_neg (by omega)]
                 · rw [up_e]
                 · rw [up_a (by decide), up_e])
              | (refine cB0 (k _ (fun b2 r2 w1 w2 => ?_) (fun i0 i1 => ?_) (fun q => absurd q (by omega))) (by omega)
                 all_goals
                   simp only [up]
                   repeat rw [if_neg (by omega)])
              | (have je : jn g x y = -9223372036854775808 := by
                   first
                     | rw [ge, jn_11, if_pos (mul_sw.mpr ⟨by omega, by omega⟩)]
                     | rw [ge, jn_12, if_pos (by omega)]
                 refine cB0 (k _ (fun b2 r2 w1 w2 => ?_) (fun i0 i1 => ?_) (fun q => absurd q (by omega))) (by omega)
                 all_goals
                   simp only [up]
                   repeat rw [if_neg (by omega)])
          · refine x_lload rfl ?_
            refine x_cl ?_
            refine n_lif_lt ⟨by omega, by omega⟩ ⟨by omega, by omega⟩ (fun c6 => ?_) (fun c6 => ?_)
            · refine x_ci ?_
              refine x_fall ?_
              refine x_zret (by first | exact bI_01 _ | omega) ?_
              first
                | (refine cB1 (k _ (fun b2 r2 w1 w2 => ?_) (fun i0 i1 => ?_) (fun _ => ⟨?_, ?_⟩)) ⟨by omega, by omega⟩
                   · simp only [up]
                     repeat rw [if_neg (by omega)]
                   · simp only [up]
                     repeat rw [if_neg (by omega)]
                   · rw [up_e]
                   · rw [up_a (by decide), up_e])
                | (refine cB0 (k _ (fun b2 r2 w1 w2 => ?_) (fun i0 i1 => ?_) (fun q => absurd q (by omega))) (by omega)
                   all_goals
                     simp only [up]
                     repeat rw [if_neg (by omega)])
                | (have je : jn g x y = -9223372036854775808 := by
                     first
                       | rw [ge, jn_11, if_pos (mul_sw.mpr ⟨by omega, by omega⟩)]
                       | rw [ge, jn_12, if_pos (by omega)]
                   refine cB0 (k _ (fun b2 r2 w1 w2 => ?_) (fun i0 i1 => ?_) (fun q => absurd q (by omega))) (by omega)
                   all_goals
                     simp only [up]
                     repeat rw [if_neg (by omega)])
            · refine x_ci ?_
              refine x_goto ?_
              refine x_zret (by first | exact bI_01 _ | omega) ?_
              first
                | (refine cB1 (k _ (fun b2 r2 w1 w2 => ?_) (fun i0 i1 => ?_) (fun _ => ⟨?_, ?_⟩)) ⟨by omega, by omega⟩
                   · simp only [up]
                     repeat rw [if_neg (by omega)]
                   · simp only [up]
                     repeat rw [if_neg (by omega)]
                   · rw [up_e]
                   · rw [up_a (by decide), up_e])
                | (refine cB0 (k _ (fun b2 r2 w1 w2 => ?_) (fun i0 i1 => ?_) (fun q => absurd q (by omega))) (by omega)
                   all_goals
                     simp only [up]
                     repeat rw [if_neg (by omega)])
                | (have je : jn g x y = -9223372036854775808 := by
                     first
                       | rw [ge, jn_11, if_pos (mul_sw.mpr ⟨by omega, by omega⟩)]
                       | rw [ge, jn_12, if_pos (by omega)]
                   refine cB0 (k _ (fun b2 r2 w1 w2 => ?_) (fun i0 i1 => ?_) (fun q => absurd q (by omega))) (by omega)
                   all_goals
                     simp only [up]
                     repeat rw [if_neg (by omega)])
  · have g2 : g = 2 := (cr trivial).2.2.2.2.2.2.2.2.2.2.2.1 c1
    exact absurd g2 hg2
end LD
