/-! THE REFERENCE'S YEARS: names, worths, dances -/
section RH
variable {d : Nat} {h0 h : pheap} {s : St} {Q : Option pv → pheap → Prop} {L f : Int} {n : Nat} {c c' : Int → Int}
def LWR (kc lb le : Int → Int) (s : St) : Prop := ∀ r : Int, 0 ≤ r → r < 3 → s 100 r = lb r ∧ s 101 r = le r ∧ ∀ i : Int, lb r ≤ i → i < le r → kR (kc i) (s 102 i) (s 103 i)
/-- all but what is danced aside, the names and the row of values -/
def qfr (s t : St) : Prop := ∀ (b : Nat) (r : Int), ¬ (114 ≤ b ∧ b ≤ 117) → ¬ b = 104 → ¬ b = 105 → ¬ (b = 94 ∧ r = 26) → t b r = s b r
theorem qfr_tr {s t u : St} (h1 : qfr s t) (h2 : qfr t u) : qfr s u := fun b r q1 q2 q3 q4 => (h2 b r q1 q2 q3 q4).trans (h1 b r q1 q2 q3 q4)
theorem qfr_rfl {s : St} : qfr s s := fun _ _ _ _ _ _ => rfl
theorem rfr.q {t : St} (h : rfr s t) : qfr s t := fun b r q1 _ _ _ => h b (by omega) r
theorem wfr.q {t : St} (h : wfr s t) : qfr s t := fun b r _ _ q3 q4 => h b r q3 q4
theorem LWR.q {t : St} {kc lb le : Int → Int} (h : LWR kc lb le s) (g : qfr s t) : LWR kc lb le t := fun r r0 r1 => by
  obtain ⟨q1, q2, q3⟩ := h r r0 r1
  refine ⟨(g 100 r (by omega) (by omega) (by omega) (by omega)).trans q1, (g 101 r (by omega) (by omega) (by omega) (by omega)).trans q2, fun i i0 i1 => ?_⟩
  rw [g 102 i (by omega) (by omega) (by omega) (by omega), g 103 i (by omega) (by omega) (by omega) (by omega)]
  exact q3 i i0 i1
theorem RD.q {t : St} (hr : RD f L n c s) (g : qfr s t) : RD f L n c t := by
  obtain ⟨hL, hn, hv, r1, r2, r3⟩ := hr
  exact ⟨hL, hn, hv, (g 111 f (by omega) (by omega) (by omega) (by omega)).trans r1, (g 112 f (by omega) (by omega) (by omega) (by omega)).trans r2, fun i i0 i1 => (g 113 _ (by omega) (by omega) (by omega) (by omega)).trans (r3 i i0 i1)⟩
theorem t_bits {x : Int} (y : Int) (e : x = y) (hy : 0 ≤ y ∧ y < 64) (k : Q (some (vI (cnt y))) (HP h0 s)) : wpM PP d 100 [vI x] (HP h0 s) Q := by
  subst e
  exact r_bitsOf hy k
theorem r_calls {m : Nat} (hf : 0 ≤ f ∧ f < 23) (hd : 3 ≤ d) (hr : RD f L n c s) (hmn : m ≤ n) {x yr : Int} (hx : 0 ≤ x ∧ x < 2 * (cnt L - 1)) (hy : s 106 f = yr) (hyr : 0 ≤ yr ∧ yr ≤ 100000) (k : ∀ t, (∀ j : Int, 0 ≤ j → j < 7 → t 104 j = nvE (wO L c m (x / 2)) (wO L c m (x / 2 + 1)) x (wB L c n (6 * wO L c m (x / 2) + wO L c m (x / 2 + 1))) n (cnt L) yr j) → qfr s t → Q none (HP h0 t)) : wpM PP d 122 [vR 94, vI f, vI x, vI m] (HP h0 s) Q := by
  obtain ⟨hL, hn, hv, r1, r2, r3⟩ := hr
  have hct := cnt_R L
  obtain ⟨o1, ho1⟩ : ∃ o, o = wO L c m (x / 2) := ⟨_, rfl⟩
  obtain ⟨o2, ho2⟩ : ∃ o, o = wO L c m (x / 2 + 1) := ⟨_, rfl⟩
  have w1 := wO_R hL (vC_less hv hmn) (x / 2) (by omega) (by omega)
  have w2 := wO_R hL (vC_less hv hmn) (x / 2 + 1) (by omega) (by omega)
  rw [← ho1] at w1
  rw [← ho2] at w2
  refine n_at (m := 122) (q := mr122) (kn := (0, 4)) [some (vR _), some (vI _), some (vI _), some (vI _), none, none] mb122 rfl rfl (h_rcv sc_94) (Nat.le_of_ble_eq_true rfl) rfl rfl ?_
  refine x_aload rfl ?_
  refine x_iload rfl ?_
  refine x_iload rfl ?_
  refine n_call [vR _, vI _, vI _] [] (by omega) (Nat.le_of_ble_eq_true rfl) rfl rfl (Nat.le_of_ble_eq_true rfl) ?_
  refine r_stands (c := c) (L := L) (f := f) hf (m := m) (by omega) hL r1 (by omega) (vC_less hv hmn) (fun i i0 i1 => r3 i i0 (by omega)) (fun t t1 t2 => ?_)
  show wp PP _ _ _ [some (vR _), some (vI _), some (vI _), some (vI _), _, _] [] _ _
  refine x_aload rfl ?_
  refine h_getR sc_94 rfl (by omega) ?_
  refine x_iload rfl ?_
  refine x_ci ?_
  refine n_idiv ⟨by omega, by omega⟩ ⟨by omega, by omega⟩ ?_
  refine h_iald sc_114 ⟨by omega, by omega⟩ (by decide) ?_
  rw [t1.1 _ (by omega) (by omega), ← ho1]
  refine n_istore [some (vR _), some (vI _), some (vI _), some (vI _), some (vI _), _] (Nat.le_of_ble_eq_true rfl) rfl ?_
  refine x_aload rfl ?_
  refine h_getR sc_94 rfl (by omega) ?_
  refine x_iload rfl ?_
  refine x_ci ?_
  refine n_idiv ⟨by omega, by omega⟩ ⟨by omega, by omega⟩ ?_
  refine x_ci ?_
  refine x_iadd ?_
  refine h_iald sc_114 ⟨by omega, by omega⟩ (by decide) ?_
  rw [t1.1 _ (by omega) (by omega), ← ho2]
  refine n_istore [some (vR _), some (vI _), some (vI _), some (vI _), some (vI _), some (vI _)] (Nat.le_of_ble_eq_true rfl) rfl ?_
  refine x_aload rfl ?_
  refine x_iload rfl ?_
  refine x_aload rfl ?_
  refine h_getR sc_94 rfl (by omega) ?_
  refine x_iload rfl ?_
  refine h_iald sc_112 ⟨by omega, by omega⟩ (by decide) ?_
  refine n_call [vR _, vI _, vI _] [] (by omega) (Nat.le_of_ble_eq_true rfl) rfl rfl (Nat.le_of_ble_eq_true rfl) ?_
  rw [(t2 112 (by omega) f).trans r2]
  refine r_stands (c := c) (L := L) (f := f) hf (m := n) (by omega) hL ((t2 111 (by omega) f).trans r1) hn hv (fun i i0 i1 => (t2 113 (by omega) _).trans (r3 i i0 i1)) (fun u u1 u2 => ?_)
  have wr := wB_R (L := L) (c := c) n (6 * o1 + o2)
  show wp PP _ _ _ [some (vR _), some (vI _), some (vI _), some (vI _), some (vI _), some (vI _)] [] _ _
  refine x_aload rfl ?_
  refine h_getR sc_94 rfl (by omega) ?_
  refine x_ci ?_
  refine x_iload rfl ?_
  refine x_ci ?_
  refine n_irem ⟨by omega, by omega⟩ ⟨by omega, by omega⟩ ?_
  refine n_if_ne ⟨by omega, by omega⟩ (fun c1 => ?_) (fun c1 => ?_)
  · refine x_iload rfl ?_
    refine n_i2l ⟨by omega, by omega⟩ ?_
    refine x_fall ?_
    refine h_last sc_104 ⟨by omega, by omega⟩ (by decide) ?_
    refine x_aload rfl ?_
    refine h_getR sc_94 rfl (by omega) ?_
    refine x_ci ?_
    refine x_iload rfl ?_
    refine x_ci ?_
    refine n_irem ⟨by omega, by omega⟩ ⟨by omega, by omega⟩ ?_
    refine n_if_ne ⟨by omega, by omega⟩ (fun c2 => ?_) (fun c2 => ?_)
    · refine x_iload rfl ?_
      refine n_i2l ⟨by omega, by omega⟩ ?_
      refine x_fall ?_
      refine h_last sc_104 ⟨by omega, by omega⟩ (by decide) ?_
      refine x_aload rfl ?_
      refine h_getR sc_94 rfl (by omega) ?_
      refine x_ci ?_
      refine x_iload rfl ?_
      refine x_ci ?_
      refine n_idiv ⟨by omega, by omega⟩ ⟨by omega, by omega⟩ ?_
      refine n_i2l ⟨by omega, by omega⟩ ?_
      refine h_last sc_104 ⟨by omega, by omega⟩ (by decide) ?_
      refine x_aload rfl ?_
      refine h_getR sc_94 rfl (by omega) ?_
      refine x_ci ?_
      refine x_aload rfl ?_
      refine h_getR sc_94 rfl (by omega) ?_
      refine x_ci ?_
      refine x_iload rfl ?_
      refine x_imul ?_
      refine x_iload rfl ?_
      refine x_iadd ?_
      refine h_iald sc_115 ⟨by omega, by omega⟩ (by decide) ?_
      refine t_I (wB L c n (6 * o1 + o2)) ?_ ?_
      · rw [up_a (by decide), up_a (by decide), up_a (by decide)]
        exact u1.2.1 _ (by omega) (by omega)
      refine n_i2l ⟨by omega, by omega⟩ ?_
      refine h_last sc_104 ⟨by omega, by omega⟩ (by decide) ?_
      refine x_aload rfl ?_
      refine h_getR sc_94 rfl (by omega) ?_
      refine x_ci ?_
      refine x_aload rfl ?_
      refine h_getR sc_94 rfl (by omega) ?_
      refine x_iload rfl ?_
      refine h_iald sc_112 ⟨by omega, by omega⟩ (by decide) ?_
      refine t_I n ?_ ?_
      · rw [up_a (by decide), up_a (by decide), up_a (by decide), up_a (by decide), (u2 112 (by omega) f).trans ((t2 112 (by omega) f).trans r2)]
      refine n_i2l ⟨by omega, by omega⟩ ?_
      refine h_last sc_104 ⟨by omega, by omega⟩ (by decide) ?_
      refine x_aload rfl ?_
      refine h_getR sc_94 rfl (by omega) ?_
      refine x_ci ?_
      refine x_aload rfl ?_
      refine h_getR sc_94 rfl (by omega) ?_
      refine x_iload rfl ?_
      refine h_iald sc_111 ⟨by omega, by omega⟩ (by decide) ?_
      refine n_call [vI _] [vI _, vR _] (by omega) (Nat.le_of_ble_eq_true rfl) rfl rfl (Nat.le_of_ble_eq_true rfl) ?_
      refine t_bits L ?_ hL ?_
      · rw [up_a (by decide), up_a (by decide), up_a (by decide), up_a (by decide), up_a (by decide), (u2 111 (by omega) f).trans ((t2 111 (by omega) f).trans r1)]
      show wp PP _ _ _ [some (vR _), some (vI _), some (vI _), some (vI _), some (vI _), some (vI _)] [vI _, vI _, vR _] _ _
      refine n_i2l ⟨by omega, by omega⟩ ?_
      refine h_last sc_104 ⟨by omega, by omega⟩ (by decide) ?_
      refine x_aload rfl ?_
      refine h_getR sc_94 rfl (by omega) ?_
      refine x_ci ?_
      refine x_aload rfl ?_
      refine h_getR sc_94 rfl (by omega) ?_
      refine x_iload rfl ?_
      refine h_iald sc_106 ⟨by omega, by omega⟩ (by decide) ?_
      refine t_I yr ?_ ?_
      · rw [up_a (by decide), up_a (by decide), up_a (by decide), up_a (by decide), up_a (by decide), up_a (by decide), (u2 106 (by omega) f).trans ((t2 106 (by omega) f).trans hy)]
      refine n_i2l ⟨by omega, by omega⟩ ?_
      refine h_last sc_104 ⟨by omega, by omega⟩ (by decide) ?_
      refine x_ret ?_
      refine k _ (fun j j0 j1 => ?_) (fun b2 r w1 w2 w3 w4 => ?_)
      · rw [← ho1, ← ho2]
        obtain rfl | rfl | rfl | rfl | rfl | rfl | rfl : j = 0 ∨ j = 1 ∨ j = 2 ∨ j = 3 ∨ j = 4 ∨ j = 5 ∨ j = 6 := by omega
        · simp [up, nvE]
          intros
          omega
        · simp [up, nvE]
          intros
          omega
        all_goals simp [up, nvE]
      · simp only [up]
        repeat rw [if_neg (by omega)]
        exact (u2 b2 (by omega) r).trans (t2 b2 (by omega) r)
    · refine x_iload rfl ?_
      refine n_i2l ⟨by omega, by omega⟩ ?_
      refine x_goto ?_
      refine h_last sc_104 ⟨by omega, by omega⟩ (by decide) ?_
      refine x_aload rfl ?_
      refine h_getR sc_94 rfl (by omega) ?_
      refine x_ci ?_
      refine x_iload rfl ?_
      refine x_ci ?_
      refine n_idiv ⟨by omega, by omega⟩ ⟨by omega, by omega⟩ ?_
      refine n_i2l ⟨by omega, by omega⟩ ?_
      refine h_last sc_104 ⟨by omega, by omega⟩ (by decide) ?_
      refine x_aload rfl ?_
      refine h_getR sc_94 rfl (by omega) ?_
      refine x_ci ?_
      refine x_aload rfl ?_
      refine h_getR sc_94 rfl (by omega) ?_
      refine x_ci ?_
      refine x_iload rfl ?_
      refine x_imul ?_
      refine x_iload rfl ?_
      refine x_iadd ?_
      refine h_iald sc_115 ⟨by omega, by omega⟩ (by decide) ?_
      refine t_I (wB L c n (6 * o1 + o2)) ?_ ?_
      · rw [up_a (by decide), up_a (by decide), up_a (by decide)]
        exact u1.2.1 _ (by omega) (by omega)
      refine n_i2l ⟨by omega, by omega⟩ ?_
      refine h_last sc_104 ⟨by omega, by omega⟩ (by decide) ?_
      refine x_aload rfl ?_
      refine h_getR sc_94 rfl (by omega) ?_
      refine x_ci ?_
      refine x_aload rfl ?_
      refine h_getR sc_94 rfl (by omega) ?_
      refine x_iload rfl ?_
      refine h_iald sc_112 ⟨by omega, by omega⟩ (by decide) ?_
      refine t_I n ?_ ?_
      · rw [up_a (by decide), up_a (by decide), up_a (by decide), up_a (by decide), (u2 112 (by omega) f).trans ((t2 112 (by omega) f).trans r2)]
      refine n_i2l ⟨by omega, by omega⟩ ?_
      refine h_last sc_104 ⟨by omega, by omega⟩ (by decide) ?_
      refine x_aload rfl ?_
      refine h_getR sc_94 rfl (by omega) ?_
      refine x_ci ?_
      refine x_aload rfl ?_
      refine h_getR sc_94 rfl (by omega) ?_
      refine x_iload rfl ?_
      refine h_iald sc_111 ⟨by omega, by omega⟩ (by decide) ?_
      refine n_call [vI _] [vI _, vR _] (by omega) (Nat.le_of_ble_eq_true rfl) rfl rfl (Nat.le_of_ble_eq_true rfl) ?_
      refine t_bits L ?_ hL ?_
      · rw [up_a (by decide), up_a (by decide), up_a (by decide), up_a (by decide), up_a (by decide), (u2 111 (by omega) f).trans ((t2 111 (by omega) f).trans r1)]
      show wp PP _ _ _ [some (vR _), some (vI _), some (vI _), some (vI _), some (vI _), some (vI _)] [vI _, vI _, vR _] _ _
      refine n_i2l ⟨by omega, by omega⟩ ?_
      refine h_last sc_104 ⟨by omega, by omega⟩ (by decide) ?_
      refine x_aload rfl ?_
      refine h_getR sc_94 rfl (by omega) ?_
      refine x_ci ?_
      refine x_aload rfl ?_
      refine h_getR sc_94 rfl (by omega) ?_
      refine x_iload rfl ?_
      refine h_iald sc_106 ⟨by omega, by omega⟩ (by decide) ?_
      refine t_I yr ?_ ?_
      · rw [up_a (by decide), up_a (by decide), up_a (by decide), up_a (by decide), up_a (by decide), up_a (by decide), (u2 106 (by omega) f).trans ((t2 106 (by omega) f).trans hy)]
      refine n_i2l ⟨by omega, by omega⟩ ?_
      refine h_last sc_104 ⟨by omega, by omega⟩ (by decide) ?_
      refine x_ret ?_
      refine k _ (fun j j0 j1 => ?_) (fun b2 r w1 w2 w3 w4 => ?_)
      · rw [← ho1, ← ho2]
        obtain rfl | rfl | rfl | rfl | rfl | rfl | rfl : j = 0 ∨ j = 1 ∨ j = 2 ∨ j = 3 ∨ j = 4 ∨ j = 5 ∨ j = 6 := by omega
        · simp [up, nvE]
          intros
          omega
        · simp [up, nvE]
          intros
          omega
        all_goals simp [up, nvE]
      · simp only [up]
        repeat rw [if_neg (by omega)]
        exact (u2 b2 (by omega) r).trans (t2 b2 (by omega) r)
  · refine x_iload rfl ?_
    refine n_i2l ⟨by omega, by omega⟩ ?_
    refine x_goto ?_
    refine h_last sc_104 ⟨by omega, by omega⟩ (by decide) ?_
    refine x_aload rfl ?_
    refine h_getR sc_94 rfl (by omega) ?_
    refine x_ci ?_
    refine x_iload rfl ?_
    refine x_ci ?_
    refine n_irem ⟨by omega, by omega⟩ ⟨by omega, by omega⟩ ?_
    refine n_if_ne ⟨by omega, by omega⟩ (fun c2 => ?_) (fun c2 => ?_)
    · refine x_iload rfl ?_
      refine n_i2l ⟨by omega, by omega⟩ ?_
      refine x_fall ?_
      refine h_last sc_104 ⟨by omega, by omega⟩ (by decide) ?_
      refine x_aload rfl ?_
      refine h_getR sc_94 rfl (by omega) ?_
      refine x_ci ?_
      refine x_iload rfl ?_
      refine x_ci ?_
      refine n_idiv ⟨by omega, by omega⟩ ⟨by omega, by omega⟩ ?_
      refine n_i2l ⟨by omega, by omega⟩ ?_
      refine h_last sc_104 ⟨by omega, by omega⟩ (by decide) ?_
      refine x_aload rfl ?_
      refine h_getR sc_94 rfl (by omega) ?_
      refine x_ci ?_
      refine x_aload rfl ?_
      refine h_getR sc_94 rfl (by omega) ?_
      refine x_ci ?_
      refine x_iload rfl ?_
      refine x_imul ?_
      refine x_iload rfl ?_
      refine x_iadd ?_
      refine h_iald sc_115 ⟨by omega, by omega⟩ (by decide) ?_
      refine t_I (wB L c n (6 * o1 + o2)) ?_ ?_
      · rw [up_a (by decide), up_a (by decide), up_a (by decide)]
        exact u1.2.1 _ (by omega) (by omega)
      refine n_i2l ⟨by omega, by omega⟩ ?_
      refine h_last sc_104 ⟨by omega, by omega⟩ (by decide) ?_
      refine x_aload rfl ?_
      refine h_getR sc_94 rfl (by omega) ?_
      refine x_ci ?_
      refine x_aload rfl ?_
      refine h_getR sc_94 rfl (by omega) ?_
      refine x_iload rfl ?_
      refine h_iald sc_112 ⟨by omega, by omega⟩ (by decide) ?_
      refine t_I n ?_ ?_
      · rw [up_a (by decide), up_a (by decide), up_a (by decide), up_a (by decide), (u2 112 (by omega) f).trans ((t2 112 (by omega) f).trans r2)]
      refine n_i2l ⟨by omega, by omega⟩ ?_
      refine h_last sc_104 ⟨by omega, by omega⟩ (by decide) ?_
      refine x_aload rfl ?_
      refine h_getR sc_94 rfl (by omega) ?_
      refine x_ci ?_
      refine x_aload rfl ?_
      refine h_getR sc_94 rfl (by omega) ?_
      refine x_iload rfl ?_
      refine h_iald sc_111 ⟨by omega, by omega⟩ (by decide) ?_
      refine n_call [vI _] [vI _, vR _] (by omega) (Nat.le_of_ble_eq_true rfl) rfl rfl (Nat.le_of_ble_eq_true rfl) ?_
      refine t_bits L ?_ hL ?_
      · rw [up_a (by decide), up_a (by decide), up_a (by decide), up_a (by decide), up_a (by decide), (u2 111 (by omega) f).trans ((t2 111 (by omega) f).trans r1)]
      show wp PP _ _ _ [some (vR _), some (vI _), some (vI _), some (vI _), some (vI _), some (vI _)] [vI _, vI _, vR _] _ _
      refine n_i2l ⟨by omega, by omega⟩ ?_
      refine h_last sc_104 ⟨by omega, by omega⟩ (by decide) ?_
      refine x_aload rfl ?_
      refine h_getR sc_94 rfl (by omega) ?_
      refine x_ci ?_
      refine x_aload rfl ?_
      refine h_getR sc_94 rfl (by omega) ?_
      refine x_iload rfl ?_
      refine h_iald sc_106 ⟨by omega, by omega⟩ (by decide) ?_
      refine t_I yr ?_ ?_
      · rw [up_a (by decide), up_a (by decide), up_a (by decide), up_a (by decide), up_a (by decide), up_a (by decide), (u2 106 (by omega) f).trans ((t2 106 (by omega) f).trans hy)]
      refine n_i2l ⟨by omega, by omega⟩ ?_
      refine h_last sc_104 ⟨by omega, by omega⟩ (by decide) ?_
      refine x_ret ?_
      refine k _ (fun j j0 j1 => ?_) (fun b2 r w1 w2 w3 w4 => ?_)
      · rw [← ho1, ← ho2]
        obtain rfl | rfl | rfl | rfl | rfl | rfl | rfl : j = 0 ∨ j = 1 ∨ j = 2 ∨ j = 3 ∨ j = 4 ∨ j = 5 ∨ j = 6 := by omega
        · simp [up, nvE]
          intros
          omega
        · simp [up, nvE]
          intros
          omega
        all_goals simp [up, nvE]
      · simp only [up]
        repeat rw [if_neg (by omega)]
        exact (u2 b2 (by omega) r).trans (t2 b2 (by omega) r)
    · refine x_iload rfl ?_
      refine n_i2l ⟨by omega, by omega⟩ ?_
      refine x_goto ?_
      refine h_last sc_104 ⟨by omega, by omega⟩ (by decide) ?_
      refine x_aload rfl ?_
      refine h_getR sc_94 rfl (by omega) ?_
      refine x_ci ?_
      refine x_iload rfl ?_
      refine x_ci ?_
      refine n_idiv ⟨by omega, by omega⟩ ⟨by omega, by omega⟩ ?_
      refine n_i2l ⟨by omega, by omega⟩ ?_
      refine h_last sc_104 ⟨by omega, by omega⟩ (by decide) ?_
      refine x_aload rfl ?_
      refine h_getR sc_94 rfl (by omega) ?_
      refine x_ci ?_
      refine x_aload rfl ?_
      refine h_getR sc_94 rfl (by omega) ?_
      refine x_ci ?_
      refine x_iload rfl ?_
      refine x_imul ?_
      refine x_iload rfl ?_
      refine x_iadd ?_
      refine h_iald sc_115 ⟨by omega, by omega⟩ (by decide) ?_
      refine t_I (wB L c n (6 * o1 + o2)) ?_ ?_
      · rw [up_a (by decide), up_a (by decide), up_a (by decide)]
        exact u1.2.1 _ (by omega) (by omega)
      refine n_i2l ⟨by omega, by omega⟩ ?_
      refine h_last sc_104 ⟨by omega, by omega⟩ (by decide) ?_
      refine x_aload rfl ?_
      refine h_getR sc_94 rfl (by omega) ?_
      refine x_ci ?_
      refine x_aload rfl ?_
      refine h_getR sc_94 rfl (by omega) ?_
      refine x_iload rfl ?_
      refine h_iald sc_112 ⟨by omega, by omega⟩ (by decide) ?_
      refine t_I n ?_ ?_
      · rw [up_a (by decide), up_a (by decide), up_a (by decide), up_a (by decide), (u2 112 (by omega) f).trans ((t2 112 (by omega) f).trans r2)]
      refine n_i2l ⟨by omega, by omega⟩ ?_
      refine h_last sc_104 ⟨by omega, by omega⟩ (by decide) ?_
      refine x_aload rfl ?_
      refine h_getR sc_94 rfl (by omega) ?_
      refine x_ci ?_
      refine x_aload rfl ?_
      refine h_getR sc_94 rfl (by omega) ?_
      refine x_iload rfl ?_
      refine h_iald sc_111 ⟨by omega, by omega⟩ (by decide) ?_
      refine n_call [vI _] [vI _, vR _] (by omega) (Nat.le_of_ble_eq_true rfl) rfl rfl (Nat.le_of_ble_eq_true rfl) ?_
      refine t_bits L ?_ hL ?_
      · rw [up_a (by decide), up_a (by decide), up_a (by decide), up_a (by decide), up_a (by decide), (u2 111 (by omega) f).trans ((t2 111 (by omega) f).trans r1)]
      show wp PP _ _ _ [some (vR _), some (vI _), some (vI _), some (vI _), some (vI _), some (vI _)] [vI _, vI _, vR _] _ _
      refine n_i2l ⟨by omega, by omega⟩ ?_
      refine h_last sc_104 ⟨by omega, by omega⟩ (by decide) ?_
      refine x_aload rfl ?_
      refine h_getR sc_94 rfl (by omega) ?_
      refine x_ci ?_
      refine x_aload rfl ?_
      refine h_getR sc_94 rfl (by omega) ?_
      refine x_iload rfl ?_
      refine h_iald sc_106 ⟨by omega, by omega⟩ (by decide) ?_
      refine t_I yr ?_ ?_
      · rw [up_a (by decide), up_a (by decide), up_a (by decide), up_a (by decide), up_a (by decide), up_a (by decide), (u2 106 (by omega) f).trans ((t2 106 (by omega) f).trans hy)]
      refine n_i2l ⟨by omega, by omega⟩ ?_
      refine h_last sc_104 ⟨by omega, by omega⟩ (by decide) ?_
      refine x_ret ?_
      refine k _ (fun j j0 j1 => ?_) (fun b2 r w1 w2 w3 w4 => ?_)
      · rw [← ho1, ← ho2]
        obtain rfl | rfl | rfl | rfl | rfl | rfl | rfl : j = 0 ∨ j = 1 ∨ j = 2 ∨ j = 3 ∨ j = 4 ∨ j = 5 ∨ j = 6 := by omega
        · simp [up, nvE]
          intros
          omega
        · simp [up, nvE]
          intros
          omega
        all_goals simp [up, nvE]
      · simp only [up]
        repeat rw [if_neg (by omega)]
        exact (u2 b2 (by omega) r).trans (t2 b2 (by omega) r)
theorem r_callsLast (hf : 0 ≤ f ∧ f < 23) (hd : 4 ≤ d) (hr : RD f L (n + 1) c s) {yr : Int} (hy : s 106 f = yr) (hyr : 0 ≤ yr ∧ yr ≤ 100000) (k : ∀ t, (∀ j : Int, 0 ≤ j → j < 7 → t 104 j = nvE (wO L c n (c n / 2)) (wO L c n (c n / 2 + 1)) (c n) (wB L c (n + 1) (6 * wO L c n (c n / 2) + wO L c n (c n / 2 + 1))) ((n + 1 : Nat) : Int) (cnt L) yr j) → qfr s t → Q none (HP h0 t)) : wpM PP d 123 [vR 94, vI f] (HP h0 s) Q := by
  obtain ⟨hL, hn, hv, r1, r2, r3⟩ := hr
  have hr : RD f L (n + 1) c s := ⟨hL, hn, hv, r1, r2, r3⟩
  have hct := cnt_R L
  have hx := hv n (by omega) (by omega)
  refine n_at (m := 123) (q := mr123) (kn := (0, 2)) [some (vR _), some (vI _)] mb123 rfl rfl (h_rcv sc_94) (Nat.le_of_ble_eq_true rfl) rfl rfl ?_
  refine x_aload rfl ?_
  refine x_iload rfl ?_
  refine x_aload rfl ?_
  refine h_getR sc_94 rfl (by omega) ?_
  refine x_ci ?_
  refine x_iload rfl ?_
  refine x_imul ?_
  refine x_aload rfl ?_
  refine h_getR sc_94 rfl (by omega) ?_
  refine x_iload rfl ?_
  refine h_iald sc_112 ⟨by omega, by omega⟩ (by decide) ?_
  rw [r2]
  refine x_iadd ?_
  refine x_ci ?_
  refine x_isub ?_
  refine t_I (48 * f + n) (by omega) ?_
  refine h_iald sc_113 ⟨by omega, by omega⟩ (by decide) ?_
  rw [r3 n (by omega) (by omega)]
  refine x_aload rfl ?_
  refine h_getR sc_94 rfl (by omega) ?_
  refine x_iload rfl ?_
  refine h_iald sc_112 ⟨by omega, by omega⟩ (by decide) ?_
  rw [r2]
  refine x_ci ?_
  refine x_isub ?_
  refine t_I (n : Int) (by omega) ?_
  refine n_call [vR _, vI _, vI _, vI _] [] (by omega) (Nat.le_of_ble_eq_true rfl) rfl rfl (Nat.le_of_ble_eq_true rfl) ?_
  refine r_calls (m := n) hf (by omega) hr (by omega) hx hy hyr (fun t t1 t2 => ?_)
  show wp PP _ _ _ [some (vR _), some (vI _)] [] _ _
  refine x_ret ?_
  exact k t t1 t2
theorem r_within {kc lb le nv : Int → Int} {r lo hi pl : Int} (hd : 11 ≤ d) (hr : 0 ≤ r ∧ r < 3) (h1 : iR lo) (h2 : iR hi) (h3 : iR pl) (hw : LWR kc lb le s) (ho : okL kc lb le) (hnm : ∀ i : Int, 0 ≤ i → i < 7 → s 104 i = nv i) (hnv : ∀ i, -1000000000000 ≤ nv i ∧ nv i ≤ 1000000000000) (k : ∀ t, qfr s t → Q (some (vI (if lawV nv kc (lb r) (le r) = -9223372036854775808 then pl else max lo (min hi (lawV nv kc (lb r) (le r)))))) (HP h0 t)) : wpM PP d 124 [vR 94, vI r, vI lo, vI hi, vI pl] (HP h0 s) Q := by
  refine n_at (m := 124) (q := mr124) (kn := (0, 5)) [some (vR _), some (vI _), some (vI _), some (vI _), some (vI _)] mb124 rfl rfl (h_rcv sc_94) (Nat.le_of_ble_eq_true rfl) rfl rfl ?_
  refine x_aload rfl ?_
  refine x_iload rfl ?_
  refine n_call [vR _, vI _] [] (by omega) (Nat.le_of_ble_eq_true rfl) rfl rfl (Nat.le_of_ble_eq_true rfl) ?_
  have w := hw r (by omega) (by omega)
  have o := ho r (by omega) (by omega)
  refine r_hasLaw (x := r) (by omega) (by have := o.1; have := o.2.1; have := o.2.2.1; omega) (by have := o.1; have := o.2.1; have := o.2.2.1; omega) ?_
  rw [w.1, w.2.1]
  show wp PP _ _ _ [some (vR _), some (vI _), some (vI _), some (vI _), some (vI _)] [vI _] _ _
  refine z_if_eq (fun c1 => ?_) (fun c1 => ?_)
  · refine x_iload rfl ?_
    refine x_iret ?_
    first
      | exact cI (k s qfr_rfl) (by rw [show lawV nv kc (lb r) (le r) = -9223372036854775808 from if_neg c1]; exact if_pos rfl)
      | exact cI (k t t1.q) (by rw [if_pos (by omega)])
      | exact cI (k t t1.q) (by rw [if_neg c2])
  · refine x_aload rfl ?_
    refine x_iload rfl ?_
    refine n_call [vR _, vI _] [] (by omega) (Nat.le_of_ble_eq_true rfl) rfl rfl (Nat.le_of_ble_eq_true rfl) ?_
    have lv := evS_in (nv := nv) hnv o
    refine r_goes (nv := nv) (b := lb r) (e := le r) (kc := kc) (by omega) (by omega) w.1 w.2.1 c1 o w.2.2 hnm hnv (fun t t1 t2 => ?_)
    show wp PP _ _ _ [some (vR _), some (vI _), some (vI _), some (vI _), some (vI _)] [vI _] _ _
    refine z_if_ne (fun c2 => ?_) (fun c2 => ?_)
    · refine x_iload rfl ?_
      refine n_i2l ⟨by omega, by omega⟩ ?_
      refine x_iload rfl ?_
      refine n_i2l ⟨by omega, by omega⟩ ?_
      refine x_aload rfl ?_
      refine h_getR sc_94 rfl (by omega) ?_
      refine x_ci ?_
      refine h_lald sc_105 ⟨by omega, by omega⟩ (by decide) ?_
      rw [t2 c2]
      refine n_lmin ⟨by omega, by omega⟩ ⟨by omega, by omega⟩ (by omega) (Nat.le_of_ble_eq_true rfl) ?_
      refine n_lmax ⟨by omega, by omega⟩ ⟨by omega, by omega⟩ (by omega) (Nat.le_of_ble_eq_true rfl) ?_
      refine x_l2i ?_
      refine x_iret ?_
      first
        | exact cI (k s qfr_rfl) (by rw [show lawV nv kc (lb r) (le r) = -9223372036854775808 from if_neg c1]; exact if_pos rfl)
        | exact cI (k t t1.q) (by rw [if_pos (by omega)])
        | exact cI (k t t1.q) (by rw [if_neg c2])
    · refine x_fall ?_
      refine x_iload rfl ?_
      refine x_iret ?_
      first
        | exact cI (k s qfr_rfl) (by rw [show lawV nv kc (lb r) (le r) = -9223372036854775808 from if_neg c1]; exact if_pos rfl)
        | exact cI (k t t1.q) (by rw [if_pos (by omega)])
        | exact cI (k t t1.q) (by rw [if_neg c2])
end RH
