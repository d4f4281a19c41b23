/-! THE REFERENCE'S FORMS: letters behind, the form of a dance -/
section FO3
variable {d : Nat} {h0 : pheap} {s t u : St} {Q : Option pv → pheap → Prop} {N : Nat} {f : Int} {E : SQ} {e n : Nat} {h L : Int} {c : Int → Int}
theorem FM.out {f2 : Int} (hF : FM N f n h E e s) (hf : 0 ≤ f ∧ f < 2) (hn : n ≤ 99) (g : ffr f2 s t) (hf2 : 0 ≤ f2 ∧ f2 < 2) (hne : f ≠ f2) (hN : N ≤ 6) : FM N f n h E e t := by
  have hb := hF.2.2.1
  exact ⟨(g 118 f (by omega) (by omega) (by omega)).trans hF.1, (g 119 f (by omega) (by omega) (by omega)).trans hF.2.1, hF.2.2.1, hF.2.2.2.1, fun k hk i hi => (g 120 _ (by omega) (by omega) (by omega)).trans (hF.2.2.2.2 k hk i hi)⟩
theorem FM.up {b : Nat} {i x : Int} (hF : FM N f n h E e s) (hb : b ≠ 118 ∧ b ≠ 119 ∧ b ≠ 120) : FM N f n h E e (up s b i x) := ⟨(up_a (by omega)).trans hF.1, (up_a (by omega)).trans hF.2.1, hF.2.2.1, hF.2.2.2.1, fun k hk j hj => (up_a (by omega)).trans (hF.2.2.2.2 k hk j hj)⟩
theorem FM.of {E2 : SQ} (hF : FM N f n h E e s) (g : ∀ (b : Nat) (r : Int), b = 118 ∨ b = 119 ∨ b = 120 → t b r = s b r) : FM N f n h E e t := ⟨(g 118 f (by omega)).trans hF.1, (g 119 f (by omega)).trans hF.2.1, hF.2.2.1, hF.2.2.2.1, fun k hk j hj => (g 120 _ (by omega)).trans (hF.2.2.2.2 k hk j hj)⟩
theorem r_clears (hf : 0 ≤ f ∧ f < 2) (k : ∀ t, FM N f 0 0 idS 0 t → (∀ (b : Nat) (r : Int), ¬ (b = 118 ∧ r = f) → ¬ (b = 119 ∧ r = f) → t b r = s b r) → Q none (HP h0 t)) : wpM PP d 110 [vR 94, vI f] (HP h0 s) Q := by
  refine n_at (m := 110) (q := mr110) (kn := (0, 2)) [some (vR _), some (vI _)] mb110 rfl rfl (h_rcv sc_94) (Nat.le_of_ble_eq_true rfl) rfl rfl ?_
  refine x_aload rfl ?_
  refine h_getR sc_94 rfl (by omega) ?_
  refine x_iload rfl ?_
  refine x_ci ?_
  refine h_iast sc_118 ⟨by omega, by omega⟩ (by decide) ?_
  refine x_aload rfl ?_
  refine h_getR sc_94 rfl (by omega) ?_
  refine x_iload rfl ?_
  refine x_ci ?_
  refine h_iast sc_119 ⟨by omega, by omega⟩ (by decide) ?_
  refine x_ret ?_
  exact k _ ⟨(up_a (by decide)).trans up_e, up_e, by omega, ⟨fun _ => isPm_id N, fun _ _ => rfl⟩, fun j hj => absurd hj (by omega)⟩ (fun b r q1 q2 => by rw [up_f (by omega), up_f (by omega)])
theorem r_copiesForm (hd : 2 ≤ d) {g : Int} (hf : 0 ≤ f ∧ f < 2) (hg : 0 ≤ g ∧ g < 2) (hfg : g ≠ f) (hN : N ≤ 6) (hn : n ≤ 98) (hF : FM N f n h E e s) (k : ∀ t, FM N g n h E e t → ffr g s t → Q none (HP h0 t)) : wpM PP d 111 [vR 94, vI g, vI f] (HP h0 s) Q := by
  have hb := hF.2.2.1
  have LL : ∀ (t0 : St), t0 119 f = e → (kL : ∀ t, (∀ (c : Nat) (r : Int), t c r = if c = 120 ∧ 600 * g ≤ r ∧ r < 600 * g + 6 * (e : Int) then t0 120 (r - 600 * g + 600 * f) else t0 c r) → Q none (HP h0 t)) → wp PP d mb111 (mb111.getD 1 []) [some (vR 94), some (vI g), some (vI f), some (vI 0)] [] (HP h0 t0) Q := by
    intro t0 h119 kL
    have L1 : ∀ N : Nat, ∀ (k : Int) (t : St), (N = 6 * e - k.toNat) → (0 ≤ k ∧ k ≤ 6 * (e : Int)) → ((∀ (c : Nat) (r : Int), t c r = if c = 120 ∧ 600 * g ≤ r ∧ r < 600 * g + k then t0 120 (r - 600 * g + 600 * f) else t0 c r)) →  wp PP d mb111 (mb111.getD 1 []) [some (vR 94), some (vI g), some (vI f), some (vI k)] [] (HP h0 t) Q := by
      refine s_ind (fun N ih => ?_)
      intro k t hn2 hk g1
      refine x_iload rfl ?_
      refine x_ci ?_
      refine x_aload rfl ?_
      refine h_getR sc_94 rfl (by omega) ?_
      refine x_iload rfl ?_
      refine h_iald sc_119 ⟨by omega, by omega⟩ (by decide) ?_
      rw [g1, if_neg (by omega), h119]
      refine x_imul ?_
      refine n_icmp_ge ⟨by omega, by omega⟩ ⟨by omega, by omega⟩ (fun c1 => ?_) (fun c1 => ?_)
      · refine x_ret ?_
        exact kL t (fun c r => by rw [g1, show k = 6 * (e : Int) by omega])
      · refine x_aload rfl ?_
        refine h_getR sc_94 rfl (by omega) ?_
        refine x_iload rfl ?_
        refine x_ci ?_
        refine n_call [vI _, vI _] [vR _] (by omega) (Nat.le_of_ble_eq_true rfl) rfl rfl (Nat.le_of_ble_eq_true rfl) ?_
        refine r_slot ?_
        show wp PP _ _ _ [some (vR _), some (vI _), some (vI _), some (vI _)] [vI _, vR _] _ _
        refine x_iload rfl ?_
        refine x_iadd ?_
        refine x_aload rfl ?_
        refine h_getR sc_94 rfl (by omega) ?_
        refine x_iload rfl ?_
        refine x_ci ?_
        refine n_call [vI _, vI _] [vR _, vI _, vR _] (by omega) (Nat.le_of_ble_eq_true rfl) rfl rfl (Nat.le_of_ble_eq_true rfl) ?_
        refine r_slot ?_
        show wp PP _ _ _ [some (vR _), some (vI _), some (vI _), some (vI _)] [vI _, vR _, vI _, vR _] _ _
        refine x_iload rfl ?_
        refine x_iadd ?_
        refine h_iald sc_120 ⟨by omega, by omega⟩ (by decide) ?_
        refine h_iast sc_120 ⟨by omega, by omega⟩ (by decide) ?_
        refine n_iinc [some (vR _), some (vI _), some (vI _), some (vI _)] rfl rfl ?_
        refine x_goto ?_
        refine ih (6 * e - (k + 1).toNat) (by omega) (k + 1) _ (by omega) (by omega) (fun c r => ?_)
        by_cases q : c = 120 ∧ r = 600 * g + k
        · rw [q.1, q.2, if_pos (by omega), up_at, if_pos (by omega), g1, if_neg (by omega)]
          congr 1
          omega
        · rw [up_f (by omega), g1]
          by_cases q2 : c = 120 ∧ 600 * g ≤ r ∧ r < 600 * g + k
          · rw [if_pos q2, if_pos (by omega)]
          · rw [if_neg q2, if_neg (by omega)]
    refine L1 _ 0 t0 rfl (by omega) (fun c r => ?_)
    rw [if_neg (by omega)]
  refine n_at (m := 111) (q := mr111) (kn := (0, 3)) [some (vR _), some (vI _), some (vI _), none] mb111 rfl rfl (h_rcv sc_94) (Nat.le_of_ble_eq_true rfl) rfl rfl ?_
  refine x_aload rfl ?_
  refine h_getR sc_94 rfl (by omega) ?_
  refine x_iload rfl ?_
  refine x_aload rfl ?_
  refine h_getR sc_94 rfl (by omega) ?_
  refine x_iload rfl ?_
  refine h_iald sc_118 ⟨by omega, by omega⟩ (by decide) ?_
  refine h_iast sc_118 ⟨by omega, by omega⟩ (by decide) ?_
  refine x_aload rfl ?_
  refine h_getR sc_94 rfl (by omega) ?_
  refine x_iload rfl ?_
  refine x_aload rfl ?_
  refine h_getR sc_94 rfl (by omega) ?_
  refine x_iload rfl ?_
  refine h_iald sc_119 ⟨by omega, by omega⟩ (by decide) ?_
  refine h_iast sc_119 ⟨by omega, by omega⟩ (by decide) ?_
  refine x_ci ?_
  refine n_istore [some (vR _), some (vI _), some (vI _), some (vI _)] (Nat.le_of_ble_eq_true rfl) rfl ?_
  refine x_fall ?_
  refine LL _ ((up_i (by omega)).trans ((up_a (by decide)).trans hF.2.1)) (fun t g1 => ?_)
  have gg : ffr g s t := fun c r q1 q2 q3 => by
    rw [g1, if_neg (by omega), up_f (by omega), up_f (by omega)]
  refine k t ⟨?_, ?_, hF.2.2.1, hF.2.2.2.1, fun j hj i hi => ?_⟩ gg
  · rw [g1, if_neg (by omega), up_a (by decide), up_e]
    exact hF.1
  · rw [g1, if_neg (by omega), up_e]
    first
      | exact hF.2.1
      | exact (up_a (by decide)).trans hF.2.1
  · rw [g1, if_pos (by omega), up_a (by decide), up_a (by decide)]
    rw [← hF.2.2.2.2 j hj i hi]
    congr 1
    omega
theorem fl_at {x : PM} {i : Nat} (hx : isPm N x) (hi : i < N) : (fl N x).1 i = N - 1 - x.1 (N - 1 - i) := by
  show dl N (x.1 (dl N i)) = _
  rw [dl_lt hi, dl_lt (hx.lt (by omega))]
/-- only a form's cells are touched, not its numbers -/
def cfr2 (f : Int) (s t : St) : Prop := ∀ (c : Nat) (r : Int), ¬ (c = 120 ∧ 600 * f ≤ r ∧ r < 600 * f + 600) → t c r = s c r
theorem cfr2.ff (g : cfr2 f s t) : ffr f s t := fun c r q1 _ _ => g c r q1
theorem cfr2_rfl : cfr2 f s s := fun _ _ _ => rfl
theorem cfr2_tr (h1 : cfr2 f s t) (h2 : cfr2 f t u) : cfr2 f s u := fun c r q => (h2 c r q).trans (h1 c r q)
theorem r_turnsAll (hd : 2 ≤ d) (hf : 0 ≤ f ∧ f < 2) (hN : N ≤ 6) (h41 : s 94 41 = N) (he : e ≤ 99) (h119s : s 119 f = e) (oE : okS N E) (hc : CL s f E e N) (k9 : ∀ t, CL t f (fun k => fl N (E k)) e N → cfr2 f s t → Q none (HP h0 t)) : wpM PP d 117 [vR 94, vI f] (HP h0 s) Q := by
  have h41t : ∀ t, cfr2 f s t → t 94 41 = N := fun t g => (g 94 41 (by omega)).trans h41
  have h119 : ∀ t, cfr2 f s t → t 119 f = e := fun t g => (g 119 f (by omega)).trans h119s
  have L1 : ∀ M : Nat, ∀ {o3 o4 o5 o6 : Option pv} (k : Nat) (kk : Int) (t0 : St), (kk = k) → (M = e - k ∧ k ≤ e) → (∀ k2, k2 < k → CE t0 (6 * (100 * f + (k2 : Int))) (fl N (E k2)) N) → (∀ k2, k ≤ k2 → k2 < e → CE t0 (6 * (100 * f + (k2 : Int))) (E k2) N) → (cfr2 f s t0) →  wp PP d mb117 (mb117.getD 1 []) [some (vR 94), some (vI f), some (vI kk), o3, o4, o5, o6] [] (HP h0 t0) Q := by
    refine s_ind (fun M ih => ?_)
    intro o3 o4 o5 o6 k kk t0 hkk hM gA gB g3
    subst hkk
    refine x_iload rfl ?_
    refine x_aload rfl ?_
    refine h_getR sc_94 rfl (by omega) ?_
    refine x_iload rfl ?_
    refine h_iald sc_119 ⟨by omega, by omega⟩ (by decide) ?_
    rw [h119 _ g3]
    refine n_icmp_ge ⟨by omega, by omega⟩ ⟨by omega, by omega⟩ (fun c1 => ?_) (fun c1 => ?_)
    · refine x_ret ?_
      exact k9 t0 (fun k2 hk2 => gA k2 (by omega)) g3
    · refine x_iload rfl ?_
      refine x_iload rfl ?_
      refine n_call [vI _, vI _] [] (by omega) (Nat.le_of_ble_eq_true rfl) rfl rfl (Nat.le_of_ble_eq_true rfl) ?_
      refine r_slot ?_
      show wp PP _ _ _ [some (vR _), some (vI _), some (vI _), _, _, _, _] [vI _] _ _
      refine n_istore [some (vR _), some (vI _), some (vI _), some (vI _), _, _, _] (Nat.le_of_ble_eq_true rfl) rfl ?_
      refine x_ci ?_
      refine n_istore [some (vR _), some (vI _), some (vI _), some (vI _), some (vI _), _, _] (Nat.le_of_ble_eq_true rfl) rfl ?_
      refine x_fall ?_
      have hxk : isPm N (E k) := oE k
      have L2 : ∀ M : Nat, ∀ {o5 o6 : Option pv} (i : Nat) (ii : Int) (t : St), (ii = i) → (M = N - i ∧ i ≤ N) → ((∀ j : Nat, j < N → t 120 ((6 * (100 * f + (k : Int))) + j) = if j < i ∨ N - 1 - j < i then (((fl N (E k)).1 j : Nat) : Int) else (((E k).1 j : Nat) : Int))) → ((∀ (c : Nat) (r : Int), ¬ (c = 120 ∧ (6 * (100 * f + (k : Int))) ≤ r ∧ r < (6 * (100 * f + (k : Int))) + 6) → t c r = t0 c r)) →  wp PP d mb117 (mb117.getD 2 []) [some (vR 94), some (vI f), some (vI k), some (vI (6 * (100 * f + (k : Int)))), some (vI ii), o5, o6] [] (HP h0 t) Q := by
        refine s_ind (fun M ih2 => ?_)
        intro o5 o6 i ii t hii hM g1 g2
        subst hii
        have g3t : cfr2 f s t := cfr2_tr g3 (fun c r q1 => g2 c r (by omega))
        refine x_ci ?_
        refine x_iload rfl ?_
        refine x_imul ?_
        refine x_aload rfl ?_
        refine h_getI 41 sc_94 rfl rfl ?_
        rw [h41t t g3t]
        refine n_icmp_ge ⟨by omega, by omega⟩ ⟨by omega, by omega⟩ (fun c1 => ?_) (fun c1 => ?_)
        · refine n_iinc [some (vR _), some (vI _), some (vI _), some (vI _), some (vI _), _, _] rfl rfl ?_
          refine x_goto ?_
          refine ih (e - (k + 1)) (by omega) (k + 1) _ _ (by omega) (by omega) (fun k2 hk2 i2 hi2 => ?_) (fun k2 hk1 hk2 i2 hi2 => ?_) (cfr2_tr g3 (fun c r q1 => g2 c r (by omega)))
          · by_cases q : k2 = k
            · rw [q, g1 i2 hi2, if_pos (by omega)]
            · rw [g2 120 _ (by omega)]
              exact gA k2 (by omega) i2 hi2
          · rw [g2 120 _ (by omega)]
            exact gB k2 (by omega) hk2 i2 hi2
        · refine x_aload rfl ?_
          refine h_getR sc_94 rfl (by omega) ?_
          refine x_iload rfl ?_
          refine x_iload rfl ?_
          refine x_iadd ?_
          refine h_iald sc_120 ⟨by omega, by omega⟩ (by decide) ?_
          rw [g1 i (by omega), if_neg (by omega)]
          refine n_istore [some (vR _), some (vI _), some (vI _), some (vI _), some (vI _), some (vI _), _] (Nat.le_of_ble_eq_true rfl) rfl ?_
          refine x_aload rfl ?_
          refine h_getR sc_94 rfl (by omega) ?_
          refine x_iload rfl ?_
          refine x_aload rfl ?_
          refine h_getI 41 sc_94 rfl rfl ?_
          rw [h41t t g3t]
          refine x_iadd ?_
          refine x_ci ?_
          refine x_isub ?_
          refine x_iload rfl ?_
          refine x_isub ?_
          refine h_iald sc_120 ⟨by omega, by omega⟩ (by decide) ?_
          rw [show 6 * (100 * f + (k : Int)) + (N : Int) - 1 - (i : Int) = 6 * (100 * f + (k : Int)) + ((N - 1 - i : Nat) : Int) by omega, g1 (N - 1 - i) (by omega), if_neg (by omega)]
          refine n_istore [some (vR _), some (vI _), some (vI _), some (vI _), some (vI _), some (vI _), some (vI _)] (Nat.le_of_ble_eq_true rfl) rfl ?_
          refine x_aload rfl ?_
          refine h_getR sc_94 rfl (by omega) ?_
          refine x_iload rfl ?_
          refine x_iload rfl ?_
          refine x_iadd ?_
          refine x_aload rfl ?_
          refine h_getI 41 sc_94 rfl rfl ?_
          rw [h41t t g3t]
          refine x_ci ?_
          refine x_isub ?_
          refine x_iload rfl ?_
          refine x_isub ?_
          refine h_iast sc_120 ⟨by omega, by omega⟩ (by decide) ?_
          refine x_aload rfl ?_
          refine h_getR sc_94 rfl (by omega) ?_
          refine x_iload rfl ?_
          refine x_aload rfl ?_
          refine h_getI 41 sc_94 rfl rfl ?_
          rw [up_a (b := 94) (by decide), h41t t g3t]
          refine x_iadd ?_
          refine x_ci ?_
          refine x_isub ?_
          refine x_iload rfl ?_
          refine x_isub ?_
          refine x_aload rfl ?_
          refine h_getI 41 sc_94 rfl rfl ?_
          rw [up_a (b := 94) (by decide), h41t t g3t]
          refine x_ci ?_
          refine x_isub ?_
          refine x_iload rfl ?_
          refine x_isub ?_
          refine h_iast sc_120 ⟨by omega, by omega⟩ (by decide) ?_
          refine n_iinc [some (vR _), some (vI _), some (vI _), some (vI _), some (vI _), some (vI _), some (vI _)] rfl rfl ?_
          refine x_goto ?_
          have x1 := hxk.lt (i := i) (by omega)
          have x2 := hxk.lt (i := N - 1 - i) (by omega)
          have y1 := fl_at hxk (show i < N by omega)
          have y2 := fl_at hxk (show N - 1 - i < N by omega)
          rw [show N - 1 - (N - 1 - i) = i by omega] at y2
          refine ih2 (N - (i + 1)) (by omega) (i + 1) _ _ (by omega) (by omega) (fun j hj => ?_) (fun c r q => ?_)
          · by_cases q : j = N - 1 - i
            · rw [q, if_pos (by omega), up_at, if_pos (by omega), y2]
              omega
            · rw [up_i (by omega)]
              by_cases q2 : j = i
              · rw [q2, up_e, if_pos (by omega), y1]
                omega
              · rw [up_i (by omega), g1 j hj]
                by_cases q3 : j < i ∨ N - 1 - j < i
                · rw [if_pos q3, if_pos (by omega)]
                · rw [if_neg q3, if_neg (by omega)]
          · rw [up_f (by omega), up_f (by omega)]
            exact g2 c r q
      refine L2 N 0 0 t0 rfl (by omega) (fun j hj => ?_) (fun c r _ => rfl)
      rw [if_neg (by omega)]
      exact gB k (Nat.le_refl k) (by omega) j hj
  refine n_at (m := 117) (q := mr117) (kn := (0, 2)) [some (vR _), some (vI _), none, none, none, none, none] mb117 rfl rfl (h_rcv sc_94) (Nat.le_of_ble_eq_true rfl) rfl rfl ?_
  refine x_ci ?_
  refine n_istore [some (vR _), some (vI _), some (vI _), _, _, _, _] (Nat.le_of_ble_eq_true rfl) rfl ?_
  refine x_fall ?_
  exact L1 e 0 0 s rfl (by omega) (fun k2 hk2 => by omega) (fun k2 _ hk2 => hc k2 hk2) cfr2_rfl
end FO3
