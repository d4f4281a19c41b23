/-! A ROW THAT IS AS AT FIRST IS THAT OF A LOOSE WORD -/
def fR (c : Nat) (g : Int → Int) : Int → Int := if c % 2 = 0 then rovr (2 * ((c / 2 : Nat) : Int)) g else runr (2 * ((c / 2 : Nat) : Int)) g
def bR : Int → Int := fun j => j % 2
section RO
variable {i : Int} {g : Int → Int}
theorem rov_0 : rovr i g i = ov1 (g i) (g (i + 1)) (g (i + 2)) (g (i + 3)) := if_pos rfl
theorem rov_1 : rovr i g (i + 1) = ov2 (g i) (g (i + 1)) (g (i + 2)) (g (i + 3)) := by
  unfold rovr
  rw [if_neg (by omega), if_pos rfl]
theorem rov_2 : rovr i g (i + 2) = ov3 (g i) (g (i + 1)) (g (i + 2)) (g (i + 3)) := by
  unfold rovr
  rw [if_neg (by omega), if_neg (by omega), if_pos rfl]
theorem rov_3 : rovr i g (i + 3) = ov4 (g i) (g (i + 1)) (g (i + 2)) (g (i + 3)) := by
  unfold rovr
  rw [if_neg (by omega), if_neg (by omega), if_neg (by omega), if_pos rfl]
theorem rov_o {j : Int} (h : j < i ∨ i + 3 < j) : rovr i g j = g j := by
  unfold rovr
  rw [if_neg (by omega), if_neg (by omega), if_neg (by omega), if_neg (by omega)]
theorem run_0 : runr i g i = un1 (g i) (g (i + 1)) (g (i + 2)) (g (i + 3)) := if_pos rfl
theorem run_1 : runr i g (i + 1) = un2 (g i) (g (i + 1)) (g (i + 2)) (g (i + 3)) := by
  unfold runr
  rw [if_neg (by omega), if_pos rfl]
theorem run_2 : runr i g (i + 2) = un3 (g i) (g (i + 1)) (g (i + 2)) (g (i + 3)) := by
  unfold runr
  rw [if_neg (by omega), if_neg (by omega), if_pos rfl]
theorem run_3 : runr i g (i + 3) = un4 (g i) (g (i + 1)) (g (i + 2)) (g (i + 3)) := by
  unfold runr
  rw [if_neg (by omega), if_neg (by omega), if_neg (by omega), if_pos rfl]
theorem run_o {j : Int} (h : j < i ∨ i + 3 < j) : runr i g j = g j := by
  unfold runr
  rw [if_neg (by omega), if_neg (by omega), if_neg (by omega), if_neg (by omega)]
theorem at4 {P : Int → Prop} (h0 : P i) (h1 : P (i + 1)) (h2 : P (i + 2)) (h3 : P (i + 3)) (ho : ∀ j, j < i ∨ i + 3 < j → P j) (j : Int) : P j := by
  by_cases q : j < i ∨ i + 3 < j
  · exact ho j q
  · by_cases q0 : j = i
    · rw [q0]
      exact h0
    · by_cases q1 : j = i + 1
      · rw [q1]
        exact h1
      · by_cases q2 : j = i + 2
        · rw [q2]
          exact h2
        · rw [show j = i + 3 by omega]
          exact h3
theorem run_rov : runr i (rovr i g) = g := by
  obtain ⟨a, b, c, d⟩ := ovun (g i) (g (i + 1)) (g (i + 2)) (g (i + 3))
  funext j
  refine at4 (i := i) (P := fun j => runr i (rovr i g) j = g j) ?_ ?_ ?_ ?_ (fun j q => ?_) j
  · rw [run_0, rov_0, rov_1, rov_2, rov_3]
    exact a
  · rw [run_1, rov_0, rov_1, rov_2, rov_3]
    exact b
  · rw [run_2, rov_0, rov_1, rov_2, rov_3]
    exact c
  · rw [run_3, rov_0, rov_1, rov_2, rov_3]
    exact d
  · rw [run_o q, rov_o q]
theorem rov_run : rovr i (runr i g) = g := by
  obtain ⟨a, b, c, d⟩ := unov (g i) (g (i + 1)) (g (i + 2)) (g (i + 3))
  funext j
  refine at4 (i := i) (P := fun j => rovr i (runr i g) j = g j) ?_ ?_ ?_ ?_ (fun j q => ?_) j
  · rw [rov_0, run_0, run_1, run_2, run_3]
    exact a
  · rw [rov_1, run_0, run_1, run_2, run_3]
    exact b
  · rw [rov_2, run_0, run_1, run_2, run_3]
    exact c
  · rw [rov_3, run_0, run_1, run_2, run_3]
    exact d
  · rw [rov_o q, run_o q]
theorem rov_far {k : Int} (h : i + 4 ≤ k) : rovr i (rovr k g) = rovr k (rovr i g) := by
  funext j
  by_cases q : j ≤ i + 3
  · rw [rov_o (i := k) (g := rovr i g) (Or.inl (by omega))]
    unfold rovr
    repeat' rw [if_neg (show ¬ i = k by omega)]
    simp only [show ¬ i = k by omega, show ¬ i = k + 1 by omega, show ¬ i = k + 2 by omega, show ¬ i = k + 3 by omega, show ¬ i + 1 = k by omega, show ¬ i + 1 = k + 1 by omega, show ¬ i + 1 = k + 2 by omega, show ¬ i + 1 = k + 3 by omega, show ¬ i + 2 = k by omega, show ¬ i + 2 = k + 1 by omega, show ¬ i + 2 = k + 2 by omega, show ¬ i + 2 = k + 3 by omega, show ¬ i + 3 = k by omega, show ¬ i + 3 = k + 1 by omega, show ¬ i + 3 = k + 2 by omega, show ¬ i + 3 = k + 3 by omega, show ¬ j = k by omega, show ¬ j = k + 1 by omega, show ¬ j = k + 2 by omega, show ¬ j = k + 3 by omega, if_false]
  · rw [rov_o (i := i) (g := rovr k g) (Or.inr (by omega))]
    unfold rovr
    simp only [show ¬ k = i by omega, show ¬ k = i + 1 by omega, show ¬ k = i + 2 by omega, show ¬ k = i + 3 by omega, show ¬ k + 1 = i by omega, show ¬ k + 1 = i + 1 by omega, show ¬ k + 1 = i + 2 by omega, show ¬ k + 1 = i + 3 by omega, show ¬ k + 2 = i by omega, show ¬ k + 2 = i + 1 by omega, show ¬ k + 2 = i + 2 by omega, show ¬ k + 2 = i + 3 by omega, show ¬ k + 3 = i by omega, show ¬ k + 3 = i + 1 by omega, show ¬ k + 3 = i + 2 by omega, show ¬ k + 3 = i + 3 by omega, show ¬ j = i by omega, show ¬ j = i + 1 by omega, show ¬ j = i + 2 by omega, show ¬ j = i + 3 by omega, if_false]
theorem rov_q : OV (g i) (g (i + 1)) (g (i + 2)) (g (i + 3)) (rovr i g i) (rovr i g (i + 1)) (rovr i g (i + 2)) (rovr i g (i + 3)) := ⟨rov_0, rov_1, rov_2, rov_3⟩
theorem rov_q2 {k : Int} (h : k = i + 2) : OV (g (i + 2)) (g (i + 3)) (g (i + 4)) (g (i + 5)) (rovr k g (i + 2)) (rovr k g (i + 3)) (rovr k g (i + 4)) (rovr k g (i + 5)) := by
  subst h
  have := rov_q (i := i + 2) (g := g)
  rw [show i + 2 + 1 = i + 3 by omega, show i + 2 + 2 = i + 4 by omega, show i + 2 + 3 = i + 5 by omega] at this
  exact this
theorem rov_br {k : Int} (h : k = i + 2) : rovr i (rovr k (rovr i g)) = rovr k (rovr i (rovr k g)) := by
  have k1 := rov_q (i := i) (g := g)
  have k2 := rov_q2 (i := i) (g := rovr i g) h
  have k3 := rov_q (i := i) (g := rovr k (rovr i g))
  have k4 := rov_q2 (i := i) (g := g) h
  have k5 := rov_q (i := i) (g := rovr k g)
  have k6 := rov_q2 (i := i) (g := rovr i (rovr k g)) h
  rw [rov_o (i := i) (g := g) (j := i + 4) (by omega), rov_o (i := i) (g := g) (j := i + 5) (by omega)] at k2
  rw [rov_o (i := k) (g := rovr i g) (j := i) (by omega), rov_o (i := k) (g := rovr i g) (j := i + 1) (by omega)] at k3
  rw [rov_o (i := k) (g := g) (j := i) (by omega), rov_o (i := k) (g := g) (j := i + 1) (by omega)] at k5
  rw [rov_o (i := i) (g := rovr k g) (j := i + 4) (by omega), rov_o (i := i) (g := rovr k g) (j := i + 5) (by omega)] at k6
  obtain ⟨e0, e1, e2, e3, e4, e5⟩ := ov_braid k1 k2 k3 k4 k5 k6
  funext j
  refine at4 (i := i) (P := fun j => rovr i (rovr k (rovr i g)) j = rovr k (rovr i (rovr k g)) j) ?_ ?_ ?_ ?_ (fun j q => ?_) j
  · rw [e0, rov_o (i := k) (g := rovr i (rovr k g)) (by omega)]
  · rw [e1, rov_o (i := k) (g := rovr i (rovr k g)) (by omega)]
  · exact e2
  · exact e3
  · rw [rov_o (i := i) (g := rovr k (rovr i g)) q]
    by_cases q4 : j = i + 4
    · rw [q4]
      exact e4
    · by_cases q5 : j = i + 5
      · rw [q5]
        exact e5
      · rw [rov_o (i := k) (g := rovr i g) (by omega), rov_o (i := i) (g := g) q, rov_o (i := k) (g := rovr i (rovr k g)) (by omega), rov_o (i := i) (g := rovr k g) q, rov_o (i := k) (g := g) (by omega)]
theorem fR_e (p : Nat) (g : Int → Int) : fR (2 * p) g = rovr (2 * (p : Int)) g := by
  unfold fR
  rw [if_pos (by omega), show 2 * p / 2 = p by omega]
theorem fR_o (p : Nat) (g : Int → Int) : fR (2 * p + 1) g = runr (2 * (p : Int)) g := by
  unfold fR
  rw [if_neg (by omega), show (2 * p + 1) / 2 = p by omega]
theorem fR_act (N : Nat) : Act N (Int → Int) fR := by
  refine ⟨fun p _ b => ?_, fun p _ b => ?_, fun p q h _ b => ?_, fun p _ b => ?_⟩
  · rw [fR_e, fR_o, run_rov]
  · rw [fR_e, fR_o, rov_run]
  · rw [fR_e, fR_e, fR_e, fR_e, rov_far (by omega)]
  · rw [fR_e, fR_e, fR_e, fR_e, fR_e, fR_e, rov_br (by omega)]
/-- what the last move of a strand leaves behind -/
def PPs (c p : Nat) (g : Int → Int) : Prop := ((c % 2 = 0 → 0 ≤ g (2 * ((c / 2 : Nat) : Int)) - g (2 * ((c / 2 : Nat) : Int) + 2)) ∧ (c % 2 = 1 → g (2 * ((c / 2 : Nat) : Int)) - g (2 * ((c / 2 : Nat) : Int) + 2) ≤ 0)) ∧ ((p = c / 2 + 1 ∧ 0 ≤ g (2 * ((c / 2 : Nat) : Int) + 3)) ∨ (p = c / 2 ∧ g (2 * ((c / 2 : Nat) : Int) + 1) ≤ 0))
theorem PP_R {d : Nat} (h : (0 ≤ g (2 * ((d / 2 : Nat) : Int) + 1)) ∨ ((d % 2 = 0 → 0 ≤ g (2 * ((d / 2 : Nat) : Int)) - g (2 * ((d / 2 : Nat) : Int) + 2)) ∧ (d % 2 = 1 → g (2 * ((d / 2 : Nat) : Int)) - g (2 * ((d / 2 : Nat) : Int) + 2) ≤ 0)) ∧ g (2 * ((d / 2 : Nat) : Int) + 1) ≤ 0) : PPs d (d / 2 + 1) (fR d g) := by
  unfold PPs fR
  by_cases q : d % 2 = 0
  · rw [if_pos q, rov_0, rov_2, rov_3]
    have : 0 ≤ ov1 (g (2 * ((d / 2 : Nat) : Int))) (g (2 * ((d / 2 : Nat) : Int) + 1)) (g (2 * ((d / 2 : Nat) : Int) + 2)) (g (2 * ((d / 2 : Nat) : Int) + 3)) - ov3 (g (2 * ((d / 2 : Nat) : Int))) (g (2 * ((d / 2 : Nat) : Int) + 1)) (g (2 * ((d / 2 : Nat) : Int) + 2)) (g (2 * ((d / 2 : Nat) : Int) + 3)) ∧ 0 ≤ ov4 (g (2 * ((d / 2 : Nat) : Int))) (g (2 * ((d / 2 : Nat) : Int) + 1)) (g (2 * ((d / 2 : Nat) : Int) + 2)) (g (2 * ((d / 2 : Nat) : Int) + 3)) := by
      rcases h with h | h
      · exact pp_RR _ _ _ _ h
      · exact pp_LR _ _ _ _ (h.1.1 q) h.2
    exact ⟨⟨fun _ => this.1, fun q2 => by omega⟩, Or.inl ⟨rfl, this.2⟩⟩
  · rw [if_neg q, run_0, run_2, run_3]
    have : un1 (g (2 * ((d / 2 : Nat) : Int))) (g (2 * ((d / 2 : Nat) : Int) + 1)) (g (2 * ((d / 2 : Nat) : Int) + 2)) (g (2 * ((d / 2 : Nat) : Int) + 3)) - un3 (g (2 * ((d / 2 : Nat) : Int))) (g (2 * ((d / 2 : Nat) : Int) + 1)) (g (2 * ((d / 2 : Nat) : Int) + 2)) (g (2 * ((d / 2 : Nat) : Int) + 3)) ≤ 0 ∧ 0 ≤ un4 (g (2 * ((d / 2 : Nat) : Int))) (g (2 * ((d / 2 : Nat) : Int) + 1)) (g (2 * ((d / 2 : Nat) : Int) + 2)) (g (2 * ((d / 2 : Nat) : Int) + 3)) := by
      rcases h with h | h
      · exact pn_RR _ _ _ _ h
      · exact pn_LR _ _ _ _ (h.1.2 (by omega)) h.2
    exact ⟨⟨fun q2 => absurd q2 q, fun _ => this.1⟩, Or.inl ⟨rfl, this.2⟩⟩
theorem PP_L {d : Nat} (h : (g (2 * ((d / 2 : Nat) : Int) + 3) ≤ 0) ∨ ((d % 2 = 0 → 0 ≤ g (2 * ((d / 2 : Nat) : Int)) - g (2 * ((d / 2 : Nat) : Int) + 2)) ∧ (d % 2 = 1 → g (2 * ((d / 2 : Nat) : Int)) - g (2 * ((d / 2 : Nat) : Int) + 2) ≤ 0)) ∧ 0 ≤ g (2 * ((d / 2 : Nat) : Int) + 3)) : PPs d (d / 2) (fR d g) := by
  unfold PPs fR
  by_cases q : d % 2 = 0
  · rw [if_pos q, rov_0, rov_2, rov_1]
    have : 0 ≤ ov1 (g (2 * ((d / 2 : Nat) : Int))) (g (2 * ((d / 2 : Nat) : Int) + 1)) (g (2 * ((d / 2 : Nat) : Int) + 2)) (g (2 * ((d / 2 : Nat) : Int) + 3)) - ov3 (g (2 * ((d / 2 : Nat) : Int))) (g (2 * ((d / 2 : Nat) : Int) + 1)) (g (2 * ((d / 2 : Nat) : Int) + 2)) (g (2 * ((d / 2 : Nat) : Int) + 3)) ∧ ov2 (g (2 * ((d / 2 : Nat) : Int))) (g (2 * ((d / 2 : Nat) : Int) + 1)) (g (2 * ((d / 2 : Nat) : Int) + 2)) (g (2 * ((d / 2 : Nat) : Int) + 3)) ≤ 0 := by
      rcases h with h | h
      · exact pp_LL _ _ _ _ h
      · exact pp_RL _ _ _ _ (h.1.1 q) h.2
    exact ⟨⟨fun _ => this.1, fun q2 => by omega⟩, Or.inr ⟨rfl, this.2⟩⟩
  · rw [if_neg q, run_0, run_2, run_1]
    have : un1 (g (2 * ((d / 2 : Nat) : Int))) (g (2 * ((d / 2 : Nat) : Int) + 1)) (g (2 * ((d / 2 : Nat) : Int) + 2)) (g (2 * ((d / 2 : Nat) : Int) + 3)) - un3 (g (2 * ((d / 2 : Nat) : Int))) (g (2 * ((d / 2 : Nat) : Int) + 1)) (g (2 * ((d / 2 : Nat) : Int) + 2)) (g (2 * ((d / 2 : Nat) : Int) + 3)) ≤ 0 ∧ un2 (g (2 * ((d / 2 : Nat) : Int))) (g (2 * ((d / 2 : Nat) : Int) + 1)) (g (2 * ((d / 2 : Nat) : Int) + 2)) (g (2 * ((d / 2 : Nat) : Int) + 3)) ≤ 0 := by
      rcases h with h | h
      · exact pn_LL _ _ _ _ h
      · exact pn_RL _ _ _ _ (h.1.2 (by omega)) h.2
    exact ⟨⟨fun q2 => absurd q2 q, fun _ => this.1⟩, Or.inr ⟨rfl, this.2⟩⟩
end RO
section FA
variable {N m : Nat}
theorem pp_go : ∀ (P : List Nat) (c p : Nat) (g : Int → Int) (q : Nat), PPs c p g → m ≤ c / 2 → isPath m N P p q → isRed (c :: P) → m ≤ p → ∃ c', PPs c' q (rn fR P g) ∧ m ≤ c' / 2
  | [], c, p, g, q, h, hc, hp, _, _ => by
    have hp : p = q := hp
    exact ⟨c, hp ▸ h, hc⟩
  | d :: P, c, p, g, q, h, hc, hp, hr, hm => by
    have h1 := hr.1
    have h2 : isRed (d :: P) := hr.2
    obtain ⟨hD, hy⟩ := h
    rcases hp with ⟨d1, d2, d3⟩ | ⟨d1, d2, d3⟩
    · refine pp_go P d (p + 1) (fR d g) q ?_ (by omega) d3 h2 (by omega)
      rw [← d1]
      refine PP_R ?_
      rcases hy with ⟨y1, y2⟩ | ⟨y1, y2⟩
      · refine Or.inl ?_
        rw [show (2 * ((d / 2 : Nat) : Int) + 1) = 2 * ((c / 2 : Nat) : Int) + 3 by omega]
        exact y2
      · have e := h1 (by omega)
        subst e
        exact Or.inr ⟨hD, y2⟩
    · refine pp_go P d (d / 2) (fR d g) q ?_ d2 d3 h2 d2
      refine PP_L ?_
      rcases hy with ⟨y1, y2⟩ | ⟨y1, y2⟩
      · have e := h1 (by omega)
        subst e
        exact Or.inr ⟨hD, y2⟩
      · refine Or.inl ?_
        rw [show (2 * ((d / 2 : Nat) : Int) + 3) = 2 * ((c / 2 : Nat) : Int) + 1 by omega]
        exact y2
theorem vw_keep : ∀ (v : List Nat) (g : Int → Int), vw (m + 1) N v → rn fR v g (2 * (m : Int) + 1) = g (2 * (m : Int) + 1)
  | [], g, _ => rfl
  | c :: v, g, h => by
    have hc := h c (List.mem_cons_self ..)
    show rn fR v (fR c g) _ = _
    rw [vw_keep v _ (fun d hd => h d (List.mem_cons_of_mem c hd))]
    unfold fR
    split
    · exact rov_o (by omega)
    · exact run_o (by omega)
theorem faith : ∀ (k m : Nat) (w : List Nat), m + k = N → vw m N w → rn fR w bR = bR → Eqw N w []
  | 0, m, w, hk, hw, _ => by
    cases w with
    | nil => exact Eqw.rfl1 _
    | cons c w =>
      have := hw c (List.mem_cons_self ..)
      omega
  | k + 1, m, w, hk, hw, h => by
    obtain ⟨p, P0, v, a1, a2, a3, a4, a5⟩ := comb w hw (by omega)
    obtain ⟨P, b1, b2, b3⟩ := reduce P0 p m a3 a2
    have e := a5.tr (b3.app (Eqw.rfl1 v))
    cases P with
    | nil =>
      have e : Eqw N w v := e
      refine e.tr (faith k (m + 1) v (by omega) a4 ?_)
      rw [← e _ _ (fR_act N), h]
    | cons d P =>
      exfalso
      have h2 := e _ _ (fR_act N) bR
      rw [h, rn_app] at h2
      have h3 := congrFun h2 (2 * (m : Int) + 1)
      rw [vw_keep v _ a4] at h3
      have f : ∃ p', PPs d p' (fR d bR) ∧ isPath m N P p' m ∧ m ≤ p' ∧ m ≤ d / 2 := by
        have z : ∀ x : Int, bR (2 * x) = 0 ∧ bR (2 * x + 1) = 1 ∧ bR (2 * x + 2) = 0 ∧ bR (2 * x + 3) = 1 := fun x => by
          unfold bR
          omega
        obtain ⟨z0, z1, z2, z3⟩ := z ((d / 2 : Nat) : Int)
        rcases b1 with ⟨d1, d2, d3⟩ | ⟨d1, d2, d3⟩
        · refine ⟨p + 1, ?_, d3, by omega, by omega⟩
          rw [← d1]
          exact PP_R (Or.inl (by rw [z1]; decide))
        · refine ⟨d / 2, ?_, d3, d2, d2⟩
          exact PP_L (Or.inr ⟨⟨fun _ => by rw [z0, z2]; decide, fun _ => by rw [z0, z2]; decide⟩, by rw [z3]; decide⟩)
      obtain ⟨p', f1, f2, f3, f4⟩ := f
      obtain ⟨c', g1, g2⟩ := pp_go P d p' (fR d bR) m f1 f4 f2 b2 f3
      rcases g1.2 with ⟨y1, y2⟩ | ⟨y1, y2⟩
      · omega
      · have h3 : bR (2 * (m : Int) + 1) = rn fR P (fR d bR) (2 * (m : Int) + 1) := h3
        rw [← y1] at y2
        have z : bR (2 * (m : Int) + 1) = 1 := by
          unfold bR
          omega
        omega
end FA
