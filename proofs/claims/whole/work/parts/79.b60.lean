/-! THE ROWS' NUMBERS STAY SMALL: what a crossing makes of them is at most twice as large -/
/-- of two neighbours: what lies left of, between, right of them; what goes over and under them; what lies between them -/
abbrev NM2 (P C R x X N : Int) : Prop := (0 ≤ P ∧ 2 * P ≤ N) ∧ (0 ≤ C ∧ 2 * C ≤ N) ∧ (0 ≤ R ∧ 2 * R ≤ N) ∧ (x + max P C ≤ N ∧ - x + max P C ≤ N) ∧ (X + max C R ≤ N ∧ - X + max C R ≤ N) ∧ (x - X + max P C + max C R - C ≤ N ∧ X - x + max P C + max C R - C ≤ N)
abbrev NC1 (P C x : Int) : Prop := (x + (P - C) ≤ max P C ∧ x - (P - C) ≤ max P C) ∧ (- x + (P - C) ≤ max P C ∧ - x - (P - C) ≤ max P C)
theorem nm_pair {P C R x X N o1 o2 o3 o4 : Int} (h : NM2 P C R x X N) (c1 : NC1 P C x) (c2 : NC1 C R X) (k : OV x (P - C) X (C - R) o1 o2 o3 o4) : NM2 P (P - o2) R o1 o3 (2 * N) ∧ NC1 P (P - o2) o1 ∧ NC1 (P - o2) R o3 ∧ o4 = P - o2 - R := by
  rcases k.rg with g | g | g | g | g | g | g | g | g | g | g | g | g
  all_goals
    clear k
    refine ⟨⟨⟨by omega, by omega⟩, ⟨by omega, by omega⟩, ⟨by omega, by omega⟩, ⟨by omega, by omega⟩, ⟨by omega, by omega⟩, ⟨by omega, by omega⟩⟩, ⟨⟨by omega, by omega⟩, ⟨by omega, by omega⟩⟩, ⟨⟨by omega, by omega⟩, ⟨by omega, by omega⟩⟩, by omega⟩
theorem nm_left {P C R x X N o1 o2 o3 o4 m0 x0 : Int} (h : NM2 P C R x X N) (c1 : NC1 P C x) (c2 : NC1 C R X) (k : OV x (P - C) X (C - R) o1 o2 o3 o4) (h0 : x0 - x + m0 + max P C - P ≤ N ∧ x - x0 + m0 + max P C - P ≤ N) (h1 : P ≤ m0 ∧ (x0 + m0 ≤ N ∧ - x0 + m0 ≤ N)) : x0 - o1 + m0 + max P (P - o2) - P ≤ 2 * N ∧ o1 - x0 + m0 + max P (P - o2) - P ≤ 2 * N := by
  rcases k.rg with g | g | g | g | g | g | g | g | g | g | g | g | g
  all_goals
    clear k
    exact ⟨by omega, by omega⟩
theorem nm_right {P C R x X N o1 o2 o3 o4 m0 x0 : Int} (h : NM2 P C R x X N) (c1 : NC1 P C x) (c2 : NC1 C R X) (k : OV x (P - C) X (C - R) o1 o2 o3 o4) (h0 : x0 - X + m0 + max C R - R ≤ N ∧ X - x0 + m0 + max C R - R ≤ N) (h1 : R ≤ m0 ∧ (x0 + m0 ≤ N ∧ - x0 + m0 ≤ N)) : x0 - o3 + m0 + max (P - o2) R - R ≤ 2 * N ∧ o3 - x0 + m0 + max (P - o2) R - R ≤ 2 * N := by
  rcases k.rg with g | g | g | g | g | g | g | g | g | g | g | g | g
  all_goals
    clear k
    exact ⟨by omega, by omega⟩
/-- of a row: b what lies between, f the row -/
def NR (f : Int → Int) (b : Int → Int) (N : Int) : Prop := (∀ i : Int, 0 ≤ i → i < 6 → f (2 * i + 1) = b i - b (i + 1)) ∧ (∀ i : Int, 0 ≤ i → i ≤ 6 → 0 ≤ b i ∧ 2 * b i ≤ N) ∧ (∀ i : Int, 0 ≤ i → i < 6 → NC1 (b i) (b (i + 1)) (f (2 * i)) ∧ f (2 * i) + max (b i) (b (i + 1)) ≤ N ∧ - f (2 * i) + max (b i) (b (i + 1)) ≤ N) ∧ ∀ i : Int, 0 ≤ i → i < 5 → f (2 * i) - f (2 * (i + 1)) + max (b i) (b (i + 1)) + max (b (i + 1)) (b (i + 2)) - b (i + 1) ≤ N ∧ f (2 * (i + 1)) - f (2 * i) + max (b i) (b (i + 1)) + max (b (i + 1)) (b (i + 2)) - b (i + 1) ≤ N
theorem NR.at {f b : Int → Int} {N i : Int} (h : NR f b N) (h0 : 0 ≤ i) (h1 : i < 5) : NM2 (b i) (b (i + 1)) (b (i + 2)) (f (2 * i)) (f (2 * i + 2)) N := by
  obtain ⟨a1, a2, a3, a4⟩ := h
  have e := (a3 i h0 (by omega)).2
  have e2 := (a3 (i + 1) (by omega) (by omega)).2
  have e3 := a4 i h0 h1
  rw [show 2 * (i + 1) = 2 * i + 2 by omega, show i + 1 + 1 = i + 2 by omega] at e2
  rw [show 2 * (i + 1) = 2 * i + 2 by omega] at e3
  exact ⟨a2 i h0 (by omega), a2 (i + 1) (by omega) (by omega), a2 (i + 2) (by omega) (by omega), e, e2, e3⟩
/-- one crossing, told by what it makes of the row and of what lies between -/
theorem NR.go {f b f' b' : Int → Int} {N i : Int} (h : NR f b N) (h0 : 0 ≤ i) (h1 : i < 5) (k : OV (f (2 * i)) (f (2 * i + 1)) (f (2 * i + 2)) (f (2 * i + 3)) (f' (2 * i)) (f' (2 * i + 1)) (f' (2 * i + 2)) (f' (2 * i + 3))) (ko : ∀ j, j < 2 * i ∨ 2 * i + 3 < j → f' j = f j) (eb : b' (i + 1) = b i - f' (2 * i + 1)) (bo : ∀ j, j ≠ i + 1 → b' j = b j) : NR f' b' (2 * N) := by
  have hm := h.at h0 h1
  have g := h
  obtain ⟨a1, a2, a3, a4⟩ := h
  have y1 := a1 i h0 (by omega)
  have y2 := a1 (i + 1) (by omega) (by omega)
  rw [show 2 * (i + 1) + 1 = 2 * i + 3 by omega, show i + 1 + 1 = i + 2 by omega] at y2
  rw [y1, y2] at k
  have c1 := (a3 i h0 (by omega)).1
  have c2 := (a3 (i + 1) (by omega) (by omega)).1
  rw [show 2 * (i + 1) = 2 * i + 2 by omega, show i + 1 + 1 = i + 2 by omega] at c2
  obtain ⟨p1, p2, p3, p4⟩ := nm_pair hm c1 c2 k
  rw [← eb] at p1 p2 p3 p4
  have bi : b' i = b i := bo i (by omega)
  have bi2 : b' (i + 2) = b (i + 2) := bo _ (by omega)
  have hN : 0 ≤ N := by
    have := a2 0 (by decide) (by decide)
    omega
  refine ⟨fun j j0 j1 => ?_, fun j j0 j1 => ?_, fun j j0 j1 => ?_, fun j j0 j1 => ?_⟩
  · by_cases q : j = i
    · subst q
      rw [bi, eb]
      omega
    · by_cases q2 : j = i + 1
      · subst q2
        rw [show 2 * (i + 1) + 1 = 2 * i + 3 by omega, show i + 1 + 1 = i + 2 by omega, bi2]
        exact p4
      · rw [ko _ (by omega), bo j (by omega), bo (j + 1) (by omega)]
        exact a1 j j0 j1
  · by_cases q : j = i + 1
    · subst q
      exact p1.2.1
    · rw [bo j q]
      have := a2 j j0 j1
      omega
  · by_cases q : j = i
    · subst q
      rw [bi]
      exact ⟨p2, p1.2.2.2.1⟩
    · by_cases q2 : j = i + 1
      · subst q2
        rw [show 2 * (i + 1) = 2 * i + 2 by omega, show i + 1 + 1 = i + 2 by omega, bi2]
        exact ⟨p3, p1.2.2.2.2.1⟩
      · rw [ko _ (by omega), bo j (by omega), bo (j + 1) (by omega)]
        have := a3 j j0 j1
        exact ⟨this.1, by omega, by omega⟩
  · by_cases q : j = i
    · subst q
      rw [show 2 * (j + 1) = 2 * j + 2 by omega, bi, bi2]
      exact p1.2.2.2.2.2
    · by_cases q2 : j = i + 1
      · subst q2
        have e := a4 (i + 1) j0 j1
        have e2 := (a3 (i + 2) (by omega) (by omega)).2
        rw [show i + 1 + 1 = i + 2 by omega, show i + 1 + 2 = i + 3 by omega, show 2 * (i + 1) = 2 * i + 2 by omega, show 2 * (i + 2) = 2 * i + 4 by omega] at e
        rw [show 2 * (i + 2) = 2 * i + 4 by omega, show i + 2 + 1 = i + 3 by omega] at e2
        have r := nm_right (x0 := f (2 * i + 4)) (m0 := max (b (i + 2)) (b (i + 3))) hm c1 c2 k ⟨by omega, by omega⟩ ⟨by omega, e2⟩
        rw [← eb] at r
        rw [show i + 1 + 1 = i + 2 by omega, show i + 1 + 2 = i + 3 by omega, show 2 * (i + 1) = 2 * i + 2 by omega, show 2 * (i + 2) = 2 * i + 4 by omega, bi2, bo (i + 3) (by omega), ko (2 * i + 4) (by omega)]
        exact ⟨by omega, by omega⟩
      · by_cases q3 : j + 1 = i
        · subst q3
          have e := a4 j j0 j1
          have e2 := (a3 j (by omega) (by omega)).2
          rw [show j + 2 = j + 1 + 1 by omega] at e
          have r := nm_left (x0 := f (2 * j)) (m0 := max (b j) (b (j + 1))) hm c1 c2 k ⟨by omega, by omega⟩ ⟨by omega, e2⟩
          rw [← eb] at r
          rw [show j + 2 = j + 1 + 1 by omega, bi, bo j (by omega), ko (2 * j) (by omega)]
          exact ⟨by omega, by omega⟩
        · rw [ko (2 * j) (by omega), ko (2 * (j + 1)) (by omega), bo j (by omega), bo (j + 1) (by omega), bo (j + 2) (by omega)]
          have := a4 j j0 j1
          exact ⟨by omega, by omega⟩
/-- the mirror: all x turned -/
def mir (f : Int → Int) : Int → Int := fun j => if j % 2 = 0 then - f j else f j
theorem NR.mirror {f b : Int → Int} {N : Int} (h : NR f b N) : NR (mir f) b N := by
  obtain ⟨a1, a2, a3, a4⟩ := h
  have e0 : ∀ i : Int, mir f (2 * i) = - f (2 * i) := fun i => if_pos (by omega)
  have e1 : ∀ i : Int, mir f (2 * i + 1) = f (2 * i + 1) := fun i => if_neg (by omega)
  refine ⟨fun j j0 j1 => ?_, a2, fun j j0 j1 => ?_, fun j j0 j1 => ?_⟩
  · rw [e1]
    exact a1 j j0 j1
  · have := a3 j j0 j1
    rw [e0]
    exact ⟨⟨⟨by omega, by omega⟩, ⟨by omega, by omega⟩⟩, by omega, by omega⟩
  · have := a4 j j0 j1
    rw [e0, e0]
    exact ⟨by omega, by omega⟩
theorem mir_mir (f : Int → Int) : mir (mir f) = f := by
  funext j
  unfold mir
  by_cases q : j % 2 = 0
  · rw [if_pos q, if_pos q]
    omega
  · rw [if_neg q, if_neg q]
def upB (b : Int → Int) (i v : Int) : Int → Int := fun j => if j = i + 1 then v else b j
theorem NR.over {f b : Int → Int} {N i : Int} (h : NR f b N) (h0 : 0 ≤ i) (h1 : i < 5) : ∃ b', NR (rovr (2 * i) f) b' (2 * N) := ⟨upB b i (b i - rovr (2 * i) f (2 * i + 1)), h.go h0 h1 rov_q (fun j q => rov_o q) (if_pos rfl) (fun j q => if_neg q)⟩
theorem NR.under {f b : Int → Int} {N i : Int} (h : NR f b N) (h0 : 0 ≤ i) (h1 : i < 5) : ∃ b', NR (runr (2 * i) f) b' (2 * N) := by
  obtain ⟨b', h2⟩ := h.mirror.over h0 h1
  refine ⟨b', ?_⟩
  have h3 := h2.mirror
  have e : mir (rovr (2 * i) (mir f)) = runr (2 * i) f := by
    have e0 : mir f (2 * i) = - f (2 * i) := if_pos (by omega)
    have e1 : mir f (2 * i + 1) = f (2 * i + 1) := if_neg (by omega)
    have e2 : mir f (2 * i + 2) = - f (2 * i + 2) := if_pos (by omega)
    have e3 : mir f (2 * i + 3) = f (2 * i + 3) := if_neg (by omega)
    have u := un_ov (f (2 * i)) (f (2 * i + 1)) (f (2 * i + 2)) (f (2 * i + 3))
    funext j
    refine at4 (i := 2 * i) (P := fun j => mir (rovr (2 * i) (mir f)) j = runr (2 * i) f j) ?_ ?_ ?_ ?_ (fun j q => ?_) j
    · show mir (rovr (2 * i) (mir f)) (2 * i) = _
      unfold mir
      rw [if_pos (by omega)]
      show - rovr (2 * i) (mir f) (2 * i) = _
      rw [rov_0, run_0, e0, e1, e2, e3]
      exact u.1.symm
    · show mir (rovr (2 * i) (mir f)) (2 * i + 1) = _
      unfold mir
      rw [if_neg (by omega)]
      show rovr (2 * i) (mir f) (2 * i + 1) = _
      rw [rov_1, run_1, e0, e1, e2, e3]
      exact u.2.1.symm
    · show mir (rovr (2 * i) (mir f)) (2 * i + 2) = _
      unfold mir
      rw [if_pos (by omega)]
      show - rovr (2 * i) (mir f) (2 * i + 2) = _
      rw [rov_2, run_2, e0, e1, e2, e3]
      exact u.2.2.1.symm
    · show mir (rovr (2 * i) (mir f)) (2 * i + 3) = _
      unfold mir
      rw [if_neg (by omega)]
      show rovr (2 * i) (mir f) (2 * i + 3) = _
      rw [rov_3, run_3, e0, e1, e2, e3]
      exact u.2.2.2.symm
    · rw [run_o q]
      have ro : rovr (2 * i) (mir f) j = mir f j := rov_o q
      show (if j % 2 = 0 then - rovr (2 * i) (mir f) j else rovr (2 * i) (mir f) j) = f j
      rw [ro]
      exact congrFun (mir_mir f) j
  rw [e] at h3
  exact h3
/-- twice as much a crossing -/
def dbl : Nat → Int
  | 0 => 14
  | n + 1 => 2 * dbl n
theorem wR_NR {c : Int → Int} : ∀ (n : Nat), (∀ i : Int, 0 ≤ i → i < n → 0 ≤ c i ∧ c i < 10) → ∃ b, NR (wR c n) b (dbl n)
  | 0, _ => ⟨fun i => 7 - i, fun i i0 i1 => by
    show (2 * i + 1) % 2 = _
    dsimp only
    omega, fun i i0 i1 => by
    show 0 ≤ 7 - i ∧ 2 * (7 - i) ≤ 14
    omega, fun i i0 i1 => by
    have e : (2 * i) % 2 = 0 := by omega
    show NC1 (7 - i) (7 - (i + 1)) ((2 * i) % 2) ∧ (2 * i) % 2 + max (7 - i) (7 - (i + 1)) ≤ 14 ∧ - ((2 * i) % 2) + max (7 - i) (7 - (i + 1)) ≤ 14
    rw [e]
    exact ⟨⟨⟨by omega, by omega⟩, ⟨by omega, by omega⟩⟩, by omega, by omega⟩, fun i i0 i1 => by
    have e : (2 * i) % 2 = 0 := by omega
    have e2 : (2 * (i + 1)) % 2 = 0 := by omega
    show (2 * i) % 2 - (2 * (i + 1)) % 2 + max (7 - i) (7 - (i + 1)) + max (7 - (i + 1)) (7 - (i + 2)) - (7 - (i + 1)) ≤ 14 ∧ (2 * (i + 1)) % 2 - (2 * i) % 2 + max (7 - i) (7 - (i + 1)) + max (7 - (i + 1)) (7 - (i + 2)) - (7 - (i + 1)) ≤ 14
    rw [e, e2]
    exact ⟨by omega, by omega⟩⟩
  | n + 1, h => by
    obtain ⟨b, g⟩ := wR_NR n (fun i i0 i1 => h i i0 (by omega))
    have hc := h n (by omega) (by omega)
    show ∃ b, NR (if c n % 2 = 0 then rovr (2 * (c n / 2)) (wR c n) else runr (2 * (c n / 2)) (wR c n)) b (2 * dbl n)
    split
    · exact g.over (by omega) (by omega)
    · exact g.under (by omega) (by omega)
theorem dbl_le : ∀ {n m : Nat}, n ≤ m → dbl n ≤ dbl m ∧ 0 ≤ dbl n
  | 0, 0, _ => ⟨Int.le_refl _, by decide⟩
  | 0, m + 1, _ => by
    have := dbl_le (Nat.zero_le m)
    have e : dbl (m + 1) = 2 * dbl m := rfl
    omega
  | n + 1, 0, h => by omega
  | n + 1, m + 1, h => by
    have := dbl_le (n := n) (m := m) (by omega)
    have e : dbl (m + 1) = 2 * dbl m := rfl
    have e2 : dbl (n + 1) = 2 * dbl n := rfl
    omega
theorem wR_B60 {c : Int → Int} {n : Nat} (hn : n ≤ 52) (h : ∀ i : Int, 0 ≤ i → i < n → 0 ≤ c i ∧ c i < 10) : B60 (wR c n) := by
  obtain ⟨b, a1, a2, a3, a4⟩ := wR_NR n h
  have hd := (dbl_le hn).1
  have e : dbl 52 = 63050394783186944 := by decide +kernel
  rw [e] at hd
  intro j j0 j1
  by_cases q : j % 2 = 0
  · have := a3 (j / 2) (by omega) (by omega)
    rw [show 2 * (j / 2) = j by omega] at this
    have b1 := a2 (j / 2) (by omega) (by omega)
    omega
  · have := a1 (j / 2) (by omega) (by omega)
    rw [show 2 * (j / 2) + 1 = j by omega] at this
    have b1 := a2 (j / 2) (by omega) (by omega)
    have b2 := a2 (j / 2 + 1) (by omega) (by omega)
    omega
