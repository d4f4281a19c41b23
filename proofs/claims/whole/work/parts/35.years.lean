/-! YEARS: what the names are, what a crossing is worth, whether it may be danced, what it vows -/
section YA
variable {d a tp : Nat} {h0 h : pheap} {s : St} {Q : Option pv → pheap → Prop} {L : Int} {n : Nat} {c c' : Int → Int}
/-- the names' values for a crossing of two (one on the left) -/
def nvE (one other x wb n cn yr j : Int) : Int := if j = 0 then (if x % 2 = 0 then one else other) else if j = 1 then (if x % 2 = 0 then other else one) else if j = 2 then x / 2 else if j = 3 then wb else if j = 4 then n else if j = 5 then cn else if j = 6 then yr else 0
theorem nvE_R {one other x wb n cn yr : Int} (h1 : 0 ≤ one ∧ one < 6) (h2 : 0 ≤ other ∧ other < 6) (h3 : 0 ≤ x ∧ x < 64) (h4 : -1000 ≤ wb ∧ wb ≤ 1000) (h5 : 0 ≤ n ∧ n ≤ 1000) (h6 : 0 ≤ cn ∧ cn ≤ 6) (h7 : 0 ≤ yr ∧ yr ≤ 100000) (j : Int) : -1000000000000 ≤ nvE one other x wb n cn yr j ∧ nvE one other x wb n cn yr j ≤ 1000000000000 := by
  unfold nvE
  repeat' split
  all_goals omega
/-- the laws of the class's told script -/
def LWC (tp : Nat) (kc lb le : Int → Int) (s : St) : Prop := ∀ r : Int, 0 ≤ r → r < 3 → s (tp + 5) r = lb r ∧ s (tp + 6) r = le r ∧ ∀ i : Int, lb r ≤ i → i < le r → s (tp + 4) i = kc i
def okL (kc lb le : Int → Int) : Prop := ∀ r : Int, 0 ≤ r → r < 3 → lwOk kc (lb r) (le r)
/-- all but the names and a script's stack -/
def yfr (tp : Nat) (s t : St) : Prop := ∀ (b : Nat) (r : Int), ¬ b = 69 → ¬ b = tp + 7 → ¬ (b = tp ∧ r = 15) → t b r = s b r
theorem yfr_tr {s t u : St} (h1 : yfr tp s t) (h2 : yfr tp t u) : yfr tp s u := fun b r q1 q2 q3 => (h2 b r q1 q2 q3).trans (h1 b r q1 q2 q3)
theorem yfr_rfl {s : St} : yfr tp s s := fun _ _ _ _ _ => rfl
theorem LWC.y {t : St} {kc lb le : Int → Int} (h : LWC tp kc lb le s) (f : yfr tp s t) (h9 : tp + 8 < 69) : LWC tp kc lb le t := fun r r0 r1 => by
  obtain ⟨q1, q2, q3⟩ := h r r0 r1
  exact ⟨(f (tp + 5) r (by omega) (by omega) (by omega)).trans q1, (f (tp + 6) r (by omega) (by omega) (by omega)).trans q2, fun i i0 i1 => (f (tp + 4) i (by omega) (by omega) (by omega)).trans (q3 i i0 i1)⟩
theorem PL.y {t : St} (h : PL a L n c s) (f : yfr tp s t) (h1 : a + 3 < tp ∨ tp + 7 < a) (h2 : a + 3 < 69) : PL a L n c t :=
  ⟨h.hL, h.hn, h.v, (f a 3 (by omega) (by omega) (by omega)).trans h.left, (f a 4 (by omega) (by omega) (by omega)).trans h.count, (f a 5 (by omega) (by omega) (by omega)).trans h.size, (f a 6 (by omega) (by omega) (by omega)).trans h.bound, fun i p q => (f (a + 1) i (by omega) (by omega) (by omega)).trans (h.code p q), fun i p q => (f (a + 2) i (by omega) (by omega) (by omega)).trans (h.order p q), fun i p q => (f (a + 3) i (by omega) (by omega) (by omega)).trans (h.bond p q)⟩
theorem m_setName {i x : Int} (hi : 0 ≤ i ∧ i < 7) (k : Q none (HP h0 (up s 69 i x))) : wpM PP d 315 [vR 68, vI i, vL x] (HP h0 s) Q := by
  refine n_at (m := 315) (q := mr315) (kn := (0, 3)) [some (vR _), some (vI _), some (vL _), none] mb315 rfl rfl (h_rcv sc_68) (Nat.le_of_ble_eq_true rfl) rfl rfl ?_
  refine x_iload rfl ?_
  refine n_if_lt ⟨by omega, by omega⟩ (fun c1 => ?_) (fun c1 => ?_)
  · refine x_ret ?_
    first | exact k | (exfalso; omega)
  · refine x_iload rfl ?_
    refine x_aload rfl ?_
    refine h_getR sc_68 rfl (by omega) ?_
    refine h_alen 7 sc_69 (by decide) rfl ?_
    refine n_icmp_ge ⟨by omega, by omega⟩ ⟨by omega, by omega⟩ (fun c2 => ?_) (fun c2 => ?_)
    · refine x_ret ?_
      first | exact k | (exfalso; omega)
    · refine x_aload rfl ?_
      refine h_getR sc_68 rfl (by omega) ?_
      refine x_iload rfl ?_
      refine x_lload rfl ?_
      refine h_last sc_69 ⟨by omega, by omega⟩ (by decide) ?_
      refine x_fall ?_
      refine x_ret ?_
      first | exact k | (exfalso; omega)
theorem m_setNames (hP : isDa a) (h69 : a + 4 < 69) (hd : 3 ≤ d) (hp : PL (a + 1) L n c s) {x one other yr : Int} (hy : s a 4 = yr) (hyr : 0 ≤ yr ∧ yr ≤ 100000) (hx : 0 ≤ x ∧ x < 64) (h1 : 0 ≤ one ∧ one < 6) (h2 : 0 ≤ other ∧ other < 6) (k : ∀ t, (∀ j : Int, 0 ≤ j → j < 7 → t 69 j = nvE one other x (wB L c n (6 * one + other)) n (cnt L) yr j) → (∀ b : Nat, b ≠ 69 → ∀ r, t b r = s b r) → Q none (HP h0 t)) : wpM PP d 314 [vR 68, vR a, vI x, vI one, vI other] (HP h0 s) Q := by
  have ha := hP.1.1
  have hn := hp.hn
  have hct := cnt_R L
  refine n_at (m := 314) (q := mr314) (kn := (0, 5)) [some (vR _), some (vR _), some (vI _), some (vI _), some (vI _)] mb314 rfl rfl (h_rcv sc_68) (Nat.le_of_ble_eq_true rfl) rfl rfl ?_
  refine x_aload rfl ?_
  refine x_ci ?_
  refine x_iload rfl ?_
  refine n_call [vI _] [vI _, vR _] (by omega) (Nat.le_of_ble_eq_true rfl) rfl rfl (Nat.le_of_ble_eq_true rfl) ?_
  refine m_isOver ⟨by omega, by omega⟩ ?_
  show wp PP _ _ _ [some (vR _), some (vR _), some (vI _), some (vI _), some (vI _)] [vI _, vI _, vR _] _ _
  refine z_if_eq (fun c1 => ?_) (fun c1 => ?_)
  · refine x_iload rfl ?_
    refine n_i2l ⟨by omega, by omega⟩ ?_
    refine x_fall ?_
    refine n_call [vR _, vI _, vL _] [] (by omega) (Nat.le_of_ble_eq_true rfl) rfl rfl (Nat.le_of_ble_eq_true rfl) ?_
    refine m_setName (by omega) ?_
    show wp PP _ _ _ [some (vR _), some (vR _), some (vI _), some (vI _), some (vI _)] [] _ _
    refine x_aload rfl ?_
    refine x_ci ?_
    refine x_iload rfl ?_
    refine n_call [vI _] [vI _, vR _] (by omega) (Nat.le_of_ble_eq_true rfl) rfl rfl (Nat.le_of_ble_eq_true rfl) ?_
    refine m_isOver ⟨by omega, by omega⟩ ?_
    show wp PP _ _ _ [some (vR _), some (vR _), some (vI _), some (vI _), some (vI _)] [vI _, vI _, vR _] _ _
    refine z_if_eq (fun c2 => ?_) (fun c2 => ?_)
    · refine x_iload rfl ?_
      refine n_i2l ⟨by omega, by omega⟩ ?_
      refine x_fall ?_
      refine n_call [vR _, vI _, vL _] [] (by omega) (Nat.le_of_ble_eq_true rfl) rfl rfl (Nat.le_of_ble_eq_true rfl) ?_
      refine m_setName (by omega) ?_
      show wp PP _ _ _ [some (vR _), some (vR _), some (vI _), some (vI _), some (vI _)] [] _ _
      refine x_aload rfl ?_
      refine x_ci ?_
      refine x_iload rfl ?_
      refine n_call [vI _] [vI _, vR _] (by omega) (Nat.le_of_ble_eq_true rfl) rfl rfl (Nat.le_of_ble_eq_true rfl) ?_
      refine m_placeOfCode ⟨by omega, by omega⟩ ?_
      show wp PP _ _ _ [some (vR _), some (vR _), some (vI _), some (vI _), some (vI _)] [vI _, vI _, vR _] _ _
      refine n_i2l ⟨by omega, by omega⟩ ?_
      refine n_call [vR _, vI _, vL _] [] (by omega) (Nat.le_of_ble_eq_true rfl) rfl rfl (Nat.le_of_ble_eq_true rfl) ?_
      refine m_setName (by omega) ?_
      show wp PP _ _ _ [some (vR _), some (vR _), some (vI _), some (vI _), some (vI _)] [] _ _
      refine x_aload rfl ?_
      refine x_ci ?_
      refine x_aload rfl ?_
      refine h_getR hP.1 rfl (by omega) ?_
      refine x_iload rfl ?_
      refine x_iload rfl ?_
      refine n_call [vR _, vI _, vI _] [vI _, vR _] (by omega) (Nat.le_of_ble_eq_true rfl) rfl rfl (Nat.le_of_ble_eq_true rfl) ?_
      refine m_bondP hP.2 (by omega) (((hp.up (by omega)).up (by omega)).up (by omega)) ⟨by omega, by omega⟩ ⟨by omega, by omega⟩ ?_
      have wr := wB_R (L := L) (c := c) n (6 * one + other)
      show wp PP _ _ _ [some (vR _), some (vR _), some (vI _), some (vI _), some (vI _)] [vI _, vI _, vR _] _ _
      refine n_i2l ⟨by omega, by omega⟩ ?_
      refine n_call [vR _, vI _, vL _] [] (by omega) (Nat.le_of_ble_eq_true rfl) rfl rfl (Nat.le_of_ble_eq_true rfl) ?_
      refine m_setName (by omega) ?_
      show wp PP _ _ _ [some (vR _), some (vR _), some (vI _), some (vI _), some (vI _)] [] _ _
      refine x_aload rfl ?_
      refine x_ci ?_
      refine x_aload rfl ?_
      refine h_getR hP.1 rfl (by omega) ?_
      refine h_getI 5 hP.2.1 rfl rfl ?_
      refine t_I n ?_ ?_
      · rw [up_a (by omega), up_a (by omega), up_a (by omega), up_a (by omega)]
        exact hp.size
      refine n_i2l ⟨by omega, by omega⟩ ?_
      refine n_call [vR _, vI _, vL _] [] (by omega) (Nat.le_of_ble_eq_true rfl) rfl rfl (Nat.le_of_ble_eq_true rfl) ?_
      refine m_setName (by omega) ?_
      show wp PP _ _ _ [some (vR _), some (vR _), some (vI _), some (vI _), some (vI _)] [] _ _
      refine x_aload rfl ?_
      refine x_ci ?_
      refine x_aload rfl ?_
      refine h_getR hP.1 rfl (by omega) ?_
      refine h_getI 4 hP.2.1 rfl rfl ?_
      refine t_I (cnt L) ?_ ?_
      · rw [up_a (by omega), up_a (by omega), up_a (by omega), up_a (by omega), up_a (by omega)]
        exact hp.count
      refine n_i2l ⟨by omega, by omega⟩ ?_
      refine n_call [vR _, vI _, vL _] [] (by omega) (Nat.le_of_ble_eq_true rfl) rfl rfl (Nat.le_of_ble_eq_true rfl) ?_
      refine m_setName (by omega) ?_
      show wp PP _ _ _ [some (vR _), some (vR _), some (vI _), some (vI _), some (vI _)] [] _ _
      refine x_aload rfl ?_
      refine x_ci ?_
      refine x_aload rfl ?_
      refine h_getI 4 hP.1 rfl rfl ?_
      refine t_I yr ?_ ?_
      · rw [up_a (by omega), up_a (by omega), up_a (by omega), up_a (by omega), up_a (by omega), up_a (by omega)]
        exact hy
      refine n_i2l ⟨by omega, by omega⟩ ?_
      refine n_call [vR _, vI _, vL _] [] (by omega) (Nat.le_of_ble_eq_true rfl) rfl rfl (Nat.le_of_ble_eq_true rfl) ?_
      refine m_setName (by omega) ?_
      show wp PP _ _ _ [some (vR _), some (vR _), some (vI _), some (vI _), some (vI _)] [] _ _
      refine x_ret ?_
      refine k _ (fun j j0 j1 => ?_) (fun b2 hb r => ?_)
      · obtain rfl | rfl | rfl | rfl | rfl | rfl | rfl : j = 0 ∨ j = 1 ∨ j = 2 ∨ j = 3 ∨ j = 4 ∨ j = 5 ∨ j = 6 := by omega
        · simp [up, nvE]
          intros
          omega
        · simp [up, nvE]
          intros
          omega
        all_goals simp [up, nvE]
      · simp only [up]
        repeat rw [if_neg (by omega)]
    · refine x_iload rfl ?_
      refine n_i2l ⟨by omega, by omega⟩ ?_
      refine x_goto ?_
      refine n_call [vR _, vI _, vL _] [] (by omega) (Nat.le_of_ble_eq_true rfl) rfl rfl (Nat.le_of_ble_eq_true rfl) ?_
      refine m_setName (by omega) ?_
      show wp PP _ _ _ [some (vR _), some (vR _), some (vI _), some (vI _), some (vI _)] [] _ _
      refine x_aload rfl ?_
      refine x_ci ?_
      refine x_iload rfl ?_
      refine n_call [vI _] [vI _, vR _] (by omega) (Nat.le_of_ble_eq_true rfl) rfl rfl (Nat.le_of_ble_eq_true rfl) ?_
      refine m_placeOfCode ⟨by omega, by omega⟩ ?_
      show wp PP _ _ _ [some (vR _), some (vR _), some (vI _), some (vI _), some (vI _)] [vI _, vI _, vR _] _ _
      refine n_i2l ⟨by omega, by omega⟩ ?_
      refine n_call [vR _, vI _, vL _] [] (by omega) (Nat.le_of_ble_eq_true rfl) rfl rfl (Nat.le_of_ble_eq_true rfl) ?_
      refine m_setName (by omega) ?_
      show wp PP _ _ _ [some (vR _), some (vR _), some (vI _), some (vI _), some (vI _)] [] _ _
      refine x_aload rfl ?_
      refine x_ci ?_
      refine x_aload rfl ?_
      refine h_getR hP.1 rfl (by omega) ?_
      refine x_iload rfl ?_
      refine x_iload rfl ?_
      refine n_call [vR _, vI _, vI _] [vI _, vR _] (by omega) (Nat.le_of_ble_eq_true rfl) rfl rfl (Nat.le_of_ble_eq_true rfl) ?_
      refine m_bondP hP.2 (by omega) (((hp.up (by omega)).up (by omega)).up (by omega)) ⟨by omega, by omega⟩ ⟨by omega, by omega⟩ ?_
      have wr := wB_R (L := L) (c := c) n (6 * one + other)
      show wp PP _ _ _ [some (vR _), some (vR _), some (vI _), some (vI _), some (vI _)] [vI _, vI _, vR _] _ _
      refine n_i2l ⟨by omega, by omega⟩ ?_
      refine n_call [vR _, vI _, vL _] [] (by omega) (Nat.le_of_ble_eq_true rfl) rfl rfl (Nat.le_of_ble_eq_true rfl) ?_
      refine m_setName (by omega) ?_
      show wp PP _ _ _ [some (vR _), some (vR _), some (vI _), some (vI _), some (vI _)] [] _ _
      refine x_aload rfl ?_
      refine x_ci ?_
      refine x_aload rfl ?_
      refine h_getR hP.1 rfl (by omega) ?_
      refine h_getI 5 hP.2.1 rfl rfl ?_
      refine t_I n ?_ ?_
      · rw [up_a (by omega), up_a (by omega), up_a (by omega), up_a (by omega)]
        exact hp.size
      refine n_i2l ⟨by omega, by omega⟩ ?_
      refine n_call [vR _, vI _, vL _] [] (by omega) (Nat.le_of_ble_eq_true rfl) rfl rfl (Nat.le_of_ble_eq_true rfl) ?_
      refine m_setName (by omega) ?_
      show wp PP _ _ _ [some (vR _), some (vR _), some (vI _), some (vI _), some (vI _)] [] _ _
      refine x_aload rfl ?_
      refine x_ci ?_
      refine x_aload rfl ?_
      refine h_getR hP.1 rfl (by omega) ?_
      refine h_getI 4 hP.2.1 rfl rfl ?_
      refine t_I (cnt L) ?_ ?_
      · rw [up_a (by omega), up_a (by omega), up_a (by omega), up_a (by omega), up_a (by omega)]
        exact hp.count
      refine n_i2l ⟨by omega, by omega⟩ ?_
      refine n_call [vR _, vI _, vL _] [] (by omega) (Nat.le_of_ble_eq_true rfl) rfl rfl (Nat.le_of_ble_eq_true rfl) ?_
      refine m_setName (by omega) ?_
      show wp PP _ _ _ [some (vR _), some (vR _), some (vI _), some (vI _), some (vI _)] [] _ _
      refine x_aload rfl ?_
      refine x_ci ?_
      refine x_aload rfl ?_
      refine h_getI 4 hP.1 rfl rfl ?_
      refine t_I yr ?_ ?_
      · rw [up_a (by omega), up_a (by omega), up_a (by omega), up_a (by omega), up_a (by omega), up_a (by omega)]
        exact hy
      refine n_i2l ⟨by omega, by omega⟩ ?_
      refine n_call [vR _, vI _, vL _] [] (by omega) (Nat.le_of_ble_eq_true rfl) rfl rfl (Nat.le_of_ble_eq_true rfl) ?_
      refine m_setName (by omega) ?_
      show wp PP _ _ _ [some (vR _), some (vR _), some (vI _), some (vI _), some (vI _)] [] _ _
      refine x_ret ?_
      refine k _ (fun j j0 j1 => ?_) (fun b2 hb r => ?_)
      · obtain rfl | rfl | rfl | rfl | rfl | rfl | rfl : j = 0 ∨ j = 1 ∨ j = 2 ∨ j = 3 ∨ j = 4 ∨ j = 5 ∨ j = 6 := by omega
        · simp [up, nvE]
          intros
          omega
        · simp [up, nvE]
          intros
          omega
        all_goals simp [up, nvE]
      · simp only [up]
        repeat rw [if_neg (by omega)]
  · refine x_iload rfl ?_
    refine n_i2l ⟨by omega, by omega⟩ ?_
    refine x_goto ?_
    refine n_call [vR _, vI _, vL _] [] (by omega) (Nat.le_of_ble_eq_true rfl) rfl rfl (Nat.le_of_ble_eq_true rfl) ?_
    refine m_setName (by omega) ?_
    show wp PP _ _ _ [some (vR _), some (vR _), some (vI _), some (vI _), some (vI _)] [] _ _
    refine x_aload rfl ?_
    refine x_ci ?_
    refine x_iload rfl ?_
    refine n_call [vI _] [vI _, vR _] (by omega) (Nat.le_of_ble_eq_true rfl) rfl rfl (Nat.le_of_ble_eq_true rfl) ?_
    refine m_isOver ⟨by omega, by omega⟩ ?_
    show wp PP _ _ _ [some (vR _), some (vR _), some (vI _), some (vI _), some (vI _)] [vI _, vI _, vR _] _ _
    refine z_if_eq (fun c2 => ?_) (fun c2 => ?_)
    · refine x_iload rfl ?_
      refine n_i2l ⟨by omega, by omega⟩ ?_
      refine x_fall ?_
      refine n_call [vR _, vI _, vL _] [] (by omega) (Nat.le_of_ble_eq_true rfl) rfl rfl (Nat.le_of_ble_eq_true rfl) ?_
      refine m_setName (by omega) ?_
      show wp PP _ _ _ [some (vR _), some (vR _), some (vI _), some (vI _), some (vI _)] [] _ _
      refine x_aload rfl ?_
      refine x_ci ?_
      refine x_iload rfl ?_
      refine n_call [vI _] [vI _, vR _] (by omega) (Nat.le_of_ble_eq_true rfl) rfl rfl (Nat.le_of_ble_eq_true rfl) ?_
      refine m_placeOfCode ⟨by omega, by omega⟩ ?_
      show wp PP _ _ _ [some (vR _), some (vR _), some (vI _), some (vI _), some (vI _)] [vI _, vI _, vR _] _ _
      refine n_i2l ⟨by omega, by omega⟩ ?_
      refine n_call [vR _, vI _, vL _] [] (by omega) (Nat.le_of_ble_eq_true rfl) rfl rfl (Nat.le_of_ble_eq_true rfl) ?_
      refine m_setName (by omega) ?_
      show wp PP _ _ _ [some (vR _), some (vR _), some (vI _), some (vI _), some (vI _)] [] _ _
      refine x_aload rfl ?_
      refine x_ci ?_
      refine x_aload rfl ?_
      refine h_getR hP.1 rfl (by omega) ?_
      refine x_iload rfl ?_
      refine x_iload rfl ?_
      refine n_call [vR _, vI _, vI _] [vI _, vR _] (by omega) (Nat.le_of_ble_eq_true rfl) rfl rfl (Nat.le_of_ble_eq_true rfl) ?_
      refine m_bondP hP.2 (by omega) (((hp.up (by omega)).up (by omega)).up (by omega)) ⟨by omega, by omega⟩ ⟨by omega, by omega⟩ ?_
      have wr := wB_R (L := L) (c := c) n (6 * one + other)
      show wp PP _ _ _ [some (vR _), some (vR _), some (vI _), some (vI _), some (vI _)] [vI _, vI _, vR _] _ _
      refine n_i2l ⟨by omega, by omega⟩ ?_
      refine n_call [vR _, vI _, vL _] [] (by omega) (Nat.le_of_ble_eq_true rfl) rfl rfl (Nat.le_of_ble_eq_true rfl) ?_
      refine m_setName (by omega) ?_
      show wp PP _ _ _ [some (vR _), some (vR _), some (vI _), some (vI _), some (vI _)] [] _ _
      refine x_aload rfl ?_
      refine x_ci ?_
      refine x_aload rfl ?_
      refine h_getR hP.1 rfl (by omega) ?_
      refine h_getI 5 hP.2.1 rfl rfl ?_
      refine t_I n ?_ ?_
      · rw [up_a (by omega), up_a (by omega), up_a (by omega), up_a (by omega)]
        exact hp.size
      refine n_i2l ⟨by omega, by omega⟩ ?_
      refine n_call [vR _, vI _, vL _] [] (by omega) (Nat.le_of_ble_eq_true rfl) rfl rfl (Nat.le_of_ble_eq_true rfl) ?_
      refine m_setName (by omega) ?_
      show wp PP _ _ _ [some (vR _), some (vR _), some (vI _), some (vI _), some (vI _)] [] _ _
      refine x_aload rfl ?_
      refine x_ci ?_
      refine x_aload rfl ?_
      refine h_getR hP.1 rfl (by omega) ?_
      refine h_getI 4 hP.2.1 rfl rfl ?_
      refine t_I (cnt L) ?_ ?_
      · rw [up_a (by omega), up_a (by omega), up_a (by omega), up_a (by omega), up_a (by omega)]
        exact hp.count
      refine n_i2l ⟨by omega, by omega⟩ ?_
      refine n_call [vR _, vI _, vL _] [] (by omega) (Nat.le_of_ble_eq_true rfl) rfl rfl (Nat.le_of_ble_eq_true rfl) ?_
      refine m_setName (by omega) ?_
      show wp PP _ _ _ [some (vR _), some (vR _), some (vI _), some (vI _), some (vI _)] [] _ _
      refine x_aload rfl ?_
      refine x_ci ?_
      refine x_aload rfl ?_
      refine h_getI 4 hP.1 rfl rfl ?_
      refine t_I yr ?_ ?_
      · rw [up_a (by omega), up_a (by omega), up_a (by omega), up_a (by omega), up_a (by omega), up_a (by omega)]
        exact hy
      refine n_i2l ⟨by omega, by omega⟩ ?_
      refine n_call [vR _, vI _, vL _] [] (by omega) (Nat.le_of_ble_eq_true rfl) rfl rfl (Nat.le_of_ble_eq_true rfl) ?_
      refine m_setName (by omega) ?_
      show wp PP _ _ _ [some (vR _), some (vR _), some (vI _), some (vI _), some (vI _)] [] _ _
      refine x_ret ?_
      refine k _ (fun j j0 j1 => ?_) (fun b2 hb r => ?_)
      · obtain rfl | rfl | rfl | rfl | rfl | rfl | rfl : j = 0 ∨ j = 1 ∨ j = 2 ∨ j = 3 ∨ j = 4 ∨ j = 5 ∨ j = 6 := by omega
        · simp [up, nvE]
          intros
          omega
        · simp [up, nvE]
          intros
          omega
        all_goals simp [up, nvE]
      · simp only [up]
        repeat rw [if_neg (by omega)]
    · refine x_iload rfl ?_
      refine n_i2l ⟨by omega, by omega⟩ ?_
      refine x_goto ?_
      refine n_call [vR _, vI _, vL _] [] (by omega) (Nat.le_of_ble_eq_true rfl) rfl rfl (Nat.le_of_ble_eq_true rfl) ?_
      refine m_setName (by omega) ?_
      show wp PP _ _ _ [some (vR _), some (vR _), some (vI _), some (vI _), some (vI _)] [] _ _
      refine x_aload rfl ?_
      refine x_ci ?_
      refine x_iload rfl ?_
      refine n_call [vI _] [vI _, vR _] (by omega) (Nat.le_of_ble_eq_true rfl) rfl rfl (Nat.le_of_ble_eq_true rfl) ?_
      refine m_placeOfCode ⟨by omega, by omega⟩ ?_
      show wp PP _ _ _ [some (vR _), some (vR _), some (vI _), some (vI _), some (vI _)] [vI _, vI _, vR _] _ _
      refine n_i2l ⟨by omega, by omega⟩ ?_
      refine n_call [vR _, vI _, vL _] [] (by omega) (Nat.le_of_ble_eq_true rfl) rfl rfl (Nat.le_of_ble_eq_true rfl) ?_
      refine m_setName (by omega) ?_
      show wp PP _ _ _ [some (vR _), some (vR _), some (vI _), some (vI _), some (vI _)] [] _ _
      refine x_aload rfl ?_
      refine x_ci ?_
      refine x_aload rfl ?_
      refine h_getR hP.1 rfl (by omega) ?_
      refine x_iload rfl ?_
      refine x_iload rfl ?_
      refine n_call [vR _, vI _, vI _] [vI _, vR _] (by omega) (Nat.le_of_ble_eq_true rfl) rfl rfl (Nat.le_of_ble_eq_true rfl) ?_
      refine m_bondP hP.2 (by omega) (((hp.up (by omega)).up (by omega)).up (by omega)) ⟨by omega, by omega⟩ ⟨by omega, by omega⟩ ?_
      have wr := wB_R (L := L) (c := c) n (6 * one + other)
      show wp PP _ _ _ [some (vR _), some (vR _), some (vI _), some (vI _), some (vI _)] [vI _, vI _, vR _] _ _
      refine n_i2l ⟨by omega, by omega⟩ ?_
      refine n_call [vR _, vI _, vL _] [] (by omega) (Nat.le_of_ble_eq_true rfl) rfl rfl (Nat.le_of_ble_eq_true rfl) ?_
      refine m_setName (by omega) ?_
      show wp PP _ _ _ [some (vR _), some (vR _), some (vI _), some (vI _), some (vI _)] [] _ _
      refine x_aload rfl ?_
      refine x_ci ?_
      refine x_aload rfl ?_
      refine h_getR hP.1 rfl (by omega) ?_
      refine h_getI 5 hP.2.1 rfl rfl ?_
      refine t_I n ?_ ?_
      · rw [up_a (by omega), up_a (by omega), up_a (by omega), up_a (by omega)]
        exact hp.size
      refine n_i2l ⟨by omega, by omega⟩ ?_
      refine n_call [vR _, vI _, vL _] [] (by omega) (Nat.le_of_ble_eq_true rfl) rfl rfl (Nat.le_of_ble_eq_true rfl) ?_
      refine m_setName (by omega) ?_
      show wp PP _ _ _ [some (vR _), some (vR _), some (vI _), some (vI _), some (vI _)] [] _ _
      refine x_aload rfl ?_
      refine x_ci ?_
      refine x_aload rfl ?_
      refine h_getR hP.1 rfl (by omega) ?_
      refine h_getI 4 hP.2.1 rfl rfl ?_
      refine t_I (cnt L) ?_ ?_
      · rw [up_a (by omega), up_a (by omega), up_a (by omega), up_a (by omega), up_a (by omega)]
        exact hp.count
      refine n_i2l ⟨by omega, by omega⟩ ?_
      refine n_call [vR _, vI _, vL _] [] (by omega) (Nat.le_of_ble_eq_true rfl) rfl rfl (Nat.le_of_ble_eq_true rfl) ?_
      refine m_setName (by omega) ?_
      show wp PP _ _ _ [some (vR _), some (vR _), some (vI _), some (vI _), some (vI _)] [] _ _
      refine x_aload rfl ?_
      refine x_ci ?_
      refine x_aload rfl ?_
      refine h_getI 4 hP.1 rfl rfl ?_
      refine t_I yr ?_ ?_
      · rw [up_a (by omega), up_a (by omega), up_a (by omega), up_a (by omega), up_a (by omega), up_a (by omega)]
        exact hy
      refine n_i2l ⟨by omega, by omega⟩ ?_
      refine n_call [vR _, vI _, vL _] [] (by omega) (Nat.le_of_ble_eq_true rfl) rfl rfl (Nat.le_of_ble_eq_true rfl) ?_
      refine m_setName (by omega) ?_
      show wp PP _ _ _ [some (vR _), some (vR _), some (vI _), some (vI _), some (vI _)] [] _ _
      refine x_ret ?_
      refine k _ (fun j j0 j1 => ?_) (fun b2 hb r => ?_)
      · obtain rfl | rfl | rfl | rfl | rfl | rfl | rfl : j = 0 ∨ j = 1 ∨ j = 2 ∨ j = 3 ∨ j = 4 ∨ j = 5 ∨ j = 6 := by omega
        · simp [up, nvE]
          intros
          omega
        · simp [up, nvE]
          intros
          omega
        all_goals simp [up, nvE]
      · simp only [up]
        repeat rw [if_neg (by omega)]
theorem m_worthNext (hP : isDa a) (hS : isSc tp) (hta : a + 4 < tp ∨ tp + 7 < a) (h69 : a + 4 < 69) (htp : tp + 8 < 69) (hd : 11 ≤ d) (hp : PL (a + 1) L n c s) {x yr r : Int} (hy : s a 4 = yr) (hyr : 0 ≤ yr ∧ yr ≤ 100000) (hx : 0 ≤ x ∧ x < 2 * (cnt L - 1)) (hr : 0 ≤ r ∧ r < 3) {kc lb le : Int → Int} (hw : LWC tp kc lb le s) (ho : okL kc lb le) (k : ∀ t, yfr tp s t → Q (some (vL (lawV (nvE (wO L c n (x / 2)) (wO L c n (x / 2 + 1)) x (wB L c n (6 * wO L c n (x / 2) + wO L c n (x / 2 + 1))) n (cnt L) yr) kc (lb r) (le r)))) (HP h0 t)) : wpM PP d 312 [vR 68, vR tp, vR a, vI x, vI r] (HP h0 s) Q := by
  have ha := hP.1.1
  have hta0 := hS.1.1
  have hn := hp.hn
  have hct := cnt_R L
  have q4 := hp.count
  have o1 := wO_R hp.hL hp.v (x / 2) (by omega) (by omega)
  have o2 := wO_R hp.hL hp.v (x / 2 + 1) (by omega) (by omega)
  have wr := wB_R (L := L) (c := c) n (6 * wO L c n (x / 2) + wO L c n (x / 2 + 1))
  refine n_at (m := 312) (q := mr312) (kn := (0, 5)) [some (vR _), some (vR _), some (vR _), some (vI _), some (vI _), none] mb312 rfl rfl (h_rcv sc_68) (Nat.le_of_ble_eq_true rfl) rfl rfl ?_
  refine x_iload rfl ?_
  refine n_call [vI _] [] (by omega) (Nat.le_of_ble_eq_true rfl) rfl rfl (Nat.le_of_ble_eq_true rfl) ?_
  refine m_placeOfCode ⟨by omega, by omega⟩ ?_
  show wp PP _ _ _ [some (vR _), some (vR _), some (vR _), some (vI _), some (vI _), _] [vI _] _ _
  refine n_istore [some (vR _), some (vR _), some (vR _), some (vI _), some (vI _), some (vI _)] (Nat.le_of_ble_eq_true rfl) rfl ?_
  refine x_aload rfl ?_
  refine x_aload rfl ?_
  refine x_iload rfl ?_
  refine x_aload rfl ?_
  refine h_getR hP.1 rfl (by omega) ?_
  refine x_iload rfl ?_
  refine n_call [vR _, vI _] [vI _, vR _, vR _] (by omega) (Nat.le_of_ble_eq_true rfl) rfl rfl (Nat.le_of_ble_eq_true rfl) ?_
  refine m_standsAt hP.2 (by omega) (by omega) ?_
  rw [hp.order (by omega) (by omega)]
  show wp PP _ _ _ [some (vR _), some (vR _), some (vR _), some (vI _), some (vI _), some (vI _)] [vI _, vI _, vR _, vR _] _ _
  refine x_aload rfl ?_
  refine h_getR hP.1 rfl (by omega) ?_
  refine x_iload rfl ?_
  refine x_ci ?_
  refine x_iadd ?_
  refine n_call [vR _, vI _] [vI _, vI _, vR _, vR _] (by omega) (Nat.le_of_ble_eq_true rfl) rfl rfl (Nat.le_of_ble_eq_true rfl) ?_
  refine m_standsAt hP.2 (by omega) (by omega) ?_
  rw [hp.order (by omega) (by omega)]
  show wp PP _ _ _ [some (vR _), some (vR _), some (vR _), some (vI _), some (vI _), some (vI _)] [vI _, vI _, vI _, vR _, vR _] _ _
  refine n_call [vR _, vR _, vI _, vI _, vI _] [] (by omega) (Nat.le_of_ble_eq_true rfl) rfl rfl (Nat.le_of_ble_eq_true rfl) ?_
  refine m_setNames hP h69 (by omega) hp hy hyr (by omega) ⟨by omega, by omega⟩ ⟨by omega, by omega⟩ (fun t t1 t2 => ?_)
  show wp PP _ _ _ [some (vR _), some (vR _), some (vR _), some (vI _), some (vI _), some (vI _)] [] _ _
  refine x_aload rfl ?_
  refine x_iload rfl ?_
  refine x_aload rfl ?_
  refine h_getR sc_68 rfl (by omega) ?_
  refine n_call [vR _, vI _, vR _] [] (by omega) (Nat.le_of_ble_eq_true rfl) rfl rfl (Nat.le_of_ble_eq_true rfl) ?_
  have w := hw r (by omega) (by omega)
  refine m_worth (b := lb r) (e := le r) (kc := kc) (nv := nvE (wO L c n (x / 2)) (wO L c n (x / 2 + 1)) x (wB L c n (6 * wO L c n (x / 2) + wO L c n (x / 2 + 1))) n (cnt L) yr) hS htp (by omega) (by omega) ((t2 (tp + 5) (by omega) _).trans w.1) ((t2 (tp + 6) (by omega) _).trans w.2.1) (ho _ (by omega) (by omega)) (fun i i0 i1 => (t2 (tp + 4) (by omega) i).trans (w.2.2 i i0 i1)) t1 (nvE_R ⟨by omega, by omega⟩ ⟨by omega, by omega⟩ (by omega) (by omega) (by omega) (by omega) hyr) (fun u u1 => ?_)
  show wp PP _ _ _ [some (vR _), some (vR _), some (vR _), some (vI _), some (vI _), some (vI _)] [vL _] _ _
  refine x_lret ?_
  exact k u (fun b2 r2 w1 w2 w3 => (u1 b2 r2 w2 w3).trans (t2 b2 w1 r2))
theorem m_worthLast (hP : isDa a) (hS : isSc tp) (hta : a + 4 < tp ∨ tp + 7 < a) (h69 : a + 4 < 69) (htp : tp + 8 < 69) (hd : 11 ≤ d) (hp : PL (a + 1) L (n + 1) c s) {yr : Int} (hy : s a 4 = yr) (hyr : 0 ≤ yr ∧ yr ≤ 100000) {kc lb le : Int → Int} (hw : LWC tp kc lb le s) (ho : okL kc lb le) (k : ∀ t, yfr tp s t → Q (some (vL (lawV (nvE (wO L c n (c n / 2)) (wO L c n (c n / 2 + 1)) (c n) (wB L c (n + 1) (6 * wO L c n (c n / 2) + wO L c n (c n / 2 + 1))) (n + 1) (cnt L) yr) kc (lb 2) (le 2)))) (HP h0 t)) : wpM PP d 313 [vR 68, vR tp, vR a] (HP h0 s) Q := by
  have ha := hP.1.1
  have hta0 := hS.1.1
  have hn := hp.hn
  have hct := cnt_R L
  have q4 := hp.count
  have q5 := hp.size
  have v' := vC_less hp.v (Nat.le_succ n)
  have hx := hp.v n (by omega) (by omega)
  obtain ⟨x, hcx⟩ : ∃ x, x = c n := ⟨_, rfl⟩
  rw [← hcx] at hx
  have o1 := wO_R hp.hL v' (x / 2) (by omega) (by omega)
  have o2 := wO_R hp.hL v' (x / 2 + 1) (by omega) (by omega)
  have e1 : wO L c (n + 1) (x / 2 + 1) = wO L c n (x / 2) := by
    simp only [wO]
    rw [← hcx, if_neg (by omega)]
    simp
  have e2 : wO L c (n + 1) (x / 2) = wO L c n (x / 2 + 1) := by
    simp only [wO]
    rw [← hcx]
    simp
  have wr := wB_R (L := L) (c := c) (n + 1) (6 * wO L c n (x / 2) + wO L c n (x / 2 + 1))
  refine n_at (m := 313) (q := mr313) (kn := (0, 3)) [some (vR _), some (vR _), some (vR _), none, none] mb313 rfl rfl (h_rcv sc_68) (Nat.le_of_ble_eq_true rfl) rfl rfl ?_
  refine x_aload rfl ?_
  refine h_getR hP.1 rfl (by omega) ?_
  refine x_aload rfl ?_
  refine h_getR hP.1 rfl (by omega) ?_
  refine h_getI 5 hP.2.1 rfl rfl ?_
  refine x_ci ?_
  refine x_isub ?_
  refine t_I (n : Int) (by omega) ?_
  refine n_call [vR _, vI _] [] (by omega) (Nat.le_of_ble_eq_true rfl) rfl rfl (Nat.le_of_ble_eq_true rfl) ?_
  refine m_codeAt hP.2 (by omega) ?_
  show wp PP _ _ _ [some (vR _), some (vR _), some (vR _), _, _] [vI _] _ _
  refine t_I x (by rw [hp.code (by omega) (by omega), hcx]) ?_
  refine n_istore [some (vR _), some (vR _), some (vR _), some (vI _), _] (Nat.le_of_ble_eq_true rfl) rfl ?_
  refine x_iload rfl ?_
  refine n_call [vI _] [] (by omega) (Nat.le_of_ble_eq_true rfl) rfl rfl (Nat.le_of_ble_eq_true rfl) ?_
  refine m_placeOfCode ⟨by omega, by omega⟩ ?_
  show wp PP _ _ _ [some (vR _), some (vR _), some (vR _), some (vI _), _] [vI _] _ _
  refine n_istore [some (vR _), some (vR _), some (vR _), some (vI _), some (vI _)] (Nat.le_of_ble_eq_true rfl) rfl ?_
  refine x_aload rfl ?_
  refine x_aload rfl ?_
  refine x_iload rfl ?_
  refine x_aload rfl ?_
  refine h_getR hP.1 rfl (by omega) ?_
  refine x_iload rfl ?_
  refine x_ci ?_
  refine x_iadd ?_
  refine n_call [vR _, vI _] [vI _, vR _, vR _] (by omega) (Nat.le_of_ble_eq_true rfl) rfl rfl (Nat.le_of_ble_eq_true rfl) ?_
  refine m_standsAt hP.2 (by omega) (by omega) ?_
  rw [hp.order (by omega) (by omega), e1]
  show wp PP _ _ _ [some (vR _), some (vR _), some (vR _), some (vI _), some (vI _)] [vI _, vI _, vR _, vR _] _ _
  refine x_aload rfl ?_
  refine h_getR hP.1 rfl (by omega) ?_
  refine x_iload rfl ?_
  refine n_call [vR _, vI _] [vI _, vI _, vR _, vR _] (by omega) (Nat.le_of_ble_eq_true rfl) rfl rfl (Nat.le_of_ble_eq_true rfl) ?_
  refine m_standsAt hP.2 (by omega) (by omega) ?_
  rw [hp.order (by omega) (by omega), e2]
  show wp PP _ _ _ [some (vR _), some (vR _), some (vR _), some (vI _), some (vI _)] [vI _, vI _, vI _, vR _, vR _] _ _
  refine n_call [vR _, vR _, vI _, vI _, vI _] [] (by omega) (Nat.le_of_ble_eq_true rfl) rfl rfl (Nat.le_of_ble_eq_true rfl) ?_
  refine m_setNames hP h69 (by omega) hp hy hyr (by omega) ⟨by omega, by omega⟩ ⟨by omega, by omega⟩ (fun t t1 t2 => ?_)
  show wp PP _ _ _ [some (vR _), some (vR _), some (vR _), some (vI _), some (vI _)] [] _ _
  refine x_aload rfl ?_
  refine x_ci ?_
  refine x_aload rfl ?_
  refine h_getR sc_68 rfl (by omega) ?_
  refine n_call [vR _, vI _, vR _] [] (by omega) (Nat.le_of_ble_eq_true rfl) rfl rfl (Nat.le_of_ble_eq_true rfl) ?_
  have w := hw 2 (by omega) (by omega)
  refine m_worth (b := lb 2) (e := le 2) (kc := kc) (nv := nvE (wO L c n (x / 2)) (wO L c n (x / 2 + 1)) x (wB L c (n + 1) (6 * wO L c n (x / 2) + wO L c n (x / 2 + 1))) ((n + 1 : Nat) : Int) (cnt L) yr) hS htp (by omega) (by omega) ((t2 (tp + 5) (by omega) _).trans w.1) ((t2 (tp + 6) (by omega) _).trans w.2.1) (ho _ (by omega) (by omega)) (fun i i0 i1 => (t2 (tp + 4) (by omega) i).trans (w.2.2 i i0 i1)) t1 (nvE_R ⟨by omega, by omega⟩ ⟨by omega, by omega⟩ (by omega) (by omega) (by omega) (by omega) hyr) (fun u u1 => ?_)
  show wp PP _ _ _ [some (vR _), some (vR _), some (vR _), some (vI _), some (vI _)] [vL _] _ _
  refine x_lret ?_
  rw [← hcx] at k
  refine cL (k u (fun b2 r2 w1 w2 w3 => (u1 b2 r2 w2 w3).trans (t2 b2 w1 r2))) ?_
  simp
end YA
