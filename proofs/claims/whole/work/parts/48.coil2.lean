/-! THE COIL'S WALKS (that its numbers stay in bounds is told apart) -/
section CO
variable {d a e : Nat} {h0 h : pheap} {s : St} {Q : Option pv → pheap → Prop} {L : Int} {n : Nat} {c c' : Int → Int}
def rovr (i : Int) (f : Int → Int) : Int → Int := fun j => if j = i then ov1 (f i) (f (i + 1)) (f (i + 2)) (f (i + 3)) else if j = i + 1 then ov2 (f i) (f (i + 1)) (f (i + 2)) (f (i + 3)) else if j = i + 2 then ov3 (f i) (f (i + 1)) (f (i + 2)) (f (i + 3)) else if j = i + 3 then ov4 (f i) (f (i + 1)) (f (i + 2)) (f (i + 3)) else f j
def runr (i : Int) (f : Int → Int) : Int → Int := fun j => if j = i then un1 (f i) (f (i + 1)) (f (i + 2)) (f (i + 3)) else if j = i + 1 then un2 (f i) (f (i + 1)) (f (i + 2)) (f (i + 3)) else if j = i + 2 then un3 (f i) (f (i + 1)) (f (i + 2)) (f (i + 3)) else if j = i + 3 then un4 (f i) (f (i + 1)) (f (i + 2)) (f (i + 3)) else f j
/-- the row behind n crossings -/
def wR (c : Int → Int) : Nat → Int → Int
  | 0 => fun j => j % 2
  | n + 1 => if c n % 2 = 0 then rovr (2 * (c n / 2)) (wR c n) else runr (2 * (c n / 2)) (wR c n)
abbrev B60 (f : Int → Int) : Prop := ∀ j : Int, 0 ≤ j → j < 12 → -1152921504606846976 ≤ f j ∧ f j ≤ 1152921504606846976
theorem rovr_cg {i : Int} {f g : Int → Int} (hi : 0 ≤ i ∧ i + 3 < 12) (e : ∀ j, 0 ≤ j → j < 12 → f j = g j) (j : Int) (h0 : 0 ≤ j) (h1 : j < 12) : rovr i f j = rovr i g j := by
  unfold rovr
  rw [e i (by omega) (by omega), e (i + 1) (by omega) (by omega), e (i + 2) (by omega) (by omega), e (i + 3) (by omega) (by omega), e j h0 h1]
theorem runr_cg {i : Int} {f g : Int → Int} (hi : 0 ≤ i ∧ i + 3 < 12) (e : ∀ j, 0 ≤ j → j < 12 → f j = g j) (j : Int) (h0 : 0 ≤ j) (h1 : j < 12) : runr i f j = runr i g j := by
  unfold runr
  rw [e i (by omega) (by omega), e (i + 1) (by omega) (by omega), e (i + 2) (by omega) (by omega), e (i + 3) (by omega) (by omega), e j h0 h1]
theorem m_windOver (hC : isCo a) (hd : 9 ≤ d) {i x y X Y : Int} (hi : 0 ≤ i ∧ i + 3 < 12) (ex : s (a + 1) i = x) (ey : s (a + 1) (i + 1) = y) (eX : s (a + 1) (i + 2) = X) (eY : s (a + 1) (i + 3) = Y) (bx : -1152921504606846976 ≤ x ∧ x ≤ 1152921504606846976) (by1 : -1152921504606846976 ≤ y ∧ y ≤ 1152921504606846976) (bX : -1152921504606846976 ≤ X ∧ X ≤ 1152921504606846976) (bY : -1152921504606846976 ≤ Y ∧ Y ≤ 1152921504606846976) (k : ∀ t, (∀ j, t (a + 1) j = rovr i (s (a + 1)) j) → (∀ b : Nat, b ≠ a + 1 → ∀ r, t b r = s b r) → Q none (HP h0 t)) : wpM PP d 187 [vR a, vI i] (HP h0 s) Q := by
  have ha := hC.1.1
  refine n_at (m := 187) (q := mr187) (kn := (0, 2)) [some (vR _), some (vI _), none, none, none, none, none, none, none, none, none, none] mb187 rfl rfl (h_rcv hC.1) (Nat.le_of_ble_eq_true rfl) rfl rfl ?_
  refine x_iload rfl ?_
  refine n_if_lt ⟨by omega, by omega⟩ (fun c1 => ?_) (fun c1 => ?_)
  · refine x_ret ?_
    first
      | (exfalso; omega)
      | (refine k _ (fun j => ?_) (fun b hb r => ?_)
         · unfold rovr
           rw [eX, ex, ey, eY]
           simp only [up]
           simp
           repeat' split
           all_goals first | rfl | omega
         · simp only [up]
           repeat rw [if_neg (by omega)])
  · refine x_iload rfl ?_
    refine x_ci ?_
    refine x_iadd ?_
    refine x_aload rfl ?_
    refine h_getR hC.1 rfl (by omega) ?_
    refine h_alen 12 hC.2 (by decide) rfl ?_
    refine n_icmp_lt ⟨by omega, by omega⟩ ⟨by omega, by omega⟩ (fun c2 => ?_) (fun c2 => ?_)
    · refine x_aload rfl ?_
      refine h_getR hC.1 rfl (by omega) ?_
      refine x_iload rfl ?_
      refine h_lald hC.2 ⟨by omega, by omega⟩ (by decide) ?_
      refine t_L x ex ?_
      refine n_lstore [some (vR _), some (vI _), some (vL _), _, _, _, _, _, _, _, _, _] (Nat.le_of_ble_eq_true rfl) rfl ?_
      refine x_aload rfl ?_
      refine h_getR hC.1 rfl (by omega) ?_
      refine x_iload rfl ?_
      refine x_ci ?_
      refine x_iadd ?_
      refine h_lald hC.2 ⟨by omega, by omega⟩ (by decide) ?_
      refine t_L y ey ?_
      refine n_lstore [some (vR _), some (vI _), some (vL _), _, some (vL _), _, _, _, _, _, _, _] (Nat.le_of_ble_eq_true rfl) rfl ?_
      refine x_aload rfl ?_
      refine h_getR hC.1 rfl (by omega) ?_
      refine x_iload rfl ?_
      refine x_ci ?_
      refine x_iadd ?_
      refine h_lald hC.2 ⟨by omega, by omega⟩ (by decide) ?_
      refine t_L X eX ?_
      refine n_lstore [some (vR _), some (vI _), some (vL _), _, some (vL _), _, some (vL _), _, _, _, _, _] (Nat.le_of_ble_eq_true rfl) rfl ?_
      refine x_aload rfl ?_
      refine h_getR hC.1 rfl (by omega) ?_
      refine x_iload rfl ?_
      refine x_ci ?_
      refine x_iadd ?_
      refine h_lald hC.2 ⟨by omega, by omega⟩ (by decide) ?_
      refine t_L Y eY ?_
      refine n_lstore [some (vR _), some (vI _), some (vL _), _, some (vL _), _, some (vL _), _, some (vL _), _, _, _] (Nat.le_of_ble_eq_true rfl) rfl ?_
      refine x_lload rfl ?_
      refine x_cl ?_
      refine x_lload rfl ?_
      refine n_lmin ⟨by omega, by omega⟩ ⟨by omega, by omega⟩ (by omega) (Nat.le_of_ble_eq_true rfl) ?_
      refine x_lsub ?_
      refine x_lload rfl ?_
      refine x_lsub ?_
      refine x_cl ?_
      refine x_lload rfl ?_
      refine n_lmax ⟨by omega, by omega⟩ ⟨by omega, by omega⟩ (by omega) (Nat.le_of_ble_eq_true rfl) ?_
      refine x_ladd ?_
      obtain ⟨z, hz⟩ : ∃ z, z = ovz x y X Y := ⟨_, rfl⟩
      refine t_L z (by rw [hz]; rfl) ?_
      have zb : -4611686018427387904 ≤ z ∧ z ≤ 4611686018427387904 := by
        rw [hz]
        unfold ovz
        omega
      refine n_lstore [some (vR _), some (vI _), some (vL _), _, some (vL _), _, some (vL _), _, some (vL _), _, some (vL _), _] (Nat.le_of_ble_eq_true rfl) rfl ?_
      refine x_aload rfl ?_
      refine h_getR hC.1 rfl (by omega) ?_
      refine x_iload rfl ?_
      refine x_lload rfl ?_
      refine x_cl ?_
      refine x_lload rfl ?_
      refine n_lmax ⟨by omega, by omega⟩ ⟨by omega, by omega⟩ (by omega) (Nat.le_of_ble_eq_true rfl) ?_
      refine x_ladd ?_
      refine x_cl ?_
      refine x_cl ?_
      refine x_lload rfl ?_
      refine n_lmax ⟨by omega, by omega⟩ ⟨by omega, by omega⟩ (by omega) (Nat.le_of_ble_eq_true rfl) ?_
      refine x_lload rfl ?_
      refine x_lsub ?_
      refine n_lmax ⟨by omega, by omega⟩ ⟨by omega, by omega⟩ (by omega) (Nat.le_of_ble_eq_true rfl) ?_
      refine x_ladd ?_
      refine t_L (ov1 x y X Y) (by rw [hz]; rfl) ?_
      refine h_last hC.2 ⟨by omega, by omega⟩ (by decide) ?_
      refine x_aload rfl ?_
      refine h_getR hC.1 rfl (by omega) ?_
      refine x_iload rfl ?_
      refine x_ci ?_
      refine x_iadd ?_
      refine x_lload rfl ?_
      refine x_cl ?_
      refine x_lload rfl ?_
      refine n_lmax ⟨by omega, by omega⟩ ⟨by omega, by omega⟩ (by omega) (Nat.le_of_ble_eq_true rfl) ?_
      refine x_lsub ?_
      refine t_L (ov2 x y X Y) (by rw [hz]; rfl) ?_
      refine h_last hC.2 ⟨by omega, by omega⟩ (by decide) ?_
      refine x_aload rfl ?_
      refine h_getR hC.1 rfl (by omega) ?_
      refine x_iload rfl ?_
      refine x_ci ?_
      refine x_iadd ?_
      refine x_lload rfl ?_
      refine x_cl ?_
      refine x_lload rfl ?_
      refine n_lmin ⟨by omega, by omega⟩ ⟨by omega, by omega⟩ (by omega) (Nat.le_of_ble_eq_true rfl) ?_
      refine x_ladd ?_
      refine x_cl ?_
      refine x_cl ?_
      refine x_lload rfl ?_
      refine n_lmin ⟨by omega, by omega⟩ ⟨by omega, by omega⟩ (by omega) (Nat.le_of_ble_eq_true rfl) ?_
      refine x_lload rfl ?_
      refine x_ladd ?_
      refine n_lmin ⟨by omega, by omega⟩ ⟨by omega, by omega⟩ (by omega) (Nat.le_of_ble_eq_true rfl) ?_
      refine x_ladd ?_
      refine t_L (ov3 x y X Y) (by rw [hz]; rfl) ?_
      refine h_last hC.2 ⟨by omega, by omega⟩ (by decide) ?_
      refine x_aload rfl ?_
      refine h_getR hC.1 rfl (by omega) ?_
      refine x_iload rfl ?_
      refine x_ci ?_
      refine x_iadd ?_
      refine x_lload rfl ?_
      refine x_cl ?_
      refine x_lload rfl ?_
      refine n_lmax ⟨by omega, by omega⟩ ⟨by omega, by omega⟩ (by omega) (Nat.le_of_ble_eq_true rfl) ?_
      refine x_ladd ?_
      refine t_L (ov4 x y X Y) (by rw [hz]; rfl) ?_
      refine h_last hC.2 ⟨by omega, by omega⟩ (by decide) ?_
      refine x_ret ?_
      first
        | (exfalso; omega)
        | (refine k _ (fun j => ?_) (fun b hb r => ?_)
           · unfold rovr
             rw [eX, ex, ey, eY]
             simp only [up]
             simp
             repeat' split
             all_goals first | rfl | omega
           · simp only [up]
             repeat rw [if_neg (by omega)])
    · refine x_fall ?_
      refine x_ret ?_
      first
        | (exfalso; omega)
        | (refine k _ (fun j => ?_) (fun b hb r => ?_)
           · unfold rovr
             rw [eX, ex, ey, eY]
             simp only [up]
             simp
             repeat' split
             all_goals first | rfl | omega
           · simp only [up]
             repeat rw [if_neg (by omega)])
theorem m_windUnder (hC : isCo a) (hd : 9 ≤ d) {i x y X Y : Int} (hi : 0 ≤ i ∧ i + 3 < 12) (ex : s (a + 1) i = x) (ey : s (a + 1) (i + 1) = y) (eX : s (a + 1) (i + 2) = X) (eY : s (a + 1) (i + 3) = Y) (bx : -1152921504606846976 ≤ x ∧ x ≤ 1152921504606846976) (by1 : -1152921504606846976 ≤ y ∧ y ≤ 1152921504606846976) (bX : -1152921504606846976 ≤ X ∧ X ≤ 1152921504606846976) (bY : -1152921504606846976 ≤ Y ∧ Y ≤ 1152921504606846976) (k : ∀ t, (∀ j, t (a + 1) j = runr i (s (a + 1)) j) → (∀ b : Nat, b ≠ a + 1 → ∀ r, t b r = s b r) → Q none (HP h0 t)) : wpM PP d 188 [vR a, vI i] (HP h0 s) Q := by
  have ha := hC.1.1
  refine n_at (m := 188) (q := mr188) (kn := (0, 2)) [some (vR _), some (vI _), none, none, none, none, none, none, none, none, none, none] mb188 rfl rfl (h_rcv hC.1) (Nat.le_of_ble_eq_true rfl) rfl rfl ?_
  refine x_iload rfl ?_
  refine n_if_lt ⟨by omega, by omega⟩ (fun c1 => ?_) (fun c1 => ?_)
  · refine x_ret ?_
    first
      | (exfalso; omega)
      | (refine k _ (fun j => ?_) (fun b hb r => ?_)
         · unfold runr
           rw [eX, ex, ey, eY]
           simp only [up]
           simp
           repeat' split
           all_goals first | rfl | omega
         · simp only [up]
           repeat rw [if_neg (by omega)])
  · refine x_iload rfl ?_
    refine x_ci ?_
    refine x_iadd ?_
    refine x_aload rfl ?_
    refine h_getR hC.1 rfl (by omega) ?_
    refine h_alen 12 hC.2 (by decide) rfl ?_
    refine n_icmp_lt ⟨by omega, by omega⟩ ⟨by omega, by omega⟩ (fun c2 => ?_) (fun c2 => ?_)
    · refine x_aload rfl ?_
      refine h_getR hC.1 rfl (by omega) ?_
      refine x_iload rfl ?_
      refine h_lald hC.2 ⟨by omega, by omega⟩ (by decide) ?_
      refine t_L x ex ?_
      refine n_lstore [some (vR _), some (vI _), some (vL _), _, _, _, _, _, _, _, _, _] (Nat.le_of_ble_eq_true rfl) rfl ?_
      refine x_aload rfl ?_
      refine h_getR hC.1 rfl (by omega) ?_
      refine x_iload rfl ?_
      refine x_ci ?_
      refine x_iadd ?_
      refine h_lald hC.2 ⟨by omega, by omega⟩ (by decide) ?_
      refine t_L y ey ?_
      refine n_lstore [some (vR _), some (vI _), some (vL _), _, some (vL _), _, _, _, _, _, _, _] (Nat.le_of_ble_eq_true rfl) rfl ?_
      refine x_aload rfl ?_
      refine h_getR hC.1 rfl (by omega) ?_
      refine x_iload rfl ?_
      refine x_ci ?_
      refine x_iadd ?_
      refine h_lald hC.2 ⟨by omega, by omega⟩ (by decide) ?_
      refine t_L X eX ?_
      refine n_lstore [some (vR _), some (vI _), some (vL _), _, some (vL _), _, some (vL _), _, _, _, _, _] (Nat.le_of_ble_eq_true rfl) rfl ?_
      refine x_aload rfl ?_
      refine h_getR hC.1 rfl (by omega) ?_
      refine x_iload rfl ?_
      refine x_ci ?_
      refine x_iadd ?_
      refine h_lald hC.2 ⟨by omega, by omega⟩ (by decide) ?_
      refine t_L Y eY ?_
      refine n_lstore [some (vR _), some (vI _), some (vL _), _, some (vL _), _, some (vL _), _, some (vL _), _, _, _] (Nat.le_of_ble_eq_true rfl) rfl ?_
      refine x_lload rfl ?_
      refine x_cl ?_
      refine x_lload rfl ?_
      refine n_lmin ⟨by omega, by omega⟩ ⟨by omega, by omega⟩ (by omega) (Nat.le_of_ble_eq_true rfl) ?_
      refine x_ladd ?_
      refine x_lload rfl ?_
      refine x_lsub ?_
      refine x_cl ?_
      refine x_lload rfl ?_
      refine n_lmax ⟨by omega, by omega⟩ ⟨by omega, by omega⟩ (by omega) (Nat.le_of_ble_eq_true rfl) ?_
      refine x_lsub ?_
      obtain ⟨z, hz⟩ : ∃ z, z = unz x y X Y := ⟨_, rfl⟩
      refine t_L z (by rw [hz]; rfl) ?_
      have zb : -4611686018427387904 ≤ z ∧ z ≤ 4611686018427387904 := by
        rw [hz]
        unfold unz
        omega
      refine n_lstore [some (vR _), some (vI _), some (vL _), _, some (vL _), _, some (vL _), _, some (vL _), _, some (vL _), _] (Nat.le_of_ble_eq_true rfl) rfl ?_
      refine x_aload rfl ?_
      refine h_getR hC.1 rfl (by omega) ?_
      refine x_iload rfl ?_
      refine x_lload rfl ?_
      refine x_cl ?_
      refine x_lload rfl ?_
      refine n_lmax ⟨by omega, by omega⟩ ⟨by omega, by omega⟩ (by omega) (Nat.le_of_ble_eq_true rfl) ?_
      refine x_lsub ?_
      refine x_cl ?_
      refine x_cl ?_
      refine x_lload rfl ?_
      refine n_lmax ⟨by omega, by omega⟩ ⟨by omega, by omega⟩ (by omega) (Nat.le_of_ble_eq_true rfl) ?_
      refine x_lload rfl ?_
      refine x_ladd ?_
      refine n_lmax ⟨by omega, by omega⟩ ⟨by omega, by omega⟩ (by omega) (Nat.le_of_ble_eq_true rfl) ?_
      refine x_lsub ?_
      refine t_L (un1 x y X Y) (by rw [hz]; rfl) ?_
      refine h_last hC.2 ⟨by omega, by omega⟩ (by decide) ?_
      refine x_aload rfl ?_
      refine h_getR hC.1 rfl (by omega) ?_
      refine x_iload rfl ?_
      refine x_ci ?_
      refine x_iadd ?_
      refine x_lload rfl ?_
      refine x_cl ?_
      refine x_lload rfl ?_
      refine n_lmin ⟨by omega, by omega⟩ ⟨by omega, by omega⟩ (by omega) (Nat.le_of_ble_eq_true rfl) ?_
      refine x_ladd ?_
      refine t_L (un2 x y X Y) (by rw [hz]; rfl) ?_
      refine h_last hC.2 ⟨by omega, by omega⟩ (by decide) ?_
      refine x_aload rfl ?_
      refine h_getR hC.1 rfl (by omega) ?_
      refine x_iload rfl ?_
      refine x_ci ?_
      refine x_iadd ?_
      refine x_lload rfl ?_
      refine x_cl ?_
      refine x_lload rfl ?_
      refine n_lmin ⟨by omega, by omega⟩ ⟨by omega, by omega⟩ (by omega) (Nat.le_of_ble_eq_true rfl) ?_
      refine x_lsub ?_
      refine x_cl ?_
      refine x_cl ?_
      refine x_lload rfl ?_
      refine n_lmin ⟨by omega, by omega⟩ ⟨by omega, by omega⟩ (by omega) (Nat.le_of_ble_eq_true rfl) ?_
      refine x_lload rfl ?_
      refine x_lsub ?_
      refine n_lmin ⟨by omega, by omega⟩ ⟨by omega, by omega⟩ (by omega) (Nat.le_of_ble_eq_true rfl) ?_
      refine x_lsub ?_
      refine t_L (un3 x y X Y) (by rw [hz]; rfl) ?_
      refine h_last hC.2 ⟨by omega, by omega⟩ (by decide) ?_
      refine x_aload rfl ?_
      refine h_getR hC.1 rfl (by omega) ?_
      refine x_iload rfl ?_
      refine x_ci ?_
      refine x_iadd ?_
      refine x_lload rfl ?_
      refine x_cl ?_
      refine x_lload rfl ?_
      refine n_lmin ⟨by omega, by omega⟩ ⟨by omega, by omega⟩ (by omega) (Nat.le_of_ble_eq_true rfl) ?_
      refine x_lsub ?_
      refine t_L (un4 x y X Y) (by rw [hz]; rfl) ?_
      refine h_last hC.2 ⟨by omega, by omega⟩ (by decide) ?_
      refine x_ret ?_
      first
        | (exfalso; omega)
        | (refine k _ (fun j => ?_) (fun b hb r => ?_)
           · unfold runr
             rw [eX, ex, ey, eY]
             simp only [up]
             simp
             repeat' split
             all_goals first | rfl | omega
           · simp only [up]
             repeat rw [if_neg (by omega)])
    · refine x_fall ?_
      refine x_ret ?_
      first
        | (exfalso; omega)
        | (refine k _ (fun j => ?_) (fun b hb r => ?_)
           · unfold runr
             rw [eX, ex, ey, eY]
             simp only [up]
             simp
             repeat' split
             all_goals first | rfl | omega
           · simp only [up]
             repeat rw [if_neg (by omega)])
theorem m_wind (hC : isCo a) (hB : isPl e) (hae : a + 1 < e ∨ e + 3 < a) (hd : 10 ≤ d) (hp : PL e L n c s) (hb : ∀ i : Nat, i < n → B60 (wR c i)) (k : ∀ t, (∀ j : Int, 0 ≤ j → j < 12 → t (a + 1) j = wR c n j) → (∀ b : Nat, b ≠ a + 1 → ∀ r, t b r = s b r) → Q none (HP h0 t)) : wpM PP d 184 [vR a, vR e] (HP h0 s) Q := by
  have ha := hC.1.1
  have he := hB.1.1
  have hn := hp.hn
  have L3 : ∀ N : Nat, ∀ {o3 : Option pv} (j0 : Nat) (i : Int) (t : St), (i = j0) → (N = n - j0 ∧ j0 ≤ n) → (∀ j : Int, 0 ≤ j → j < 12 → t (a + 1) j = wR c j0 j) → (∀ b : Nat, b ≠ a + 1 → ∀ r, t b r = s b r) →  wp PP d mb184 (mb184.getD 3 []) [some (vR a), some (vR e), some (vI i), o3] [] (HP h0 t) Q := by
    refine s_ind (fun N ih => ?_)
    intro o3 j0 i t hj hn2 g1 g2
    have g8 : i < n → t (e + 1) i = c i := fun z => (g2 (e + 1) (by omega) i).trans (hp.code (by omega) z)
    have g9 : i < n → 0 ≤ c i ∧ c i < 2 * (cnt L - 1) := fun z => hp.v i (by omega) z
    have hct := cnt_R L
    have g5 : t e 5 = n := (g2 e (by omega) 5).trans hp.size
    refine x_iload rfl ?_
    refine x_aload rfl ?_
    refine h_getI 5 hB.1 rfl rfl ?_
    rw [g5]
    refine n_icmp_ge ⟨by omega, by omega⟩ ⟨by omega, by omega⟩ (fun c1 => ?_) (fun c1 => ?_)
    · refine x_ret ?_
      have ee : j0 = n := by omega
      rw [ee] at g1
      exact k t g1 g2
    · refine x_aload rfl ?_
      refine x_iload rfl ?_
      refine n_call [vR _, vI _] [] (by omega) (Nat.le_of_ble_eq_true rfl) rfl rfl (Nat.le_of_ble_eq_true rfl) ?_
      refine m_codeAt hB ⟨by omega, by omega⟩ ?_
      show wp PP _ _ _ [some (vR _), some (vR _), some (vI _), _] [vI _] _ _
      refine t_I (c i) (g8 (by omega)) ?_
      have g9 := g9 (by omega)
      refine n_istore [some (vR _), some (vR _), some (vI _), some (vI _)] (Nat.le_of_ble_eq_true rfl) rfl ?_
      refine x_iload rfl ?_
      refine n_call [vI _] [] (by omega) (Nat.le_of_ble_eq_true rfl) rfl rfl (Nat.le_of_ble_eq_true rfl) ?_
      refine m_isOver ⟨by omega, by omega⟩ ?_
      show wp PP _ _ _ [some (vR _), some (vR _), some (vI _), some (vI _)] [vI _] _ _
      refine z_if_eq (fun c2 => ?_) (fun c2 => ?_)
      · refine x_aload rfl ?_
        refine x_ci ?_
        refine x_iload rfl ?_
        refine n_call [vI _] [vI _, vR _] (by omega) (Nat.le_of_ble_eq_true rfl) rfl rfl (Nat.le_of_ble_eq_true rfl) ?_
        refine m_placeOfCode ⟨by omega, by omega⟩ ?_
        show wp PP _ _ _ [some (vR _), some (vR _), some (vI _), some (vI _)] [vI _, vI _, vR _] _ _
        refine x_imul ?_
        refine n_call [vR _, vI _] [] (by omega) (Nat.le_of_ble_eq_true rfl) rfl rfl (Nat.le_of_ble_eq_true rfl) ?_
        have r0 := fun (j : Int) (h1 : 0 ≤ j) (h2 : j < 12) => g1 j h1 h2
        have bb := hb j0 (by omega)
        refine m_windUnder (i := 2 * (c i / 2)) hC (by omega) (by omega) rfl rfl rfl rfl (by rw [r0 _ (by omega) (by omega)]; exact bb _ (by omega) (by omega)) (by rw [r0 _ (by omega) (by omega)]; exact bb _ (by omega) (by omega)) (by rw [r0 _ (by omega) (by omega)]; exact bb _ (by omega) (by omega)) (by rw [r0 _ (by omega) (by omega)]; exact bb _ (by omega) (by omega)) (fun u u1 u2 => ?_)
        show wp PP _ _ _ [some (vR _), some (vR _), some (vI _), some (vI _)] [] _ _
        refine x_fall ?_
        refine n_iinc [some (vR _), some (vR _), some (vI _), some (vI _)] rfl rfl ?_
        refine x_goto ?_
        have ec : c j0 = c i := by rw [hj]
        refine ih (n - (j0 + 1)) (by omega) (j0 + 1) _ _ (by omega) (by omega) (fun j h1 h2 => ?_) (fun b hb2 r => (u2 b hb2 r).trans (g2 b hb2 r))
        rw [u1 j]
        simp only [wR]
        rw [ec, if_neg (by assumption)]
        exact runr_cg (by omega) g1 j h1 h2
      · refine x_aload rfl ?_
        refine x_ci ?_
        refine x_iload rfl ?_
        refine n_call [vI _] [vI _, vR _] (by omega) (Nat.le_of_ble_eq_true rfl) rfl rfl (Nat.le_of_ble_eq_true rfl) ?_
        refine m_placeOfCode ⟨by omega, by omega⟩ ?_
        show wp PP _ _ _ [some (vR _), some (vR _), some (vI _), some (vI _)] [vI _, vI _, vR _] _ _
        refine x_imul ?_
        refine n_call [vR _, vI _] [] (by omega) (Nat.le_of_ble_eq_true rfl) rfl rfl (Nat.le_of_ble_eq_true rfl) ?_
        have r0 := fun (j : Int) (h1 : 0 ≤ j) (h2 : j < 12) => g1 j h1 h2
        have bb := hb j0 (by omega)
        refine m_windOver (i := 2 * (c i / 2)) hC (by omega) (by omega) rfl rfl rfl rfl (by rw [r0 _ (by omega) (by omega)]; exact bb _ (by omega) (by omega)) (by rw [r0 _ (by omega) (by omega)]; exact bb _ (by omega) (by omega)) (by rw [r0 _ (by omega) (by omega)]; exact bb _ (by omega) (by omega)) (by rw [r0 _ (by omega) (by omega)]; exact bb _ (by omega) (by omega)) (fun u u1 u2 => ?_)
        show wp PP _ _ _ [some (vR _), some (vR _), some (vI _), some (vI _)] [] _ _
        refine x_goto ?_
        refine n_iinc [some (vR _), some (vR _), some (vI _), some (vI _)] rfl rfl ?_
        refine x_goto ?_
        have ec : c j0 = c i := by rw [hj]
        refine ih (n - (j0 + 1)) (by omega) (j0 + 1) _ _ (by omega) (by omega) (fun j h1 h2 => ?_) (fun b hb2 r => (u2 b hb2 r).trans (g2 b hb2 r))
        rw [u1 j]
        simp only [wR]
        rw [ec, if_pos (by assumption)]
        exact rovr_cg (by omega) g1 j h1 h2
  have L1 : ∀ N : Nat, ∀ {o3 : Option pv} (i : Int) (t : St), (N = 12 - i.toNat) → (0 ≤ i ∧ i ≤ 12) → (∀ j : Int, 0 ≤ j → j < i → t (a + 1) j = j % 2) → (∀ b : Nat, b ≠ a + 1 → ∀ r, t b r = s b r) →  wp PP d mb184 (mb184.getD 1 []) [some (vR a), some (vR e), some (vI i), o3] [] (HP h0 t) Q := by
    refine s_ind (fun N ih => ?_)
    intro o3 i t hn hi g1 g2
    refine x_iload rfl ?_
    refine x_aload rfl ?_
    refine h_getR hC.1 rfl (by omega) ?_
    refine h_alen 12 hC.2 (by decide) rfl ?_
    refine n_icmp_ge ⟨by omega, by omega⟩ ⟨by omega, by omega⟩ (fun c1 => ?_) (fun c1 => ?_)
    · refine x_ci ?_
      refine n_istore [some (vR _), some (vR _), some (vI _), _] (Nat.le_of_ble_eq_true rfl) rfl ?_
      refine x_fall ?_
      refine L3 n 0 0 t rfl (by omega) (fun j h1 h2 => g1 j h1 (by omega)) g2
    · refine x_aload rfl ?_
      refine h_getR hC.1 rfl (by omega) ?_
      refine x_iload rfl ?_
      refine x_iload rfl ?_
      refine x_ci ?_
      refine x_iand ?_
      have an := and1 (x := i) (by omega) (by omega)
      refine n_i2l ⟨by omega, by omega⟩ ?_
      refine h_last hC.2 ⟨by omega, by omega⟩ (by decide) ?_
      refine n_iinc [some (vR _), some (vR _), some (vI _), _] rfl rfl ?_
      refine x_goto ?_
      refine ih (12 - (i + 1).toNat) (by omega) (i + 1) _ rfl (by omega) (fun j h1 h2 => ?_) (fun b hb2 r => ?_)
      · rw [up_at]
        by_cases q : j = i
        · rw [if_pos q, q, and1 (by omega) (by omega)]
        · rw [if_neg q]
          exact g1 j h1 (by omega)
      · rw [up_a hb2]
        exact g2 b hb2 r
  refine n_at (m := 184) (q := mr184) (kn := (0, 2)) [some (vR _), some (vR _), none, none] mb184 rfl rfl (h_rcv hC.1) (Nat.le_of_ble_eq_true rfl) rfl rfl ?_
  refine x_ci ?_
  refine n_istore [some (vR _), some (vR _), some (vI _), _] (Nat.le_of_ble_eq_true rfl) rfl ?_
  refine x_fall ?_
  refine L1 12 0 s rfl (by omega) (fun j h1 h2 => by omega) (fun _ _ _ => rfl)
theorem m_straightens (hC : isCo a) (hB : isPl e) (hae : a + 1 < e ∨ e + 3 < a) (hd : 11 ≤ d) (hp : PL e L n c s) (hb : ∀ i : Nat, i ≤ n → B60 (wR c i)) (k : ∀ t, (∀ j : Int, 0 ≤ j → j < 12 → t (a + 1) j = wR c n j) → (∀ b : Nat, b ≠ a + 1 → ∀ r, t b r = s b r) → Q (some (vI (bI (∀ r : Fin 12, wR c n ((r : Nat) : Int) = ((r : Nat) : Int) % 2)))) (HP h0 t)) : wpM PP d 185 [vR a, vR e] (HP h0 s) Q := by
  have ha := hC.1.1
  refine n_at (m := 185) (q := mr185) (kn := (0, 2)) [some (vR _), some (vR _), none] mb185 rfl rfl (h_rcv hC.1) (Nat.le_of_ble_eq_true rfl) rfl rfl ?_
  refine x_aload rfl ?_
  refine x_aload rfl ?_
  refine n_call [vR _, vR _] [] (by omega) (Nat.le_of_ble_eq_true rfl) rfl rfl (Nat.le_of_ble_eq_true rfl) ?_
  refine m_wind hC hB hae (by omega) hp (fun i hi => hb i (by omega)) (fun t g1 g2 => ?_)
  show wp PP _ _ _ [some (vR _), some (vR _), _] [] _ _
  refine x_ci ?_
  refine n_istore [some (vR _), some (vR _), some (vI _)] (Nat.le_of_ble_eq_true rfl) rfl ?_
  refine x_fall ?_
  have L1 : ∀ N : Nat, ∀ (i : Int), (N = 12 - i.toNat) → (0 ≤ i ∧ i ≤ 12) → (∀ j : Int, 0 ≤ j → j < i → wR c n j = j % 2) →  wp PP d mb185 (mb185.getD 1 []) [some (vR a), some (vR e), some (vI i)] [] (HP h0 t) Q := by
    refine s_ind (fun N ih => ?_)
    intro i hn hi g
    refine x_iload rfl ?_
    refine x_aload rfl ?_
    refine h_getR hC.1 rfl (by omega) ?_
    refine h_alen 12 hC.2 (by decide) rfl ?_
    refine n_icmp_ge ⟨by omega, by omega⟩ ⟨by omega, by omega⟩ (fun c1 => ?_) (fun c1 => ?_)
    · refine x_ci ?_
      refine x_zret (by first | exact bI_01 _ | omega) ?_
      first
        | exact cB0 (k t g1 g2) (ex_all (P := fun i => wR c n i = i % 2) hi.1 (by omega) c2)
        | exact cB1 (k t g1 g2) (all_fin (P := fun i => wR c n i = i % 2) (fun j h1 h2 => g j h1 (by omega)))
    · refine x_aload rfl ?_
      refine h_getR hC.1 rfl (by omega) ?_
      refine x_iload rfl ?_
      refine h_lald hC.2 ⟨by omega, by omega⟩ (by decide) ?_
      rw [g1 i (by omega) (by omega)]
      have bb := hb n (by omega) i (by omega) (by omega)
      refine x_iload rfl ?_
      refine x_ci ?_
      refine x_iand ?_
      rw [and1 (by omega) (by omega)]
      refine n_i2l ⟨by omega, by omega⟩ ?_
      refine n_lif_eq ⟨by omega, by omega⟩ ⟨by omega, by omega⟩ (fun c2 => ?_) (fun c2 => ?_)
      · refine n_iinc [some (vR _), some (vR _), some (vI _)] rfl rfl ?_
        refine x_goto ?_
        refine ih (12 - (i + 1).toNat) (by omega) (i + 1) rfl (by omega) (fun j h1 h2 => ?_)
        by_cases q : j = i
        · rw [q]
          exact c2
        · exact g j h1 (by omega)
      · refine x_ci ?_
        refine x_zret (by first | exact bI_01 _ | omega) ?_
        first
          | exact cB0 (k t g1 g2) (ex_all (P := fun i => wR c n i = i % 2) hi.1 (by omega) c2)
          | exact cB1 (k t g1 g2) (all_fin (P := fun i => wR c n i = i % 2) (fun j h1 h2 => g j h1 (by omega)))
  exact L1 12 0 rfl (by omega) (fun j h1 h2 => by omega)
end CO
