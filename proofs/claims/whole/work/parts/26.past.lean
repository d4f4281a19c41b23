/-! THE DANCE AND THE PAST -/
section PA
variable {d a : Nat} {h0 h : pheap} {s : St} {Q : Option pv → pheap → Prop} {L : Int} {n : Nat} {c c' : Int → Int}
/-- who is LEFT at first -/
def L0 (D : Int) : Int := i_shl 1 D - 1
theorem L0_f : ∀ D : Fin 7, 0 ≤ L0 ((D : Nat) : Int) ∧ L0 ((D : Nat) : Int) < 64 ∧ cnt (L0 ((D : Nat) : Int)) = ((D : Nat) : Int) ∧ ∀ x : Fin 6, bt (L0 ((D : Nat) : Int)) ((x : Nat) : Int) = if x.1 < D.1 then 1 else 0 := by decide +kernel
theorem L0_R {D : Int} (h : 0 ≤ D ∧ D ≤ 6) : 0 ≤ L0 D ∧ L0 D < 64 := by
  have := L0_f ⟨D.toNat, by omega⟩
  simp only [Int.toNat_of_nonneg h.1] at this
  exact ⟨this.1, this.2.1⟩
/-- the dance at a -/
def DA (a : Nat) (vw rf sl yr la L : Int) (n : Nat) (c : Int → Int) (s : St) : Prop := s a 1 = vw ∧ s a 2 = rf ∧ s a 3 = sl ∧ s a 4 = yr ∧ s a 5 = la ∧ PL (a + 1) L n c s
def fr4 (a : Nat) (s t : St) : Prop := ∀ b : Nat, (b < a ∨ a + 4 < b) → ∀ j, t b j = s b j
theorem fr4_tr {s t u : St} (h1 : fr4 a s t) (h2 : fr4 a t u) : fr4 a s u := fun b h j => (h2 b h j).trans (h1 b h j)
theorem fr.to4 {t : St} (h : fr (a + 1) s t) : fr4 a s t := fun b hb j => h b (by omega) j
theorem PL.up {b : Nat} {i x : Int} (h : PL a L n c s) (hb : b < a ∨ a + 3 < b) : PL a L n c (up s b i x) := by
  refine ⟨h.hL, h.hn, h.v, ?_, ?_, ?_, ?_, fun i p q => ?_, fun i p q => ?_, fun i p q => ?_⟩
  · rw [up_a (by omega)]; exact h.left
  · rw [up_a (by omega)]; exact h.count
  · rw [up_a (by omega)]; exact h.size
  · rw [up_a (by omega)]; exact h.bound
  · rw [up_a (by omega)]; exact h.code p q
  · rw [up_a (by omega)]; exact h.order p q
  · rw [up_a (by omega)]; exact h.bond p q
theorem m_danceBegin (hP : isDa a) (hd : 9 ≤ d) {D sd : Int} (hD : 0 ≤ D ∧ D ≤ 6) (hs : iR sd) (k : ∀ t, DA a 0 0 0 0 sd (L0 D) 0 c t → fr4 a s t → Q none (HP h0 t)) : wpM PP d 190 [vR a, vI D, vI sd] (HP h0 s) Q := by
  have ha := hP.1.1
  refine n_at (m := 190) (q := mr190) (kn := (0, 3)) [some (vR _), some (vI _), some (vI _)] mb190 rfl rfl (h_rcv hP.1) (Nat.le_of_ble_eq_true rfl) rfl rfl ?_
  refine x_aload rfl ?_
  refine h_getR hP.1 rfl (by omega) ?_
  refine x_ci ?_
  refine x_ci ?_
  refine x_iload rfl ?_
  refine x_ci ?_
  refine n_imin ⟨by omega, by omega⟩ ⟨by omega, by omega⟩ (by omega) (Nat.le_of_ble_eq_true rfl) ?_
  refine n_imax ⟨by omega, by omega⟩ ⟨by omega, by omega⟩ (by omega) (Nat.le_of_ble_eq_true rfl) ?_
  refine x_ishl ?_
  refine x_ci ?_
  refine x_isub ?_
  refine n_call [vR _, vI _] [] (by omega) (Nat.le_of_ble_eq_true rfl) rfl rfl (Nat.le_of_ble_eq_true rfl) ?_
  rw [show max 0 (min D 6) = D by omega]
  refine m_begin (a := a + 1) (c := c) hP.2 (by omega) (w := L0 D) (L0_R hD) (fun t g1 g2 g3 => ?_)
  show wp PP _ _ _ [some (vR _), some (vI _), some (vI _)] [] _ _
  refine x_aload rfl ?_
  refine x_ci ?_
  refine h_putI 1 hP.1 rfl rfl ?_
  refine x_aload rfl ?_
  refine x_ci ?_
  refine h_putI 2 hP.1 rfl rfl ?_
  refine x_aload rfl ?_
  refine x_ci ?_
  refine h_putI 3 hP.1 rfl rfl ?_
  refine x_aload rfl ?_
  refine x_ci ?_
  refine h_putI 4 hP.1 rfl rfl ?_
  refine x_aload rfl ?_
  refine x_iload rfl ?_
  refine n_i2l ⟨by omega, by omega⟩ ?_
  refine h_putL 5 hP.1 rfl rfl ?_
  refine x_ret ?_
  refine k _ ⟨by simp [up], by simp [up], by simp [up], by simp [up], by simp [up], ?_⟩ (fun b hb j => ?_)
  · exact ((((g1.up (by omega)).up (by omega)).up (by omega)).up (by omega)).up (by omega)
  · rw [up_a (by omega), up_a (by omega), up_a (by omega), up_a (by omega), up_a (by omega)]
    exact g3 b (by omega) j
theorem m_danceTake {b : Nat} {vw rf sl yr la : Int} (hP : isDa a) (hB : isDa b) (hab : b + 4 < a ∨ a + 4 < b) (hd : 13 ≤ d) (hp : DA b vw rf sl yr la L n c s) (k : ∀ t, DA a vw rf sl yr la L n c t → fr4 a s t → Q none (HP h0 t)) : wpM PP d 191 [vR a, vR b] (HP h0 s) Q := by
  have ha := hP.1.1
  have hb := hB.1.1
  refine n_at (m := 191) (q := mr191) (kn := (0, 2)) [some (vR _), some (vR _)] mb191 rfl rfl (h_rcv hP.1) (Nat.le_of_ble_eq_true rfl) rfl rfl ?_
  refine x_aload rfl ?_
  refine h_getR hP.1 rfl (by omega) ?_
  refine x_aload rfl ?_
  refine h_getR hB.1 rfl (by omega) ?_
  refine n_call [vR _, vR _] [] (by omega) (Nat.le_of_ble_eq_true rfl) rfl rfl (Nat.le_of_ble_eq_true rfl) ?_
  refine m_takeFrom (a := a + 1) (b := b + 1) hP.2 hB.2 (by omega) (by omega) hp.2.2.2.2.2 (fun t g1 g2 => ?_)
  have f1 := g2 b (by omega)
  show wp PP _ _ _ [some (vR _), some (vR _)] [] _ _
  refine x_aload rfl ?_
  refine x_aload rfl ?_
  refine h_getI 1 hB.1 rfl rfl ?_
  refine t_I vw ?_ ?_
  · rw [f1]
    exact hp.1
  refine h_putI 1 hP.1 rfl rfl ?_
  refine x_aload rfl ?_
  refine x_aload rfl ?_
  refine h_getI 2 hB.1 rfl rfl ?_
  refine t_I rf ?_ ?_
  · rw [up_a (by omega), f1]
    exact hp.2.1
  refine h_putI 2 hP.1 rfl rfl ?_
  refine x_aload rfl ?_
  refine x_aload rfl ?_
  refine h_getI 3 hB.1 rfl rfl ?_
  refine t_I sl ?_ ?_
  · rw [up_a (by omega), up_a (by omega), f1]
    exact hp.2.2.1
  refine h_putI 3 hP.1 rfl rfl ?_
  refine x_aload rfl ?_
  refine x_aload rfl ?_
  refine h_getI 4 hB.1 rfl rfl ?_
  refine t_I yr ?_ ?_
  · rw [up_a (by omega), up_a (by omega), up_a (by omega), f1]
    exact hp.2.2.2.1
  refine h_putI 4 hP.1 rfl rfl ?_
  refine x_aload rfl ?_
  refine x_aload rfl ?_
  refine h_getL 5 hB.1 rfl rfl ?_
  refine t_L la ?_ ?_
  · rw [up_a (by omega), up_a (by omega), up_a (by omega), up_a (by omega), f1]
    exact hp.2.2.2.2.1
  refine h_putL 5 hP.1 rfl rfl ?_
  refine x_ret ?_
  refine k _ ⟨by simp [up], by simp [up], by simp [up], by simp [up], by simp [up], ?_⟩ (fun b hb j => ?_)
  · exact ((((g1.up (by omega)).up (by omega)).up (by omega)).up (by omega)).up (by omega)
  · rw [up_a (by omega), up_a (by omega), up_a (by omega), up_a (by omega), up_a (by omega)]
    exact g2 b (by omega) j
/-- a history: of each entry, from the latest on: vows, who is LEFT, how many codes, which -/
abbrev Hst : Type := Nat → Int × Int × Nat × (Int → Int)
def hOk (z : Nat) (H : Hst) : Prop := ∀ i, i < z → -9999 ≤ (H i).1 ∧ (H i).1 ≤ 9999 ∧ 0 ≤ (H i).2.1 ∧ (H i).2.1 < 64 ∧ (H i).2.2.1 ≤ 48 ∧ vC (H i).2.1 (H i).2.2.2 (H i).2.2.1
def hput1 (vw L : Int) (n : Nat) (c : Int → Int) (H : Hst) : Hst
  | 0 => (vw, L, n, c)
  | i + 1 => H i
/-- the slot of the i-th latest -/
def slo (nx : Int) (i : Nat) : Int := if (i : Int) < nx then nx - 1 - i else nx + 19 - i
/-- the class's past -/
def PAs (z : Nat) (H : Hst) (s : St) : Prop := z ≤ 20 ∧ s 70 4 = z ∧ 0 ≤ s 70 5 ∧ s 70 5 < 20 ∧ ∀ i, i < z → s 74 (slo (s 70 5) i) = (H i).1 ∧ s 73 (slo (s 70 5) i) = (H i).2.1 ∧ s 72 (slo (s 70 5) i) = ((H i).2.2.1 : Int) ∧ ∀ j : Int, 0 ≤ j → j < (H i).2.2.1 → s 71 (48 * slo (s 70 5) i + j) = (H i).2.2.2 j
theorem m_forget (k : Q none (HP h0 (up (up s 70 4 0) 70 5 0))) : wpM PP d 193 [vR 70] (HP h0 s) Q := by
  refine n_at (m := 193) (q := mr193) (kn := (0, 1)) [some (vR _)] mb193 rfl rfl (h_rcv sc_70) (Nat.le_of_ble_eq_true rfl) rfl rfl ?_
  refine x_aload rfl ?_
  refine x_ci ?_
  refine h_putI 4 sc_70 rfl rfl ?_
  refine x_aload rfl ?_
  refine x_ci ?_
  refine h_putI 5 sc_70 rfl rfl ?_
  refine x_ret ?_
  exact k
theorem m_pastSet {i x : Int} (hi : 0 ≤ i ∧ i < 960) (k : Q none (HP h0 (up s 71 i x))) : wpM PP d 196 [vR 70, vI i, vI x] (HP h0 s) Q := by
  refine n_at (m := 196) (q := mr196) (kn := (0, 3)) [some (vR _), some (vI _), some (vI _)] mb196 rfl rfl (h_rcv sc_70) (Nat.le_of_ble_eq_true rfl) rfl rfl ?_
  refine x_iload rfl ?_
  refine n_if_lt ⟨by omega, by omega⟩ (fun c1 => ?_) (fun c1 => ?_)
  · refine x_ret ?_
    first | exact k | (exfalso; omega)
  · refine x_iload rfl ?_
    refine x_aload rfl ?_
    refine h_getR sc_70 rfl (by omega) ?_
    refine h_alen 960 sc_71 (by decide) rfl ?_
    refine n_icmp_ge ⟨by omega, by omega⟩ ⟨by omega, by omega⟩ (fun c2 => ?_) (fun c2 => ?_)
    · refine x_ret ?_
      first | exact k | (exfalso; omega)
    · refine x_aload rfl ?_
      refine h_getR sc_70 rfl (by omega) ?_
      refine x_iload rfl ?_
      refine x_iload rfl ?_
      refine h_iast sc_71 ⟨by omega, by omega⟩ (by decide) ?_
      refine x_fall ?_
      refine x_ret ?_
      first | exact k | (exfalso; omega)
theorem m_pastAt {i : Int} (hi : 0 ≤ i ∧ i < 960) (k : Q (some (vI (s 71 i))) (HP h0 s)) : wpM PP d 197 [vR 70, vI i] (HP h0 s) Q := by
  refine n_at (m := 197) (q := mr197) (kn := (0, 2)) [some (vR _), some (vI _)] mb197 rfl rfl (h_rcv sc_70) (Nat.le_of_ble_eq_true rfl) rfl rfl ?_
  refine x_iload rfl ?_
  refine n_if_lt ⟨by omega, by omega⟩ (fun c1 => ?_) (fun c1 => ?_)
  · refine x_ci ?_
    refine x_fall ?_
    refine x_iret ?_
    first | exact k | (exfalso; omega)
  · refine x_iload rfl ?_
    refine x_aload rfl ?_
    refine h_getR sc_70 rfl (by omega) ?_
    refine h_alen 960 sc_71 (by decide) rfl ?_
    refine n_icmp_ge ⟨by omega, by omega⟩ ⟨by omega, by omega⟩ (fun c2 => ?_) (fun c2 => ?_)
    · refine x_ci ?_
      refine x_fall ?_
      refine x_iret ?_
      first | exact k | (exfalso; omega)
    · refine x_aload rfl ?_
      refine h_getR sc_70 rfl (by omega) ?_
      refine x_iload rfl ?_
      refine h_iald sc_71 ⟨by omega, by omega⟩ (by decide) ?_
      refine x_goto ?_
      refine x_iret ?_
      first | exact k | (exfalso; omega)
theorem PAs.step {t : St} {z : Nat} {Hs : Hst} {nx nx2 vw : Int} (hz : z ≤ 20) (hx0 : 0 ≤ nx ∧ nx < 20) (h : ∀ i, i < z → s 74 (slo nx i) = (Hs i).1 ∧ s 73 (slo nx i) = (Hs i).2.1 ∧ s 72 (slo nx i) = ((Hs i).2.2.1 : Int) ∧ ∀ j : Int, 0 ≤ j → j < (Hs i).2.2.1 → s 71 (48 * slo nx i + j) = (Hs i).2.2.2 j)
    (hh : ∀ i, i < z → (Hs i).2.2.1 ≤ 48) (e1 : ∀ r, t 72 r = if r = nx then (n : Int) else s 72 r) (e2 : ∀ r, t 73 r = if r = nx then L else s 73 r) (e3 : ∀ r, t 74 r = if r = nx then vw else s 74 r) (e4 : ∀ r, t 71 r = if 48 * nx ≤ r ∧ r < 48 * nx + n then c (r - 48 * nx) else s 71 r) (hn : n ≤ 48)
    (hx2 : nx2 = if nx + 1 < 20 then nx + 1 else 0) (i : Nat) (hi : i < min 20 (z + 1)) :
    t 74 (slo nx2 i) = (hput1 vw L n c Hs i).1 ∧ t 73 (slo nx2 i) = (hput1 vw L n c Hs i).2.1 ∧ t 72 (slo nx2 i) = ((hput1 vw L n c Hs i).2.2.1 : Int) ∧ ∀ j : Int, 0 ≤ j → j < (hput1 vw L n c Hs i).2.2.1 → t 71 (48 * slo nx2 i + j) = (hput1 vw L n c Hs i).2.2.2 j := by
  cases i with
  | zero =>
    have e : slo nx2 0 = nx := by
      unfold slo
      split at hx2 <;> split <;> omega
    rw [e, e1, e2, e3, if_pos rfl, if_pos rfl, if_pos rfl]
    refine ⟨rfl, rfl, rfl, fun j j0 j1 => ?_⟩
    rw [e4, if_pos (by simp only [hput1] at j1; omega)]
    simp only [hput1]
    congr 1
    omega
  | succ i =>
    have e : slo nx2 (i + 1) = slo nx i := by
      unfold slo
      split at hx2 <;> split <;> split <;> omega
    have ne : slo nx i ≠ nx := by
      unfold slo
      split <;> omega
    have sr : 0 ≤ slo nx i ∧ slo nx i < 20 := by
      unfold slo
      split <;> omega
    obtain ⟨q1, q2, q3, q4⟩ := h i (by omega)
    have hh := hh i (by omega)
    rw [e, e1, e2, e3, if_neg ne, if_neg ne, if_neg ne]
    refine ⟨q1, q2, q3, fun j j0 j1 => ?_⟩
    simp only [hput1] at j1 ⊢
    rw [e4, if_neg (by omega)]
    exact q4 j j0 j1
theorem m_put {z : Nat} {Hs : Hst} {vw : Int} (hd : 9 ≤ d) (ha : PAs z Hs s) (hok : hOk z Hs) (hv : s 53 1 = vw) (hp : PL 54 L n c s) (hn48 : n ≤ 48) (k : ∀ t, PAs (min 20 (z + 1)) (hput1 vw L n c Hs) t → (∀ b : Nat, (b < 70 ∨ 74 < b) → ∀ r, t b r = s b r) → Q none (HP h0 t)) : wpM PP d 194 [vR 70, vR 53] (HP h0 s) Q := by
  obtain ⟨hz, hz4, hx1, hx2, hh⟩ := ha
  obtain ⟨nx, hx⟩ : ∃ nx, s 70 5 = nx := ⟨_, rfl⟩
  rw [hx] at hx1 hx2
  have L1 : ∀ N : Nat, ∀ (j : Nat) (i : Int) (t : St), (i = j) → (N = n - j ∧ j ≤ n) → (∀ b : Nat, (b < 71 ∨ 74 < b) → ∀ r, t b r = s b r) → (∀ r, t 72 r = if r = nx then (n : Int) else s 72 r) → (∀ r, t 73 r = if r = nx then L else s 73 r) → (∀ r, t 74 r = if r = nx then vw else s 74 r) → (∀ r, t 71 r = if 48 * nx ≤ r ∧ r < 48 * nx + i then c (r - 48 * nx) else s 71 r) →  wp PP d mb194 (mb194.getD 3 []) [some (vR 70), some (vR 53), some (vI i)] [] (HP h0 t) Q := by
    refine s_ind (fun N ih => ?_)
    intro j i t hj hn2 g1 g2 g3 g4 g5
    have g6 : t 54 5 = n := (g1 54 (by omega) 5).trans hp.size
    have g7 : j < n → t 55 i = c i := fun z => (g1 55 (by omega) i).trans (hp.code (by omega) (by omega))
    have g8 : t 70 5 = nx := (g1 70 (by omega) 5).trans hx
    refine x_iload rfl ?_
    refine x_aload rfl ?_
    refine h_getR sc_53 rfl (by omega) ?_
    refine h_getI 5 sc_54 rfl rfl ?_
    refine n_icmp_ge ⟨by omega, by omega⟩ ⟨by omega, by omega⟩ (fun c1 => ?_) (fun c1 => ?_)
    · refine x_aload rfl ?_
      refine x_aload rfl ?_
      refine h_getI 5 sc_70 rfl rfl ?_
      refine x_ci ?_
      refine x_iadd ?_
      refine x_ci ?_
      refine n_icmp_ge ⟨by omega, by omega⟩ ⟨by omega, by omega⟩ (fun c2 => ?_) (fun c2 => ?_)
      · refine x_ci ?_
        refine x_fall ?_
        refine h_putI 5 sc_70 rfl rfl ?_
        refine x_aload rfl ?_
        refine x_ci ?_
        refine x_aload rfl ?_
        refine h_getI 4 sc_70 rfl rfl ?_
        refine x_ci ?_
        refine x_iadd ?_
        rw [up_i (i := 5) (by decide)]
        have g9 : t 70 4 = z := (g1 70 (by omega) 4).trans hz4
        rw [g9]
        refine n_imin ⟨by omega, by omega⟩ ⟨by omega, by omega⟩ (by omega) (Nat.le_of_ble_eq_true rfl) ?_
        refine h_putI 4 sc_70 rfl rfl ?_
        refine x_ret ?_
        have ej : j = n := by omega
        subst ej
        refine k _ ⟨by omega, ?_, ?_, ?_, fun i hi => ?_⟩ (fun b hb r => ?_)
        · rw [up_e]
          omega
        · rw [up_i (by decide), up_e]
          omega
        · rw [up_i (by decide), up_e]
          omega
        · rw [show ∀ (X Y : Int), up (up t 70 5 X) 70 4 Y 70 5 = X from fun X Y => by rw [up_i (by decide), up_e]]
          refine PAs.step hz ⟨hx1, hx2⟩ (by rw [hx] at hh; exact hh) (fun i hi => (hok i hi).2.2.2.2.1) (fun r => ?_) (fun r => ?_) (fun r => ?_) (fun r => ?_) (by omega) ?_ i hi
          · rw [up_a (by decide), up_a (by decide)]; exact g2 r
          · rw [up_a (by decide), up_a (by decide)]; exact g3 r
          · rw [up_a (by decide), up_a (by decide)]; exact g4 r
          · rw [up_a (by decide), up_a (by decide)]
            have := g5 r
            rw [hj] at this
            exact this
          · split <;> omega
        · rw [up_a (by omega), up_a (by omega)]
          exact g1 b (by omega) r
      · refine x_aload rfl ?_
        refine h_getI 5 sc_70 rfl rfl ?_
        refine x_ci ?_
        refine x_iadd ?_
        refine x_goto ?_
        refine h_putI 5 sc_70 rfl rfl ?_
        refine x_aload rfl ?_
        refine x_ci ?_
        refine x_aload rfl ?_
        refine h_getI 4 sc_70 rfl rfl ?_
        refine x_ci ?_
        refine x_iadd ?_
        rw [up_i (i := 5) (by decide)]
        have g9 : t 70 4 = z := (g1 70 (by omega) 4).trans hz4
        rw [g9]
        refine n_imin ⟨by omega, by omega⟩ ⟨by omega, by omega⟩ (by omega) (Nat.le_of_ble_eq_true rfl) ?_
        refine h_putI 4 sc_70 rfl rfl ?_
        refine x_ret ?_
        have ej : j = n := by omega
        subst ej
        refine k _ ⟨by omega, ?_, ?_, ?_, fun i hi => ?_⟩ (fun b hb r => ?_)
        · rw [up_e]
          omega
        · rw [up_i (by decide), up_e]
          omega
        · rw [up_i (by decide), up_e]
          omega
        · rw [show ∀ (X Y : Int), up (up t 70 5 X) 70 4 Y 70 5 = X from fun X Y => by rw [up_i (by decide), up_e]]
          refine PAs.step hz ⟨hx1, hx2⟩ (by rw [hx] at hh; exact hh) (fun i hi => (hok i hi).2.2.2.2.1) (fun r => ?_) (fun r => ?_) (fun r => ?_) (fun r => ?_) (by omega) ?_ i hi
          · rw [up_a (by decide), up_a (by decide)]; exact g2 r
          · rw [up_a (by decide), up_a (by decide)]; exact g3 r
          · rw [up_a (by decide), up_a (by decide)]; exact g4 r
          · rw [up_a (by decide), up_a (by decide)]
            have := g5 r
            rw [hj] at this
            exact this
          · split <;> omega
        · rw [up_a (by omega), up_a (by omega)]
          exact g1 b (by omega) r
    · refine x_iload rfl ?_
      refine x_ci ?_
      refine n_icmp_ge ⟨by omega, by omega⟩ ⟨by omega, by omega⟩ (fun c2 => ?_) (fun c2 => ?_)
      · refine x_aload rfl ?_
        refine x_aload rfl ?_
        refine h_getI 5 sc_70 rfl rfl ?_
        refine x_ci ?_
        refine x_iadd ?_
        refine x_ci ?_
        refine n_icmp_ge ⟨by omega, by omega⟩ ⟨by omega, by omega⟩ (fun c3 => ?_) (fun c3 => ?_)
        · refine x_ci ?_
          refine x_fall ?_
          refine h_putI 5 sc_70 rfl rfl ?_
          refine x_aload rfl ?_
          refine x_ci ?_
          refine x_aload rfl ?_
          refine h_getI 4 sc_70 rfl rfl ?_
          refine x_ci ?_
          refine x_iadd ?_
          rw [up_i (i := 5) (by decide)]
          have g9 : t 70 4 = z := (g1 70 (by omega) 4).trans hz4
          rw [g9]
          refine n_imin ⟨by omega, by omega⟩ ⟨by omega, by omega⟩ (by omega) (Nat.le_of_ble_eq_true rfl) ?_
          refine h_putI 4 sc_70 rfl rfl ?_
          refine x_ret ?_
          have ej : j = n := by omega
          subst ej
          refine k _ ⟨by omega, ?_, ?_, ?_, fun i hi => ?_⟩ (fun b hb r => ?_)
          · rw [up_e]
            omega
          · rw [up_i (by decide), up_e]
            omega
          · rw [up_i (by decide), up_e]
            omega
          · rw [show ∀ (X Y : Int), up (up t 70 5 X) 70 4 Y 70 5 = X from fun X Y => by rw [up_i (by decide), up_e]]
            refine PAs.step hz ⟨hx1, hx2⟩ (by rw [hx] at hh; exact hh) (fun i hi => (hok i hi).2.2.2.2.1) (fun r => ?_) (fun r => ?_) (fun r => ?_) (fun r => ?_) (by omega) ?_ i hi
            · rw [up_a (by decide), up_a (by decide)]; exact g2 r
            · rw [up_a (by decide), up_a (by decide)]; exact g3 r
            · rw [up_a (by decide), up_a (by decide)]; exact g4 r
            · rw [up_a (by decide), up_a (by decide)]
              have := g5 r
              rw [hj] at this
              exact this
            · split <;> omega
          · rw [up_a (by omega), up_a (by omega)]
            exact g1 b (by omega) r
        · refine x_aload rfl ?_
          refine h_getI 5 sc_70 rfl rfl ?_
          refine x_ci ?_
          refine x_iadd ?_
          refine x_goto ?_
          refine h_putI 5 sc_70 rfl rfl ?_
          refine x_aload rfl ?_
          refine x_ci ?_
          refine x_aload rfl ?_
          refine h_getI 4 sc_70 rfl rfl ?_
          refine x_ci ?_
          refine x_iadd ?_
          rw [up_i (i := 5) (by decide)]
          have g9 : t 70 4 = z := (g1 70 (by omega) 4).trans hz4
          rw [g9]
          refine n_imin ⟨by omega, by omega⟩ ⟨by omega, by omega⟩ (by omega) (Nat.le_of_ble_eq_true rfl) ?_
          refine h_putI 4 sc_70 rfl rfl ?_
          refine x_ret ?_
          have ej : j = n := by omega
          subst ej
          refine k _ ⟨by omega, ?_, ?_, ?_, fun i hi => ?_⟩ (fun b hb r => ?_)
          · rw [up_e]
            omega
          · rw [up_i (by decide), up_e]
            omega
          · rw [up_i (by decide), up_e]
            omega
          · rw [show ∀ (X Y : Int), up (up t 70 5 X) 70 4 Y 70 5 = X from fun X Y => by rw [up_i (by decide), up_e]]
            refine PAs.step hz ⟨hx1, hx2⟩ (by rw [hx] at hh; exact hh) (fun i hi => (hok i hi).2.2.2.2.1) (fun r => ?_) (fun r => ?_) (fun r => ?_) (fun r => ?_) (by omega) ?_ i hi
            · rw [up_a (by decide), up_a (by decide)]; exact g2 r
            · rw [up_a (by decide), up_a (by decide)]; exact g3 r
            · rw [up_a (by decide), up_a (by decide)]; exact g4 r
            · rw [up_a (by decide), up_a (by decide)]
              have := g5 r
              rw [hj] at this
              exact this
            · split <;> omega
          · rw [up_a (by omega), up_a (by omega)]
            exact g1 b (by omega) r
      · refine x_aload rfl ?_
        refine x_aload rfl ?_
        refine h_getI 5 sc_70 rfl rfl ?_
        refine x_ci ?_
        refine x_imul ?_
        refine x_iload rfl ?_
        refine x_iadd ?_
        refine x_aload rfl ?_
        refine h_getR sc_53 rfl (by omega) ?_
        refine x_iload rfl ?_
        refine n_call [vR _, vI _] [vI _, vR _] (by omega) (Nat.le_of_ble_eq_true rfl) rfl rfl (Nat.le_of_ble_eq_true rfl) ?_
        refine m_codeAt pl_54 ⟨by omega, by omega⟩ ?_
        show wp PP _ _ _ [some (vR _), some (vR _), some (vI _)] [vI _, vI _, vR _] _ _
        rw [g7 (by omega)]
        refine n_call [vR _, vI _, vI _] [] (by omega) (Nat.le_of_ble_eq_true rfl) rfl rfl (Nat.le_of_ble_eq_true rfl) ?_
        refine m_pastSet ⟨by omega, by omega⟩ ?_
        show wp PP _ _ _ [some (vR _), some (vR _), some (vI _)] [] _ _
        refine n_iinc [some (vR _), some (vR _), some (vI _)] rfl rfl ?_
        refine x_goto ?_
        refine ih (n - (j + 1)) (by omega) (j + 1) _ _ (by omega) (by omega) (fun b hb r => ?_) (fun r => ?_) (fun r => ?_) (fun r => ?_) (fun r => ?_)
        · rw [up_a (by omega)]
          exact g1 b hb r
        · rw [up_a (by decide)]
          exact g2 r
        · rw [up_a (by decide)]
          exact g3 r
        · rw [up_a (by decide)]
          exact g4 r
        · rw [up_at]
          by_cases e : r = 48 * nx + i
          · rw [if_pos (by omega), if_pos (by omega)]
            congr 1
            omega
          · rw [if_neg (by omega), g5 r]
            by_cases e2 : 48 * nx ≤ r ∧ r < 48 * nx + i
            · rw [if_pos (by omega), if_pos (by omega)]
            · rw [if_neg (by omega), if_neg (by omega)]
  refine n_at (m := 194) (q := mr194) (kn := (0, 2)) [some (vR _), some (vR _), none] mb194 rfl rfl (h_rcv sc_70) (Nat.le_of_ble_eq_true rfl) rfl rfl ?_
  skip
  refine x_aload rfl ?_
  refine h_getI 5 sc_70 rfl rfl ?_
  refine n_if_lt ⟨by omega, by omega⟩ (fun c1 => ?_) (fun c1 => ?_)
  · refine x_ret ?_
    exfalso; omega
  · refine x_aload rfl ?_
    refine h_getI 5 sc_70 rfl rfl ?_
    refine x_aload rfl ?_
    refine h_getR sc_70 rfl (by omega) ?_
    refine h_alen 20 sc_72 (by decide) rfl ?_
    refine n_icmp_ge ⟨by omega, by omega⟩ ⟨by omega, by omega⟩ (fun c2 => ?_) (fun c2 => ?_)
    · refine x_ret ?_
      exfalso; omega
    · refine x_aload rfl ?_
      refine h_getI 5 sc_70 rfl rfl ?_
      refine x_aload rfl ?_
      refine h_getR sc_70 rfl (by omega) ?_
      refine h_alen 20 sc_73 (by decide) rfl ?_
      refine n_icmp_ge ⟨by omega, by omega⟩ ⟨by omega, by omega⟩ (fun c3 => ?_) (fun c3 => ?_)
      · refine x_ret ?_
        exfalso; omega
      · refine x_aload rfl ?_
        refine h_getI 5 sc_70 rfl rfl ?_
        refine x_aload rfl ?_
        refine h_getR sc_70 rfl (by omega) ?_
        refine h_alen 20 sc_74 (by decide) rfl ?_
        refine n_icmp_lt ⟨by omega, by omega⟩ ⟨by omega, by omega⟩ (fun c4 => ?_) (fun c4 => ?_)
        · refine x_aload rfl ?_
          refine h_getR sc_70 rfl (by omega) ?_
          refine x_aload rfl ?_
          refine h_getI 5 sc_70 rfl rfl ?_
          refine x_aload rfl ?_
          refine h_getR sc_53 rfl (by omega) ?_
          refine h_getI 5 sc_54 rfl rfl ?_
          rw [hx]
          refine t_I n ?_ ?_
          · exact hp.size
          refine h_iast sc_72 ⟨by omega, by omega⟩ (by decide) ?_
          refine x_aload rfl ?_
          refine h_getR sc_70 rfl (by omega) ?_
          refine x_aload rfl ?_
          refine h_getI 5 sc_70 rfl rfl ?_
          refine x_aload rfl ?_
          refine h_getR sc_53 rfl (by omega) ?_
          refine h_getI 3 sc_54 rfl rfl ?_
          rw [up_a (b := 70) (by decide), hx]
          refine t_I L ?_ ?_
          · rw [up_a (by decide)]
            exact hp.left
          refine h_iast sc_73 ⟨by omega, by omega⟩ (by decide) ?_
          refine x_aload rfl ?_
          refine h_getR sc_70 rfl (by omega) ?_
          refine x_aload rfl ?_
          refine h_getI 5 sc_70 rfl rfl ?_
          refine x_aload rfl ?_
          refine h_getI 1 sc_53 rfl rfl ?_
          rw [up_a (b := 70) (by decide), up_a (b := 70) (by decide), hx]
          refine t_I vw ?_ ?_
          · rw [up_a (by decide), up_a (by decide)]
            exact hv
          refine h_iast sc_74 ⟨by omega, by omega⟩ (by decide) ?_
          refine x_ci ?_
          refine n_istore [some (vR _), some (vR _), some (vI _)] (Nat.le_of_ble_eq_true rfl) rfl ?_
          refine x_fall ?_
          refine L1 n 0 0 _ rfl (by omega) (fun b hb r => ?_) (fun r => ?_) (fun r => ?_) (fun r => ?_) (fun r => ?_)
          · rw [up_a (by omega), up_a (by omega), up_a (by omega)]
          · rw [up_a (by decide), up_a (by decide), up_at]
          · rw [up_a (by decide), up_at]
            split
            · rfl
            · rw [up_a (by decide)]
          · rw [up_at]
            split
            · rfl
            · rw [up_a (by decide), up_a (by decide)]
          · rw [if_neg (by omega), up_a (by decide), up_a (by decide), up_a (by decide)]
        · refine x_fall ?_
          refine x_ret ?_
          exfalso; omega
end PA
