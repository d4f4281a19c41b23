/-! THE ROWS KEEP THE PLAITS' RULES -/
abbrev OV (x y X Y o1 o2 o3 o4 : Int) : Prop := o1 = ov1 x y X Y ∧ o2 = ov2 x y X Y ∧ o3 = ov3 x y X Y ∧ o4 = ov4 x y X Y
theorem OV.rg {x y X Y o1 o2 o3 o4 : Int} (h : OV x y X Y o1 o2 o3 o4) : (0 ≤ y ∧ Y ≤ 0 ∧ (x - X) ≤ 0 ∧ o1 = x + y - (x - X) ∧ o2 = Y ∧ o3 = X + Y + (x - X) ∧ o4 = y) ∨ (0 ≤ y ∧ Y ≤ 0 ∧ 0 ≤ (x - X) ∧ o1 = x + y ∧ o2 = Y - (x - X) ∧ o3 = X + Y ∧ o4 = y + (x - X)) ∨ (0 ≤ y ∧ 0 ≤ Y ∧ (x - X + Y) ≤ 0 ∧ o1 = x + y + Y - (x - X + Y) ∧ o2 = Y ∧ o3 = X + (x - X + Y) ∧ o4 = y) ∨ (0 ≤ y ∧ 0 ≤ Y ∧ 0 ≤ (x - X + Y) ∧ (x - X + Y) ≤ Y ∧ o1 = x + y + Y - (x - X + Y) ∧ o2 = Y - (x - X + Y) ∧ o3 = X ∧ o4 = y + (x - X + Y)) ∨ (0 ≤ y ∧ 0 ≤ Y ∧ 0 ≤ (x - X + Y) ∧ Y ≤ (x - X + Y) ∧ o1 = x + y ∧ o2 = Y - (x - X + Y) ∧ o3 = X ∧ o4 = y + (x - X + Y)) ∨ (y ≤ 0 ∧ Y ≤ 0 ∧ (x - y - X) ≤ 0 ∧ o1 = x - (x - y - X) ∧ o2 = Y ∧ o3 = X + Y + y + (x - y - X) ∧ o4 = y) ∨ (y ≤ 0 ∧ Y ≤ 0 ∧ 0 ≤ (x - y - X) ∧ (x - y - X) ≤ -y ∧ o1 = x ∧ o2 = Y - (x - y - X) ∧ o3 = X + Y + y + (x - y - X) ∧ o4 = y + (x - y - X)) ∨ (y ≤ 0 ∧ Y ≤ 0 ∧ 0 ≤ (x - y - X) ∧ -y ≤ (x - y - X) ∧ o1 = x ∧ o2 = Y - (x - y - X) ∧ o3 = X + Y ∧ o4 = y + (x - y - X)) ∨ (y ≤ 0 ∧ 0 ≤ Y ∧ (x - y - X + Y) ≤ 0 ∧ o1 = x + Y - (x - y - X + Y) ∧ o2 = Y ∧ o3 = X + y + (x - y - X + Y) ∧ o4 = y) ∨ (y ≤ 0 ∧ 0 ≤ Y ∧ 0 ≤ (x - y - X + Y) ∧ (x - y - X + Y) ≤ Y ∧ (x - y - X + Y) ≤ -y ∧ o1 = x + Y - (x - y - X + Y) ∧ o2 = Y - (x - y - X + Y) ∧ o3 = X + y + (x - y - X + Y) ∧ o4 = y + (x - y - X + Y)) ∨ (y ≤ 0 ∧ 0 ≤ Y ∧ 0 ≤ (x - y - X + Y) ∧ Y ≤ (x - y - X + Y) ∧ (x - y - X + Y) ≤ -y ∧ o1 = x ∧ o2 = Y - (x - y - X + Y) ∧ o3 = X + y + (x - y - X + Y) ∧ o4 = y + (x - y - X + Y)) ∨ (y ≤ 0 ∧ 0 ≤ Y ∧ 0 ≤ (x - y - X + Y) ∧ (x - y - X + Y) ≤ Y ∧ -y ≤ (x - y - X + Y) ∧ o1 = x + Y - (x - y - X + Y) ∧ o2 = Y - (x - y - X + Y) ∧ o3 = X ∧ o4 = y + (x - y - X + Y)) ∨ (y ≤ 0 ∧ 0 ≤ Y ∧ 0 ≤ (x - y - X + Y) ∧ Y ≤ (x - y - X + Y) ∧ -y ≤ (x - y - X + Y) ∧ o1 = x ∧ o2 = Y - (x - y - X + Y) ∧ o3 = X ∧ o4 = y + (x - y - X + Y)) := by
  obtain ⟨e1, e2, e3, e4⟩ := h
  unfold ov1 ovz at e1
  unfold ov2 ovz at e2
  unfold ov3 ovz at e3
  unfold ov4 ovz at e4
  rcases Int.le_total 0 y with hy | hy
  all_goals
    rcases Int.le_total 0 Y with hY | hY
  · rcases Int.le_total (x - X + Y) 0 with hz | hz
    · exact Or.inr (Or.inr (Or.inl (⟨by omega, by omega, by omega, by omega, by omega, by omega, by omega⟩)))
    · rcases Int.le_total (x - X + Y) Y with hw | hw
      · exact Or.inr (Or.inr (Or.inr (Or.inl (⟨by omega, by omega, by omega, by omega, by omega, by omega, by omega, by omega⟩))))
      · exact Or.inr (Or.inr (Or.inr (Or.inr (Or.inl (⟨by omega, by omega, by omega, by omega, by omega, by omega, by omega, by omega⟩)))))
  · rcases Int.le_total (x - X) 0 with hz | hz
    · exact Or.inl (⟨by omega, by omega, by omega, by omega, by omega, by omega, by omega⟩)
    · exact Or.inr (Or.inl (⟨by omega, by omega, by omega, by omega, by omega, by omega, by omega⟩))
  · rcases Int.le_total (x - y - X + Y) 0 with hz | hz
    · exact Or.inr (Or.inr (Or.inr (Or.inr (Or.inr (Or.inr (Or.inr (Or.inr (Or.inl (⟨by omega, by omega, by omega, by omega, by omega, by omega, by omega⟩)))))))))
    · rcases Int.le_total (x - y - X + Y) (-y) with hw | hw
      · rcases Int.le_total (x - y - X + Y) Y with hv | hv
        · exact Or.inr (Or.inr (Or.inr (Or.inr (Or.inr (Or.inr (Or.inr (Or.inr (Or.inr (Or.inl (⟨by omega, by omega, by omega, by omega, by omega, by omega, by omega, by omega, by omega⟩))))))))))
        · exact Or.inr (Or.inr (Or.inr (Or.inr (Or.inr (Or.inr (Or.inr (Or.inr (Or.inr (Or.inr (Or.inl (⟨by omega, by omega, by omega, by omega, by omega, by omega, by omega, by omega, by omega⟩)))))))))))
      · rcases Int.le_total (x - y - X + Y) Y with hv | hv
        · exact Or.inr (Or.inr (Or.inr (Or.inr (Or.inr (Or.inr (Or.inr (Or.inr (Or.inr (Or.inr (Or.inr (Or.inl (⟨by omega, by omega, by omega, by omega, by omega, by omega, by omega, by omega, by omega⟩))))))))))))
        · exact Or.inr (Or.inr (Or.inr (Or.inr (Or.inr (Or.inr (Or.inr (Or.inr (Or.inr (Or.inr (Or.inr (Or.inr ((⟨by omega, by omega, by omega, by omega, by omega, by omega, by omega, by omega, by omega⟩)))))))))))))
  · rcases Int.le_total (x - y - X) 0 with hz | hz
    · exact Or.inr (Or.inr (Or.inr (Or.inr (Or.inr (Or.inl (⟨by omega, by omega, by omega, by omega, by omega, by omega, by omega⟩))))))
    · rcases Int.le_total (x - y - X) (-y) with hw | hw
      · exact Or.inr (Or.inr (Or.inr (Or.inr (Or.inr (Or.inr (Or.inl (⟨by omega, by omega, by omega, by omega, by omega, by omega, by omega, by omega⟩)))))))
      · exact Or.inr (Or.inr (Or.inr (Or.inr (Or.inr (Or.inr (Or.inr (Or.inl (⟨by omega, by omega, by omega, by omega, by omega, by omega, by omega, by omega⟩))))))))
/-- sums of terms as lists of exponents, read with 'max' for sums -/
abbrev TP : Type := List (List Int)
abbrev TF : Type := TP × TP
def tdot : List Int → List Int → Int
  | a :: u, b :: v => a * b + tdot u v
  | _, _ => 0
def tad : List Int → List Int → List Int
  | a :: u, b :: v => (a + b) :: tad u v
  | [], v => v
  | u, [] => u
def tmx (p : List Int) : TP → Int
  | [] => 0
  | u :: w => if w = [] then tdot u p else max (tdot u p) (tmx p w)
def tmul : TP → TP → TP
  | [], _ => []
  | u :: A, B => B.map (tad u) ++ tmul A B
theorem tdot_ad : ∀ (u v p : List Int), tdot (tad u v) p = tdot u p + tdot v p
  | [], v, p => by
    have : tdot [] p = 0 := by cases p <;> rfl
    show tdot v p = _
    omega
  | a :: u, [], p => by
    have : tdot [] p = 0 := by cases p <;> rfl
    show tdot (a :: u) p = _
    omega
  | a :: u, b :: v, [] => rfl
  | a :: u, b :: v, c :: p => by
    have := tdot_ad u v p
    show (a + b) * c + tdot (tad u v) p = a * c + tdot u p + (b * c + tdot v p)
    rw [this, Int.add_mul]
    omega
theorem tmx_le {p : List Int} : ∀ {A : TP} {u : List Int}, u ∈ A → tdot u p ≤ tmx p A
  | [], u, h => by simp at h
  | v :: A, u, h => by
    unfold tmx
    rcases List.mem_cons.mp h with rfl | h
    · split
      · exact Int.le_refl _
      · omega
    · have := tmx_le (p := p) h
      split
      · rename_i e
        rw [e] at h
        simp at h
      · omega
theorem tmx_at {p : List Int} : ∀ {A : TP}, A ≠ [] → ∃ u, u ∈ A ∧ tmx p A = tdot u p
  | [], h => absurd rfl h
  | v :: A, _ => by
    unfold tmx
    by_cases e : A = []
    · rw [if_pos e]
      exact ⟨v, List.mem_cons_self .., rfl⟩
    · rw [if_neg e]
      obtain ⟨u, h1, h2⟩ := tmx_at (p := p) e
      by_cases q : tdot v p ≤ tmx p A
      · exact ⟨u, List.mem_cons_of_mem _ h1, by omega⟩
      · exact ⟨v, List.mem_cons_self .., by omega⟩
theorem tmx_app {p : List Int} {A B : TP} (hA : A ≠ []) (hB : B ≠ []) : tmx p (A ++ B) = max (tmx p A) (tmx p B) := by
  obtain ⟨u, u1, u2⟩ := tmx_at (p := p) hA
  obtain ⟨v, v1, v2⟩ := tmx_at (p := p) hB
  obtain ⟨w, w1, w2⟩ := tmx_at (p := p) (A := A ++ B) (by simp [hA])
  have a := tmx_le (p := p) (List.mem_append_left B u1)
  have b := tmx_le (p := p) (List.mem_append_right A v1)
  rcases List.mem_append.mp w1 with h | h
  · have := tmx_le (p := p) h
    omega
  · have := tmx_le (p := p) h
    omega
theorem mem_tmul {w : List Int} : ∀ {A B : TP}, w ∈ tmul A B ↔ ∃ u v, u ∈ A ∧ v ∈ B ∧ w = tad u v
  | [], B => by
    constructor
    · intro h
      simp [tmul] at h
    · rintro ⟨u, v, h, _⟩
      simp at h
  | a :: A, B => by
    show w ∈ B.map (tad a) ++ tmul A B ↔ _
    rw [List.mem_append, mem_tmul, List.mem_map]
    constructor
    · rintro (⟨v, h1, h2⟩ | ⟨u, v, h1, h2, h3⟩)
      · exact ⟨a, v, List.mem_cons_self .., h1, h2.symm⟩
      · exact ⟨u, v, List.mem_cons_of_mem a h1, h2, h3⟩
    · rintro ⟨u, v, h1, h2, h3⟩
      rcases List.mem_cons.mp h1 with rfl | h1
      · exact Or.inl ⟨v, h2, h3.symm⟩
      · exact Or.inr ⟨u, v, h1, h2, h3⟩
theorem tmul_ne {A B : TP} (hA : A ≠ []) (hB : B ≠ []) : tmul A B ≠ [] := fun e => by
  obtain ⟨u, h1, _⟩ := tmx_at (p := []) hA
  obtain ⟨v, h2, _⟩ := tmx_at (p := []) hB
  have := mem_tmul.mpr ⟨u, v, h1, h2, rfl⟩
  rw [e] at this
  simp at this
theorem tmx_mul {p : List Int} {A B : TP} (hA : A ≠ []) (hB : B ≠ []) : tmx p (tmul A B) = tmx p A + tmx p B := by
  obtain ⟨u, u1, u2⟩ := tmx_at (p := p) hA
  obtain ⟨v, v1, v2⟩ := tmx_at (p := p) hB
  obtain ⟨w, w1, w2⟩ := tmx_at (p := p) (tmul_ne hA hB)
  have a := tmx_le (p := p) (mem_tmul.mpr ⟨u, v, u1, v1, rfl⟩)
  rw [tdot_ad] at a
  obtain ⟨u', v', h1, h2, h3⟩ := mem_tmul.mp w1
  have b := tmx_le (p := p) h1
  have c := tmx_le (p := p) h2
  rw [h3, tdot_ad] at w2
  omega
def tsub (A B : TP) : Bool := A.all (fun u => B.contains u)
theorem tmx_sub {p : List Int} {A B : TP} (hA : A ≠ []) (h : tsub A B = true) : tmx p A ≤ tmx p B := by
  obtain ⟨u, u1, u2⟩ := tmx_at (p := p) hA
  have := List.all_eq_true.mp h u u1
  rw [u2]
  exact tmx_le (by simpa using this)
def okT (f : TF) : Prop := f.1 ≠ [] ∧ f.2 ≠ []
def tvl (p : List Int) (f : TF) : Int := tmx p f.1 - tmx p f.2
def fml (f g : TF) : TF := (tmul f.1 g.1, tmul f.2 g.2)
def fqo (f g : TF) : TF := (tmul f.1 g.2, tmul f.2 g.1)
def fsm (f g : TF) : TF := (tmul f.1 g.2 ++ tmul g.1 f.2, tmul f.2 g.2)
def teq (f g : TF) : Bool := tsub (tmul f.1 g.2) (tmul g.1 f.2) && tsub (tmul g.1 f.2) (tmul f.1 g.2)
section TV
variable {p : List Int} {f g : TF}
theorem ok_fm (hf : okT f) (hg : okT g) : okT (fml f g) := ⟨tmul_ne hf.1 hg.1, tmul_ne hf.2 hg.2⟩
theorem ok_fq (hf : okT f) (hg : okT g) : okT (fqo f g) := ⟨tmul_ne hf.1 hg.2, tmul_ne hf.2 hg.1⟩
theorem ok_fa (hf : okT f) (hg : okT g) : okT (fsm f g) := ⟨by
  have := tmul_ne hf.1 hg.2
  unfold fsm
  simp [this], tmul_ne hf.2 hg.2⟩
theorem tv_fm (hf : okT f) (hg : okT g) : tvl p (fml f g) = tvl p f + tvl p g := by
  unfold tvl fml
  dsimp only
  rw [tmx_mul hf.1 hg.1, tmx_mul hf.2 hg.2]
  omega
theorem tv_fq (hf : okT f) (hg : okT g) : tvl p (fqo f g) = tvl p f - tvl p g := by
  unfold tvl fqo
  dsimp only
  rw [tmx_mul hf.1 hg.2, tmx_mul hf.2 hg.1]
  omega
theorem tv_fa (hf : okT f) (hg : okT g) : tvl p (fsm f g) = max (tvl p f) (tvl p g) := by
  unfold tvl fsm
  dsimp only
  rw [tmx_app (tmul_ne hf.1 hg.2) (tmul_ne hg.1 hf.2), tmx_mul hf.1 hg.2, tmx_mul hg.1 hf.2, tmx_mul hf.2 hg.2]
  omega
theorem tv_eq (hf : okT f) (hg : okT g) (h : teq f g = true) : tvl p f = tvl p g := by
  unfold teq at h
  rw [Bool.and_eq_true] at h
  have a := tmx_sub (p := p) (tmul_ne hf.1 hg.2) h.1
  have b := tmx_sub (p := p) (tmul_ne hg.1 hf.2) h.2
  rw [tmx_mul hf.1 hg.2, tmx_mul hg.1 hf.2] at a b
  unfold tvl
  omega
/-- numerator, denominator alone -/
def nu (f : TF) : TF := (f.1, [[]])
def de (f : TF) : TF := (f.2, [[]])
theorem ok_nu (hf : okT f) : okT (nu f) := ⟨hf.1, by simp [nu]⟩
theorem ok_de (hf : okT f) : okT (de f) := ⟨hf.2, by simp [de]⟩
theorem tv_nd : tvl p (nu f) - tvl p (de f) = tvl p f := by
  unfold tvl nu de
  dsimp only
  omega
/-- what a crossing makes of two neighbours -/
def sxa (P C a b : TF) : TF := fqo (fsm (fsm (fml P (fml (nu a) (de b))) (fml C (fml (nu a) (de b)))) (fml P (fml (nu b) (de a)))) (fml C (fml (de a) (de b)))
def sxb (C R a b : TF) : TF := fqo (fml C (fml (nu a) (nu b))) (fsm (fsm (fml C (fml (nu a) (de b))) (fml R (fml (nu a) (de b)))) (fml R (fml (nu b) (de a))))
def sxc (P C R a b : TF) : TF := fqo (fsm (fml (fml P R) (fml (de a) (nu b))) (fml (fml (fsm P C) (fsm C R)) (fml (nu a) (de b)))) (fml C (fml (de a) (nu b)))
theorem ov_pot {P C R x X o1 o2 o3 o4 : Int} (k : OV x (P - C) X (C - R) o1 o2 o3 o4) : o1 = max (max (P + x) (C + x)) (P + X) - C ∧ o3 = C + x + X - max (max (C + x) (R + x)) (R + X) ∧ P - o2 = max (P + R + X) (max P C + max C R + x) - C - X ∧ o4 = P - o2 - R := by
  rcases k.rg with g | g | g | g | g | g | g | g | g | g | g | g | g
  all_goals
    clear k
    exact ⟨by omega, by omega, by omega, by omega⟩
theorem st_ov {fP fC fR fa_ fb : TF} {P C R x X o1 o2 o3 o4 : Int} (k : OV x (P - C) X (C - R) o1 o2 o3 o4) (h1 : okT fP) (h2 : okT fC) (h3 : okT fR) (h4 : okT fa_) (h5 : okT fb) (e1 : tvl p fP = P) (e2 : tvl p fC = C) (e3 : tvl p fR = R) (e4 : tvl p fa_ = x) (e5 : tvl p fb = X) {gx gX gC : TF} (q1 : okT gx) (q2 : okT gX) (q3 : okT gC) (t1 : teq (sxa fP fC fa_ fb) gx = true) (t2 : teq (sxb fC fR fa_ fb) gX = true) (t3 : teq (sxc fP fC fR fa_ fb) gC = true) : tvl p gx = o1 ∧ tvl p gX = o3 ∧ tvl p gC = P - o2 ∧ o4 = P - o2 - R := by
  obtain ⟨k1, k2, k3, k4⟩ := ov_pot k
  have n4 := tv_nd (p := p) (f := fa_)
  have n5 := tv_nd (p := p) (f := fb)
  have a1 := ok_nu h4
  have a2 := ok_de h4
  have b1 := ok_nu h5
  have b2 := ok_de h5
  have s1 : okT (sxa fP fC fa_ fb) := ok_fq (ok_fa (ok_fa (ok_fm h1 (ok_fm a1 b2)) (ok_fm h2 (ok_fm a1 b2))) (ok_fm h1 (ok_fm b1 a2))) (ok_fm h2 (ok_fm a2 b2))
  have s2 : okT (sxb fC fR fa_ fb) := ok_fq (ok_fm h2 (ok_fm a1 b1)) (ok_fa (ok_fa (ok_fm h2 (ok_fm a1 b2)) (ok_fm h3 (ok_fm a1 b2))) (ok_fm h3 (ok_fm b1 a2)))
  have s3 : okT (sxc fP fC fR fa_ fb) := ok_fq (ok_fa (ok_fm (ok_fm h1 h3) (ok_fm a2 b1)) (ok_fm (ok_fm (ok_fa h1 h2) (ok_fa h2 h3)) (ok_fm a1 b2))) (ok_fm h2 (ok_fm a2 b1))
  rw [← tv_eq s1 q1 t1, ← tv_eq s2 q2 t2, ← tv_eq s3 q3 t3]
  unfold sxa sxb sxc
  rw [tv_fq (ok_fa (ok_fa (ok_fm h1 (ok_fm a1 b2)) (ok_fm h2 (ok_fm a1 b2))) (ok_fm h1 (ok_fm b1 a2))) (ok_fm h2 (ok_fm a2 b2)), tv_fa (ok_fa (ok_fm h1 (ok_fm a1 b2)) (ok_fm h2 (ok_fm a1 b2))) (ok_fm h1 (ok_fm b1 a2)), tv_fa (ok_fm h1 (ok_fm a1 b2)) (ok_fm h2 (ok_fm a1 b2)), tv_fm h1 (ok_fm a1 b2), tv_fm h2 (ok_fm a1 b2), tv_fm h1 (ok_fm b1 a2), tv_fm h2 (ok_fm a2 b2), tv_fm a1 b2, tv_fm b1 a2, tv_fm a2 b2]
  rw [tv_fq (ok_fm h2 (ok_fm a1 b1)) (ok_fa (ok_fa (ok_fm h2 (ok_fm a1 b2)) (ok_fm h3 (ok_fm a1 b2))) (ok_fm h3 (ok_fm b1 a2))), tv_fa (ok_fa (ok_fm h2 (ok_fm a1 b2)) (ok_fm h3 (ok_fm a1 b2))) (ok_fm h3 (ok_fm b1 a2)), tv_fa (ok_fm h2 (ok_fm a1 b2)) (ok_fm h3 (ok_fm a1 b2)), tv_fm h2 (ok_fm a1 b1), tv_fm h2 (ok_fm a1 b2), tv_fm h3 (ok_fm a1 b2), tv_fm h3 (ok_fm b1 a2), tv_fm a1 b1, tv_fm a1 b2, tv_fm b1 a2]
  rw [tv_fq (ok_fa (ok_fm (ok_fm h1 h3) (ok_fm a2 b1)) (ok_fm (ok_fm (ok_fa h1 h2) (ok_fa h2 h3)) (ok_fm a1 b2))) (ok_fm h2 (ok_fm a2 b1)), tv_fa (ok_fm (ok_fm h1 h3) (ok_fm a2 b1)) (ok_fm (ok_fm (ok_fa h1 h2) (ok_fa h2 h3)) (ok_fm a1 b2)), tv_fm (ok_fm h1 h3) (ok_fm a2 b1), tv_fm h1 h3, tv_fm a2 b1, tv_fm (ok_fm (ok_fa h1 h2) (ok_fa h2 h3)) (ok_fm a1 b2), tv_fm (ok_fa h1 h2) (ok_fa h2 h3), tv_fa h1 h2, tv_fa h2 h3, tv_fm a1 b2, tv_fm h2 (ok_fm a2 b1), tv_fm a2 b1]
  rw [e1, e2, e3]
  rw [e4] at n4
  rw [e5] at n5
  rw [k1, k2, k3, k4]
  clear k k1 k2 k4 s1 s2 s3 t1 t2 t3 e1 e2 e3 e4 e5
  generalize tvl p (nu fa_) = u1 at *
  generalize tvl p (de fa_) = u2 at *
  generalize tvl p (nu fb) = u3 at *
  generalize tvl p (de fb) = u4 at *
  subst n4 n5
  refine ⟨?_, ?_, ?_, ?_⟩
  all_goals omega
end TV
def tb_P : TF := ([[1, 0, 0, 0, 0, 0, 0]], [[0, 0, 0, 0, 0, 0, 0]])
def tb_C : TF := ([[0, 1, 0, 0, 0, 0, 0]], [[0, 0, 0, 0, 0, 0, 0]])
def tb_E : TF := ([[0, 0, 1, 0, 0, 0, 0]], [[0, 0, 0, 0, 0, 0, 0]])
def tb_R : TF := ([[0, 0, 0, 1, 0, 0, 0]], [[0, 0, 0, 0, 0, 0, 0]])
def tb_x : TF := ([[0, 0, 0, 0, 1, 0, 0]], [[0, 0, 0, 0, 0, 0, 0]])
def tb_y : TF := ([[0, 0, 0, 0, 0, 1, 0]], [[0, 0, 0, 0, 0, 0, 0]])
def tb_z : TF := ([[0, 0, 0, 0, 0, 0, 1]], [[0, 0, 0, 0, 0, 0, 0]])
def tb_l0c : TF := ([[0, 1, 1, 0, 1, 0, 0], [0, 2, 0, 0, 1, 0, 0], [1, 0, 1, 0, 0, 1, 0], [1, 0, 1, 0, 1, 0, 0], [1, 1, 0, 0, 1, 0, 0]], [[0, 1, 0, 0, 0, 1, 0]])
def tb_l0a : TF := ([[0, 1, 0, 0, 1, 0, 0], [1, 0, 0, 0, 0, 1, 0], [1, 0, 0, 0, 1, 0, 0]], [[0, 1, 0, 0, 0, 0, 0]])
def tb_l0b : TF := ([[0, 1, 0, 0, 1, 1, 0]], [[0, 0, 1, 0, 0, 1, 0], [0, 0, 1, 0, 1, 0, 0], [0, 1, 0, 0, 1, 0, 0]])
def tb_l1c : TF := ([[0, 1, 1, 1, 1, 0, 1], [0, 2, 0, 1, 1, 0, 1], [0, 2, 0, 1, 1, 1, 0], [0, 2, 1, 0, 1, 1, 0], [1, 0, 1, 1, 0, 1, 1], [1, 0, 1, 1, 1, 0, 1], [1, 1, 0, 1, 1, 0, 1], [1, 1, 0, 1, 1, 1, 0], [1, 1, 1, 0, 1, 1, 0]], [[0, 1, 1, 0, 0, 1, 1]])
def tb_l1a : TF := ([[0, 1, 1, 0, 1, 0, 1], [0, 2, 0, 0, 1, 0, 1], [0, 2, 0, 0, 1, 1, 0], [1, 0, 1, 0, 0, 1, 1], [1, 0, 1, 0, 1, 0, 1], [1, 1, 0, 0, 1, 0, 1], [1, 1, 0, 0, 1, 1, 0]], [[0, 1, 1, 0, 0, 1, 0]])
def tb_l1b : TF := ([[0, 1, 1, 0, 1, 1, 1]], [[0, 0, 1, 1, 0, 1, 1], [0, 0, 1, 1, 1, 0, 1], [0, 1, 0, 1, 1, 0, 1], [0, 1, 0, 1, 1, 1, 0], [0, 1, 1, 0, 1, 1, 0]])
def tb_l2c : TF := ([[0, 1, 1, 1, 1, 0, 0], [0, 1, 2, 0, 1, 0, 0], [1, 0, 1, 1, 0, 1, 0], [1, 0, 1, 1, 1, 0, 0], [1, 0, 2, 0, 0, 1, 0], [1, 0, 2, 0, 1, 0, 0], [1, 1, 0, 1, 0, 0, 1], [1, 1, 0, 1, 0, 1, 0], [1, 1, 1, 0, 0, 1, 0]], [[0, 1, 1, 0, 0, 0, 1]])
def tb_l2a : TF := ([[0, 1, 1, 0, 1, 0, 0], [1, 0, 1, 0, 0, 1, 0], [1, 0, 1, 0, 1, 0, 0], [1, 1, 0, 0, 0, 0, 1], [1, 1, 0, 0, 0, 1, 0]], [[0, 1, 1, 0, 0, 0, 0]])
def tb_l2b : TF := ([[0, 1, 1, 0, 1, 0, 1], [1, 0, 1, 0, 0, 1, 1], [1, 0, 1, 0, 1, 0, 1]], [[0, 1, 0, 1, 0, 0, 1], [0, 1, 0, 1, 0, 1, 0], [0, 1, 1, 0, 0, 1, 0]])
def tb_r0c : TF := ([[0, 0, 1, 1, 0, 1, 0], [0, 0, 2, 0, 0, 1, 0], [0, 1, 0, 1, 0, 0, 1], [0, 1, 0, 1, 0, 1, 0], [0, 1, 1, 0, 0, 1, 0]], [[0, 0, 1, 0, 0, 0, 1]])
def tb_r0a : TF := ([[0, 0, 1, 0, 0, 1, 0], [0, 1, 0, 0, 0, 0, 1], [0, 1, 0, 0, 0, 1, 0]], [[0, 0, 1, 0, 0, 0, 0]])
def tb_r0b : TF := ([[0, 0, 1, 0, 0, 1, 1]], [[0, 0, 0, 1, 0, 0, 1], [0, 0, 0, 1, 0, 1, 0], [0, 0, 1, 0, 0, 1, 0]])
def tb_r1c : TF := ([[0, 1, 1, 1, 1, 0, 0], [0, 1, 2, 0, 1, 0, 0], [1, 0, 1, 1, 0, 1, 0], [1, 0, 1, 1, 1, 0, 0], [1, 0, 2, 0, 0, 1, 0], [1, 0, 2, 0, 1, 0, 0], [1, 1, 0, 1, 0, 0, 1], [1, 1, 0, 1, 0, 1, 0], [1, 1, 1, 0, 0, 1, 0]], [[0, 1, 1, 0, 0, 0, 1]])
def tb_r1a : TF := ([[0, 1, 1, 0, 1, 0, 0], [1, 0, 1, 0, 0, 1, 0], [1, 0, 1, 0, 1, 0, 0], [1, 1, 0, 0, 0, 0, 1], [1, 1, 0, 0, 0, 1, 0]], [[0, 1, 1, 0, 0, 0, 0]])
def tb_r1b : TF := ([[0, 1, 1, 0, 1, 0, 1]], [[0, 0, 1, 1, 0, 1, 0], [0, 0, 1, 1, 1, 0, 0], [0, 0, 2, 0, 0, 1, 0], [0, 0, 2, 0, 1, 0, 0], [0, 1, 0, 1, 0, 0, 1], [0, 1, 0, 1, 0, 1, 0], [0, 1, 1, 0, 0, 1, 0]])
def tb_r2c : TF := ([[0, 1, 1, 1, 1, 0, 1], [0, 2, 0, 1, 1, 0, 1], [0, 2, 0, 1, 1, 1, 0], [0, 2, 1, 0, 1, 1, 0], [1, 0, 1, 1, 0, 1, 1], [1, 0, 1, 1, 1, 0, 1], [1, 1, 0, 1, 1, 0, 1], [1, 1, 0, 1, 1, 1, 0], [1, 1, 1, 0, 1, 1, 0]], [[0, 1, 1, 0, 0, 1, 1]])
def tb_r2a : TF := ([[0, 1, 1, 0, 1, 0, 1], [1, 0, 1, 0, 0, 1, 1], [1, 0, 1, 0, 1, 0, 1]], [[0, 1, 0, 1, 0, 0, 1], [0, 1, 0, 1, 0, 1, 0], [0, 1, 1, 0, 0, 1, 0]])
def tb_r2b : TF := ([[0, 1, 1, 0, 1, 1, 1]], [[0, 0, 1, 1, 0, 1, 1], [0, 0, 1, 1, 1, 0, 1], [0, 1, 0, 1, 1, 0, 1], [0, 1, 0, 1, 1, 1, 0], [0, 1, 1, 0, 1, 1, 0]])
theorem tq_l0a : teq (sxa tb_P tb_C tb_x tb_y) tb_l0a = true := by decide +kernel
theorem tq_l0b : teq (sxb tb_C tb_E tb_x tb_y) tb_l0b = true := by decide +kernel
theorem tq_l0c : teq (sxc tb_P tb_C tb_E tb_x tb_y) tb_l0c = true := by decide +kernel
theorem tq_l1a : teq (sxa tb_l0c tb_E tb_l0b tb_z) tb_l1a = true := by decide +kernel
theorem tq_l1b : teq (sxb tb_E tb_R tb_l0b tb_z) tb_l1b = true := by decide +kernel
theorem tq_l1c : teq (sxc tb_l0c tb_E tb_R tb_l0b tb_z) tb_l1c = true := by decide +kernel
theorem tq_l2a : teq (sxa tb_P tb_l0c tb_l0a tb_l1a) tb_l2a = true := by decide +kernel
theorem tq_l2b : teq (sxb tb_l0c tb_l1c tb_l0a tb_l1a) tb_l2b = true := by decide +kernel
theorem tq_l2c : teq (sxc tb_P tb_l0c tb_l1c tb_l0a tb_l1a) tb_l2c = true := by decide +kernel
theorem tq_r0a : teq (sxa tb_C tb_E tb_y tb_z) tb_r0a = true := by decide +kernel
theorem tq_r0b : teq (sxb tb_E tb_R tb_y tb_z) tb_r0b = true := by decide +kernel
theorem tq_r0c : teq (sxc tb_C tb_E tb_R tb_y tb_z) tb_r0c = true := by decide +kernel
theorem tq_r1a : teq (sxa tb_P tb_C tb_x tb_r0a) tb_r1a = true := by decide +kernel
theorem tq_r1b : teq (sxb tb_C tb_r0c tb_x tb_r0a) tb_r1b = true := by decide +kernel
theorem tq_r1c : teq (sxc tb_P tb_C tb_r0c tb_x tb_r0a) tb_r1c = true := by decide +kernel
theorem tq_r2a : teq (sxa tb_r1c tb_r0c tb_r1b tb_r0b) tb_r2a = true := by decide +kernel
theorem tq_r2b : teq (sxb tb_r0c tb_R tb_r1b tb_r0b) tb_r2b = true := by decide +kernel
theorem tq_r2c : teq (sxc tb_r1c tb_r0c tb_R tb_r1b tb_r0b) tb_r2c = true := by decide +kernel
theorem te_l2c : tb_l2c = tb_r1c := by decide +kernel
theorem te_l1c : tb_l1c = tb_r2c := by decide +kernel
theorem te_l2a : tb_l2a = tb_r1a := by decide +kernel
theorem te_l2b : tb_l2b = tb_r2a := by decide +kernel
theorem te_l1b : tb_l1b = tb_r2b := by decide +kernel
theorem to_P : okT tb_P := ⟨by decide, by decide⟩
theorem to_C : okT tb_C := ⟨by decide, by decide⟩
theorem to_E : okT tb_E := ⟨by decide, by decide⟩
theorem to_R : okT tb_R := ⟨by decide, by decide⟩
theorem to_x : okT tb_x := ⟨by decide, by decide⟩
theorem to_y : okT tb_y := ⟨by decide, by decide⟩
theorem to_z : okT tb_z := ⟨by decide, by decide⟩
theorem to_l0c : okT tb_l0c := ⟨by decide, by decide⟩
theorem to_l0a : okT tb_l0a := ⟨by decide, by decide⟩
theorem to_l0b : okT tb_l0b := ⟨by decide, by decide⟩
theorem to_l1c : okT tb_l1c := ⟨by decide, by decide⟩
theorem to_l1a : okT tb_l1a := ⟨by decide, by decide⟩
theorem to_l1b : okT tb_l1b := ⟨by decide, by decide⟩
theorem to_l2c : okT tb_l2c := ⟨by decide, by decide⟩
theorem to_l2a : okT tb_l2a := ⟨by decide, by decide⟩
theorem to_l2b : okT tb_l2b := ⟨by decide, by decide⟩
theorem to_r0c : okT tb_r0c := ⟨by decide, by decide⟩
theorem to_r0a : okT tb_r0a := ⟨by decide, by decide⟩
theorem to_r0b : okT tb_r0b := ⟨by decide, by decide⟩
theorem to_r1c : okT tb_r1c := ⟨by decide, by decide⟩
theorem to_r1a : okT tb_r1a := ⟨by decide, by decide⟩
theorem to_r1b : okT tb_r1b := ⟨by decide, by decide⟩
theorem to_r2c : okT tb_r2c := ⟨by decide, by decide⟩
theorem to_r2a : okT tb_r2a := ⟨by decide, by decide⟩
theorem to_r2b : okT tb_r2b := ⟨by decide, by decide⟩
theorem ov_braid {a0 a1 a2 a3 a4 a5 b0 b1 b2 b3 c2 c3 c4 c5 d0 d1 d2 d3 e2 e3 e4 e5 f0 f1 f2 f3 h2 h3 h4 h5 : Int} (k1 : OV a0 a1 a2 a3 b0 b1 b2 b3) (k2 : OV b2 b3 a4 a5 c2 c3 c4 c5) (k3 : OV b0 b1 c2 c3 d0 d1 d2 d3) (k4 : OV a2 a3 a4 a5 e2 e3 e4 e5) (k5 : OV a0 a1 e2 e3 f0 f1 f2 f3) (k6 : OV f2 f3 e4 e5 h2 h3 h4 h5) : d0 = f0 ∧ d1 = f1 ∧ d2 = h2 ∧ d3 = h3 ∧ c4 = h4 ∧ c5 = h5 := by
  obtain ⟨p, hp⟩ : ∃ p : List Int, p = [0, - a1, - a1 - a3, - a1 - a3 - a5, a0, a2, a4] := ⟨_, rfl⟩
  have v_P : tvl p tb_P = 0 := by
    rw [hp]
    unfold tvl tb_P tmx tdot
    simp [tdot]
  have v_C : tvl p tb_C = (- a1) := by
    rw [hp]
    unfold tvl tb_C tmx tdot
    simp [tdot]
  have v_E : tvl p tb_E = (- a1 - a3) := by
    rw [hp]
    unfold tvl tb_E tmx tdot
    simp [tdot]
  have v_R : tvl p tb_R = (- a1 - a3 - a5) := by
    rw [hp]
    unfold tvl tb_R tmx tdot
    simp [tdot]
  have v_x : tvl p tb_x = a0 := by
    rw [hp]
    unfold tvl tb_x tmx tdot
    simp [tdot]
  have v_y : tvl p tb_y = a2 := by
    rw [hp]
    unfold tvl tb_y tmx tdot
    simp [tdot]
  have v_z : tvl p tb_z = a4 := by
    rw [hp]
    unfold tvl tb_z tmx tdot
    simp [tdot]
  have w_l0 : OV a0 (0 - (- a1)) a2 ((- a1) - (- a1 - a3)) b0 b1 b2 b3 := by
    rw [show 0 - (- a1) = a1 by omega, show (- a1) - (- a1 - a3) = a3 by omega]
    exact k1
  obtain ⟨v_l0a, v_l0b, v_l0c, y_l0⟩ := st_ov (p := p) w_l0 to_P to_C to_E to_x to_y v_P v_C v_E v_x v_y to_l0a to_l0b to_l0c tq_l0a tq_l0b tq_l0c
  have w_l1 : OV b2 ((0 - b1) - (- a1 - a3)) a4 ((- a1 - a3) - (- a1 - a3 - a5)) c2 c3 c4 c5 := by
    rw [show (0 - b1) - (- a1 - a3) = b3 by omega, show (- a1 - a3) - (- a1 - a3 - a5) = a5 by omega]
    exact k2
  obtain ⟨v_l1a, v_l1b, v_l1c, y_l1⟩ := st_ov (p := p) w_l1 to_l0c to_E to_R to_l0b to_z v_l0c v_E v_R v_l0b v_z to_l1a to_l1b to_l1c tq_l1a tq_l1b tq_l1c
  have w_l2 : OV b0 (0 - (0 - b1)) c2 ((0 - b1) - ((0 - b1) - c3)) d0 d1 d2 d3 := by
    rw [show 0 - (0 - b1) = b1 by omega, show (0 - b1) - ((0 - b1) - c3) = c3 by omega]
    exact k3
  obtain ⟨v_l2a, v_l2b, v_l2c, y_l2⟩ := st_ov (p := p) w_l2 to_P to_l0c to_l1c to_l0a to_l1a v_P v_l0c v_l1c v_l0a v_l1a to_l2a to_l2b to_l2c tq_l2a tq_l2b tq_l2c
  have w_r0 : OV a2 ((- a1) - (- a1 - a3)) a4 ((- a1 - a3) - (- a1 - a3 - a5)) e2 e3 e4 e5 := by
    rw [show (- a1) - (- a1 - a3) = a3 by omega, show (- a1 - a3) - (- a1 - a3 - a5) = a5 by omega]
    exact k4
  obtain ⟨v_r0a, v_r0b, v_r0c, y_r0⟩ := st_ov (p := p) w_r0 to_C to_E to_R to_y to_z v_C v_E v_R v_y v_z to_r0a to_r0b to_r0c tq_r0a tq_r0b tq_r0c
  have w_r1 : OV a0 (0 - (- a1)) e2 ((- a1) - ((- a1) - e3)) f0 f1 f2 f3 := by
    rw [show 0 - (- a1) = a1 by omega, show (- a1) - ((- a1) - e3) = e3 by omega]
    exact k5
  obtain ⟨v_r1a, v_r1b, v_r1c, y_r1⟩ := st_ov (p := p) w_r1 to_P to_C to_r0c to_x to_r0a v_P v_C v_r0c v_x v_r0a to_r1a to_r1b to_r1c tq_r1a tq_r1b tq_r1c
  have w_r2 : OV f2 ((0 - f1) - ((- a1) - e3)) e4 (((- a1) - e3) - (- a1 - a3 - a5)) h2 h3 h4 h5 := by
    rw [show (0 - f1) - ((- a1) - e3) = f3 by omega, show ((- a1) - e3) - (- a1 - a3 - a5) = e5 by omega]
    exact k6
  obtain ⟨v_r2a, v_r2b, v_r2c, y_r2⟩ := st_ov (p := p) w_r2 to_r1c to_r0c to_R to_r1b to_r0b v_r1c v_r0c v_R v_r1b v_r0b to_r2a to_r2b to_r2c tq_r2a tq_r2b tq_r2c
  rw [te_l2c] at v_l2c
  rw [te_l1c] at v_l1c
  rw [te_l2a] at v_l2a
  rw [te_l2b] at v_l2b
  rw [te_l1b] at v_l1b
  refine ⟨?_, ?_, ?_, ?_, ?_, ?_⟩
  all_goals omega

