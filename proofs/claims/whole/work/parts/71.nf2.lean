/-! NORMAL FORMS: each step makes a sum less; so there is one, and one alone -/
theorem lt2_V {p i j a b : Nat} {x : PM} (hx : isPm 6 x) (ea : x.2 p = a) (eb : x.2 (p + 1) = b) (hab : a < b) (hij : i < j) : lt2 (gt p (x.1 i)) (gt p (x.1 j)) = lt2 (x.1 i) (x.1 j) + (if i = a ∧ j = b then 1 else 0) := by
  have i1 : x.1 i = p ↔ i = a := ⟨fun e => by rw [← ea, ← e, hx.2.1], fun e => by rw [e, ← ea, hx.1]⟩
  have i2 : x.1 i = p + 1 ↔ i = b := ⟨fun e => by rw [← eb, ← e, hx.2.1], fun e => by rw [e, ← eb, hx.1]⟩
  have j1 : x.1 j = p ↔ j = a := ⟨fun e => by rw [← ea, ← e, hx.2.1], fun e => by rw [e, ← ea, hx.1]⟩
  have j2 : x.1 j = p + 1 ↔ j = b := ⟨fun e => by rw [← eb, ← e, hx.2.1], fun e => by rw [e, ← eb, hx.1]⟩
  generalize x.1 i = u at *
  generalize x.1 j = v at *
  unfold lt2 gt
  repeat' split
  all_goals omega
theorem ln_V {p : Nat} {x : PM} (hx : isPm 6 x) (hp : p + 1 < 6) (h : ¬ pE x p) : ln (pV p x) = ln x + 1 := by
  obtain ⟨a, ea⟩ : ∃ a, x.2 p = a := ⟨_, rfl⟩
  obtain ⟨b, eb⟩ : ∃ b, x.2 (p + 1) = b := ⟨_, rfl⟩
  have ha := hx.lt2 (i := p) (by omega)
  have hb := hx.lt2 (i := p + 1) hp
  have hn : x.2 p ≠ x.2 (p + 1) := fun e => by have := hx.inj2 e; omega
  unfold pE at h
  rw [ea] at ha h hn
  rw [eb] at hb h hn
  have hab : a < b := by omega
  have L := fun i j (hij : i < j) => lt2_V hx ea eb hab hij
  unfold ln pV
  dsimp only
  rw [L 0 1 (by decide), L 0 2 (by decide), L 0 3 (by decide), L 0 4 (by decide), L 0 5 (by decide), L 1 2 (by decide), L 1 3 (by decide), L 1 4 (by decide), L 1 5 (by decide), L 2 3 (by decide), L 2 4 (by decide), L 2 5 (by decide), L 3 4 (by decide), L 3 5 (by decide), L 4 5 (by decide)]
  clear L ea eb hx
  have e1 : a = 0 ∨ a = 1 ∨ a = 2 ∨ a = 3 ∨ a = 4 := by omega
  have e2 : b = 1 ∨ b = 2 ∨ b = 3 ∨ b = 4 ∨ b = 5 := by omega
  rcases e1 with rfl | rfl | rfl | rfl | rfl
  all_goals
    rcases e2 with rfl | rfl | rfl | rfl | rfl
    all_goals
      first
        | (exfalso; omega)
        | (simp; omega)
def me (F : SQ) : Nat → Nat
  | 0 => 0
  | R + 1 => me F R + R * ln (F R)
def su (R : Nat) (F : SQ) : Prop := ∀ k, R ≤ k → F k = idP
section NF2
variable {N R : Nat} {F G G' : SQ} {k p : Nat}
theorem me_cg : ∀ {R : Nat}, (∀ j, j < R → F j = G j) → me F R = me G R
  | 0, _ => rfl
  | R + 1, h => by
    unfold me
    rw [me_cg (fun j q => h j (by omega)), h R (by omega)]
theorem su_mv (hs : su R F) (a : mvd N F k p) : k + 1 < R := by
  refine Nat.lt_of_not_le (fun q => ?_)
  have := a.2.1
  rw [hs _ q] at this
  unfold pB idP at this
  dsimp only at this
  omega
theorem su.mv (hs : su R F) (a : mvd N F k p) : su R (mvt F k p) := fun j hj => by
  have := su_mv hs a
  rw [mvt_o (by omega) (by omega)]
  exact hs j hj
theorem me_mv (hN : N ≤ 6) (ho : okS N F) (a : mvd N F k p) : ∀ {R : Nat}, k + 1 < R → me (mvt F k p) R + 1 = me F R
  | 0, h => by omega
  | R + 1, h => by
    by_cases e : k + 1 = R
    · subst e
      have c := me_cg (F := mvt F k p) (G := F) (R := k) (fun j q => mvt_o (by omega) (by omega))
      have v := ln_V ((ho k).up hN) (by have := a.1; omega) a.2.2
      have w := ln_W (x := F (k + 1)) (by have := a.1; omega) a.2.1
      show me (mvt F k p) k + k * ln (mvt F k p k) + (k + 1) * ln (mvt F k p (k + 1)) + 1 = me F k + k * ln (F k) + (k + 1) * ln (F (k + 1))
      rw [c, mvt_k, mvt_k1, v, ← w, Nat.mul_add, Nat.mul_add, Nat.mul_one, Nat.mul_one]
      omega
    · have := me_mv hN ho a (R := R) (by omega)
      show me (mvt F k p) R + R * ln (mvt F k p R) + 1 = me F R + R * ln (F R)
      rw [mvt_o (by omega) (by omega)]
      omega
theorem nf_ex (hN : N ≤ 6) : ∀ (M : Nat) (F : SQ), okS N F → su R F → me F R ≤ M → ∃ G m, Rd N m F G ∧ Nm N G
  | 0, F, ho, hs, hm => by
    refine ⟨F, 0, rfl, fun k p a => ?_⟩
    have := me_mv hN ho a (su_mv hs a)
    omega
  | M + 1, F, ho, hs, hm => by
    by_cases h : Nm N F
    · exact ⟨F, 0, rfl, h⟩
    · obtain ⟨k, p, a⟩ : ∃ k p, mvd N F k p := by
        refine Classical.byContradiction (fun q => h (fun k p a => q ⟨k, p, a⟩))
      have := me_mv hN ho a (su_mv hs a)
      obtain ⟨G, m, r, n⟩ := nf_ex hN M (mvt F k p) (ho.mv a.1 k) (hs.mv a) (by omega)
      exact ⟨G, m + 1, ⟨k, p, a, r⟩, n⟩
theorem Rd_su : ∀ {m : Nat} {F G : SQ}, Rd N m F G → su R F → su R G
  | 0, F, G, h, o => by
    cases h
    exact o
  | m + 1, F, G, h, o => by
    obtain ⟨k, p, a, b⟩ := h
    exact Rd_su b (o.mv a)
theorem Rd_me (hN : N ≤ 6) : ∀ {m : Nat} {F G : SQ}, Rd N m F G → okS N F → su R F → me G R + m = me F R
  | 0, F, G, h, o, s => by
    cases h
    rfl
  | m + 1, F, G, h, o, s => by
    obtain ⟨k, p, a, b⟩ := h
    have := Rd_me hN b (o.mv a.1 k) (s.mv a)
    have := me_mv hN o a (su_mv s a)
    omega
theorem nf_uq (hN : N ≤ 6) : ∀ (M : Nat) (F : SQ), okS N F → su R F → me F R ≤ M → ∀ (m m' : Nat) (G G' : SQ), Rd N m F G → Rd N m' F G' → Nm N G → Nm N G' → G = G' := by
  intro M
  induction M with
  | zero =>
    intro F ho hs hm m m' G G' r r' n n'
    have e : ∀ {m : Nat} {G : SQ}, Rd N m F G → F = G := fun {m G} r => by
      cases m with
      | zero => exact r
      | succ m =>
        obtain ⟨k, p, a, b⟩ := r
        have := me_mv hN ho a (su_mv hs a)
        omega
    rw [← e r, ← e r']
  | succ M ih =>
    intro F ho hs hm m m' G G' r r' n n'
    cases m with
    | zero =>
      cases r
      cases m' with
      | zero => exact r'
      | succ m' =>
        obtain ⟨k, p, a, b⟩ := r'
        exact absurd a (n k p)
    | succ m =>
      cases m' with
      | zero =>
        cases r'
        obtain ⟨k, p, a, b⟩ := r
        exact absurd a (n' k p)
      | succ m' =>
        obtain ⟨k, p, a, b⟩ := r
        obtain ⟨k', p', a', b'⟩ := r'
        obtain ⟨H, i, i', c, c'⟩ := lc ho a a'
        have e1 := me_mv hN ho a (su_mv hs a)
        have e2 := me_mv hN ho a' (su_mv hs a')
        have o1 := ho.mv a.1 k
        have s1 := hs.mv a
        have o2 := ho.mv a'.1 k'
        have s2 := hs.mv a'
        obtain ⟨K, l, x, y⟩ := nf_ex hN (me H R) H (Rd_ok c o1) (Rd_su c s1) (Nat.le_refl _)
        rw [ih _ o1 s1 (by omega) _ _ G K b (Rd_trans c x) n y, ih _ o2 s2 (by omega) _ _ G' K b' (Rd_trans c' x) n' y]
/-- the same normal form -/
theorem nf_same {m m' : Nat} (hN : N ≤ 6) (ho : okS N F) (hs : su R F) (r : Rd N m F G) (r' : Rd N m' F G') (n : Nm N G) (n' : Nm N G') : G = G' := nf_uq hN (me F R) F ho hs (Nat.le_refl _) m m' G G' r r' n n'
end NF2
