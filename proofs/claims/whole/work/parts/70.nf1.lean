/-! NORMAL FORMS: rows of permutations; a step carries a crossing one factor ahead; what no step changes any more is one alone -/
def gt (p x : Nat) : Nat := if x = p then p + 1 else if x = p + 1 then p else x
theorem gt_l (p : Nat) : gt p p = p + 1 := if_pos rfl
theorem gt_r (p : Nat) : gt p (p + 1) = p := by
  unfold gt
  rw [if_neg (by omega), if_pos rfl]
theorem gt_o {p x : Nat} (h : x ≠ p) (h2 : x ≠ p + 1) : gt p x = x := by
  unfold gt
  rw [if_neg h, if_neg h2]
theorem gt_gt (p x : Nat) : gt p (gt p x) = x := by
  unfold gt
  repeat' split
  all_goals omega
theorem gt_far {p q : Nat} (h : p + 1 < q) (x : Nat) : gt p (gt q x) = gt q (gt p x) := by
  unfold gt
  repeat' split
  all_goals omega
theorem gt_braid (p x : Nat) : gt p (gt (p + 1) (gt p x)) = gt (p + 1) (gt p (gt (p + 1) x)) := by
  unfold gt
  repeat' split
  all_goals omega
theorem gt_lt {p x N : Nat} (hp : p + 1 < N) (h : x < N) : gt p x < N := by
  unfold gt
  repeat' split
  all_goals omega
theorem gt_ge {p x N : Nat} (hp : p + 1 < N) (h : N ≤ x) : gt p x = x := gt_o (by omega) (by omega)
theorem gt_ord {p i j : Nat} (h : i < j) : gt p i < gt p j ∨ (i = p ∧ j = p + 1) := by
  unfold gt
  repeat' split
  all_goals omega
theorem gt_inj {p i j : Nat} (h : gt p i = gt p j) : i = j := by
  rw [← gt_gt p i, h, gt_gt]
abbrev PM : Type := (Nat → Nat) × (Nat → Nat)
abbrev SQ : Type := Nat → PM
/-- what crosses at the begin, at the end -/
def pB (x : PM) (p : Nat) : Prop := x.1 (p + 1) < x.1 p
def pE (x : PM) (p : Nat) : Prop := x.2 (p + 1) < x.2 p
def pV (p : Nat) (x : PM) : PM := (fun i => gt p (x.1 i), fun i => x.2 (gt p i))
def pW (p : Nat) (x : PM) : PM := (fun i => x.1 (gt p i), fun i => gt p (x.2 i))
def isPm (N : Nat) (x : PM) : Prop := (∀ i, x.1 (x.2 i) = i) ∧ (∀ i, x.2 (x.1 i) = i) ∧ ∀ i, N ≤ i → x.1 i = i
def idP : PM := (fun i => i, fun i => i)
theorem isPm_id (N : Nat) : isPm N idP := ⟨fun _ => rfl, fun _ => rfl, fun _ _ => rfl⟩
theorem isPm.inj {N : Nat} {x : PM} (h : isPm N x) {i j : Nat} (e : x.1 i = x.1 j) : i = j := by
  rw [← h.2.1 i, e, h.2.1]
theorem isPm.inj2 {N : Nat} {x : PM} (h : isPm N x) {i j : Nat} (e : x.2 i = x.2 j) : i = j := by
  rw [← h.1 i, e, h.1]
theorem isPm.big2 {N : Nat} {x : PM} (h : isPm N x) {i : Nat} (e : N ≤ i) : x.2 i = i := by
  have := h.2.1 i
  rwa [h.2.2 i e] at this
theorem isPm.lt {N : Nat} {x : PM} (h : isPm N x) {i : Nat} (e : i < N) : x.1 i < N := by
  refine Nat.lt_of_not_le (fun q => ?_)
  have := h.inj (h.2.2 _ q)
  omega
theorem isPm.lt2 {N : Nat} {x : PM} (h : isPm N x) {i : Nat} (e : i < N) : x.2 i < N := by
  refine Nat.lt_of_not_le (fun q => ?_)
  have := h.inj2 (h.big2 q)
  omega
theorem isPm.up {N M : Nat} {x : PM} (h : isPm N x) (e : N ≤ M) : isPm M x := ⟨h.1, h.2.1, fun i q => h.2.2 i (by omega)⟩
theorem isPm.V {N p : Nat} {x : PM} (h : isPm N x) (hp : p + 1 < N) : isPm N (pV p x) := ⟨fun i => by
  show gt p (x.1 (x.2 (gt p i))) = i
  rw [h.1, gt_gt], fun i => by
  show x.2 (gt p (gt p (x.1 i))) = i
  rw [gt_gt, h.2.1], fun i q => by
  show gt p (x.1 i) = i
  rw [h.2.2 i q, gt_ge hp q]⟩
theorem isPm.W {N p : Nat} {x : PM} (h : isPm N x) (hp : p + 1 < N) : isPm N (pW p x) := ⟨fun i => by
  show x.1 (gt p (gt p (x.2 i))) = i
  rw [gt_gt, h.1], fun i => by
  show gt p (x.2 (x.1 (gt p i))) = i
  rw [h.2.1, gt_gt], fun i q => by
  show x.1 (gt p i) = i
  rw [gt_ge hp q, h.2.2 i q]⟩
theorem pV_far {p q : Nat} (h : p + 1 < q) (x : PM) : pV p (pV q x) = pV q (pV p x) := Prod.ext (funext fun i => gt_far h (x.1 i)) (funext fun i => congrArg x.2 (gt_far h i).symm)
theorem pW_far {p q : Nat} (h : p + 1 < q) (x : PM) : pW p (pW q x) = pW q (pW p x) := Prod.ext (funext fun i => congrArg x.1 (gt_far h i).symm) (funext fun i => gt_far h (x.2 i))
theorem pVW (p q : Nat) (x : PM) : pV p (pW q x) = pW q (pV p x) := rfl
theorem pV_V (p : Nat) (x : PM) : pV p (pV p x) = x := Prod.ext (funext fun i => gt_gt p (x.1 i)) (funext fun i => congrArg x.2 (gt_gt p i))
theorem pW_W (p : Nat) (x : PM) : pW p (pW p x) = x := Prod.ext (funext fun i => congrArg x.1 (gt_gt p i)) (funext fun i => gt_gt p (x.2 i))
theorem pV_braid (p : Nat) (x : PM) : pV p (pV (p + 1) (pV p x)) = pV (p + 1) (pV p (pV (p + 1) x)) := Prod.ext (funext fun i => gt_braid p (x.1 i)) (funext fun i => congrArg x.2 (gt_braid p i))
theorem pW_braid (p : Nat) (x : PM) : pW p (pW (p + 1) (pW p x)) = pW (p + 1) (pW p (pW (p + 1) x)) := Prod.ext (funext fun i => congrArg x.1 (gt_braid p i)) (funext fun i => gt_braid p (x.2 i))
/-- a step at factor k, place p -/
def mvd (N : Nat) (F : SQ) (k p : Nat) : Prop := p + 1 < N ∧ pB (F (k + 1)) p ∧ ¬ pE (F k) p
def mvt (F : SQ) (k p : Nat) : SQ := fun j => if j = k then pV p (F k) else if j = k + 1 then pW p (F (k + 1)) else F j
def okS (N : Nat) (F : SQ) : Prop := ∀ k, isPm N (F k)
def Rd (N : Nat) : Nat → SQ → SQ → Prop
  | 0, F, G => F = G
  | m + 1, F, G => ∃ k p, mvd N F k p ∧ Rd N m (mvt F k p) G
def Nm (N : Nat) (F : SQ) : Prop := ∀ k p, ¬ mvd N F k p
def idS : SQ := fun _ => idP
section NF
variable {N : Nat} {F G H : SQ} {k p q m j : Nat} {x y : PM}
theorem mvt_k : mvt F k p k = pV p (F k) := if_pos rfl
theorem mvt_k1 : mvt F k p (k + 1) = pW p (F (k + 1)) := by
  unfold mvt
  rw [if_neg (by omega), if_pos rfl]
theorem mvt_o (h : j ≠ k) (h2 : j ≠ k + 1) : mvt F k p j = F j := by
  unfold mvt
  rw [if_neg h, if_neg h2]
theorem okS.mv (h : okS N F) (hp : p + 1 < N) (k : Nat) : okS N (mvt F k p) := fun j => by
  unfold mvt
  split
  · exact (h k).V hp
  · split
    · exact (h (k + 1)).W hp
    · exact h j
theorem Rd_trans : ∀ {m m' : Nat} {F G H : SQ}, Rd N m F G → Rd N m' G H → Rd N (m + m') F H
  | 0, m', F, G, H, h, h2 => by
    cases h
    rw [Nat.zero_add]
    exact h2
  | m + 1, m', F, G, H, h, h2 => by
    obtain ⟨k, p, a, b⟩ := h
    rw [Nat.add_right_comm]
    exact ⟨k, p, a, Rd_trans b h2⟩
theorem Rd_one (h : mvd N F k p) : Rd N 1 F (mvt F k p) := ⟨k, p, h, rfl⟩
theorem Rd_ok : ∀ {m : Nat} {F G : SQ}, Rd N m F G → okS N F → okS N G
  | 0, F, G, h, o => by
    cases h
    exact o
  | m + 1, F, G, h, o => by
    obtain ⟨k, p, a, b⟩ := h
    exact Rd_ok b (o.mv a.1 k)
theorem mvt_two {k p q : Nat} : mvt (mvt F k p) k q = fun j => if j = k then pV q (pV p (F k)) else if j = k + 1 then pW q (pW p (F (k + 1))) else F j := by
  funext j
  by_cases h : j = k
  · subst h
    rw [mvt_k, mvt_k, if_pos rfl]
  · by_cases h2 : j = k + 1
    · subst h2
      rw [mvt_k1, mvt_k1, if_neg h, if_pos rfl]
    · rw [mvt_o h h2, mvt_o h h2, if_neg h, if_neg h2]
theorem mvt_swap (h : k + 1 < j) : mvt (mvt F k p) j q = mvt (mvt F j q) k p := by
  funext i
  unfold mvt
  repeat' split
  all_goals first
    | rfl
    | (exfalso; omega)
theorem mvt_next : mvt (mvt F k p) (k + 1) q = mvt (mvt F (k + 1) q) k p := by
  funext i
  unfold mvt
  repeat' split
  all_goals first
    | rfl
    | (exfalso; omega)
/-- what an other place sees of a swap -/
theorem pE_V_far (h : p + 1 < q ∨ q + 1 < p) : pE (pV p x) q ↔ pE x q := by
  unfold pE pV
  dsimp only
  rw [gt_o (x := q) (by omega) (by omega), gt_o (x := q + 1) (by omega) (by omega)]
theorem pB_W_far (h : p + 1 < q ∨ q + 1 < p) : pB (pW p x) q ↔ pB x q := by
  unfold pB pW
  dsimp only
  rw [gt_o (x := q) (by omega) (by omega), gt_o (x := q + 1) (by omega) (by omega)]
theorem lc_far (h : p + 1 < q) (a : mvd N F k p) (b : mvd N F k q) : ∃ H m m', Rd N m (mvt F k p) H ∧ Rd N m' (mvt F k q) H := by
  refine ⟨mvt (mvt F k p) k q, 1, 1, Rd_one ⟨b.1, ?_, ?_⟩, k, p, ⟨a.1, ?_, ?_⟩, ?_⟩
  · rw [mvt_k1, pB_W_far (Or.inl h)]
    exact b.2.1
  · rw [mvt_k, pE_V_far (Or.inl h)]
    exact b.2.2
  · rw [mvt_k1, pB_W_far (Or.inr h)]
    exact a.2.1
  · rw [mvt_k, pE_V_far (Or.inr h)]
    exact a.2.2
  · rw [mvt_two, mvt_two, pV_far h, pW_far h]
    rfl
theorem lc_near (ho : okS N F) (a : mvd N F k p) (b : mvd N F k (p + 1)) : ∃ H m m', Rd N m (mvt F k p) H ∧ Rd N m' (mvt F k (p + 1)) H := by
  obtain ⟨a1, a2, a3⟩ := a
  obtain ⟨b1, b2, b3⟩ := b
  have n1 : (F k).2 p ≠ (F k).2 (p + 1) := fun e => by have := (ho k).inj2 e; omega
  have n2 : (F k).2 (p + 1) ≠ (F k).2 (p + 1 + 1) := fun e => by have := (ho k).inj2 e; omega
  unfold pE at a3 b3
  unfold pB at a2 b2
  have g0 : gt (p + 1) p = p := gt_o (by omega) (by omega)
  have g2 : gt p (p + 1 + 1) = p + 1 + 1 := gt_o (by omega) (by omega)
  refine ⟨mvt (mvt (mvt F k p) k (p + 1)) k p, 2, 2, ⟨k, p + 1, ⟨b1, ?_, ?_⟩, k, p, ⟨a1, ?_, ?_⟩, rfl⟩, k, p, ⟨a1, ?_, ?_⟩, k, p + 1, ⟨b1, ?_, ?_⟩, ?_⟩
  · rw [mvt_k1]
    unfold pB pW
    dsimp only
    rw [g2, gt_r]
    omega
  · rw [mvt_k]
    unfold pE pV
    dsimp only
    rw [g2, gt_r]
    omega
  · rw [mvt_two]
    dsimp only
    rw [if_neg (by omega), if_pos rfl]
    unfold pB pW
    dsimp only
    rw [gt_l, g0, g2, gt_l]
    omega
  · rw [mvt_two]
    dsimp only
    rw [if_pos rfl]
    unfold pE pV
    dsimp only
    rw [gt_l, g0, g2, gt_l]
    omega
  · rw [mvt_k1]
    unfold pB pW
    dsimp only
    rw [g0, gt_l]
    omega
  · rw [mvt_k]
    unfold pE pV
    dsimp only
    rw [g0, gt_l]
    omega
  · rw [mvt_two]
    dsimp only
    rw [if_neg (by omega), if_pos rfl]
    unfold pB pW
    dsimp only
    rw [gt_r, g0, g2, gt_r]
    omega
  · rw [mvt_two]
    dsimp only
    rw [if_pos rfl]
    unfold pE pV
    dsimp only
    rw [gt_r, g0, g2, gt_r]
    omega
  · funext i
    by_cases h : i = k
    · subst h
      rw [mvt_k, mvt_k, mvt_k, mvt_k, mvt_k, mvt_k, pV_braid]
    · by_cases h2 : i = k + 1
      · subst h2
        rw [mvt_k1, mvt_k1, mvt_k1, mvt_k1, mvt_k1, mvt_k1, pW_braid]
      · rw [mvt_o h h2, mvt_o h h2, mvt_o h h2, mvt_o h h2, mvt_o h h2, mvt_o h h2]
/-- a crossing that comes behind leaves what crosses at the begin, and one that goes at the begin leaves what doesn't at the end -/
theorem pB_V (hx : isPm N x) (h : pB x p) (e : ¬ pE x q) : pB (pV q x) p := by
  unfold pB pV
  unfold pB at h
  dsimp only
  rcases gt_ord (p := q) h with g | g
  · exact g
  · exfalso
    apply e
    unfold pE
    rw [← g.2, ← g.1, hx.2.1, hx.2.1]
    omega
theorem pE_W (hx : isPm N x) (h : pB x p) (e : ¬ pE x q) : ¬ pE (pW p x) q := by
  unfold pE pW
  unfold pE at e
  dsimp only
  have n : x.2 q ≠ x.2 (q + 1) := fun e => by have := hx.inj2 e; omega
  rcases gt_ord (p := p) (show x.2 q < x.2 (q + 1) by omega) with g | g
  · omega
  · exfalso
    unfold pB at h
    rw [← g.2, ← g.1, hx.1, hx.1] at h
    omega
theorem lc_next (ho : okS N F) (a : mvd N F k p) (b : mvd N F (k + 1) q) : ∃ H m m', Rd N m (mvt F k p) H ∧ Rd N m' (mvt F (k + 1) q) H := by
  refine ⟨mvt (mvt F k p) (k + 1) q, 1, 1, Rd_one ⟨b.1, ?_, ?_⟩, k, p, ⟨a.1, ?_, ?_⟩, mvt_next.symm⟩
  · rw [mvt_o (by omega) (by omega)]
    exact b.2.1
  · rw [mvt_k1]
    exact pE_W (ho (k + 1)) a.2.1 b.2.2
  · rw [mvt_k]
    exact pB_V (ho (k + 1)) a.2.1 b.2.2
  · rw [mvt_o (by omega) (by omega)]
    exact a.2.2
theorem lc_apart (h : k + 1 < j) (a : mvd N F k p) (b : mvd N F j q) : ∃ H m m', Rd N m (mvt F k p) H ∧ Rd N m' (mvt F j q) H := by
  refine ⟨mvt (mvt F k p) j q, 1, 1, Rd_one ⟨b.1, ?_, ?_⟩, k, p, ⟨a.1, ?_, ?_⟩, (mvt_swap h).symm⟩
  · rw [mvt_o (by omega) (by omega)]
    exact b.2.1
  · rw [mvt_o (by omega) (by omega)]
    exact b.2.2
  · rw [mvt_o (by omega) (by omega)]
    exact a.2.1
  · rw [mvt_o (by omega) (by omega)]
    exact a.2.2
theorem lc_sym {A B : SQ} (h : ∃ H m m', Rd N m A H ∧ Rd N m' B H) : ∃ H m m', Rd N m B H ∧ Rd N m' A H := by
  obtain ⟨H, m, m', a, b⟩ := h
  exact ⟨H, m', m, b, a⟩
theorem lc (ho : okS N F) (a : mvd N F k p) (b : mvd N F j q) : ∃ H m m', Rd N m (mvt F k p) H ∧ Rd N m' (mvt F j q) H := by
  by_cases e : k = j
  · subst e
    by_cases e2 : p = q
    · subst e2
      exact ⟨_, 0, 0, rfl, rfl⟩
    · by_cases e3 : p + 1 < q
      · exact lc_far e3 a b
      · by_cases e4 : q + 1 < p
        · exact lc_sym (lc_far e4 b a)
        · by_cases e5 : q = p + 1
          · subst e5
            exact lc_near ho a b
          · have e6 : p = q + 1 := by omega
            subst e6
            exact lc_sym (lc_near ho b a)
  · by_cases e2 : k + 1 < j
    · exact lc_apart e2 a b
    · by_cases e3 : j + 1 < k
      · exact lc_sym (lc_apart e3 b a)
      · by_cases e4 : j = k + 1
        · subst e4
          exact lc_next ho a b
        · have e5 : k = j + 1 := by omega
          subst e5
          exact lc_sym (lc_next ho b a)
end NF
/-- how many cross in a factor (of six strands) -/
def lt2 (a b : Nat) : Nat := if b < a then 1 else 0
def ln (x : PM) : Nat := lt2 (x.1 0) (x.1 1) + lt2 (x.1 0) (x.1 2) + lt2 (x.1 0) (x.1 3) + lt2 (x.1 0) (x.1 4) + lt2 (x.1 0) (x.1 5) + lt2 (x.1 1) (x.1 2) + lt2 (x.1 1) (x.1 3) + lt2 (x.1 1) (x.1 4) + lt2 (x.1 1) (x.1 5) + lt2 (x.1 2) (x.1 3) + lt2 (x.1 2) (x.1 4) + lt2 (x.1 2) (x.1 5) + lt2 (x.1 3) (x.1 4) + lt2 (x.1 3) (x.1 5) + lt2 (x.1 4) (x.1 5)
theorem lt2_one {a b : Nat} (h : b < a) : lt2 a b = 1 := if_pos h
theorem lt2_zero {a b : Nat} (h : ¬ b < a) : lt2 a b = 0 := if_neg h
theorem ln_W {p : Nat} {x : PM} (hp : p + 1 < 6) (h : pB x p) : ln (pW p x) + 1 = ln x := by
  unfold pB at h
  have h1 := lt2_one h
  have h2 := lt2_zero (a := x.1 (p + 1)) (b := x.1 p) (by omega)
  have e : p = 0 ∨ p = 1 ∨ p = 2 ∨ p = 3 ∨ p = 4 := by omega
  unfold ln pW
  rcases e with rfl | rfl | rfl | rfl | rfl
  all_goals
    simp only [gt] at *
    simp at *
    omega
