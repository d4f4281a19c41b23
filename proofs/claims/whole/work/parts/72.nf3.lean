/-! THE STATES OF A FORM: half turns, factors; what a letter makes of them; up to steps -/
def dl (N i : Nat) : Nat := if i < N then N - 1 - i else i
theorem dl_dl (N i : Nat) : dl N (dl N i) = i := by
  unfold dl
  repeat' split
  all_goals omega
theorem dl_lt {N i : Nat} (h : i < N) : dl N i = N - 1 - i := if_pos h
theorem dl_gt {N p i : Nat} (hp : p + 1 < N) : dl N (gt p i) = gt (N - 2 - p) (dl N i) := by
  unfold dl gt
  repeat' split
  all_goals omega
theorem gt_dl {N p i : Nat} (hp : p + 1 < N) : gt p (dl N i) = dl N (gt (N - 2 - p) i) := by
  have := dl_gt (N := N) (p := N - 2 - p) (i := i) (by omega)
  rw [this]
  congr 1
  omega
def dP (N : Nat) : PM := (dl N, dl N)
def fl (N : Nat) (x : PM) : PM := (fun i => dl N (x.1 (dl N i)), fun i => dl N (x.2 (dl N i)))
theorem isPm_d (N : Nat) : isPm N (dP N) := ⟨dl_dl N, dl_dl N, fun i h => if_neg (by omega)⟩
theorem isPm.f {N : Nat} {x : PM} (h : isPm N x) : isPm N (fl N x) := ⟨fun i => by
  show dl N (x.1 (dl N (dl N (x.2 (dl N i))))) = i
  rw [dl_dl, h.1, dl_dl], fun i => by
  show dl N (x.2 (dl N (dl N (x.1 (dl N i))))) = i
  rw [dl_dl, h.2.1, dl_dl], fun i q => by
  show dl N (x.1 (dl N i)) = i
  have e : dl N i = i := if_neg (by omega)
  rw [e, h.2.2 i q, e]⟩
theorem fl_fl (N : Nat) (x : PM) : fl N (fl N x) = x := by
  unfold fl
  refine Prod.ext (funext fun i => ?_) (funext fun i => ?_)
  · show dl N (dl N (x.1 (dl N (dl N i)))) = x.1 i
    rw [dl_dl, dl_dl]
  · show dl N (dl N (x.2 (dl N (dl N i)))) = x.2 i
    rw [dl_dl, dl_dl]
theorem fl_id (N : Nat) : fl N idP = idP := Prod.ext (funext fun i => dl_dl N i) (funext fun i => dl_dl N i)
theorem fl_d (N : Nat) : fl N (dP N) = dP N := Prod.ext (funext fun i => by
  show dl N (dl N (dl N i)) = dl N i
  rw [dl_dl]) (funext fun i => by
  show dl N (dl N (dl N i)) = dl N i
  rw [dl_dl])
theorem fl_V {N p : Nat} {x : PM} (hp : p + 1 < N) : fl N (pV p x) = pV (N - 2 - p) (fl N x) := Prod.ext (funext fun i => dl_gt hp) (funext fun i => by
  show dl N (x.2 (gt p (dl N i))) = dl N (x.2 (dl N (gt (N - 2 - p) i)))
  rw [gt_dl hp])
theorem fl_W {N p : Nat} {x : PM} (hp : p + 1 < N) : fl N (pW p x) = pW (N - 2 - p) (fl N x) := Prod.ext (funext fun i => by
  show dl N (x.1 (gt p (dl N i))) = dl N (x.1 (dl N (gt (N - 2 - p) i)))
  rw [gt_dl hp]) (funext fun i => dl_gt hp)
theorem pE_fl {N p : Nat} {x : PM} (hx : isPm N x) (hp : p + 1 < N) : pE (fl N x) (N - 2 - p) ↔ pE x p := by
  unfold pE fl
  dsimp only
  rw [dl_lt (show N - 2 - p < N by omega), dl_lt (show N - 2 - p + 1 < N by omega), show N - 1 - (N - 2 - p) = p + 1 by omega, show N - 1 - (N - 2 - p + 1) = p by omega]
  have a := hx.lt2 (i := p) (by omega)
  have b := hx.lt2 (i := p + 1) hp
  rw [dl_lt a, dl_lt b]
  omega
theorem pB_fl {N p : Nat} {x : PM} (hx : isPm N x) (hp : p + 1 < N) : pB (fl N x) (N - 2 - p) ↔ pB x p := by
  unfold pB fl
  dsimp only
  rw [dl_lt (show N - 2 - p < N by omega), dl_lt (show N - 2 - p + 1 < N by omega), show N - 1 - (N - 2 - p) = p + 1 by omega, show N - 1 - (N - 2 - p + 1) = p by omega]
  have a := hx.lt (i := p) (by omega)
  have b := hx.lt (i := p + 1) hp
  rw [dl_lt a, dl_lt b]
  omega
theorem pm_ext {N : Nat} {x y : PM} (hx : isPm N x) (hy : isPm N y) (h : ∀ i, x.1 i = y.1 i) : x = y := Prod.ext (funext h) (funext fun i => by
  have := hx.2.1 (y.2 i)
  rw [h, hy.1] at this
  exact this)
theorem pm_d {N : Nat} {x : PM} (hx : isPm N x) (h : ∀ p, p + 1 < N → pE x p) : x = dP N := by
  have a : ∀ i, i < N → x.2 i + i ≤ N - 1 := by
    intro i
    induction i with
    | zero =>
      intro q
      have := hx.lt2 q
      omega
    | succ i ih =>
      intro q
      have := ih (by omega)
      have := h i q
      unfold pE at this
      omega
  have b : ∀ k i, i + k + 1 = N → N - 1 ≤ x.2 i + i := by
    intro k
    induction k with
    | zero =>
      intro i q
      omega
    | succ k ih =>
      intro i q
      have := ih (i + 1) (by omega)
      have := h i (by omega)
      unfold pE at this
      omega
  have c : ∀ i, i < N → x.2 i = N - 1 - i := fun i q => by
    have := a i q
    have := b (N - 1 - i) i (by omega)
    omega
  refine pm_ext hx (isPm_d N) (fun i => ?_)
  by_cases q : i < N
  · show x.1 i = dl N i
    rw [dl_lt q]
    have := hx.1 (N - 1 - i)
    rw [c _ (by omega), show N - 1 - (N - 1 - i) = i by omega] at this
    exact this
  · rw [hx.2.2 i (by omega)]
    exact (if_neg q).symm
theorem pm_id {N : Nat} {x : PM} (hx : isPm N x) (h : ∀ p, p + 1 < N → ¬ pB x p) : x = idP := by
  have n : ∀ p, p + 1 < N → x.1 p < x.1 (p + 1) := fun p q => by
    have := h p q
    unfold pB at this
    have e : x.1 p ≠ x.1 (p + 1) := fun e => by have := hx.inj e; omega
    omega
  have a : ∀ i, i < N → i ≤ x.1 i := by
    intro i
    induction i with
    | zero =>
      intro q
      omega
    | succ i ih =>
      intro q
      have := ih (by omega)
      have := n i q
      omega
  have b : ∀ k i, i + k + 1 = N → x.1 i ≤ i := by
    intro k
    induction k with
    | zero =>
      intro i q
      have := hx.lt (i := i) (by omega)
      omega
    | succ k ih =>
      intro i q
      have := ih (i + 1) (by omega)
      have := n i (by omega)
      omega
  refine pm_ext hx (isPm_id N) (fun i => ?_)
  show x.1 i = i
  by_cases q : i < N
  · have := a i q
    have := b (N - 1 - i) i (by omega)
    omega
  · exact hx.2.2 i (by omega)
/-- two factors: as much as can goes to the one ahead -/
theorem tl_go {N k : Nat} (hN : N ≤ 6) (I : PM → PM → Prop) (hI : ∀ x y p, isPm N x → isPm N y → p + 1 < N → pB y p → ¬ pE x p → I x y → I (pV p x) (pW p y)) : ∀ (M : Nat) (F : SQ), okS N F → ln (F (k + 1)) ≤ M → I (F k) (F (k + 1)) → ∃ G m, Rd N m F G ∧ (∀ j, j ≠ k → j ≠ k + 1 → G j = F j) ∧ (∀ i, (G (k + 1)).1 ((G k).1 i) = (F (k + 1)).1 ((F k).1 i)) ∧ I (G k) (G (k + 1)) ∧ ∀ p, ¬ mvd N G k p := by
  intro M
  induction M with
  | zero =>
    intro F ho hm hi
    refine ⟨F, 0, rfl, fun _ _ _ => rfl, fun _ => rfl, hi, fun p a => ?_⟩
    have := ln_W (p := p) (x := F (k + 1)) (by have := a.1; omega) a.2.1
    omega
  | succ M ih =>
    intro F ho hm hi
    by_cases h : ∃ p, mvd N F k p
    · obtain ⟨p, a⟩ := h
      have e1 := ln_W (p := p) (x := F (k + 1)) (by have := a.1; omega) a.2.1
      obtain ⟨G, m, r, g1, g2, g3, g4⟩ := ih (mvt F k p) (ho.mv a.1 k) (by rw [mvt_k1]; omega) (by rw [mvt_k, mvt_k1]; exact hI _ _ _ (ho k) (ho (k + 1)) a.1 a.2.1 a.2.2 hi)
      refine ⟨G, m + 1, ⟨k, p, a, r⟩, fun j q1 q2 => (g1 j q1 q2).trans (mvt_o q1 q2), fun i => ?_, g3, g4⟩
      rw [g2, mvt_k, mvt_k1]
      show (F (k + 1)).1 (gt p (gt p ((F k).1 i))) = _
      rw [gt_gt]
    · exact ⟨F, 0, rfl, fun _ _ _ => rfl, fun _ => rfl, hi, fun p a => h ⟨p, a⟩⟩
/-- what doesn't cross in the first crosses in the second: the first gets a half turn -/
theorem tl_full {N k : Nat} {F : SQ} (hN : N ≤ 6) (ho : okS N F) (h : ∀ i j, i < j → j < N → (F k).2 i < (F k).2 j → (F (k + 1)).1 j < (F (k + 1)).1 i) : ∃ G m, Rd N m F G ∧ (∀ j, j ≠ k → j ≠ k + 1 → G j = F j) ∧ G k = dP N ∧ ∀ i, (G (k + 1)).1 (dl N i) = (F (k + 1)).1 ((F k).1 i) := by
  obtain ⟨G, m, r, g1, g2, g3, g4⟩ := tl_go (k := k) hN (fun x y => ∀ i j, i < j → j < N → x.2 i < x.2 j → y.1 j < y.1 i) (fun x y p hx hy hp b e hi i j q1 q2 q3 => by
    have q3 : x.2 (gt p i) < x.2 (gt p j) := q3
    show y.1 (gt p j) < y.1 (gt p i)
    rcases gt_ord (p := p) q1 with g | g
    · exact hi _ _ g (gt_lt hp q2) q3
    · exfalso
      rw [g.1, g.2, gt_l, gt_r] at q3
      exact e q3) _ F ho (Nat.le_refl _) h
  have og := Rd_ok r ho
  have e : G k = dP N := by
    refine pm_d (og k) (fun p hp => ?_)
    refine Classical.byContradiction (fun q => g4 p ⟨hp, g3 p (p + 1) (by omega) hp ?_, q⟩)
    unfold pE at q
    have n : (G k).2 p ≠ (G k).2 (p + 1) := fun e => by have := (og k).inj2 e; omega
    omega
  refine ⟨G, m, r, g1, e, fun i => ?_⟩
  have := g2 i
  rw [e] at this
  exact this
/-- the first crosses nothing that crosses in the second: it gets all -/
theorem tl_none {N k : Nat} {F : SQ} (hN : N ≤ 6) (ho : okS N F) (h : F k = idP) : ∃ G m, Rd N m F G ∧ (∀ j, j ≠ k → j ≠ k + 1 → G j = F j) ∧ G k = F (k + 1) ∧ G (k + 1) = idP := by
  obtain ⟨G, m, r, g1, g2, g3, g4⟩ := tl_go (k := k) hN (fun x y => ∀ i j, i < j → j < N → y.1 j < y.1 i → x.2 i < x.2 j) (fun x y p hx hy hp b e hi i j q1 q2 q3 => by
    have q3 : y.1 (gt p j) < y.1 (gt p i) := q3
    show x.2 (gt p i) < x.2 (gt p j)
    rcases gt_ord (p := p) q1 with g | g
    · exact hi _ _ g (gt_lt hp q2) q3
    · exfalso
      rw [g.1, g.2, gt_l, gt_r] at q3
      unfold pB at b
      omega) _ F ho (Nat.le_refl _) (fun i j q1 _ _ => by rw [h]; exact q1)
  have og := Rd_ok r ho
  have e : G (k + 1) = idP := by
    refine pm_id (og (k + 1)) (fun p hp b => g4 p ⟨hp, b, fun q => ?_⟩)
    have := g3 p (p + 1) (by omega) hp b
    unfold pE at q
    omega
  refine ⟨G, m, r, g1, pm_ext (og k) (ho (k + 1)) (fun i => ?_), e⟩
  have := g2 i
  rw [e, h] at this
  exact this
/-- a half turn goes to the front -/
theorem tl_front {N : Nat} (hN : N ≤ 6) : ∀ (r : Nat) (F : SQ), okS N F → F r = dP N → ∃ m, Rd N m F (fun k => if k = 0 then dP N else if k ≤ r then fl N (F (k - 1)) else F k)
  | 0, F, ho, h => ⟨0, by
    show F = _
    funext k
    by_cases q : k = 0
    · rw [if_pos q, q, h]
    · rw [if_neg q, if_neg (by omega)]⟩
  | r + 1, F, ho, h => by
    obtain ⟨G, m, a, g1, g2, g3⟩ := tl_full (k := r) (F := F) hN ho (fun i j q1 q2 _ => by
      rw [h]
      show dl N j < dl N i
      rw [dl_lt q2, dl_lt (by omega)]
      omega)
    have og := Rd_ok a ho
    have e : G (r + 1) = fl N (F r) := pm_ext (og _) (ho r).f (fun i => by
      have := g3 (dl N i)
      rw [dl_dl, h] at this
      exact this)
    obtain ⟨m', b⟩ := tl_front hN r G og g2
    refine ⟨m + m', Rd_trans a ?_⟩
    have : (fun k => if k = 0 then dP N else if k ≤ r then fl N (G (k - 1)) else G k) = (fun k => if k = 0 then dP N else if k ≤ r + 1 then fl N (F (k - 1)) else F k) := by
      funext k
      by_cases q : k = 0
      · rw [if_pos q, if_pos q]
      · rw [if_neg q, if_neg q]
        by_cases q2 : k ≤ r
        · rw [if_pos q2, if_pos (by omega), g1 (k - 1) (by omega) (by omega)]
        · rw [if_neg q2]
          by_cases q3 : k = r + 1
          · rw [q3, if_pos (Nat.le_refl _), e]
            rfl
          · rw [if_neg (by omega), g1 k (by omega) q3]
    rw [← this]
    exact b
