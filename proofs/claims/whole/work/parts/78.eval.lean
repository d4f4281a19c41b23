/-! WHAT A FORM DOES, WHEREVER THE PLAITS' RULES HOLD -/
def fd (x : PM) : Nat → Nat
  | 0 => 0
  | p + 1 => if x.2 (p + 1) < x.2 p then p + 1 else fd x p
def aP {β : Type} (N : Nat) (f : Nat → β → β) : Nat → PM → β → β
  | 0, _, b => b
  | k + 1, x, b => if fd x (N - 1) = 0 then b else f (2 * (fd x (N - 1) - 1)) (aP N f k (pV (fd x (N - 1) - 1) x) b)
def aI {β : Type} (N : Nat) (f : Nat → β → β) : Nat → PM → β → β
  | 0, _, b => b
  | k + 1, x, b => if fd x (N - 1) = 0 then b else aI N f k (pV (fd x (N - 1) - 1) x) (f (2 * (fd x (N - 1) - 1) + 1) b)
theorem fd_some {x : PM} : ∀ {k : Nat}, fd x k ≠ 0 → fd x k ≤ k ∧ pE x (fd x k - 1)
  | 0, h => absurd rfl h
  | p + 1, h => by
    unfold fd at h ⊢
    by_cases q : x.2 (p + 1) < x.2 p
    · rw [if_pos q]
      exact ⟨Nat.le_refl _, q⟩
    · rw [if_neg q] at h ⊢
      have := fd_some h
      exact ⟨by omega, this.2⟩
theorem fd_none {x : PM} : ∀ {k : Nat}, fd x k = 0 → ∀ p, p < k → ¬ pE x p
  | 0, _, p, hp => by omega
  | k + 1, h, p, hp => by
    unfold fd at h
    by_cases q : x.2 (k + 1) < x.2 k
    · rw [if_pos q] at h
      omega
    · rw [if_neg q] at h
      by_cases e : p = k
      · subst e
        exact q
      · exact fd_none h p (by omega)
theorem ln_VE {N p : Nat} {x : PM} (hN : N ≤ 6) (hx : isPm N x) (hp : p + 1 < N) (h : pE x p) : ln (pV p x) + 1 = ln x := by
  have n : ¬ pE (pV p x) p := by
    unfold pE pV
    unfold pE at h
    dsimp only
    rw [gt_l, gt_r]
    omega
  have := ln_V ((hx.V hp).up hN) (by omega) n
  rw [pV_V] at this
  exact this.symm
theorem pE_none {N : Nat} {x : PM} (hx : isPm N x) (h : ∀ p, p + 1 < N → ¬ pE x p) : x = idP := by
  have g := pm_id (x := (x.2, x.1)) (N := N) ⟨hx.2.1, hx.1, fun i q => hx.big2 q⟩ h
  have a := congrArg Prod.fst g
  have b := congrArg Prod.snd g
  exact Prod.ext b a
section EV
variable {N : Nat} {β : Type} {f : Nat → β → β}
theorem fd_N {x : PM} (h : fd x (N - 1) ≠ 0) : (fd x (N - 1) - 1) + 1 < N ∧ pE x (fd x (N - 1) - 1) := by
  have := fd_some h
  exact ⟨by omega, this.2⟩
theorem aP_fuel (hN : N ≤ 6) : ∀ (k k' : Nat) (x : PM) (b : β), isPm N x → ln x ≤ k → ln x ≤ k' → aP N f k x b = aP N f k' x b
  | 0, k', x, b, hx, h, h' => by
    cases k' with
    | zero => rfl
    | succ k' =>
      unfold aP
      by_cases q : fd x (N - 1) = 0
      · rw [if_pos q]
      · have := fd_N q
        have := ln_VE hN hx this.1 this.2
        omega
  | k + 1, 0, x, b, hx, h, h' => by
    unfold aP
    by_cases q : fd x (N - 1) = 0
    · rw [if_pos q]
    · have := fd_N q
      have := ln_VE hN hx this.1 this.2
      omega
  | k + 1, k' + 1, x, b, hx, h, h' => by
    unfold aP
    by_cases q : fd x (N - 1) = 0
    · rw [if_pos q, if_pos q]
    · obtain ⟨q1, q2⟩ := fd_N q
      have := ln_VE hN hx q1 q2
      rw [if_neg q, if_neg q, aP_fuel hN k k' _ b (hx.V q1) (by omega) (by omega)]
/-- what a factor does -/
def aX (N : Nat) (f : Nat → β → β) (x : PM) (b : β) : β := aP N f (ln x) x b
theorem aX_id (b : β) : aX N f idP b = b := by
  unfold aX
  rw [show ln idP = 0 from rfl]
  rfl
theorem aX_fd (hN : N ≤ 6) {x : PM} (hx : isPm N x) (q : fd x (N - 1) ≠ 0) (b : β) : aX N f x b = f (2 * (fd x (N - 1) - 1)) (aX N f (pV (fd x (N - 1) - 1) x) b) := by
  obtain ⟨q1, q2⟩ := fd_N q
  have e := ln_VE hN hx q1 q2
  unfold aX
  rw [← e]
  show (if fd x (N - 1) = 0 then b else _) = _
  rw [if_neg q]
theorem Act.farE (h : Act N β f) {p q : Nat} (h1 : p + 1 < q ∨ q + 1 < p) (hp : p + 1 < N) (hq : q + 1 < N) (b : β) : f (2 * p) (f (2 * q) b) = f (2 * q) (f (2 * p) b) := by
  rcases h1 with g | g
  · exact h.2.2.1 p q g hq b
  · exact (h.2.2.1 q p g hp b).symm
/-- any crossing at its end may be taken off -/
theorem aX_E (hN : N ≤ 6) (ha : Act N β f) : ∀ (M : Nat) (x : PM) (p : Nat) (b : β), ln x ≤ M → isPm N x → p + 1 < N → pE x p → aX N f x b = f (2 * p) (aX N f (pV p x) b)
  | 0, x, p, b, hm, hx, hp, h => by
    have := ln_VE hN hx hp h
    omega
  | M + 1, x, p, b, hm, hx, hp, h => by
    have q0 : fd x (N - 1) ≠ 0 := fun e => fd_none e p (by omega) h
    obtain ⟨q1, q2⟩ := fd_N q0
    rw [aX_fd hN hx q0]
    generalize fd x (N - 1) - 1 = q at q1 q2
    have e1 := ln_VE hN hx q1 q2
    have e2 := ln_VE hN hx hp h
    by_cases c1 : p = q
    · subst c1
      rfl
    · by_cases c2 : p + 1 < q ∨ q + 1 < p
      · rw [aX_E hN ha M (pV q x) p b (by omega) (hx.V q1) hp ((pE_V_far (by omega)).mpr h), aX_E hN ha M (pV p x) q b (by omega) (hx.V hp) q1 ((pE_V_far (by omega)).mpr q2), ha.farE c2 hp q1]
        congr 3
        rcases c2 with c2 | c2
        · rw [pV_far c2]
        · rw [pV_far c2]
      · -- neighbours: p2 the lower one
        have key : ∀ a, a + 2 < N → pE x a → pE x (a + 1) → f (2 * (a + 1)) (aX N f (pV (a + 1) x) b) = f (2 * a) (aX N f (pV a x) b) := fun a hA x1 x2 => by
          have f1 := ln_VE hN hx (p := a) (by omega) x1
          have f2 := ln_VE hN hx (p := a + 1) hA x2
          unfold pE at x1 x2
          have g0 : gt (a + 1) a = a := gt_o (by omega) (by omega)
          have g2 : gt a (a + 1 + 1) = a + 1 + 1 := gt_o (by omega) (by omega)
          have y1 : pE (pV (a + 1) x) a := by
            unfold pE pV
            dsimp only
            rw [g0, gt_l]
            omega
          have y2 : pE (pV a (pV (a + 1) x)) (a + 1) := by
            unfold pE pV
            dsimp only
            rw [gt_r, g2, g0, gt_r]
            exact x1
          have z1 : pE (pV a x) (a + 1) := by
            unfold pE pV
            dsimp only
            rw [gt_r, g2]
            omega
          have z2 : pE (pV (a + 1) (pV a x)) a := by
            unfold pE pV
            dsimp only
            rw [gt_l, g0, g2, gt_l]
            exact x2
          have f3 := ln_VE hN (hx.V hA) (p := a) (by omega) y1
          have f4 := ln_VE hN (hx.V (p := a) (by omega)) (p := a + 1) hA z1
          rw [aX_E hN ha M (pV (a + 1) x) a b (by omega) (hx.V hA) (by omega) y1, aX_E hN ha M (pV a (pV (a + 1) x)) (a + 1) b (by omega) ((hx.V hA).V (by omega)) hA y2, aX_E hN ha M (pV a x) (a + 1) b (by omega) (hx.V (by omega)) hA z1, aX_E hN ha M (pV (a + 1) (pV a x)) a b (by omega) ((hx.V (by omega)).V hA) (by omega) z2, ← ha.2.2.2 a hA, pV_braid]
        by_cases c3 : q = p + 1
        · subst c3
          exact key p q1 h q2
        · have c4 : p = q + 1 := by omega
          subst c4
          exact (key q hp q2 h).symm
theorem aX_V (hN : N ≤ 6) (ha : Act N β f) {x : PM} {p : Nat} (hx : isPm N x) (hp : p + 1 < N) (h : ¬ pE x p) (b : β) : aX N f (pV p x) b = f (2 * p) (aX N f x b) := by
  have n : pE (pV p x) p := by
    unfold pE pV
    unfold pE at h
    have e : x.2 p ≠ x.2 (p + 1) := fun e => by have := hx.inj2 e; omega
    dsimp only
    rw [gt_l, gt_r]
    omega
  rw [aX_E hN ha _ (pV p x) p b (Nat.le_refl _) (hx.V hp) hp n, pV_V]
/-- an only crossing at the end that is the one at the begin is all -/
theorem one_cross {x : PM} {p : Nat} (hx : isPm N x) (hp : p + 1 < N) (h : ∀ q, q + 1 < N → pE x q → x.1 p = q + 1 ∧ x.1 (p + 1) = q) (hb : pB x p) : x = pV p idP := by
  have ex : ∃ q, q + 1 < N ∧ pE x q := by
    refine Classical.byContradiction (fun z => ?_)
    have := pE_none hx (fun q q1 q2 => z ⟨q, q1, q2⟩)
    subst this
    have hb : p + 1 < p := hb
    omega
  obtain ⟨q, q1, q2⟩ := ex
  obtain ⟨c1, c2⟩ := h q q1 q2
  have d1 : x.2 (q + 1) = p := by rw [← c1, hx.2.1]
  have d2 : x.2 q = p + 1 := by rw [← c2, hx.2.1]
  have up : ∀ r, r + 1 < N → r ≠ q → x.2 r < x.2 (r + 1) := fun r r1 r2 => by
    have a : ¬ pE x r := fun e => by
      have := h r r1 e
      omega
    unfold pE at a
    have e : x.2 r ≠ x.2 (r + 1) := fun e => by have := hx.inj2 e; omega
    omega
  have lo : ∀ r, r ≤ q → r ≤ x.2 r := by
    intro r
    induction r with
    | zero => intro _; omega
    | succ r ih =>
      intro hr
      have := ih (by omega)
      have := up r (by omega) (by omega)
      omega
  have hi : ∀ k r, q < r → r + k + 1 = N → x.2 r ≤ r := by
    intro k
    induction k with
    | zero =>
      intro r _ e
      have := hx.lt2 (i := r) (by omega)
      omega
    | succ k ih =>
      intro r r1 e
      have := ih (r + 1) (by omega) (by omega)
      have := up r (by omega) (by omega)
      omega
  have a1 : q ≤ p := by
    by_cases z : q = 0
    · omega
    · have := lo (q - 1) (by omega)
      have u := up (q - 1) (by omega) (by omega)
      rw [show q - 1 + 1 = q by omega, d2] at u
      have n : x.2 (q - 1) ≠ x.2 (q + 1) := fun e => by have := hx.inj2 e; omega
      omega
  have a2 : p ≤ q := by
    by_cases z : q + 2 < N
    · have := hi (N - (q + 2) - 1) (q + 2) (by omega) (by omega)
      have u := up (q + 1) (by omega) (by omega)
      have n : x.2 (q + 2) ≠ x.2 q := fun e => by have := hx.inj2 e; omega
      rw [show q + 1 + 1 = q + 2 by omega] at u
      omega
    · omega
  have e : p = q := by omega
  subst e
  have g : pV p x = idP := by
    refine pE_none (hx.V hp) (fun r r1 r2 => ?_)
    unfold pE pV at r2
    dsimp only at r2
    by_cases z : r = p
    · rw [z, gt_r, gt_l] at r2
      omega
    · by_cases z2 : r + 1 = p
      · rw [z2, gt_l, gt_o (by omega) (by omega), d1] at r2
        have u := up r r1 z
        rw [z2, d2] at u
        have n : x.2 r ≠ x.2 (p + 1) := fun e => by have := hx.inj2 e; omega
        omega
      · by_cases z3 : r = p + 1
        · rw [z3, gt_r, gt_o (by omega) (by omega), d2] at r2
          have u := up (p + 1) (by omega) (by omega)
          rw [d1] at u
          have n : x.2 (p + 1 + 1) ≠ x.2 p := fun e => by have := hx.inj2 e; omega
          omega
        · rw [gt_o (by omega) (by omega), gt_o (by omega) (by omega)] at r2
          have := up r r1 z
          omega
  rw [← g, pV_V]
/-- any crossing at its begin may be danced ahead -/
theorem aX_B (hN : N ≤ 6) (ha : Act N β f) : ∀ (M : Nat) (x : PM) (p : Nat) (b : β), ln x ≤ M → isPm N x → p + 1 < N → pB x p → aX N f x b = aX N f (pW p x) (f (2 * p) b)
  | 0, x, p, b, hm, hx, hp, h => by
    have := ln_W (p := p) (x := x) (by omega) h
    omega
  | M + 1, x, p, b, hm, hx, hp, h => by
    by_cases ex : ∃ q, q + 1 < N ∧ pE x q ∧ pB (pV q x) p
    · obtain ⟨q, q1, q2, q3⟩ := ex
      have e1 := ln_VE hN hx q1 q2
      have w : pE (pW p x) q := by
        unfold pE pW
        dsimp only
        have q2 : x.2 (q + 1) < x.2 q := q2
        rcases gt_ord (p := p) q2 with g | g
        · exact g
        · exfalso
          have c1 : x.1 p = q + 1 := by rw [← g.1, hx.1]
          have c2 : x.1 (p + 1) = q := by rw [← g.2, hx.1]
          unfold pB pV at q3
          dsimp only at q3
          rw [c1, c2, gt_l, gt_r] at q3
          omega
      rw [aX_E hN ha _ x q b (Nat.le_refl _) hx q1 q2, aX_B hN ha M (pV q x) p b (by omega) (hx.V q1) hp q3, aX_E hN ha _ (pW p x) q _ (Nat.le_refl _) (hx.W hp) q1 w]
      rfl
    · have e := one_cross hx hp (fun q q1 q2 => by
        have n : ¬ pB (pV q x) p := fun z => ex ⟨q, q1, q2, z⟩
        unfold pB pV at n
        dsimp only at n
        have h : x.1 (p + 1) < x.1 p := h
        rcases gt_ord (p := q) h with g | g
        · exact absurd g n
        · exact ⟨g.2, g.1⟩) h
      subst e
      rw [aX_V hN ha (isPm_id N) hp (fun z => by have z : p + 1 < p := z; omega), aX_id]
      show _ = aX N f (pW p (pW p idP)) _
      rw [pW_W, aX_id]
/-- a half turn, and what undoes it -/
theorem aX_flip1 (hN : N ≤ 6) (ha : Act N β f) {q : Nat} (hq : q + 1 < N) (b : β) : f (2 * q) (aX N f (dP N) b) = aX N f (dP N) (f (2 * (N - 2 - q)) b) := by
  have dE : ∀ p, p + 1 < N → pE (dP N) p := fun p hp => by
    show dl N (p + 1) < dl N p
    rw [dl_lt hp, dl_lt (by omega)]
    omega
  have w : pW (N - 2 - q) (dP N) = pV q (dP N) := pm_ext ((isPm_d N).W (by omega)) ((isPm_d N).V hq) (fun i => (gt_dl hq).symm)
  have e1 := aX_B hN ha _ (dP N) (N - 2 - q) b (Nat.le_refl _) (isPm_d N) (by omega) (dE _ (by omega))
  have e2 := aX_E hN ha _ (dP N) q (f (2 * (N - 2 - q)) b) (Nat.le_refl _) (isPm_d N) hq (dE _ hq)
  rw [e2, ← w, ← e1]
theorem aX_flip (hN : N ≤ 6) (ha : Act N β f) : ∀ (M : Nat) (x : PM) (b : β), ln x ≤ M → isPm N x → aX N f x (aX N f (dP N) b) = aX N f (dP N) (aX N f (fl N x) b)
  | M, x, b, hm, hx => by
    by_cases ex : ∃ q, q + 1 < N ∧ pE x q
    · obtain ⟨q, q1, q2⟩ := ex
      have e1 := ln_VE hN hx q1 q2
      cases M with
      | zero => omega
      | succ M =>
        have w := (pE_fl hx q1).mpr q2
        rw [aX_E hN ha _ x q _ (Nat.le_refl _) hx q1 q2, aX_flip hN ha M (pV q x) b (by omega) (hx.V q1), aX_flip1 hN ha q1, aX_E hN ha _ (fl N x) (N - 2 - q) b (Nat.le_refl _) hx.f (by omega) w, fl_V q1]
    · have e := pE_none hx (fun q q1 q2 => ex ⟨q, q1, q2⟩)
      subst e
      rw [fl_id, aX_id, aX_id]
theorem aI_l (hN : N ≤ 6) (ha : Act N β f) : ∀ (k : Nat) (x : PM) (b : β), isPm N x → aI N f k x (aP N f k x b) = b
  | 0, x, b, hx => rfl
  | k + 1, x, b, hx => by
    unfold aI aP
    by_cases q : fd x (N - 1) = 0
    · rw [if_pos q, if_pos q]
    · obtain ⟨q1, q2⟩ := fd_N q
      rw [if_neg q, if_neg q, ha.1 _ q1, aI_l hN ha k _ b (hx.V q1)]
theorem aI_r (hN : N ≤ 6) (ha : Act N β f) : ∀ (k : Nat) (x : PM) (b : β), isPm N x → aP N f k x (aI N f k x b) = b
  | 0, x, b, hx => rfl
  | k + 1, x, b, hx => by
    unfold aI aP
    by_cases q : fd x (N - 1) = 0
    · rw [if_pos q, if_pos q]
    · obtain ⟨q1, q2⟩ := fd_N q
      rw [if_neg q, if_neg q, aI_r hN ha k _ _ (hx.V q1), ha.2.1 _ q1]
def it {β : Type} (g : β → β) : Nat → β → β
  | 0, b => b
  | n + 1, b => it g n (g b)
theorem it_out {g : β → β} : ∀ (n : Nat) (b : β), it g n (g b) = g (it g n b)
  | 0, _ => rfl
  | n + 1, b => it_out n (g b)
def dH (N : Nat) (f : Nat → β → β) : β → β := aX N f (dP N)
def dI (N : Nat) (f : Nat → β → β) : β → β := aI N f (ln (dP N)) (dP N)
def dpw (N : Nat) (f : Nat → β → β) (h : Int) (b : β) : β := if 0 ≤ h then it (dH N f) h.toNat b else it (dI N f) (-h).toNat b
theorem dpw_up (hN : N ≤ 6) (ha : Act N β f) (h : Int) (b : β) : dH N f (dpw N f h b) = dpw N f (h + 1) b := by
  unfold dpw
  by_cases q : 0 ≤ h
  · rw [if_pos q, if_pos (by omega), ← it_out (g := dH N f), show (h + 1).toNat = h.toNat + 1 by omega]
    rfl
  · rw [if_neg q, show (-h).toNat = (-(h + 1)).toNat + 1 by omega]
    show dH N f (it (dI N f) _ (dI N f b)) = _
    rw [it_out, show dH N f (dI N f (it (dI N f) (-(h + 1)).toNat b)) = it (dI N f) (-(h + 1)).toNat b from aI_r hN ha _ _ _ (isPm_d N)]
    by_cases q2 : 0 ≤ h + 1
    · rw [if_pos q2, show h + 1 = 0 by omega]
      rfl
    · rw [if_neg q2]
def evF (N : Nat) (f : Nat → β → β) (F : SQ) : Nat → β → β
  | 0, b => b
  | r + 1, b => aX N f (F r) (evF N f F r b)
def evFS (N : Nat) (f : Nat → β → β) (s : FS) (b : β) : β := evF N f s.2.1 s.2.2 (dpw N f s.1 b)
theorem evF_cg {F G : SQ} : ∀ {r : Nat} {b : β}, (∀ j, j < r → F j = G j) → evF N f F r b = evF N f G r b
  | 0, _, _ => rfl
  | r + 1, b, h => by
    unfold evF
    rw [h r (by omega), evF_cg (fun j q => h j (by omega))]
theorem evF_mv (hN : N ≤ 6) (ha : Act N β f) {F : SQ} {k p : Nat} (ho : okS N F) (a : mvd N F k p) : ∀ {r : Nat} {b : β}, k + 1 < r → evF N f (mvt F k p) r b = evF N f F r b
  | 0, b, h => by omega
  | r + 1, b, h => by
    by_cases e : k + 1 = r
    · subst e
      show aX N f (mvt F k p (k + 1)) (aX N f (mvt F k p k) (evF N f (mvt F k p) k b)) = aX N f (F (k + 1)) (aX N f (F k) (evF N f F k b))
      rw [mvt_k, mvt_k1, evF_cg (G := F) (fun j q => mvt_o (by omega) (by omega)), aX_V hN ha (ho k) a.1 a.2.2, ← aX_B hN ha _ (F (k + 1)) p _ (Nat.le_refl _) (ho (k + 1)) a.1 a.2.1]
    · show aX N f (mvt F k p r) (evF N f (mvt F k p) r b) = aX N f (F r) (evF N f F r b)
      rw [mvt_o (by omega) (by omega), evF_mv hN ha ho a (by omega)]
theorem evF_tl {F : SQ} : ∀ {r : Nat} {b : β}, evF N f F (r + 1) b = evF N f (fun k => F (k + 1)) r (aX N f (F 0) b)
  | 0, _ => rfl
  | r + 1, b => by
    show aX N f (F (r + 1)) (evF N f F (r + 1) b) = aX N f (F (r + 1)) (evF N f (fun k => F (k + 1)) r (aX N f (F 0) b))
    rw [evF_tl]
theorem evF_flip (hN : N ≤ 6) (ha : Act N β f) {F : SQ} (ho : okS N F) : ∀ {r : Nat} {b : β}, evF N f F r (dH N f b) = dH N f (evF N f (fun k => fl N (F k)) r b)
  | 0, _ => rfl
  | r + 1, b => by
    show aX N f (F r) (evF N f F r (dH N f b)) = dH N f (aX N f (fl N (F r)) (evF N f (fun k => fl N (F k)) r b))
    rw [evF_flip hN ha ho]
    exact aX_flip hN ha _ _ _ (Nat.le_refl _) (ho r)
theorem evFS_stp (hN : N ≤ 6) (ha : Act N β f) (x y : FO N) (e : stp N x y) : evFS N f x.1 = evFS N f y.1 := by
  obtain ⟨⟨h, F, r⟩, o⟩ := x
  obtain ⟨y', o'⟩ := y
  funext b
  rcases e with ⟨k, p, a, e⟩ | ⟨e1, e2, e⟩ | e
  · have e : y' = (h, mvt F k p, r) := e
    subst e
    exact (evF_mv hN ha o.1 a (su_mv o.2 a)).symm
  · obtain ⟨r, rfl⟩ : ∃ r0, r = r0 + 1 := ⟨r - 1, by have e2 : 0 < r := e2; omega⟩
    have e : y' = (h + 1, fun k => F (k + 1), r) := e
    subst e
    have e1 : F 0 = dP N := e1
    show evF N f F (r + 1) (dpw N f h b) = evF N f (fun k => F (k + 1)) r (dpw N f (h + 1) b)
    rw [evF_tl, e1, ← dpw_up hN ha]
    rfl
  · have e : y' = (h, F, r + 1) := e
    subst e
    show evF N f F r (dpw N f h b) = aX N f (F r) (evF N f F r (dpw N f h b))
    have z : F r = idP := o.2 r (Nat.le_refl r)
    rw [z, aX_id]
def evQ (hN : N ≤ 6) (ha : Act N β f) : QF N → β → β := Quot.lift (fun x => evFS N f x.1) (evFS_stp hN ha)
theorem evQ_f (hN : N ≤ 6) (ha : Act N β f) {c : Nat} (hc : c / 2 + 1 < N) (x : QF N) (b : β) : evQ hN ha (qf N hN c x) b = f c (evQ hN ha x b) := by
  obtain ⟨⟨h, F, r⟩, o, rfl⟩ := q_rep x
  show evFS N f (psh N c (h, F, r)) b = f c (evFS N f (h, F, r) b)
  rcases (show c = 2 * (c / 2) ∨ c = 2 * (c / 2) + 1 by omega) with e | e
  · rw [e, psh_even hc]
    show aX N f (qp F r (pV (c / 2) idP) r) (evF N f (qp F r (pV (c / 2) idP)) r (dpw N f h b)) = f (2 * (c / 2)) (evF N f F r (dpw N f h b))
    rw [qp_r, evF_cg (G := F) (fun j q => qp_o (by omega)), aX_V hN ha (isPm_id N) hc (fun z => by have z : c / 2 + 1 < c / 2 := z; omega), aX_id]
  · rw [e, psh_odd hc]
    show aX N f (qp (fun k => fl N (F k)) r (pV (c / 2) (dP N)) r) (evF N f (qp (fun k => fl N (F k)) r (pV (c / 2) (dP N))) r (dpw N f (h - 1) b)) = f (2 * (c / 2) + 1) (evF N f F r (dpw N f h b))
    rw [qp_r, evF_cg (G := fun k => fl N (F k)) (fun j q => qp_o (by omega))]
    have dE : pE (dP N) (c / 2) := by
      show dl N (c / 2 + 1) < dl N (c / 2)
      rw [dl_lt hc, dl_lt (by omega)]
      omega
    have e1 := aX_E hN ha _ (dP N) (c / 2) (evF N f (fun k => fl N (F k)) r (dpw N f (h - 1) b)) (Nat.le_refl _) (isPm_d N) hc dE
    have e2 := evF_flip hN ha o.1 (r := r) (b := dpw N f (h - 1) b)
    rw [dpw_up hN ha, show h - 1 + 1 = h by omega] at e2
    have e2 : evF N f F r (dpw N f h b) = aX N f (dP N) (evF N f (fun k => fl N (F k)) r (dpw N f (h - 1) b)) := e2
    rw [e2, e1, ha.1 _ hc]
def q0 (N : Nat) : QF N := qmk N (0, idS, 0) ⟨fun _ => isPm_id N, fun _ _ => rfl⟩
theorem evQ_rn (hN : N ≤ 6) (ha : Act N β f) : ∀ (w : List Nat) (_ : vw 0 N w) (x : QF N) (b : β), evQ hN ha (rn (qf N hN) w x) b = rn f w (evQ hN ha x b)
  | [], _, _, _ => rfl
  | c :: w, hw, x, b => by
    show evQ hN ha (rn (qf N hN) w (qf N hN c x)) b = rn f w (f c (evQ hN ha x b))
    rw [evQ_rn hN ha w (fun d hd => hw d (List.mem_cons_of_mem c hd)), evQ_f hN ha (hw c (List.mem_cons_self ..)).2]
end EV
/-- a row of letters leaves the coil as it is just if its form is that of nothing -/
theorem loose_iff {N : Nat} (hN : N ≤ 6) {w : List Nat} (hw : vw 0 N w) : rn fR w bR = bR ↔ rn (qf N hN) w (q0 N) = q0 N := by
  constructor
  · intro h
    exact faith N 0 w (by omega) hw h _ _ (qf_act hN) _
  · intro h
    have e := evQ_rn hN (fR_act N) w hw (q0 N) bR
    rw [h] at e
    have z : evQ hN (fR_act N) (q0 N) bR = bR := rfl
    rw [z] at e
    exact e.symm
