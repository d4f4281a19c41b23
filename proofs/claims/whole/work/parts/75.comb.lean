/-! COMBING: words up to the plaits' rules; a strand is led aside -/
def rn {β : Type} (f : Nat → β → β) : List Nat → β → β
  | [], b => b
  | c :: w, b => rn f w (f c b)
def Eqw (N : Nat) (u v : List Nat) : Prop := ∀ (β : Type) (f : Nat → β → β), Act N β f → ∀ b, rn f u b = rn f v b
theorem rn_app {β : Type} (f : Nat → β → β) : ∀ (u v : List Nat) (b : β), rn f (u ++ v) b = rn f v (rn f u b)
  | [], _, _ => rfl
  | c :: u, v, b => rn_app f u v (f c b)
theorem Eqw.rfl1 {N : Nat} (u : List Nat) : Eqw N u u := fun _ _ _ _ => rfl
theorem Eqw.tr {N : Nat} {u v w : List Nat} (h : Eqw N u v) (g : Eqw N v w) : Eqw N u w := fun β f a b => (h β f a b).trans (g β f a b)
theorem Eqw.app {N : Nat} {u u' v v' : List Nat} (h : Eqw N u u') (g : Eqw N v v') : Eqw N (u ++ v) (u' ++ v') := fun β f a b => by
  rw [rn_app, rn_app, h β f a, g β f a]
theorem Eqw.cons {N : Nat} {u v : List Nat} (c : Nat) (h : Eqw N u v) : Eqw N (c :: u) (c :: v) := fun β f a b => h β f a (f c b)
/-- two neighbours' letters, with what undoes them -/
def Bd {β : Type} (A A' B B' : β → β) : Prop := (∀ b, A' (A b) = b) ∧ (∀ b, A (A' b) = b) ∧ (∀ b, B' (B b) = b) ∧ (∀ b, B (B' b) = b) ∧ (∀ b, A (B (A b)) = B (A (B b))) ∧ ∀ b, A' (B' (A' b)) = B' (A' (B' b))
section BD
variable {β : Type} {A A' B B' : β → β}
theorem Bd.sw (h : Bd A A' B B') : Bd B B' A A' := ⟨h.2.2.1, h.2.2.2.1, h.1, h.2.1, fun b => (h.2.2.2.2.1 b).symm, fun b => (h.2.2.2.2.2 b).symm⟩
theorem Bd.iv (h : Bd A A' B B') : Bd A' A B' B := ⟨h.2.1, h.1, h.2.2.2.1, h.2.2.1, h.2.2.2.2.2, h.2.2.2.2.1⟩
theorem Bd.r3 (h : Bd A A' B B') (b : β) : B' (A (B b)) = A (B (A' b)) := by
  obtain ⟨h1, h2, h3, h4, h5, h6⟩ := h
  have e := h5 (A' b)
  rw [h2] at e
  rw [← h3 (A (B (A' b))), ← e]
theorem Bd.r2 (h : Bd A A' B B') (b : β) : B' (A' (B b)) = A (B' (A' b)) := by
  obtain ⟨h1, h2, h3, h4, h5, h6⟩ := h
  have e := h6 (B b)
  rw [h3] at e
  rw [← h2 (B' (A' (B b))), e]
theorem Bd.r4 (h : Bd A A' B B') (b : β) : B (A' (B b)) = A (B (A (A (B' (B' (A' b)))))) := by
  have g := h
  obtain ⟨h1, h2, h3, h4, h5, h6⟩ := h
  rw [h5, h5, h4, ← g.r2, h4]
theorem Bd.l1 (h : Bd A A' B B') (b : β) : A (A (B b)) = B (A (B (B (A' b)))) := by
  have g := h
  obtain ⟨h1, h2, h3, h4, h5, h6⟩ := h
  rw [← h5, ← g.r3, h4]
theorem Bd.l2 (h : Bd A A' B B') (b : β) : A' (A' (B b)) = B (A (B' (B' (A' b)))) := by
  have g := h
  obtain ⟨h1, h2, h3, h4, h5, h6⟩ := h
  rw [← g.sw.r3, ← g.r2, h4]
end BD
section AC
variable {N : Nat} {β : Type} {f : Nat → β → β}
theorem Act.bd (h : Act N β f) {p : Nat} (hp : p + 2 < N) : Bd (f (2 * p)) (f (2 * p + 1)) (f (2 * (p + 1))) (f (2 * (p + 1) + 1)) := by
  obtain ⟨h1, h2, h3, h4⟩ := h
  have a1 := h1 p (by omega)
  have a2 := h2 p (by omega)
  have b1 := h1 (p + 1) (by omega)
  have b2 := h2 (p + 1) (by omega)
  have c := h4 p hp
  refine ⟨a1, a2, b1, b2, c, fun b => ?_⟩
  have inj : ∀ u v, f (2 * p) (f (2 * (p + 1)) (f (2 * p) u)) = f (2 * p) (f (2 * (p + 1)) (f (2 * p) v)) → u = v := fun u v e => by
    have e := congrArg (f (2 * p + 1)) e
    rw [a1, a1] at e
    have e := congrArg (f (2 * (p + 1) + 1)) e
    rw [b1, b1] at e
    have e := congrArg (f (2 * p + 1)) e
    rw [a1, a1] at e
    exact e
  refine inj _ _ ?_
  rw [a2, b2, a2, c, b2, a2, b2]
theorem com_iv {A A' D : β → β} (h1 : ∀ b, A' (A b) = b) (h2 : ∀ b, A (A' b) = b) (h : ∀ b, A (D b) = D (A b)) (b : β) : A' (D b) = D (A' b) := by
  have e := h (A' b)
  rw [h2] at e
  rw [← e, h1]
theorem Act.far (h : Act N β f) {c d : Nat} (h1 : c / 2 + 1 < d / 2) (h2 : d / 2 + 1 < N) (b : β) : f c (f d b) = f d (f c b) := by
  obtain ⟨i1, i2, fr, _⟩ := h
  have k := fr (c / 2) (d / 2) h1 h2
  have k1 := com_iv (i1 (c / 2) (by omega)) (i2 (c / 2) (by omega)) k
  have k2 := com_iv (i1 (d / 2) h2) (i2 (d / 2) h2) (fun b => (k b).symm)
  have k3 := com_iv (i1 (c / 2) (by omega)) (i2 (c / 2) (by omega)) (fun b => (k2 b).symm)
  have ec : c = 2 * (c / 2) ∨ c = 2 * (c / 2) + 1 := by omega
  have ed : d = 2 * (d / 2) ∨ d = 2 * (d / 2) + 1 := by omega
  rcases ec with ec | ec
  · rcases ed with ed | ed
    · rw [ec, ed]
      exact k b
    · rw [ec, ed]
      exact (k2 b).symm
  · rcases ed with ed | ed
    · rw [ec, ed]
      exact k1 b
    · rw [ec, ed]
      exact k3 b
/-- the letter that undoes one -/
def ivc (c : Nat) : Nat := if c % 2 = 0 then c + 1 else c - 1
theorem ivc_2 (c : Nat) : ivc c / 2 = c / 2 := by
  unfold ivc
  split
  all_goals omega
theorem Act.undo (h : Act N β f) {c : Nat} (h1 : c / 2 + 1 < N) (b : β) : f (ivc c) (f c b) = b := by
  unfold ivc
  by_cases q : c % 2 = 0
  · rw [if_pos q]
    have := h.1 (c / 2) h1 b
    rwa [show 2 * (c / 2) = c by omega] at this
  · rw [if_neg q]
    have := h.2.1 (c / 2) h1 b
    rwa [show 2 * (c / 2) = c - 1 by omega, show c - 1 + 1 = c by omega] at this
theorem ivc_of {c d : Nat} (h : c / 2 = d / 2) (n : ¬ c = d) : d = ivc c := by
  unfold ivc
  split
  all_goals omega
end AC
/-- a strand's way from place to place -/
def isPath (m N : Nat) : List Nat → Nat → Nat → Prop
  | [], p, q => p = q
  | c :: w, p, q => (c / 2 = p ∧ p + 1 < N ∧ isPath m N w (p + 1) q) ∨ (c / 2 + 1 = p ∧ m ≤ c / 2 ∧ isPath m N w (c / 2) q)
section PU
variable {N m : Nat}
theorem pa_app : ∀ {u v : List Nat} {p q r : Nat}, isPath m N u p q → isPath m N v q r → isPath m N (u ++ v) p r
  | [], v, p, q, r, h, g => by
    have h : p = q := h
    subst h
    exact g
  | c :: u, v, p, q, r, h, g => by
    rcases h with ⟨h1, h2, h3⟩ | ⟨h1, h2, h3⟩
    · exact Or.inl ⟨h1, h2, pa_app h3 g⟩
    · exact Or.inr ⟨h1, h2, pa_app h3 g⟩
theorem Eqw.far {c d : Nat} (h1 : c / 2 + 1 < d / 2 ∨ d / 2 + 1 < c / 2) (h2 : c / 2 + 1 < N) (h3 : d / 2 + 1 < N) (w : List Nat) : Eqw N (c :: d :: w) (d :: c :: w) := fun β f a b => by
  show rn f w (f d (f c b)) = rn f w (f c (f d b))
  rcases h1 with h | h
  · rw [a.far h h3]
  · rw [a.far h h2]
theorem pR {p q : Nat} {c : Nat} {w : List Nat} (h1 : c / 2 = p) (h2 : p + 1 < N) (h : isPath m N w (p + 1) q) : isPath m N (c :: w) p q := Or.inl ⟨h1, h2, h⟩
theorem pL {p q : Nat} {c : Nat} {w : List Nat} (h1 : c / 2 = p) (h2 : m ≤ p) (h : isPath m N w p q) : isPath m N (c :: w) (p + 1) q := Or.inr ⟨by omega, by omega, by rw [h1]; exact h⟩
theorem sgc {c x : Nat} (h : c / 2 = x) : c = 2 * x ∨ c = 2 * x + 1 := by omega
/-- the blocks: a strand goes through the gap of two that have just crossed -/
theorem bRR {c d e x : Nat} (hx : x + 2 < N) (hm : m ≤ x) (hc : c / 2 = x + 1) (hd : d / 2 = x) (he : e / 2 = x + 1) : ∃ Q c', isPath m N Q x (x + 2) ∧ c' / 2 = x ∧ Eqw N [c, d, e] (Q ++ [c']) := by
  have e0 : (2 * x) / 2 = x := by omega
  have e1 : (2 * x + 1) / 2 = x := by omega
  have e2 : (2 * (x + 1)) / 2 = x + 1 := by omega
  have e3 : (2 * (x + 1) + 1) / 2 = x + 1 := by omega
  have g1 : x + 1 < N := by omega
  rcases sgc hc with rfl | rfl
  · rcases sgc hd with rfl | rfl
    · rcases sgc he with rfl | rfl
      · exact ⟨[2 * x, 2 * (x + 1)], 2 * x, pR e0 g1 (pR e2 hx rfl), e0, fun β f a b => ((a.bd hx).2.2.2.2.1 b).symm⟩
      · exact ⟨[2 * x + 1, 2 * (x + 1)], 2 * x, pR e1 g1 (pR e2 hx rfl), e0, fun β f a b => (a.bd hx).r3 b⟩
    · rcases sgc he with rfl | rfl
      · exact ⟨[2 * x + 1, 2 * (x + 1) + 1, 2 * (x + 1) + 1, 2 * x, 2 * x, 2 * (x + 1)], 2 * x, pR e1 g1 (pR e3 hx (pL e3 (by omega) (pL e0 hm (pR e0 g1 (pR e2 hx rfl))))), e0, fun β f a b => (a.bd hx).r4 b⟩
      · exact ⟨[2 * x + 1, 2 * (x + 1) + 1], 2 * x, pR e1 g1 (pR e3 hx rfl), e0, fun β f a b => (a.bd hx).r2 b⟩
  · rcases sgc hd with rfl | rfl
    · rcases sgc he with rfl | rfl
      · exact ⟨[2 * x, 2 * (x + 1)], 2 * x + 1, pR e0 g1 (pR e2 hx rfl), e1, fun β f a b => (a.bd hx).iv.r2 b⟩
      · exact ⟨[2 * x, 2 * (x + 1), 2 * (x + 1), 2 * x + 1, 2 * x + 1, 2 * (x + 1) + 1], 2 * x + 1, pR e0 g1 (pR e2 hx (pL e2 (by omega) (pL e1 hm (pR e1 g1 (pR e3 hx rfl))))), e1, fun β f a b => (a.bd hx).iv.r4 b⟩
    · rcases sgc he with rfl | rfl
      · exact ⟨[2 * x, 2 * (x + 1) + 1], 2 * x + 1, pR e0 g1 (pR e3 hx rfl), e1, fun β f a b => (a.bd hx).iv.r3 b⟩
      · exact ⟨[2 * x + 1, 2 * (x + 1) + 1], 2 * x + 1, pR e1 g1 (pR e3 hx rfl), e1, fun β f a b => ((a.bd hx).2.2.2.2.2 b).symm⟩
theorem bLL {c d e x : Nat} (hx : x + 2 < N) (hm : m ≤ x) (hc : c / 2 = x) (hd : d / 2 = x + 1) (he : e / 2 = x) : ∃ Q c', isPath m N Q (x + 2) x ∧ c' / 2 = x + 1 ∧ Eqw N [c, d, e] (Q ++ [c']) := by
  have e0 : (2 * x) / 2 = x := by omega
  have e1 : (2 * x + 1) / 2 = x := by omega
  have e2 : (2 * (x + 1)) / 2 = x + 1 := by omega
  have e3 : (2 * (x + 1) + 1) / 2 = x + 1 := by omega
  have g1 : x + 1 < N := by omega
  have g2 : m ≤ x + 1 := by omega
  rcases sgc hc with rfl | rfl
  · rcases sgc hd with rfl | rfl
    · rcases sgc he with rfl | rfl
      · exact ⟨[2 * (x + 1), 2 * x], 2 * (x + 1), pL e2 g2 (pL e0 hm rfl), e2, fun β f a b => (a.bd hx).2.2.2.2.1 b⟩
      · exact ⟨[2 * (x + 1) + 1, 2 * x], 2 * (x + 1), pL e3 g2 (pL e0 hm rfl), e2, fun β f a b => (a.bd hx).sw.r3 b⟩
    · rcases sgc he with rfl | rfl
      · exact ⟨[2 * (x + 1) + 1, 2 * x + 1, 2 * x + 1, 2 * (x + 1), 2 * (x + 1), 2 * x], 2 * (x + 1), pL e3 g2 (pL e1 hm (pR e1 g1 (pR e2 hx (pL e2 g2 (pL e0 hm rfl))))), e2, fun β f a b => (a.bd hx).sw.r4 b⟩
      · exact ⟨[2 * (x + 1) + 1, 2 * x + 1], 2 * (x + 1), pL e3 g2 (pL e1 hm rfl), e2, fun β f a b => (a.bd hx).sw.r2 b⟩
  · rcases sgc hd with rfl | rfl
    · rcases sgc he with rfl | rfl
      · exact ⟨[2 * (x + 1), 2 * x], 2 * (x + 1) + 1, pL e2 g2 (pL e0 hm rfl), e3, fun β f a b => (a.bd hx).sw.iv.r2 b⟩
      · exact ⟨[2 * (x + 1), 2 * x, 2 * x, 2 * (x + 1) + 1, 2 * (x + 1) + 1, 2 * x + 1], 2 * (x + 1) + 1, pL e2 g2 (pL e0 hm (pR e0 g1 (pR e3 hx (pL e3 g2 (pL e1 hm rfl))))), e3, fun β f a b => (a.bd hx).sw.iv.r4 b⟩
    · rcases sgc he with rfl | rfl
      · exact ⟨[2 * (x + 1), 2 * x + 1], 2 * (x + 1) + 1, pL e2 g2 (pL e1 hm rfl), e3, fun β f a b => (a.bd hx).sw.iv.r3 b⟩
      · exact ⟨[2 * (x + 1) + 1, 2 * x + 1], 2 * (x + 1) + 1, pL e3 g2 (pL e1 hm rfl), e3, fun β f a b => (a.bd hx).2.2.2.2.2 b⟩
theorem bRL {c d e x : Nat} (hx : x + 2 < N) (hm : m ≤ x) (hc : c / 2 = x + 1) (hd : d / 2 = x) (he : e / 2 = x) : ∃ Q, isPath m N Q x x ∧ Eqw N [c, d, e] (Q ++ [c]) := by
  have e0 : (2 * x) / 2 = x := by omega
  have e1 : (2 * x + 1) / 2 = x := by omega
  have e2 : (2 * (x + 1)) / 2 = x + 1 := by omega
  have e3 : (2 * (x + 1) + 1) / 2 = x + 1 := by omega
  have g1 : x + 1 < N := by omega
  have g2 : m ≤ x + 1 := by omega
  rcases sgc hd with rfl | rfl
  · rcases sgc he with rfl | rfl
    · rcases sgc hc with rfl | rfl
      · exact ⟨[2 * x + 1, 2 * (x + 1), 2 * (x + 1), 2 * x], pR e1 g1 (pR e2 hx (pL e2 g2 (pL e0 hm rfl))), fun β f a b => (a.bd hx).l1 b⟩
      · exact ⟨[2 * x, 2 * (x + 1), 2 * (x + 1), 2 * x + 1], pR e0 g1 (pR e2 hx (pL e2 g2 (pL e1 hm rfl))), fun β f a b => (a.bd hx).iv.l2 b⟩
    · exact ⟨[], rfl, fun β f a b => (a.bd hx).1 _⟩
  · rcases sgc he with rfl | rfl
    · exact ⟨[], rfl, fun β f a b => (a.bd hx).2.1 _⟩
    · rcases sgc hc with rfl | rfl
      · exact ⟨[2 * x + 1, 2 * (x + 1) + 1, 2 * (x + 1) + 1, 2 * x], pR e1 g1 (pR e3 hx (pL e3 g2 (pL e0 hm rfl))), fun β f a b => (a.bd hx).l2 b⟩
      · exact ⟨[2 * x, 2 * (x + 1) + 1, 2 * (x + 1) + 1, 2 * x + 1], pR e0 g1 (pR e3 hx (pL e3 g2 (pL e1 hm rfl))), fun β f a b => (a.bd hx).iv.l1 b⟩
theorem bLR {c d e x : Nat} (hx : x + 2 < N) (hm : m ≤ x) (hc : c / 2 = x) (hd : d / 2 = x + 1) (he : e / 2 = x + 1) : ∃ Q, isPath m N Q (x + 2) (x + 2) ∧ Eqw N [c, d, e] (Q ++ [c]) := by
  have e0 : (2 * x) / 2 = x := by omega
  have e1 : (2 * x + 1) / 2 = x := by omega
  have e2 : (2 * (x + 1)) / 2 = x + 1 := by omega
  have e3 : (2 * (x + 1) + 1) / 2 = x + 1 := by omega
  have g1 : x + 1 < N := by omega
  have g2 : m ≤ x + 1 := by omega
  rcases sgc hd with rfl | rfl
  · rcases sgc he with rfl | rfl
    · rcases sgc hc with rfl | rfl
      · exact ⟨[2 * (x + 1) + 1, 2 * x, 2 * x, 2 * (x + 1)], pL e3 g2 (pL e0 hm (pR e0 g1 (pR e2 hx rfl))), fun β f a b => (a.bd hx).sw.l1 b⟩
      · exact ⟨[2 * (x + 1), 2 * x, 2 * x, 2 * (x + 1) + 1], pL e2 g2 (pL e0 hm (pR e0 g1 (pR e3 hx rfl))), fun β f a b => (a.bd hx).sw.iv.l2 b⟩
    · exact ⟨[], rfl, fun β f a b => (a.bd hx).2.2.1 _⟩
  · rcases sgc he with rfl | rfl
    · exact ⟨[], rfl, fun β f a b => (a.bd hx).2.2.2.1 _⟩
    · rcases sgc hc with rfl | rfl
      · exact ⟨[2 * (x + 1) + 1, 2 * x + 1, 2 * x + 1, 2 * (x + 1)], pL e3 g2 (pL e1 hm (pR e1 g1 (pR e2 hx rfl))), fun β f a b => (a.bd hx).sw.l2 b⟩
      · exact ⟨[2 * (x + 1), 2 * x + 1, 2 * x + 1, 2 * (x + 1) + 1], pL e2 g2 (pL e1 hm (pR e1 g1 (pR e3 hx rfl))), fun β f a b => (a.bd hx).sw.iv.l1 b⟩
/-- a letter that doesn't touch the strand goes behind its way -/
theorem push : ∀ (k : Nat) (P : List Nat), P.length ≤ k → ∀ p c, isPath m N P p m → m ≤ p → p < N → m ≤ c / 2 → c / 2 + 1 < N → p ≠ c / 2 → p ≠ c / 2 + 1 → ∃ P' c', isPath m N P' p m ∧ m + 1 ≤ c' / 2 ∧ c' / 2 + 1 < N ∧ Eqw N (c :: P) (P' ++ [c'])
  | k, [], _, p, c, h, h1, hp, h2, h3, h4, h5 => by
    have h : p = m := h
    exact ⟨[], c, h, by omega, h3, Eqw.rfl1 _⟩
  | 0, d :: P, hk, p, c, h, h1, hp, h2, h3, h4, h5 => by simp at hk
  | k + 1, d :: P, hk, p, c, h, h1, hp, h2, h3, h4, h5 => by
    have hk : P.length ≤ k := by simpa using hk
    rcases h with ⟨d1, d2, d3⟩ | ⟨d1, d2, d3⟩
    · by_cases g : p + 1 = c / 2
      · cases P with
        | nil =>
          have d3 : p + 1 = m := d3
          omega
        | cons e P =>
          have hk2 : P.length ≤ k := by simp at hk; omega
          rcases d3 with ⟨a1, a2, a3⟩ | ⟨a1, a2, a3⟩
          · obtain ⟨Q, c2, b1, b2, b3⟩ := bRR (N := N) (m := m) (c := c) (d := d) (e := e) (x := p) (by omega) h1 (by omega) d1 a1
            obtain ⟨P', c', i1, i2, i3, i4⟩ := push k P hk2 (p + 1 + 1) c2 a3 (by omega) (by omega) (by omega) (by omega) (by omega) (by omega)
            refine ⟨Q ++ P', c', pa_app b1 i1, i2, i3, ?_⟩
            have z := (b3.app (Eqw.rfl1 P)).tr (by rw [List.append_assoc]; exact (Eqw.rfl1 Q).app i4)
            rw [List.append_assoc]
            exact z
          · obtain ⟨Q, b1, b3⟩ := bRL (N := N) (m := m) (c := c) (d := d) (e := e) (x := p) (by omega) h1 (by omega) d1 (by omega)
            have a3 : isPath m N P p m := by
              rw [show e / 2 = p by omega] at a3
              exact a3
            obtain ⟨P', c', i1, i2, i3, i4⟩ := push k P hk2 p c a3 h1 hp h2 h3 h4 h5
            refine ⟨Q ++ P', c', pa_app b1 i1, i2, i3, ?_⟩
            have z := (b3.app (Eqw.rfl1 P)).tr (by rw [List.append_assoc]; exact (Eqw.rfl1 Q).app i4)
            rw [List.append_assoc]
            exact z
      · obtain ⟨P', c', i1, i2, i3, i4⟩ := push k P hk (p + 1) c d3 (by omega) d2 h2 h3 (by omega) (by omega)
        exact ⟨d :: P', c', pR d1 d2 i1, i2, i3, (Eqw.far (by omega) h3 (by omega) P).tr (i4.cons d)⟩
    · by_cases g : d / 2 = c / 2 + 1
      · cases P with
        | nil =>
          have d3 : d / 2 = m := d3
          omega
        | cons e P =>
          have hk2 : P.length ≤ k := by simp at hk; omega
          have ep : p = c / 2 + 2 := by omega
          rcases d3 with ⟨a1, a2, a3⟩ | ⟨a1, a2, a3⟩
          · obtain ⟨Q, b1, b3⟩ := bLR (N := N) (m := m) (c := c) (d := d) (e := e) (x := c / 2) (by omega) h2 rfl (by omega) (by omega)
            have a3 : isPath m N P p m := by
              rw [show d / 2 + 1 = p by omega] at a3
              exact a3
            obtain ⟨P', c', i1, i2, i3, i4⟩ := push k P hk2 p c a3 h1 hp h2 h3 h4 h5
            rw [← ep] at b1
            refine ⟨Q ++ P', c', pa_app b1 i1, i2, i3, ?_⟩
            have z := (b3.app (Eqw.rfl1 P)).tr (by rw [List.append_assoc]; exact (Eqw.rfl1 Q).app i4)
            rw [List.append_assoc]
            exact z
          · obtain ⟨Q, c2, b1, b2, b3⟩ := bLL (N := N) (m := m) (c := c) (d := d) (e := e) (x := c / 2) (by omega) h2 rfl (by omega) (by omega)
            have a3 : isPath m N P (c / 2) m := by
              rw [show e / 2 = c / 2 by omega] at a3
              exact a3
            obtain ⟨P', c', i1, i2, i3, i4⟩ := push k P hk2 (c / 2) c2 a3 (by omega) (by omega) (by omega) (by omega) (by omega) (by omega)
            rw [← ep] at b1
            refine ⟨Q ++ P', c', pa_app b1 i1, i2, i3, ?_⟩
            have z := (b3.app (Eqw.rfl1 P)).tr (by rw [List.append_assoc]; exact (Eqw.rfl1 Q).app i4)
            rw [List.append_assoc]
            exact z
      · obtain ⟨P', c', i1, i2, i3, i4⟩ := push k P hk (d / 2) c d3 d2 (by omega) h2 h3 (by omega) (by omega)
        exact ⟨d :: P', c', Or.inr ⟨d1, d2, i1⟩, i2, i3, (Eqw.far (by omega) h3 (by omega) P).tr (i4.cons d)⟩
def vw (m N : Nat) (w : List Nat) : Prop := ∀ c, c ∈ w → m ≤ c / 2 ∧ c / 2 + 1 < N
/-- every word is a strand's way to the first place, and a word behind it that leaves that place alone -/
theorem comb : ∀ (w : List Nat), vw m N w → m < N → ∃ p P v, m ≤ p ∧ p < N ∧ isPath m N P p m ∧ vw (m + 1) N v ∧ Eqw N w (P ++ v)
  | [], _, hm => ⟨m, [], [], Nat.le_refl m, hm, rfl, fun c h => by simp at h, Eqw.rfl1 _⟩
  | c :: w, hw, hm => by
    obtain ⟨p, P, v, a1, a2, a3, a4, a5⟩ := comb w (fun d h => hw d (List.mem_cons_of_mem c h)) hm
    obtain ⟨c1, c2⟩ := hw c (List.mem_cons_self ..)
    by_cases g : p = c / 2
    · exact ⟨p + 1, c :: P, v, by omega, by omega, pL g.symm (by omega) a3, a4, a5.cons c⟩
    · by_cases g2 : p = c / 2 + 1
      · exact ⟨c / 2, c :: P, v, c1, by omega, pR rfl c2 (by rw [← g2]; exact a3), a4, a5.cons c⟩
      · obtain ⟨P', c', i1, i2, i3, i4⟩ := push P.length P (Nat.le_refl _) p c a3 a1 a2 c1 c2 g g2
        refine ⟨p, P', c' :: v, a1, a2, i1, fun d hd => ?_, ?_⟩
        · rcases List.mem_cons.mp hd with rfl | hd
          · exact ⟨i2, i3⟩
          · exact a4 d hd
        · have z := (a5.cons c).tr (i4.app (Eqw.rfl1 v))
          rw [List.append_assoc] at z
          exact z
/-- a way without steps there and back -/
def isRed : List Nat → Prop
  | [] => True
  | [_] => True
  | c :: d :: w => (c / 2 = d / 2 → c = d) ∧ isRed (d :: w)
theorem isRed.tl {c : Nat} : ∀ {w : List Nat}, isRed (c :: w) → isRed w
  | [], _ => trivial
  | _ :: _, h => h.2
theorem reduce : ∀ (P : List Nat) (p q : Nat), isPath m N P p q → p < N → ∃ P', isPath m N P' p q ∧ isRed P' ∧ Eqw N P P'
  | [], p, q, h, _ => ⟨[], h, trivial, Eqw.rfl1 _⟩
  | c :: P, p, q, h, hp => by
    have hc : c / 2 + 1 < N := by
      rcases h with ⟨h1, h2, h3⟩ | ⟨h1, h2, h3⟩
      · omega
      · omega
    obtain ⟨P', a1, a2, a3⟩ : ∃ P', (∃ p', p' < N ∧ isPath m N P' p' q ∧ ((c / 2 = p ∧ p + 1 < N ∧ p' = p + 1) ∨ (c / 2 + 1 = p ∧ m ≤ c / 2 ∧ p' = c / 2))) ∧ isRed P' ∧ Eqw N P P' := by
      rcases h with ⟨h1, h2, h3⟩ | ⟨h1, h2, h3⟩
      · obtain ⟨P', a1, a2, a3⟩ := reduce P (p + 1) q h3 h2
        exact ⟨P', ⟨p + 1, h2, a1, Or.inl ⟨h1, h2, rfl⟩⟩, a2, a3⟩
      · obtain ⟨P', a1, a2, a3⟩ := reduce P (c / 2) q h3 (by omega)
        exact ⟨P', ⟨c / 2, by omega, a1, Or.inr ⟨h1, h2, rfl⟩⟩, a2, a3⟩
    obtain ⟨p', hp', a1, a4⟩ := a1
    have keep : isPath m N (c :: P') p q := by
      rcases a4 with ⟨h1, h2, h3⟩ | ⟨h1, h2, h3⟩
      · exact Or.inl ⟨h1, h2, by rw [← h3]; exact a1⟩
      · exact Or.inr ⟨h1, h2, by rw [← h3]; exact a1⟩
    cases P' with
    | nil => exact ⟨[c], keep, trivial, a3.cons c⟩
    | cons d P2 =>
      by_cases g : c / 2 = d / 2 → c = d
      · exact ⟨c :: d :: P2, keep, ⟨g, a2⟩, a3.cons c⟩
      · have g1 : c / 2 = d / 2 := Classical.byContradiction (fun z => g (fun e => absurd e z))
        have g2 : ¬ c = d := fun e => g (fun _ => e)
        have e := ivc_of g1 g2
        subst e
        refine ⟨P2, ?_, a2.tl, fun β f a b => ?_⟩
        · rw [ivc_2] at g1
          rcases a1 with ⟨b1, b2, b3⟩ | ⟨b1, b2, b3⟩
          · rw [ivc_2] at b1
            rcases a4 with ⟨h1, h2, h3⟩ | ⟨h1, h2, h3⟩
            · omega
            · rw [show p' + 1 = p by omega] at b3
              exact b3
          · rw [ivc_2] at b1 b3
            rcases a4 with ⟨h1, h2, h3⟩ | ⟨h1, h2, h3⟩
            · rw [h1] at b3
              exact b3
            · omega
        · rw [(a3.cons c) β f a b]
          show rn f P2 (f (ivc c) (f c b)) = rn f P2 b
          rw [a.undo hc]
end PU
