/-! THE STATES OF A FORM, UP TO STEPS: a place where the letters are moves that keep the plaits' rules -/
abbrev FS : Type := Int × SQ × Nat
def okF (N : Nat) (b : FS) : Prop := okS N b.2.1 ∧ su b.2.2 b.2.1
def qp (F : SQ) (r : Nat) (x : PM) : SQ := fun k => if k = r then x else F k
/-- a letter comes behind -/
def psh (N c : Nat) (b : FS) : FS := if c / 2 + 1 < N then (if c % 2 = 0 then (b.1, qp b.2.1 b.2.2 (pV (c / 2) idP), b.2.2 + 1) else (b.1 - 1, qp (fun k => fl N (b.2.1 k)) b.2.2 (pV (c / 2) (dP N)), b.2.2 + 1)) else b
section QF
variable {N : Nat} {b : FS}
theorem qp_r {F : SQ} {r : Nat} {x : PM} : qp F r x r = x := if_pos rfl
theorem qp_o {F : SQ} {r k : Nat} {x : PM} (h : k ≠ r) : qp F r x k = F k := if_neg h
theorem psh_ok (c : Nat) (h : okF N b) : okF N (psh N c b) := by
  unfold psh
  by_cases q : c / 2 + 1 < N
  · rw [if_pos q]
    by_cases q2 : c % 2 = 0
    · rw [if_pos q2]
      refine ⟨fun k => ?_, fun k hk => ?_⟩
      · show isPm N (qp b.2.1 b.2.2 _ k)
        unfold qp
        split
        · exact (isPm_id N).V q
        · exact h.1 k
      · have hk : b.2.2 + 1 ≤ k := hk
        show qp b.2.1 b.2.2 _ k = _
        rw [qp_o (by omega)]
        exact h.2 k (by omega)
    · rw [if_neg q2]
      refine ⟨fun k => ?_, fun k hk => ?_⟩
      · show isPm N (qp _ b.2.2 _ k)
        unfold qp
        split
        · exact (isPm_d N).V q
        · exact (h.1 k).f
      · have hk : b.2.2 + 1 ≤ k := hk
        show qp (fun k => fl N (b.2.1 k)) b.2.2 (pV (c / 2) (dP N)) k = idP
        rw [qp_o (by omega), h.2 k (by omega), fl_id]
  · rw [if_neg q]
    exact h
abbrev FO (N : Nat) : Type := {b : FS // okF N b}
def stp (N : Nat) (x y : FO N) : Prop := (∃ k p, mvd N x.1.2.1 k p ∧ y.1 = (x.1.1, mvt x.1.2.1 k p, x.1.2.2)) ∨ (x.1.2.1 0 = dP N ∧ 0 < x.1.2.2 ∧ y.1 = (x.1.1 + 1, fun k => x.1.2.1 (k + 1), x.1.2.2 - 1)) ∨ y.1 = (x.1.1, x.1.2.1, x.1.2.2 + 1)
abbrev QF (N : Nat) : Type := Quot (stp N)
def qmk (N : Nat) (b : FS) (h : okF N b) : QF N := Quot.mk _ ⟨b, h⟩
theorem qmk_cg {b' : FS} {h : okF N b} {h' : okF N b'} (e : b = b') : qmk N b h = qmk N b' h' := by
  subst e
  rfl
theorem qmk_rd {r : Nat} {f : Int} : ∀ {m : Nat} {F G : SQ} (h : okF N (f, F, r)) (_ : Rd N m F G) (h' : okF N (f, G, r)), qmk N (f, F, r) h = qmk N (f, G, r) h'
  | 0, F, G, h, a, h' => qmk_cg (by rw [show F = G from a])
  | m + 1, F, G, h, a, h' => by
    obtain ⟨k, p, a1, a2⟩ := a
    have o : okF N (f, mvt F k p, r) := ⟨h.1.mv a1.1 k, h.2.mv a1⟩
    exact (Quot.sound (r := stp N) (Or.inl ⟨k, p, a1, rfl⟩) : qmk N (f, F, r) h = qmk N (f, mvt F k p, r) o).trans (qmk_rd o a2 h')
theorem qmk_pad {f : Int} {F : SQ} {r : Nat} (h : okF N (f, F, r)) (h' : okF N (f, F, r + 1)) : qmk N (f, F, r) h = qmk N (f, F, r + 1) h' := Quot.sound (r := stp N) (Or.inr (Or.inr rfl))
theorem qmk_half {f : Int} {F : SQ} {r : Nat} (h : okF N (f, F, r + 1)) (e : F 0 = dP N) (h' : okF N (f + 1, fun k => F (k + 1), r)) : qmk N (f, F, r + 1) h = qmk N (f + 1, fun k => F (k + 1), r) h' := Quot.sound (r := stp N) (Or.inr (Or.inl ⟨e, Nat.succ_pos r, rfl⟩))
theorem su_up {F : SQ} {r : Nat} (h : su r F) : su (r + 1) F := fun k hk => h k (by omega)
theorem su_dn {F : SQ} {r : Nat} (h : su (r + 1) F) : su r (fun k => F (k + 1)) := fun k hk => h (k + 1) (by omega)
/-- steps stay steps with more behind, and seen from behind -/
theorem mvd_qp {F : SQ} {k p r : Nat} {x : PM} (a : mvd N F k p) (h : k + 1 < r) : mvd N (qp F r x) k p ∧ mvt (qp F r x) k p = qp (mvt F k p) r x := by
  refine ⟨⟨a.1, ?_, ?_⟩, ?_⟩
  · rw [qp_o (by omega)]
    exact a.2.1
  · rw [qp_o (by omega)]
    exact a.2.2
  · funext j
    by_cases q : j = r
    · subst q
      rw [mvt_o (by omega) (by omega), qp_r, qp_r]
    · by_cases q1 : j = k
      · subst q1
        rw [mvt_k, qp_o (by omega), qp_o (by omega), mvt_k]
      · by_cases q2 : j = k + 1
        · subst q2
          rw [mvt_k1, qp_o (by omega), qp_o (by omega), mvt_k1]
        · rw [mvt_o q1 q2, qp_o q, qp_o q, mvt_o q1 q2]
theorem mvd_fl {F : SQ} {k p : Nat} (ho : okS N F) (a : mvd N F k p) : mvd N (fun j => fl N (F j)) k (N - 2 - p) ∧ mvt (fun j => fl N (F j)) k (N - 2 - p) = fun j => fl N (mvt F k p j) := by
  have h1 := a.1
  refine ⟨⟨by omega, (pB_fl (ho _) a.1).mpr a.2.1, fun q => a.2.2 ((pE_fl (ho _) a.1).mp q)⟩, ?_⟩
  funext j
  unfold mvt
  by_cases q : j = k
  · rw [if_pos q, if_pos q, fl_V a.1]
  · rw [if_neg q, if_neg q]
    by_cases q2 : j = k + 1
    · rw [if_pos q2, if_pos q2, fl_W a.1]
    · rw [if_neg q2, if_neg q2]
theorem qp_shift {F : SQ} {r : Nat} {x : PM} : (fun k => qp F (r + 1) x (k + 1)) = qp (fun k => F (k + 1)) r x := by
  funext k
  unfold qp
  by_cases q : k = r
  · rw [if_pos q, if_pos (by omega)]
  · rw [if_neg q, if_neg (by omega)]
def pshO (N c : Nat) (x : FO N) : FO N := ⟨psh N c x.1, psh_ok c x.2⟩
theorem okS.q {F : SQ} {r : Nat} {x : PM} (h : okS N F) (hx : isPm N x) : okS N (qp F r x) := fun k => by
  unfold qp
  split
  · exact hx
  · exact h k
theorem su.q {F : SQ} {r : Nat} {x : PM} (h : su r F) : su (r + 1) (qp F r x) := fun k hk => by
  rw [qp_o (by omega)]
  exact h k (by omega)
theorem okS.f {F : SQ} (h : okS N F) : okS N (fun k => fl N (F k)) := fun k => (h k).f
theorem su.f {F : SQ} {r : Nat} (h : su r F) : su r (fun k => fl N (F k)) := fun k hk => by
  show fl N (F k) = idP
  rw [h k hk, fl_id]
/-- a factor comes behind a row with a free place: the same as right behind it -/
theorem qmk_late (hN : N ≤ 6) {f : Int} {F : SQ} {r : Nat} {x : PM} (ho : okS N F) (hs : su r F) (hx : isPm N x) (h : okF N (f, qp F r x, r + 1)) (h' : okF N (f, qp F (r + 1) x, r + 1 + 1)) : qmk N (f, qp F r x, r + 1) h = qmk N (f, qp F (r + 1) x, r + 1 + 1) h' := by
  obtain ⟨G, m, a, g1, g2, g3⟩ := tl_none (k := r) (F := qp F (r + 1) x) hN (ho.q hx) (by rw [qp_o (by omega)]; exact hs r (Nat.le_refl r))
  have e : G = qp F r x := by
    funext k
    by_cases q : k = r
    · rw [q, g2, qp_r, qp_r]
    · by_cases q2 : k = r + 1
      · rw [q2, g3, qp_o (by omega)]
        exact (hs (r + 1) (by omega)).symm
      · rw [g1 k q q2, qp_o q2, qp_o q]
  subst e
  have h2 : okF N (f, qp F r x, r + 1 + 1) := ⟨h.1, su_up h.2⟩
  rw [qmk_pad h h2, qmk_rd h' a h2]
theorem psh_stp (hN : N ≤ 6) (c : Nat) (x y : FO N) (e : stp N x y) : (Quot.mk _ (pshO N c x) : QF N) = Quot.mk _ (pshO N c y) := by
  obtain ⟨⟨f, F, r⟩, h⟩ := x
  obtain ⟨y', h'⟩ := y
  show qmk N (psh N c (f, F, r)) _ = qmk N (psh N c y') _
  by_cases q : c / 2 + 1 < N
  · have V1 := (isPm_id N).V q
    have V2 := (isPm_d N).V q
    rcases e with ⟨k, p, a, e⟩ | ⟨e1, e2, e⟩ | e
    · have e : y' = (f, mvt F k p, r) := e
      subst e
      have hk := su_mv h.2 a
      by_cases q2 : c % 2 = 0
      · obtain ⟨b1, b2⟩ := mvd_qp (x := pV (c / 2) idP) a hk
        have g := qmk_rd (N := N) (f := f) (r := r + 1) (F := qp F r (pV (c / 2) idP)) ⟨h.1.q V1, su.q h.2⟩ (Rd_one b1) (by rw [b2]; exact ⟨h'.1.q V1, su.q h'.2⟩)
        refine (qmk_cg ?_).trans (g.trans (qmk_cg ?_))
        · unfold psh
          rw [if_pos q, if_pos q2]
        · unfold psh
          rw [if_pos q, if_pos q2, b2]
      · obtain ⟨c1, c2⟩ := mvd_fl h.1 a
        obtain ⟨b1, b2⟩ := mvd_qp (x := pV (c / 2) (dP N)) c1 hk
        rw [c2] at b2
        have g := qmk_rd (N := N) (f := f - 1) (r := r + 1) (F := qp (fun k => fl N (F k)) r (pV (c / 2) (dP N))) ⟨h.1.f.q V2, su.q h.2.f⟩ (Rd_one b1) (by rw [b2]; exact ⟨h'.1.f.q V2, su.q h'.2.f⟩)
        refine (qmk_cg ?_).trans (g.trans (qmk_cg ?_))
        · unfold psh
          rw [if_pos q, if_neg q2]
        · unfold psh
          rw [if_pos q, if_neg q2, b2]
    · obtain ⟨r, rfl⟩ : ∃ r0, r = r0 + 1 := ⟨r - 1, by have e2 : 0 < r := e2; omega⟩
      have e : y' = (f + 1, fun k => F (k + 1), r) := e
      subst e
      have e1 : F 0 = dP N := e1
      by_cases q2 : c % 2 = 0
      · have g := qmk_half (N := N) (f := f) (F := qp F (r + 1) (pV (c / 2) idP)) (r := r + 1) ⟨h.1.q V1, su.q h.2⟩ (by rw [qp_o (by omega)]; exact e1) (by rw [qp_shift]; exact ⟨h'.1.q V1, su.q h'.2⟩)
        refine (qmk_cg ?_).trans (g.trans (qmk_cg ?_))
        · unfold psh
          rw [if_pos q, if_pos q2]
        · unfold psh
          rw [if_pos q, if_pos q2, qp_shift]
      · have g := qmk_half (N := N) (f := f - 1) (F := qp (fun k => fl N (F k)) (r + 1) (pV (c / 2) (dP N))) (r := r + 1) ⟨h.1.f.q V2, su.q h.2.f⟩ (by rw [qp_o (by omega), e1, fl_d]) (by rw [qp_shift]; exact ⟨h'.1.f.q V2, su.q h'.2.f⟩)
        refine (qmk_cg ?_).trans (g.trans (qmk_cg ?_))
        · unfold psh
          rw [if_pos q, if_neg q2]
        · unfold psh
          rw [if_pos q, if_neg q2, qp_shift]
          show (f - 1 + 1, _, _) = (f + 1 - 1, _, _)
          rw [show f - 1 + 1 = f + 1 - 1 by omega]
    · have e : y' = (f, F, r + 1) := e
      subst e
      by_cases q2 : c % 2 = 0
      · have g := qmk_late (N := N) hN (f := f) h.1 h.2 V1 ⟨h.1.q V1, su.q h.2⟩ ⟨h.1.q V1, su.q h'.2⟩
        refine (qmk_cg ?_).trans (g.trans (qmk_cg ?_))
        · unfold psh
          rw [if_pos q, if_pos q2]
        · unfold psh
          rw [if_pos q, if_pos q2]
      · have g := qmk_late (N := N) hN (f := f - 1) h.1.f h.2.f V2 ⟨h.1.f.q V2, su.q h.2.f⟩ ⟨h.1.f.q V2, su.q h'.2.f⟩
        refine (qmk_cg ?_).trans (g.trans (qmk_cg ?_))
        · unfold psh
          rw [if_pos q, if_neg q2]
        · unfold psh
          rw [if_pos q, if_neg q2]
  · refine (qmk_cg ?_).trans ((Quot.sound e : qmk N (f, F, r) h = qmk N y' h').trans (qmk_cg ?_))
    · unfold psh
      rw [if_neg q]
    · unfold psh
      rw [if_neg q]
/-- a letter, up to steps -/
def qf (N : Nat) (hN : N ≤ 6) (c : Nat) : QF N → QF N := Quot.lift (fun x => (Quot.mk _ (pshO N c x) : QF N)) (psh_stp hN c)
theorem qf_mk (hN : N ≤ 6) (c : Nat) (h : okF N b) : qf N hN c (qmk N b h) = qmk N (psh N c b) (psh_ok c h) := rfl
end QF
