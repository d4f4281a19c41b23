/-! THE PLAITS' RULES; the forms keep them; which forms are that of nothing -/
def Act (N : Nat) (β : Type) (f : Nat → β → β) : Prop := (∀ p, p + 1 < N → ∀ b, f (2 * p + 1) (f (2 * p) b) = b) ∧ (∀ p, p + 1 < N → ∀ b, f (2 * p) (f (2 * p + 1) b) = b) ∧ (∀ p q, p + 1 < q → q + 1 < N → ∀ b, f (2 * p) (f (2 * q) b) = f (2 * q) (f (2 * p) b)) ∧ ∀ p, p + 2 < N → ∀ b, f (2 * p) (f (2 * (p + 1)) (f (2 * p) b)) = f (2 * (p + 1)) (f (2 * p) (f (2 * (p + 1)) b))
section QA
variable {N : Nat}
theorem psh_even {p r : Nat} {h : Int} {F : SQ} (hp : p + 1 < N) : psh N (2 * p) (h, F, r) = (h, qp F r (pV p idP), r + 1) := by
  unfold psh
  rw [show 2 * p / 2 = p by omega, if_pos hp, if_pos (by omega)]
theorem psh_odd {p r : Nat} {h : Int} {F : SQ} (hp : p + 1 < N) : psh N (2 * p + 1) (h, F, r) = (h - 1, qp (fun k => fl N (F k)) r (pV p (dP N)), r + 1) := by
  unfold psh
  rw [show (2 * p + 1) / 2 = p by omega, if_pos hp, if_neg (by omega)]
theorem qf_even (hN : N ≤ 6) {p r : Nat} {h : Int} {F : SQ} (hp : p + 1 < N) (o : okF N (h, F, r)) (o' : okF N (h, qp F r (pV p idP), r + 1)) : qf N hN (2 * p) (qmk N (h, F, r) o) = qmk N (h, qp F r (pV p idP), r + 1) o' := (qf_mk hN _ o).trans (qmk_cg (psh_even hp))
theorem qf_odd (hN : N ≤ 6) {p r : Nat} {h : Int} {F : SQ} (hp : p + 1 < N) (o : okF N (h, F, r)) (o' : okF N (h - 1, qp (fun k => fl N (F k)) r (pV p (dP N)), r + 1)) : qf N hN (2 * p + 1) (qmk N (h, F, r) o) = qmk N (h - 1, qp (fun k => fl N (F k)) r (pV p (dP N)), r + 1) o' := (qf_mk hN _ o).trans (qmk_cg (psh_odd hp))
theorem qf_merge (hN : N ≤ 6) {p r : Nat} {h : Int} {F : SQ} {x : PM} (hp : p + 1 < N) (ho : okS N F) (hs : su r F) (hx : isPm N x) (e : ¬ pE x p) (o : okF N (h, qp F r x, r + 1)) (o' : okF N (h, qp F r (pV p x), r + 1)) : qf N hN (2 * p) (qmk N (h, qp F r x, r + 1) o) = qmk N (h, qp F r (pV p x), r + 1) o' := by
  have o1 : okF N (h, qp (qp F r x) (r + 1) (pV p idP), r + 1 + 1) := ⟨(ho.q hx).q ((isPm_id N).V hp), su.q (su.q hs)⟩
  have a : mvd N (qp (qp F r x) (r + 1) (pV p idP)) r p := by
    refine ⟨hp, ?_, ?_⟩
    · rw [qp_r]
      show gt p (p + 1) < gt p p
      rw [gt_l, gt_r]
      omega
    · rw [qp_o (by omega), qp_r]
      exact e
  have g : mvt (qp (qp F r x) (r + 1) (pV p idP)) r p = qp F r (pV p x) := by
    funext j
    unfold mvt
    by_cases q : j = r
    · subst q
      rw [if_pos rfl, qp_r, qp_o (by omega), qp_r]
    · rw [if_neg q, qp_o q]
      by_cases q2 : j = r + 1
      · subst q2
        rw [if_pos rfl, qp_r, hs _ (by omega)]
        show pW p (pW p idP) = idP
        rw [pW_W]
      · rw [if_neg q2, qp_o q2, qp_o q]
  have o2 : okF N (h, qp F r (pV p x), r + 1 + 1) := ⟨ho.q (hx.V hp), su_up (su.q hs)⟩
  have g2 := qmk_rd o1 (Rd_one a) (by rw [g]; exact o2)
  rw [qf_even hN hp o o1, g2, qmk_pad o' o2]
  exact qmk_cg (by rw [g])
theorem qmk_turn (hN : N ≤ 6) {r : Nat} {h : Int} {F X : SQ} (ho : okS N F) (hs : su r F) (o : okF N (h - 1, X, r + 1 + 1)) (h1 : ∀ j, j < r → X j = fl N (F j)) (h2 : ∀ i j, i < j → j < N → (X r).2 i < (X r).2 j → (X (r + 1)).1 j < (X (r + 1)).1 i) (h3 : ∀ i, (X (r + 1)).1 ((X r).1 i) = dl N i) (oF : okF N (h, F, r)) : qmk N (h - 1, X, r + 1 + 1) o = qmk N (h, F, r) oF := by
  have oX : okS N X := o.1
  have sX : su (r + 1 + 1) X := o.2
  obtain ⟨G, m, a, g1, g2, g3⟩ := tl_full hN oX h2
  have og := Rd_ok a oX
  have e : G (r + 1) = idP := pm_ext (og _) (isPm_id N) (fun i => by
    have := g3 (dl N i)
    rw [dl_dl, h3, dl_dl] at this
    exact this)
  obtain ⟨m', b⟩ := tl_front hN r G og g2
  have c := Rd_trans a b
  have oH := Rd_ok c oX
  have sH := Rd_su c sX
  have o4 : okF N (h - 1, fun k => if k = 0 then dP N else if k ≤ r then fl N (G (k - 1)) else G k, r + 1 + 1) := ⟨oH, sH⟩
  rw [qmk_rd o c o4]
  have eF : (fun k => if k + 1 = 0 then dP N else if k + 1 ≤ r then fl N (G (k + 1 - 1)) else G (k + 1)) = F := by
    funext k
    rw [if_neg (by omega)]
    by_cases q : k + 1 ≤ r
    · rw [if_pos q, g1 (k + 1 - 1) (by omega) (by omega), h1 _ (by omega), fl_fl]
      rfl
    · rw [if_neg q, hs k (by omega)]
      by_cases q2 : k = r
      · rw [q2, e]
      · rw [g1 (k + 1) (by omega) (by omega)]
        exact sX (k + 1) (by omega)
  have o3 : okF N (h, F, r + 1) := ⟨ho, su_up hs⟩
  have g := qmk_half (N := N) (f := h - 1) (r := r + 1) (F := fun k => if k = 0 then dP N else if k ≤ r then fl N (G (k - 1)) else G k) o4 (if_pos rfl) (by
    rw [eF, show h - 1 + 1 = h by omega]
    exact o3)
  rw [g, qmk_pad oF o3]
  exact qmk_cg (by
    rw [eF, show h - 1 + 1 = h by omega])
theorem q_rep (x : QF N) : ∃ b h, qmk N b h = x := by
  obtain ⟨a, ha⟩ := Quot.exists_rep x
  exact ⟨a.1, a.2, ha⟩
theorem sgE {p q : Nat} (h : p ≠ q) : ¬ pE (pV p idP) q := by
  show ¬ gt p (q + 1) < gt p q
  unfold gt
  repeat' split
  all_goals omega
theorem qf_act (hN : N ≤ 6) : Act N (QF N) (qf N hN) := by
  refine ⟨fun p hp b => ?_, fun p hp b => ?_, fun p q h1 hq b => ?_, fun p hp b => ?_⟩
  · obtain ⟨⟨h, F, r⟩, o, rfl⟩ := q_rep b
    have oF : okS N F := o.1
    have sF : su r F := o.2
    have V1 := (isPm_id N).V hp
    have V2 := (isPm_d N).V hp
    have o1 : okF N (h, qp F r (pV p idP), r + 1) := ⟨oF.q V1, su.q sF⟩
    have o2 : okF N (h - 1, qp (fun k => fl N (qp F r (pV p idP) k)) (r + 1) (pV p (dP N)), r + 1 + 1) := ⟨(oF.q V1).f.q V2, su.q (su.q sF).f⟩
    show qf N hN (2 * p + 1) (qf N hN (2 * p) (qmk N (h, F, r) o)) = qmk N (h, F, r) o
    rw [qf_even hN hp o o1, qf_odd hN hp o1 o2]
    refine qmk_turn hN oF sF o2 (fun j hj => ?_) (fun i j h1 h2 h3 => ?_) (fun i => ?_) o
    · rw [qp_o (by omega), qp_o (by omega)]
    · rw [qp_r]
      rw [qp_o (by omega), qp_r] at h3
      have h3 : dl N (gt p (dl N i)) < dl N (gt p (dl N j)) := h3
      show gt p (dl N j) < gt p (dl N i)
      have a := gt_lt hp (show dl N i < N by rw [dl_lt (by omega)]; omega)
      have b := gt_lt hp (show dl N j < N by rw [dl_lt (by omega)]; omega)
      rw [dl_lt a, dl_lt b] at h3
      omega
    · rw [qp_r, qp_o (by omega), qp_r]
      show gt p (dl N (dl N (gt p (dl N i)))) = dl N i
      rw [dl_dl, gt_gt]
  · obtain ⟨⟨h, F, r⟩, o, rfl⟩ := q_rep b
    have oF : okS N F := o.1
    have sF : su r F := o.2
    have V1 := (isPm_id N).V hp
    have V2 := (isPm_d N).V hp
    have o1 : okF N (h - 1, qp (fun k => fl N (F k)) r (pV p (dP N)), r + 1) := ⟨oF.f.q V2, su.q sF.f⟩
    have o2 : okF N (h - 1, qp (qp (fun k => fl N (F k)) r (pV p (dP N))) (r + 1) (pV p idP), r + 1 + 1) := ⟨(oF.f.q V2).q V1, su.q (su.q sF.f)⟩
    show qf N hN (2 * p) (qf N hN (2 * p + 1) (qmk N (h, F, r) o)) = qmk N (h, F, r) o
    rw [qf_odd hN hp o o1, qf_even hN hp o1 o2]
    refine qmk_turn hN oF sF o2 (fun j hj => ?_) (fun i j h1 h2 h3 => ?_) (fun i => ?_) o
    · rw [qp_o (by omega), qp_o (by omega)]
    · rw [qp_r]
      rw [qp_o (by omega), qp_r] at h3
      have h3 : dl N (gt p i) < dl N (gt p j) := h3
      show gt p j < gt p i
      have a := gt_lt hp (show i < N by omega)
      have b := gt_lt hp (show j < N by omega)
      rw [dl_lt a, dl_lt b] at h3
      omega
    · rw [qp_r, qp_o (by omega), qp_r]
      show gt p (gt p (dl N i)) = dl N i
      rw [gt_gt]
  · obtain ⟨⟨h, F, r⟩, o, rfl⟩ := q_rep b
    have oF : okS N F := o.1
    have sF : su r F := o.2
    have hp : p + 1 < N := by omega
    have V1 := (isPm_id N).V hp
    have V2 := (isPm_id N).V hq
    have o1 : okF N (h, qp F r (pV p idP), r + 1) := ⟨oF.q V1, su.q sF⟩
    have o2 : okF N (h, qp F r (pV q idP), r + 1) := ⟨oF.q V2, su.q sF⟩
    have o3 : okF N (h, qp F r (pV p (pV q idP)), r + 1) := ⟨oF.q (V2.V hp), su.q sF⟩
    have o4 : okF N (h, qp F r (pV q (pV p idP)), r + 1) := ⟨oF.q (V1.V hq), su.q sF⟩
    show qf N hN (2 * p) (qf N hN (2 * q) (qmk N (h, F, r) o)) = qf N hN (2 * q) (qf N hN (2 * p) (qmk N (h, F, r) o))
    rw [qf_even hN hq o o2, qf_even hN hp o o1, qf_merge hN hp oF sF V2 (sgE (by omega)) o2 o3, qf_merge hN hq oF sF V1 (sgE (by omega)) o1 o4]
    exact qmk_cg (by rw [pV_far h1])
  · obtain ⟨⟨h, F, r⟩, o, rfl⟩ := q_rep b
    have oF : okS N F := o.1
    have sF : su r F := o.2
    have h1 : p + 1 < N := by omega
    have V1 := (isPm_id N).V h1
    have V2 := (isPm_id N).V hp
    have n1 : ¬ pE (pV (p + 1) (pV p idP)) p := by
      show ¬ gt p (gt (p + 1) (p + 1)) < gt p (gt (p + 1) p)
      unfold gt
      repeat' split
      all_goals omega
    have n2 : ¬ pE (pV p (pV (p + 1) idP)) (p + 1) := by
      show ¬ gt (p + 1) (gt p (p + 1 + 1)) < gt (p + 1) (gt p (p + 1))
      unfold gt
      repeat' split
      all_goals omega
    have o1 : okF N (h, qp F r (pV p idP), r + 1) := ⟨oF.q V1, su.q sF⟩
    have o2 : okF N (h, qp F r (pV (p + 1) idP), r + 1) := ⟨oF.q V2, su.q sF⟩
    have o3 : okF N (h, qp F r (pV (p + 1) (pV p idP)), r + 1) := ⟨oF.q (V1.V hp), su.q sF⟩
    have o4 : okF N (h, qp F r (pV p (pV (p + 1) idP)), r + 1) := ⟨oF.q (V2.V h1), su.q sF⟩
    have o5 : okF N (h, qp F r (pV p (pV (p + 1) (pV p idP))), r + 1) := ⟨oF.q ((V1.V hp).V h1), su.q sF⟩
    have o6 : okF N (h, qp F r (pV (p + 1) (pV p (pV (p + 1) idP))), r + 1) := ⟨oF.q ((V2.V h1).V hp), su.q sF⟩
    show qf N hN (2 * p) (qf N hN (2 * (p + 1)) (qf N hN (2 * p) (qmk N (h, F, r) o))) = qf N hN (2 * (p + 1)) (qf N hN (2 * p) (qf N hN (2 * (p + 1)) (qmk N (h, F, r) o)))
    rw [qf_even hN hp o o2, qf_even hN h1 o o1, qf_merge hN hp oF sF V1 (sgE (by omega)) o1 o3, qf_merge hN h1 oF sF V2 (sgE (by omega)) o2 o4, qf_merge hN h1 oF sF (V1.V hp) n1 o3 o5, qf_merge hN hp oF sF (V2.V h1) n2 o4 o6]
    exact qmk_cg (by rw [pV_braid])
end QA
/-- which states are that of nothing -/
def dS (N t : Nat) : SQ := fun k => if k < t then dP N else idP
def trv (N : Nat) (b : FS) : Prop := b.1 ≤ 0 ∧ ∃ m, Rd N m b.2.1 (dS N (-b.1).toNat)
def cnS (x : PM) (F : SQ) : SQ := fun k => if k = 0 then x else F (k - 1)
section TR
variable {N : Nat}
theorem dS_nm (t : Nat) : Nm N (dS N t) := fun k p a => by
  obtain ⟨a1, a2, a3⟩ := a
  unfold dS at a2 a3
  by_cases q : k < t
  · rw [if_pos q] at a3
    refine a3 ?_
    show dl N (p + 1) < dl N p
    rw [dl_lt a1, dl_lt (by omega)]
    omega
  · rw [if_neg (by omega)] at a2
    have a2 : p + 1 < p := a2
    omega
theorem cnS_mv {F : SQ} {k p : Nat} {x : PM} (a : mvd N F k p) : mvd N (cnS x F) (k + 1) p ∧ mvt (cnS x F) (k + 1) p = cnS x (mvt F k p) := by
  refine ⟨⟨a.1, a.2.1, a.2.2⟩, ?_⟩
  funext j
  cases j with
  | zero =>
    rw [mvt_o (by omega) (by omega)]
    rfl
  | succ i =>
    show mvt (cnS x F) (k + 1) p (i + 1) = mvt F k p i
    by_cases q : i = k
    · subst q
      rw [mvt_k, mvt_k]
      rfl
    · by_cases q2 : i = k + 1
      · subst q2
        rw [mvt_k1, mvt_k1]
        rfl
      · rw [mvt_o (by omega) (by omega), mvt_o q q2]
        rfl
theorem cnS_rd {x : PM} : ∀ {m : Nat} {F G : SQ}, Rd N m F G → Rd N m (cnS x F) (cnS x G)
  | 0, F, G, h => by
    cases h
    rfl
  | m + 1, F, G, h => by
    obtain ⟨k, p, a, b⟩ := h
    obtain ⟨c1, c2⟩ := cnS_mv (x := x) a
    refine ⟨k + 1, p, c1, ?_⟩
    rw [c2]
    exact cnS_rd b
theorem cnS_nm {F : SQ} (n : Nm N F) : Nm N (cnS (dP N) F) := fun k p a => by
  cases k with
  | zero =>
    refine a.2.2 ?_
    show dl N (p + 1) < dl N p
    have := a.1
    rw [dl_lt a.1, dl_lt (by omega)]
    omega
  | succ k => exact n k p ⟨a.1, a.2.1, a.2.2⟩
theorem cnS_ok {x : PM} {F : SQ} (hx : isPm N x) (h : okS N F) : okS N (cnS x F) := fun k => by
  unfold cnS
  split
  · exact hx
  · exact h _
theorem cnS_dS (t : Nat) : cnS (dP N) (dS N t) = dS N (t + 1) := by
  funext k
  unfold cnS dS
  by_cases q : k = 0
  · rw [if_pos q, if_pos (by omega)]
  · rw [if_neg q]
    by_cases q2 : k < t + 1
    · rw [if_pos (by omega), if_pos q2]
    · rw [if_neg (by omega), if_neg q2]
theorem dP_ne (h2 : 2 ≤ N) : dP N ≠ idP := fun e => by
  have := congrFun (congrArg Prod.fst e) 0
  have this : dl N 0 = 0 := this
  rw [dl_lt (by omega)] at this
  omega
theorem trv_stp (hN : N ≤ 6) (h2 : 2 ≤ N) (x y : FO N) (e : stp N x y) : trv N x.1 = trv N y.1 := by
  obtain ⟨⟨h, F, r⟩, o⟩ := x
  obtain ⟨y', o'⟩ := y
  refine propext ?_
  rcases e with ⟨k, p, a, e⟩ | ⟨e1, e2, e⟩ | e
  · have e : y' = (h, mvt F k p, r) := e
    subst e
    constructor
    · rintro ⟨q1, m, q2⟩
      refine ⟨q1, ?_⟩
      obtain ⟨K, m', a1, a2⟩ := nf_ex hN _ _ o'.1 o'.2 (Nat.le_refl _)
      have := nf_same hN o.1 o.2 q2 (Rd_trans (Rd_one a) a1) (dS_nm _) a2
      exact ⟨m', by
        show Rd N m' (mvt F k p) (dS N (-h).toNat)
        rw [this]
        exact a1⟩
    · rintro ⟨q1, m, q2⟩
      exact ⟨q1, m + 1, k, p, a, q2⟩
  · obtain ⟨r, rfl⟩ : ∃ r0, r = r0 + 1 := ⟨r - 1, by have e2 : 0 < r := e2; omega⟩
    have e : y' = (h + 1, fun k => F (k + 1), r) := e
    subst e
    have e1 : F 0 = dP N := e1
    have eF : F = cnS (dP N) (fun k => F (k + 1)) := by
      funext k
      unfold cnS
      by_cases q : k = 0
      · rw [if_pos q, q, e1]
      · rw [if_neg q]
        show F k = F (k - 1 + 1)
        rw [show k - 1 + 1 = k by omega]
    constructor
    · rintro ⟨q1, m, q2⟩
      have q1 : h ≤ 0 := q1
      have q2 : Rd N m F (dS N (-h).toNat) := q2
      obtain ⟨K, m', a1, a2⟩ := nf_ex hN _ _ o'.1 o'.2 (Nat.le_refl _)
      have b := cnS_rd (x := dP N) a1
      rw [← eF] at b
      have c := nf_same hN o.1 o.2 q2 b (dS_nm _) (cnS_nm a2)
      have hh : h ≠ 0 := fun z => by
        subst z
        have d := congrFun c 0
        exact dP_ne h2 d.symm
      obtain ⟨t, ht⟩ : ∃ t, (-h).toNat = t + 1 := ⟨(-h).toNat - 1, by omega⟩
      refine ⟨show h + 1 ≤ 0 by omega, m', ?_⟩
      have : K = dS N t := by
        funext k
        have d := congrFun c (k + 1)
        rw [ht, ← cnS_dS] at d
        exact d.symm
      show Rd N m' (fun k => F (k + 1)) (dS N (-(h + 1)).toNat)
      rw [show (-(h + 1)).toNat = t by omega, ← this]
      exact a1
    · rintro ⟨q1, m, q2⟩
      have q1 : h + 1 ≤ 0 := q1
      have q2 : Rd N m (fun k => F (k + 1)) (dS N (-(h + 1)).toNat) := q2
      refine ⟨show h ≤ 0 by omega, m, ?_⟩
      show Rd N m F (dS N (-h).toNat)
      have b := cnS_rd (x := dP N) q2
      rw [← eF, cnS_dS, show (-(h + 1)).toNat + 1 = (-h).toNat by omega] at b
      exact b
  · have e : y' = (h, F, r + 1) := e
    subst e
    exact Iff.rfl
theorem qmk_trv (hN : N ≤ 6) (h2 : 2 ≤ N) {b b' : FS} {o : okF N b} {o' : okF N b'} (e : qmk N b o = qmk N b' o') (t : trv N b') : trv N b := by
  have := congrArg (Quot.lift (fun x : FO N => trv N x.1) (trv_stp hN h2)) e
  have this : trv N b = trv N b' := this
  rw [this]
  exact t
/-- a settled state that is the state of nothing has no half turns and no factors -/
theorem qmk_none (hN : N ≤ 6) (h2 : 2 ≤ N) {h : Int} {E : SQ} {e : Nat} {o : okF N (h, E, e)} {o' : okF N (0, idS, 0)} (q : qmk N (h, E, e) o = qmk N (0, idS, 0) o') (n : Nm N E) (d0 : 0 < e → E 0 ≠ dP N) (d1 : 0 < e → E (e - 1) ≠ idP) : h = 0 ∧ e = 0 := by
  obtain ⟨t1, m, t2⟩ := qmk_trv hN h2 q (show trv N (0, idS, 0) from ⟨Int.le_refl 0, 0, rfl⟩)
  have t1 : h ≤ 0 := t1
  have t2 : Rd N m E (dS N (-h).toNat) := t2
  have c := nf_same hN o.1 o.2 t2 (show Rd N 0 E E from rfl) (dS_nm _) n
  have hh : h = 0 := by
    refine Classical.byContradiction (fun z => ?_)
    have c0 := congrFun c 0
    unfold dS at c0
    rw [if_pos (by omega)] at c0
    by_cases z2 : 0 < e
    · exact d0 z2 c0.symm
    · have := o.2 0 (show e ≤ 0 by omega)
      exact dP_ne h2 (c0.trans this)
  refine ⟨hh, ?_⟩
  refine Classical.byContradiction (fun z => ?_)
  have c0 := congrFun c (e - 1)
  unfold dS at c0
  rw [if_neg (by omega)] at c0
  exact d1 (by omega) c0.symm
end TR
