/-! THE REFERENCE'S FORMS: a letter behind; the form of a dance -/
section FO5
variable {d : Nat} {h0 : pheap} {s t u : St} {Q : Option pv → pheap → Prop} {N : Nat} {f g : Int} {E : SQ} {e n : Nat} {h L : Int} {c : Int → Int}
theorem CL_push {y : PM} (hc : CL s f E e N) (hN : N ≤ 6) (g1 : CE t (6 * (100 * f + (e : Int))) y N) (g2 : ∀ (c : Nat) (r : Int), ¬ (c = 120 ∧ 6 * (100 * f + (e : Int)) ≤ r ∧ r < 6 * (100 * f + (e : Int)) + 6) → t c r = s c r) : CL t f (qp E e y) (e + 1) N := fun k hk => by
  by_cases q : k = e
  · rw [q, qp_r]
    exact g1
  · rw [qp_o q]
    exact fun i hi => (g2 120 _ (by omega)).trans (hc k (by omega) i hi)
theorem ap_10 (hd : 5 ≤ d) (hf : 0 ≤ f ∧ f < 2) (hN : N ≤ 6) (hn : n ≤ 97) (h41 : t 94 41 = N) (h118 : t 118 f = h) (h119 : t 119 f = e) (hb : -((n : Int) + 1) ≤ h ∧ h + e ≤ n ∧ e ≤ n) (o : okF N (h, E, e + 1)) (hc : CL t f E (e + 1) N) (k9 : ∀ t2 h2 E2 e2, FM N f (n + 1) h2 E2 e2 t2 → STd N E2 e2 → (∀ o o2, qmk N (h, E, e + 1) o = qmk N (h2, E2, e2) o2) → ffr f t t2 → Q none (HP h0 t2)) {cc p un ss kk : Int} {tt : Option pv} : wp PP d mb118 (mb118.getD 10 []) [some (vR 94), some (vI f), some (vI cc), some (vI p), some (vI un), some (vI ss), some (vI kk), tt] [] (HP h0 t) Q := by
  refine x_aload rfl ?_
  refine h_getR sc_94 rfl (by omega) ?_
  refine x_iload rfl ?_
  refine x_dup2 ?_
  refine h_iald sc_119 ⟨by omega, by omega⟩ (by decide) ?_
  rw [h119]
  refine x_ci ?_
  refine x_iadd ?_
  refine h_iast sc_119 ⟨by omega, by omega⟩ (by decide) ?_
  refine x_aload rfl ?_
  refine x_iload rfl ?_
  refine n_call [vR _, vI _] [] (by omega) (Nat.le_of_ble_eq_true rfl) rfl rfl (Nat.le_of_ble_eq_true rfl) ?_
  refine r_settles (n := n + 1) (h := h) (E := E) (e := e + 1) (by omega) hf hN ((up_a (by decide)).trans h41) (by omega) ⟨(up_a (by decide)).trans h118, ?_, by omega, o, fun k hk i hi => (up_a (by decide)).trans (hc k hk i hi)⟩ (fun t2 h2 E2 e2 k1 k2 k3 k4 => ?_)
  · rw [up_e]
    omega
  show wp PP _ _ _ [some (vR _), some (vI _), some (vI _), some (vI _), some (vI _), some (vI _), some (vI _), _] [] _ _
  refine x_ret ?_
  exact k9 t2 h2 E2 e2 k1 k2 k3 (fun c r q1 q2 q3 => (k4 c r q1 q2 q3).trans (up_f (by omega)))
theorem r_appends (hd : 6 ≤ d) (hf : 0 ≤ f ∧ f < 2) (hN : N ≤ 6) (hn : n ≤ 97) (h41 : s 94 41 = N) (hF : FM N f n h E e s) {cd : Nat} (hc : cd / 2 + 1 < N) (k9 : ∀ t2 h2 E2 e2, FM N f (n + 1) h2 E2 e2 t2 → STd N E2 e2 → (∀ o o2, qmk N (psh N cd (h, E, e)) o = qmk N (h2, E2, e2) o2) → ffr f s t2 → Q none (HP h0 t2)) : wpM PP d 118 [vR 94, vI f, vI (cd : Int)] (HP h0 s) Q := by
  have hb := hF.2.2.1
  have oE : okS N E := hF.2.2.2.1.1
  have sE : su e E := hF.2.2.2.1.2
  have hcd : cd < 12 := by omega
  refine n_at (m := 118) (q := mr118) (kn := (0, 3)) [some (vR _), some (vI _), some (vI _), none, none, none, none, none] mb118 rfl rfl (h_rcv sc_94) (Nat.le_of_ble_eq_true rfl) rfl rfl ?_
  refine x_iload rfl ?_
  refine x_ci ?_
  refine n_idiv ⟨by omega, by omega⟩ ⟨by omega, by omega⟩ ?_
  refine t_I ((cd / 2 : Nat) : Int) (by omega) ?_
  refine n_istore [some (vR _), some (vI _), some (vI _), some (vI _), _, _, _, _] (Nat.le_of_ble_eq_true rfl) rfl ?_
  refine x_iload rfl ?_
  refine x_ci ?_
  refine n_irem ⟨by omega, by omega⟩ ⟨by omega, by omega⟩ ?_
  refine x_ci ?_
  refine n_icmp_ne ⟨by omega, by omega⟩ ⟨by omega, by omega⟩ (fun c1 => ?_) (fun c1 => ?_)
  · refine x_ci ?_
    refine x_fall ?_
    refine n_istore [some (vR _), some (vI _), some (vI _), some (vI _), some (vI _), _, _, _] (Nat.le_of_ble_eq_true rfl) rfl ?_
    refine x_iload rfl ?_
    refine n_if_eq ⟨by omega, by omega⟩ (fun c2 => ?_) (fun c2 => ?_)
    · refine x_iload rfl ?_
      refine x_aload rfl ?_
      refine h_getR sc_94 rfl (by omega) ?_
      refine x_iload rfl ?_
      refine h_iald sc_119 ⟨by omega, by omega⟩ (by decide) ?_
      first
        | rw [hF.2.1]
        | rw [(t2 119 f (by omega)).trans ((up_a (by decide)).trans hF.2.1)]
      refine n_call [vI _, vI _] [] (by omega) (Nat.le_of_ble_eq_true rfl) rfl rfl (Nat.le_of_ble_eq_true rfl) ?_
      refine r_slot ?_
      show wp PP _ _ _ [some (vR _), some (vI _), some (vI _), some (vI _), some (vI _), _, _, _] [vI _] _ _
      refine n_istore [some (vR _), some (vI _), some (vI _), some (vI _), some (vI _), some (vI _), _, _] (Nat.le_of_ble_eq_true rfl) rfl ?_
      refine x_ci ?_
      refine n_istore [some (vR _), some (vI _), some (vI _), some (vI _), some (vI _), some (vI _), some (vI _), _] (Nat.le_of_ble_eq_true rfl) rfl ?_
      refine x_fall ?_
      have ec : cd = 2 * (cd / 2) := by omega
      have oo : okF N (h, qp E e (pV (cd / 2) idP), e + 1) := ⟨oE.q ((isPm_id N).V hc), su.q sE⟩
      refine ap_4 (y := pV (cd / 2) idP) (by omega) hf hN (by omega) h41 hc (Or.inl ⟨rfl, fun i _ => rfl⟩) (fun t kk tt g1 g2 => ?_)
      refine ap_10 (n := n) (by omega) hf hN hn ((g2 94 41 (by omega)).trans h41) ((g2 118 f (by omega)).trans hF.1) ((g2 119 f (by omega)).trans hF.2.1) ⟨by omega, by omega, by omega⟩ oo (CL_push hF.2.2.2.2 hN g1 g2) (fun t2 h2 E2 e2 k1 k2 k3 k4 => ?_)
      refine k9 t2 h2 E2 e2 k1 k2 (fun o o2 => ?_) (ffr_tr (fun c r q1 q2 q3 => g2 c r (by omega)) k4)
      rw [← k3 oo o2]
      exact qmk_cg (by
        have z := psh_even (h := h) (F := E) (r := e) hc
        rw [← ec] at z
        exact z)
    · refine x_aload rfl ?_
      refine h_getR sc_94 rfl (by omega) ?_
      refine x_iload rfl ?_
      refine x_dup2 ?_
      refine h_iald sc_118 ⟨by omega, by omega⟩ (by decide) ?_
      rw [hF.1]
      refine x_ci ?_
      refine x_isub ?_
      refine h_iast sc_118 ⟨by omega, by omega⟩ (by decide) ?_
      refine x_aload rfl ?_
      refine x_iload rfl ?_
      refine n_call [vR _, vI _] [] (by omega) (Nat.le_of_ble_eq_true rfl) rfl rfl (Nat.le_of_ble_eq_true rfl) ?_
      refine r_turnsAll (E := E) (e := e) (by omega) hf hN ((up_a (by decide)).trans h41) (by omega) ((up_a (by decide)).trans hF.2.1) hF.2.2.2.1.1 (fun k hk i hi => (up_a (by decide)).trans (hF.2.2.2.2 k hk i hi)) (fun t t1 t2 => ?_)
      show wp PP _ _ _ [some (vR _), some (vI _), some (vI _), some (vI _), some (vI _), _, _, _] [] _ _
      refine x_fall ?_
      refine x_iload rfl ?_
      refine x_aload rfl ?_
      refine h_getR sc_94 rfl (by omega) ?_
      refine x_iload rfl ?_
      refine h_iald sc_119 ⟨by omega, by omega⟩ (by decide) ?_
      first
        | rw [hF.2.1]
        | rw [(t2 119 f (by omega)).trans ((up_a (by decide)).trans hF.2.1)]
      refine n_call [vI _, vI _] [] (by omega) (Nat.le_of_ble_eq_true rfl) rfl rfl (Nat.le_of_ble_eq_true rfl) ?_
      refine r_slot ?_
      show wp PP _ _ _ [some (vR _), some (vI _), some (vI _), some (vI _), some (vI _), _, _, _] [vI _] _ _
      refine n_istore [some (vR _), some (vI _), some (vI _), some (vI _), some (vI _), some (vI _), _, _] (Nat.le_of_ble_eq_true rfl) rfl ?_
      refine x_ci ?_
      refine n_istore [some (vR _), some (vI _), some (vI _), some (vI _), some (vI _), some (vI _), some (vI _), _] (Nat.le_of_ble_eq_true rfl) rfl ?_
      refine x_fall ?_
      exfalso
      omega
  · refine x_ci ?_
    refine x_goto ?_
    refine n_istore [some (vR _), some (vI _), some (vI _), some (vI _), some (vI _), _, _, _] (Nat.le_of_ble_eq_true rfl) rfl ?_
    refine x_iload rfl ?_
    refine n_if_eq ⟨by omega, by omega⟩ (fun c2 => ?_) (fun c2 => ?_)
    · refine x_iload rfl ?_
      refine x_aload rfl ?_
      refine h_getR sc_94 rfl (by omega) ?_
      refine x_iload rfl ?_
      refine h_iald sc_119 ⟨by omega, by omega⟩ (by decide) ?_
      first
        | rw [hF.2.1]
        | rw [(t2 119 f (by omega)).trans ((up_a (by decide)).trans hF.2.1)]
      refine n_call [vI _, vI _] [] (by omega) (Nat.le_of_ble_eq_true rfl) rfl rfl (Nat.le_of_ble_eq_true rfl) ?_
      refine r_slot ?_
      show wp PP _ _ _ [some (vR _), some (vI _), some (vI _), some (vI _), some (vI _), _, _, _] [vI _] _ _
      refine n_istore [some (vR _), some (vI _), some (vI _), some (vI _), some (vI _), some (vI _), _, _] (Nat.le_of_ble_eq_true rfl) rfl ?_
      refine x_ci ?_
      refine n_istore [some (vR _), some (vI _), some (vI _), some (vI _), some (vI _), some (vI _), some (vI _), _] (Nat.le_of_ble_eq_true rfl) rfl ?_
      refine x_fall ?_
      exfalso
      omega
    · refine x_aload rfl ?_
      refine h_getR sc_94 rfl (by omega) ?_
      refine x_iload rfl ?_
      refine x_dup2 ?_
      refine h_iald sc_118 ⟨by omega, by omega⟩ (by decide) ?_
      rw [hF.1]
      refine x_ci ?_
      refine x_isub ?_
      refine h_iast sc_118 ⟨by omega, by omega⟩ (by decide) ?_
      refine x_aload rfl ?_
      refine x_iload rfl ?_
      refine n_call [vR _, vI _] [] (by omega) (Nat.le_of_ble_eq_true rfl) rfl rfl (Nat.le_of_ble_eq_true rfl) ?_
      refine r_turnsAll (E := E) (e := e) (by omega) hf hN ((up_a (by decide)).trans h41) (by omega) ((up_a (by decide)).trans hF.2.1) hF.2.2.2.1.1 (fun k hk i hi => (up_a (by decide)).trans (hF.2.2.2.2 k hk i hi)) (fun t t1 t2 => ?_)
      show wp PP _ _ _ [some (vR _), some (vI _), some (vI _), some (vI _), some (vI _), _, _, _] [] _ _
      refine x_fall ?_
      refine x_iload rfl ?_
      refine x_aload rfl ?_
      refine h_getR sc_94 rfl (by omega) ?_
      refine x_iload rfl ?_
      refine h_iald sc_119 ⟨by omega, by omega⟩ (by decide) ?_
      first
        | rw [hF.2.1]
        | rw [(t2 119 f (by omega)).trans ((up_a (by decide)).trans hF.2.1)]
      refine n_call [vI _, vI _] [] (by omega) (Nat.le_of_ble_eq_true rfl) rfl rfl (Nat.le_of_ble_eq_true rfl) ?_
      refine r_slot ?_
      show wp PP _ _ _ [some (vR _), some (vI _), some (vI _), some (vI _), some (vI _), _, _, _] [vI _] _ _
      refine n_istore [some (vR _), some (vI _), some (vI _), some (vI _), some (vI _), some (vI _), _, _] (Nat.le_of_ble_eq_true rfl) rfl ?_
      refine x_ci ?_
      refine n_istore [some (vR _), some (vI _), some (vI _), some (vI _), some (vI _), some (vI _), some (vI _), _] (Nat.le_of_ble_eq_true rfl) rfl ?_
      refine x_fall ?_
      have ec : cd = 2 * (cd / 2) + 1 := by omega
      have oo : okF N (h - 1, qp (fun k => fl N (E k)) e (pV (cd / 2) (dP N)), e + 1) := ⟨oE.f.q ((isPm_d N).V hc), su.q sE.f⟩
      have t41 : t 94 41 = N := (t2 94 41 (by omega)).trans ((up_a (by decide)).trans h41)
      refine ap_4 (y := pV (cd / 2) (dP N)) (by omega) hf hN (by omega) t41 hc (Or.inr ⟨rfl, fun i hi => ?_⟩) (fun t3 kk tt g1 g2 => ?_)
      · show gt (cd / 2) (dl N i) = _
        rw [dl_lt hi]
      refine ap_10 (n := n) (by omega) hf hN hn ((g2 94 41 (by omega)).trans t41) ((g2 118 f (by omega)).trans ((t2 118 f (by omega)).trans up_e)) ((g2 119 f (by omega)).trans ((t2 119 f (by omega)).trans ((up_a (by decide)).trans hF.2.1))) ⟨by omega, by omega, by omega⟩ oo (CL_push t1 hN g1 g2) (fun t4 h2 E2 e2 k1 k2 k3 k4 => ?_)
      refine k9 t4 h2 E2 e2 k1 k2 (fun o o2 => ?_) (ffr_tr (fun c r q1 q2 q3 => ?_) k4)
      · rw [← k3 oo o2]
        exact qmk_cg (by
          have z := psh_odd (h := h) (F := E) (r := e) hc
          rw [← ec] at z
          exact z)
      · rw [g2 c r (by omega), t2 c r (by omega), up_f (by omega)]
theorem r_append {q : QF N} {cd : Nat} (hd : 6 ≤ d) (hf : 0 ≤ f ∧ f < 2) (hN : N ≤ 6) (hn : n ≤ 97) (h41 : s 94 41 = N) (hF : FQ N f n q s) (hc : cd / 2 + 1 < N) (k9 : ∀ t, FQ N f (n + 1) (qf N hN cd q) t → ffr f s t → Q none (HP h0 t)) : wpM PP d 118 [vR 94, vI f, vI (cd : Int)] (HP h0 s) Q := by
  obtain ⟨h, E, e, a, b, o⟩ := hF
  refine r_appends hd hf hN hn h41 a hc (fun t h2 E2 e2 k1 k2 k3 k4 => k9 t ⟨h2, E2, e2, k1, k2, fun o2 => ?_⟩ k4)
  have o1 : okF N (h, E, e) := a.2.2.2.1
  rw [← k3 (psh_ok cd o1) o2, ← o o1]
  rfl
theorem r_none {q : QF N} (hf : 0 ≤ f ∧ f < 2) (hN : N ≤ 6) (hn : n ≤ 99) (h2 : 2 ≤ N ∨ n = 0) (hF : FQ N f n q s) (kT : q = q0 N → Q (some (vI 1)) (HP h0 s)) (kF : ¬ q = q0 N → Q (some (vI 0)) (HP h0 s)) : wpM PP d 119 [vR 94, vI f] (HP h0 s) Q := by
  obtain ⟨h, E, e, a, b, o⟩ := hF
  have o1 : okF N (h, E, e) := a.2.2.2.1
  have z := a.none b hN h2 o1
  rw [o o1] at z
  exact r_isNone hf hn a (fun y => kT (z.mp y)) (fun y => kF (fun w => y (z.mpr w)))
theorem FQ_0 (hF : FM N f 0 0 idS 0 s) : FQ N f 0 (q0 N) s := ⟨0, idS, 0, hF, ⟨fun k p a => by
  have a2 : p + 1 < p := a.2.1
  omega, fun q => absurd q (by omega), fun q => absurd q (by omega)⟩, fun _ => rfl⟩
/-- the form of a row of codes -/
def qW (N : Nat) (hN : N ≤ 6) (c : Int → Int) (n : Nat) : QF N := rn (qf N hN) (wl c n) (q0 N)
theorem qW_s (hN : N ≤ 6) : qW N hN c (n + 1) = qf N hN (c n).toNat (qW N hN c n) := rn_wl _ _ n
theorem t_app {x : Int} {m : Nat} (hx : 0 ≤ x) (k : wpM PP d m [vR 94, vI f, vI ((x.toNat : Nat) : Int)] (HP h0 s) Q) : wpM PP d m [vR 94, vI f, vI x] (HP h0 s) Q := by
  rw [Int.toNat_of_nonneg hx] at k
  exact k
theorem r_formOf (hd : 9 ≤ d) (hf : 0 ≤ f ∧ f < 2) (hN : N ≤ 6) (hNL : cnt L = N) (hg : 0 ≤ g ∧ g < 23) (hr : RD g L n c s) (k9 : ∀ t, FQ N f n (qW N hN c n) t → t 94 41 = N → (∀ (b : Nat) (r : Int), ¬ (b = 94 ∧ r = 41) → ¬ (b = 120 ∧ 600 * f ≤ r ∧ r < 600 * f + 600) → ¬ (b = 118 ∧ r = f) → ¬ (b = 119 ∧ r = f) → t b r = s b r) → Q none (HP h0 t)) : wpM PP d 120 [vR 94, vI f, vI g] (HP h0 s) Q := by
  obtain ⟨hL, hn, hv, r1, r2, r3⟩ := hr
  have L1 : ∀ M : Nat, ∀ (k : Nat) (kk : Int) (t : St), (kk = k) → (M = n - k ∧ k ≤ n) → (FQ N f k (qW N hN c k) t) → (t 94 41 = N) → ((∀ (b : Nat) (r : Int), ¬ (b = 94 ∧ r = 41) → ¬ (b = 120 ∧ 600 * f ≤ r ∧ r < 600 * f + 600) → ¬ (b = 118 ∧ r = f) → ¬ (b = 119 ∧ r = f) → t b r = s b r)) →  wp PP d mb120 (mb120.getD 1 []) [some (vR 94), some (vI f), some (vI g), some (vI kk)] [] (HP h0 t) Q := by
    refine s_ind (fun M ih => ?_)
    intro k kk t hkk hM g1 g41 g2
    subst hkk
    have h41u : t 94 41 = N := g41
    refine x_iload rfl ?_
    refine x_aload rfl ?_
    refine h_getR sc_94 rfl (by omega) ?_
    refine x_iload rfl ?_
    refine h_iald sc_112 ⟨by omega, by omega⟩ (by decide) ?_
    rw [(g2 112 g (by omega) (by omega) (by omega) (by omega)).trans r2]
    refine n_icmp_ge ⟨by omega, by omega⟩ ⟨by omega, by omega⟩ (fun c1 => ?_) (fun c1 => ?_)
    · refine x_ret ?_
      have e : k = n := by omega
      subst e
      exact k9 t g1 g41 g2
    · refine x_aload rfl ?_
      refine x_iload rfl ?_
      refine x_aload rfl ?_
      refine h_getR sc_94 rfl (by omega) ?_
      refine x_ci ?_
      refine x_iload rfl ?_
      refine x_imul ?_
      refine x_iload rfl ?_
      refine x_iadd ?_
      refine h_iald sc_113 ⟨by omega, by omega⟩ (by decide) ?_
      rw [(g2 113 (48 * g + (k : Int)) (by omega) (by omega) (by omega) (by omega)).trans (r3 k (by omega) (by omega))]
      refine n_call [vR _, vI _, vI _] [] (by omega) (Nat.le_of_ble_eq_true rfl) rfl rfl (Nat.le_of_ble_eq_true rfl) ?_
      have vk := hv k (by omega) (by omega)
      refine t_app vk.1 ?_
      refine r_append (cd := (c k).toNat) (by omega) hf hN (by omega) h41u g1 (by omega) (fun v v1 v2 => ?_)
      show wp PP _ _ _ [some (vR _), some (vI _), some (vI _), some (vI _)] [] _ _
      refine n_iinc [some (vR _), some (vI _), some (vI _), some (vI _)] rfl rfl ?_
      refine x_goto ?_
      refine ih (n - (k + 1)) (by omega) (k + 1) _ _ (by omega) (by omega) ?_ ((v2 94 41 (by omega) (by omega) (by omega)).trans h41u) (fun b r q1 q2 q3 q4 => ?_)
      · rw [qW_s]
        exact v1
      · rw [v2 b r q2 q3 q4]
        exact g2 b r q1 q2 q3 q4
  refine n_at (m := 120) (q := mr120) (kn := (0, 3)) [some (vR _), some (vI _), some (vI _), none] mb120 rfl rfl (h_rcv sc_94) (Nat.le_of_ble_eq_true rfl) rfl rfl ?_
  refine x_aload rfl ?_
  refine x_aload rfl ?_
  refine h_getR sc_94 rfl (by omega) ?_
  refine x_iload rfl ?_
  refine h_iald sc_111 ⟨by omega, by omega⟩ (by decide) ?_
  refine n_call [vI _] [vR _] (by omega) (Nat.le_of_ble_eq_true rfl) rfl rfl (Nat.le_of_ble_eq_true rfl) ?_
  refine t_bits L r1 hL ?_
  show wp PP _ _ _ [some (vR _), some (vI _), some (vI _), _] [vI _, vR _] _ _
  refine h_putI 41 sc_94 rfl rfl ?_
  refine x_aload rfl ?_
  refine x_iload rfl ?_
  refine n_call [vR _, vI _] [] (by omega) (Nat.le_of_ble_eq_true rfl) rfl rfl (Nat.le_of_ble_eq_true rfl) ?_
  refine r_clears (N := N) hf (fun u u1 u2 => ?_)
  show wp PP _ _ _ [some (vR _), some (vI _), some (vI _), _] [] _ _
  refine x_ci ?_
  refine n_istore [some (vR _), some (vI _), some (vI _), some (vI _)] (Nat.le_of_ble_eq_true rfl) rfl ?_
  refine x_fall ?_
  refine L1 n 0 0 u rfl (by omega) (FQ_0 u1) ?_ (fun b r q1 q2 q3 q4 => ?_)
  · rw [u2 94 41 (by omega) (by omega), up_e, hNL]
  · rw [u2 b r q3 q4, up_f (by omega)]
end FO5
