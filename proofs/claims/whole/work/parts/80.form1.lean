/-! THE REFERENCE'S FORMS: what crosses, carrying, weighing -/
section FO1
variable {d : Nat} {h0 h : pheap} {s t u : St} {Q : Option pv → pheap → Prop} {N : Nat} {a b : Int} {x y : PM}
/-- a factor lies at a -/
def CE (s : St) (a : Int) (x : PM) (N : Nat) : Prop := ∀ i : Nat, i < N → s 120 (a + i) = ((x.1 i : Nat) : Int)
/-- no more than two factors are touched -/
def efr (a b : Int) (s t : St) : Prop := ∀ (c : Nat) (r : Int), ¬ (c = 120 ∧ ((a ≤ r ∧ r < a + 6) ∨ (b ≤ r ∧ r < b + 6))) → t c r = s c r
theorem efr_rfl : efr a b s s := fun _ _ _ => rfl
theorem efr_tr (h1 : efr a b s t) (h2 : efr a b t u) : efr a b s u := fun c r q => (h2 c r q).trans (h1 c r q)
theorem CE.out {e : Int} (h : CE s e x N) (hN : N ≤ 6) (g : efr a b s t) (h1 : e + 6 ≤ a ∨ a + 6 ≤ e) (h2 : e + 6 ≤ b ∨ b + 6 ≤ e) : CE t e x N := fun i hi => (g 120 (e + i) (by omega)).trans (h i hi)
theorem isPm.at1 (hx : isPm N x) {k q : Nat} : x.1 k = q ↔ k = x.2 q := ⟨fun e => by rw [← e, hx.2.1], fun e => by rw [e, hx.1]⟩
theorem r_slot {f k : Int} (k0 : Q (some (vI (6 * (100 * f + k)))) h) : wpM PP d 109 [vI f, vI k] h Q := by
  refine n_at (m := 109) (q := mr109) (kn := (1, 2)) [some (vI _), some (vI _)] mb109 rfl rfl rfl (Nat.le_of_ble_eq_true rfl) rfl rfl ?_
  refine x_ci ?_
  refine x_ci ?_
  refine x_iload rfl ?_
  refine x_imul ?_
  refine x_iload rfl ?_
  refine x_iadd ?_
  refine x_imul ?_
  refine x_iret ?_
  exact cI k0 (by omega)
theorem r_crossE (hd : 1 ≤ d) (hN : N ≤ 6) (h41 : s 94 41 = N) (hx : isPm N x) (ha : 0 ≤ a ∧ a + 6 ≤ 1200) (hc : CE s a x N) {p : Nat} (hp : p + 1 < N) (kT : pE x p → Q (some (vI 1)) (HP h0 s)) (kF : ¬ pE x p → Q (some (vI 0)) (HP h0 s)) : wpM PP d 112 [vR 94, vI a, vI p, vI 0] (HP h0 s) Q := by
  have L1 : ∀ M : Nat, ∀ (k : Nat) (A : Int) (B : Int) (kk : Int), (kk = k) → (M = N - k ∧ k ≤ N) → ((x.2 p < k → A = x.2 p) ∧ (k ≤ x.2 p → A = 0)) → ((x.2 (p + 1) < k → B = x.2 (p + 1)) ∧ (k ≤ x.2 (p + 1) → B = 0)) →  wp PP d mb112 (mb112.getD 4 []) [some (vR 94), some (vI a), some (vI p), some (vI 0), some (vI A), some (vI B), some (vI kk)] [] (HP h0 s) Q := by
    refine s_ind (fun M ih => ?_)
    intro k A B kk hkk hn2 gA gB
    refine x_iload rfl ?_
    refine x_aload rfl ?_
    refine h_getI 41 sc_94 rfl rfl ?_
    rw [h41]
    refine n_icmp_ge ⟨by omega, by omega⟩ ⟨by omega, by omega⟩ (fun c1 => ?_) (fun c1 => ?_)
    · refine x_iload rfl ?_
      refine x_iload rfl ?_
      refine n_icmp_le ⟨by omega, by omega⟩ ⟨by omega, by omega⟩ (fun c2 => ?_) (fun c2 => ?_)
      · refine x_ci ?_
        refine x_fall ?_
        refine x_zret (by first | exact bI_01 _ | omega) ?_
        have l1 := hx.lt2 (i := p) (by omega)
        have l2 := hx.lt2 (i := p + 1) (by omega)
        have n2 : x.2 p ≠ x.2 (p + 1) := fun e => by have := hx.inj2 e; omega
        have a1 := gA.1 (by omega)
        have b1 := gB.1 (by omega)
        first
          | exact kT (by unfold pE; omega)
          | exact kF (by unfold pE; omega)
      · refine x_ci ?_
        refine x_goto ?_
        refine x_zret (by first | exact bI_01 _ | omega) ?_
        have l1 := hx.lt2 (i := p) (by omega)
        have l2 := hx.lt2 (i := p + 1) (by omega)
        have n2 : x.2 p ≠ x.2 (p + 1) := fun e => by have := hx.inj2 e; omega
        have a1 := gA.1 (by omega)
        have b1 := gB.1 (by omega)
        first
          | exact kT (by unfold pE; omega)
          | exact kF (by unfold pE; omega)
    · refine x_aload rfl ?_
      refine h_getR sc_94 rfl (by omega) ?_
      refine x_iload rfl ?_
      refine x_iload rfl ?_
      refine x_iadd ?_
      refine h_iald sc_120 ⟨by omega, by omega⟩ (by decide) ?_
      rw [hkk, hc k (by omega)]
      have lk := hx.lt (i := k) (by omega)
      refine x_iload rfl ?_
      refine n_icmp_ne ⟨by omega, by omega⟩ ⟨by omega, by omega⟩ (fun c2 => ?_) (fun c2 => ?_)
      · refine x_aload rfl ?_
        refine h_getR sc_94 rfl (by omega) ?_
        refine x_iload rfl ?_
        refine x_iload rfl ?_
        refine x_iadd ?_
        refine h_iald sc_120 ⟨by omega, by omega⟩ (by decide) ?_
        rw [hc k (by omega)]
        refine x_iload rfl ?_
        refine x_ci ?_
        refine x_iadd ?_
        refine n_icmp_ne ⟨by omega, by omega⟩ ⟨by omega, by omega⟩ (fun c3 => ?_) (fun c3 => ?_)
        · refine n_iinc [some (vR _), some (vI _), some (vI _), some (vI _), some (vI _), some (vI _), some (vI _)] rfl rfl ?_
          refine x_goto ?_
          have e1 := hx.at1 (k := k) (q := p)
          have e2 := hx.at1 (k := k) (q := p + 1)
          refine ih (N - (k + 1)) (by omega) (k + 1) _ _ _ (by omega) (by omega) ⟨fun z => by omega, fun z => by omega⟩ ⟨fun z => by omega, fun z => by omega⟩
        · refine x_iload rfl ?_
          refine n_istore [some (vR _), some (vI _), some (vI _), some (vI _), some (vI _), some (vI _), some (vI _)] (Nat.le_of_ble_eq_true rfl) rfl ?_
          refine x_fall ?_
          refine n_iinc [some (vR _), some (vI _), some (vI _), some (vI _), some (vI _), some (vI _), some (vI _)] rfl rfl ?_
          refine x_goto ?_
          have e1 := hx.at1 (k := k) (q := p)
          have e2 := hx.at1 (k := k) (q := p + 1)
          refine ih (N - (k + 1)) (by omega) (k + 1) _ _ _ (by omega) (by omega) ⟨fun z => by omega, fun z => by omega⟩ ⟨fun z => by omega, fun z => by omega⟩
      · refine x_iload rfl ?_
        refine n_istore [some (vR _), some (vI _), some (vI _), some (vI _), some (vI _), some (vI _), some (vI _)] (Nat.le_of_ble_eq_true rfl) rfl ?_
        refine x_fall ?_
        refine x_aload rfl ?_
        refine h_getR sc_94 rfl (by omega) ?_
        refine x_iload rfl ?_
        refine x_iload rfl ?_
        refine x_iadd ?_
        refine h_iald sc_120 ⟨by omega, by omega⟩ (by decide) ?_
        rw [hc k (by omega)]
        refine x_iload rfl ?_
        refine x_ci ?_
        refine x_iadd ?_
        refine n_icmp_ne ⟨by omega, by omega⟩ ⟨by omega, by omega⟩ (fun c3 => ?_) (fun c3 => ?_)
        · refine n_iinc [some (vR _), some (vI _), some (vI _), some (vI _), some (vI _), some (vI _), some (vI _)] rfl rfl ?_
          refine x_goto ?_
          have e1 := hx.at1 (k := k) (q := p)
          have e2 := hx.at1 (k := k) (q := p + 1)
          refine ih (N - (k + 1)) (by omega) (k + 1) _ _ _ (by omega) (by omega) ⟨fun z => by omega, fun z => by omega⟩ ⟨fun z => by omega, fun z => by omega⟩
        · refine x_iload rfl ?_
          refine n_istore [some (vR _), some (vI _), some (vI _), some (vI _), some (vI _), some (vI _), some (vI _)] (Nat.le_of_ble_eq_true rfl) rfl ?_
          refine x_fall ?_
          refine n_iinc [some (vR _), some (vI _), some (vI _), some (vI _), some (vI _), some (vI _), some (vI _)] rfl rfl ?_
          refine x_goto ?_
          have e1 := hx.at1 (k := k) (q := p)
          have e2 := hx.at1 (k := k) (q := p + 1)
          refine ih (N - (k + 1)) (by omega) (k + 1) _ _ _ (by omega) (by omega) ⟨fun z => by omega, fun z => by omega⟩ ⟨fun z => by omega, fun z => by omega⟩
  refine n_at (m := 112) (q := mr112) (kn := (0, 4)) [some (vR _), some (vI _), some (vI _), some (vI _), none, none, none] mb112 rfl rfl (h_rcv sc_94) (Nat.le_of_ble_eq_true rfl) rfl rfl ?_
  refine x_iload rfl ?_
  refine n_if_eq ⟨by omega, by omega⟩ (fun c1 => ?_) (fun c1 => ?_)
  · refine x_ci ?_
    refine n_istore [some (vR _), some (vI _), some (vI _), some (vI _), some (vI _), _, _] (Nat.le_of_ble_eq_true rfl) rfl ?_
    refine x_ci ?_
    refine n_istore [some (vR _), some (vI _), some (vI _), some (vI _), some (vI _), some (vI _), _] (Nat.le_of_ble_eq_true rfl) rfl ?_
    refine x_ci ?_
    refine n_istore [some (vR _), some (vI _), some (vI _), some (vI _), some (vI _), some (vI _), some (vI _)] (Nat.le_of_ble_eq_true rfl) rfl ?_
    refine x_fall ?_
    exact L1 N 0 0 0 0 rfl (by omega) ⟨fun z => by omega, fun z => rfl⟩ ⟨fun z => by omega, fun z => rfl⟩
  · refine x_aload rfl ?_
    refine h_getR sc_94 rfl (by omega) ?_
    refine x_iload rfl ?_
    refine x_iload rfl ?_
    refine x_iadd ?_
    refine h_iald sc_120 ⟨by omega, by omega⟩ (by decide) ?_
    rw [hc p (by omega)]
    refine x_aload rfl ?_
    refine h_getR sc_94 rfl (by omega) ?_
    refine x_iload rfl ?_
    refine x_iload rfl ?_
    refine x_iadd ?_
    refine x_ci ?_
    refine x_iadd ?_
    refine h_iald sc_120 ⟨by omega, by omega⟩ (by decide) ?_
    rw [show a + (p : Int) + 1 = a + ((p + 1 : Nat) : Int) by omega, hc (p + 1) (by omega)]
    refine n_icmp_le ⟨by omega, by omega⟩ ⟨by omega, by omega⟩ (fun c2 => ?_) (fun c2 => ?_)
    · refine x_ci ?_
      refine x_fall ?_
      refine x_zret (by first | exact bI_01 _ | omega) ?_
      exfalso
      omega
    · refine x_ci ?_
      refine x_goto ?_
      refine x_zret (by first | exact bI_01 _ | omega) ?_
      exfalso
      omega
theorem r_crossB (hd : 1 ≤ d) (hN : N ≤ 6) (h41 : s 94 41 = N) (hx : isPm N x) (ha : 0 ≤ a ∧ a + 6 ≤ 1200) (hc : CE s a x N) {p : Nat} (hp : p + 1 < N) (kT : pB x p → Q (some (vI 1)) (HP h0 s)) (kF : ¬ pB x p → Q (some (vI 0)) (HP h0 s)) : wpM PP d 112 [vR 94, vI a, vI p, vI 1] (HP h0 s) Q := by
  have lp := hx.lt (i := p) (by omega)
  have lq := hx.lt (i := p + 1) (by omega)
  refine n_at (m := 112) (q := mr112) (kn := (0, 4)) [some (vR _), some (vI _), some (vI _), some (vI _), none, none, none] mb112 rfl rfl (h_rcv sc_94) (Nat.le_of_ble_eq_true rfl) rfl rfl ?_
  refine x_iload rfl ?_
  refine n_if_eq ⟨by omega, by omega⟩ (fun c1 => ?_) (fun c1 => ?_)
  · refine x_ci ?_
    refine n_istore [some (vR _), some (vI _), some (vI _), some (vI _), some (vI _), _, _] (Nat.le_of_ble_eq_true rfl) rfl ?_
    refine x_ci ?_
    refine n_istore [some (vR _), some (vI _), some (vI _), some (vI _), some (vI _), some (vI _), _] (Nat.le_of_ble_eq_true rfl) rfl ?_
    refine x_ci ?_
    refine n_istore [some (vR _), some (vI _), some (vI _), some (vI _), some (vI _), some (vI _), some (vI _)] (Nat.le_of_ble_eq_true rfl) rfl ?_
    refine x_fall ?_
    exfalso
    omega
  · refine x_aload rfl ?_
    refine h_getR sc_94 rfl (by omega) ?_
    refine x_iload rfl ?_
    refine x_iload rfl ?_
    refine x_iadd ?_
    refine h_iald sc_120 ⟨by omega, by omega⟩ (by decide) ?_
    rw [hc p (by omega)]
    refine x_aload rfl ?_
    refine h_getR sc_94 rfl (by omega) ?_
    refine x_iload rfl ?_
    refine x_iload rfl ?_
    refine x_iadd ?_
    refine x_ci ?_
    refine x_iadd ?_
    refine h_iald sc_120 ⟨by omega, by omega⟩ (by decide) ?_
    rw [show a + (p : Int) + 1 = a + ((p + 1 : Nat) : Int) by omega, hc (p + 1) (by omega)]
    refine n_icmp_le ⟨by omega, by omega⟩ ⟨by omega, by omega⟩ (fun c2 => ?_) (fun c2 => ?_)
    · refine x_ci ?_
      refine x_fall ?_
      refine x_zret (by first | exact bI_01 _ | omega) ?_
      first
        | exact kT (by unfold pB; omega)
        | exact kF (by unfold pB; omega)
    · refine x_ci ?_
      refine x_goto ?_
      refine x_zret (by first | exact bI_01 _ | omega) ?_
      first
        | exact kT (by unfold pB; omega)
        | exact kF (by unfold pB; omega)
theorem r_carries (hd : 1 ≤ d) (hN : N ≤ 6) (h41 : s 94 41 = N) (hx : isPm N x) (ha : 0 ≤ a ∧ a + 6 ≤ 1200) (hc : CE s a x N) (hy : isPm N y) (hb : 0 ≤ b ∧ b + 6 ≤ 1200) (hab : a + 6 ≤ b ∨ b + 6 ≤ a) (hc2 : CE s b y N) {p : Nat} (hp : p + 1 < N) (k9 : ∀ t, CE t a (pV p x) N → CE t b (pW p y) N → efr a b s t → Q none (HP h0 t)) : wpM PP d 113 [vR 94, vI a, vI b, vI p] (HP h0 s) Q := by
  have L1 : ∀ M : Nat, ∀ {o5 : Option pv} (k : Nat) (kk : Int) (t : St), (kk = k) → (M = N - k ∧ k ≤ N) → ((∀ i : Nat, i < N → t 120 (a + i) = if i < k then ((gt p (x.1 i) : Nat) : Int) else ((x.1 i : Nat) : Int))) → ((∀ (e : Nat) (r : Int), ¬ (e = 120 ∧ a ≤ r ∧ r < a + 6) → t e r = s e r)) →  wp PP d mb113 (mb113.getD 1 []) [some (vR 94), some (vI a), some (vI b), some (vI p), some (vI kk), o5] [] (HP h0 t) Q := by
    refine s_ind (fun M ih => ?_)
    intro o5 k kk t hkk hn2 g1 g2
    refine x_iload rfl ?_
    refine x_aload rfl ?_
    refine h_getI 41 sc_94 rfl rfl ?_
    rw [(g2 94 41 (by omega)).trans h41]
    refine n_icmp_ge ⟨by omega, by omega⟩ ⟨by omega, by omega⟩ (fun c1 => ?_) (fun c1 => ?_)
    · refine x_aload rfl ?_
      refine h_getR sc_94 rfl (by omega) ?_
      refine x_iload rfl ?_
      refine x_iload rfl ?_
      refine x_iadd ?_
      refine h_iald sc_120 ⟨by omega, by omega⟩ (by decide) ?_
      refine n_istore [some (vR _), some (vI _), some (vI _), some (vI _), some (vI _), _] (Nat.le_of_ble_eq_true rfl) rfl ?_
      refine x_aload rfl ?_
      refine h_getR sc_94 rfl (by omega) ?_
      refine x_iload rfl ?_
      refine x_iload rfl ?_
      refine x_iadd ?_
      refine x_aload rfl ?_
      refine h_getR sc_94 rfl (by omega) ?_
      refine x_iload rfl ?_
      refine x_iload rfl ?_
      refine x_iadd ?_
      refine x_ci ?_
      refine x_iadd ?_
      refine h_iald sc_120 ⟨by omega, by omega⟩ (by decide) ?_
      refine h_iast sc_120 ⟨by omega, by omega⟩ (by decide) ?_
      refine x_aload rfl ?_
      refine h_getR sc_94 rfl (by omega) ?_
      refine x_iload rfl ?_
      refine x_iload rfl ?_
      refine x_iadd ?_
      refine x_ci ?_
      refine x_iadd ?_
      refine x_iload rfl ?_
      refine h_iast sc_120 ⟨by omega, by omega⟩ (by decide) ?_
      refine x_ret ?_
      have e1 : t 120 (b + p) = ((y.1 p : Nat) : Int) := (g2 120 (b + p) (by omega)).trans (hc2 p (by omega))
      have e2 : t 120 (b + p + 1) = ((y.1 (p + 1) : Nat) : Int) := by
        rw [g2 120 (b + p + 1) (by omega), show b + (p : Int) + 1 = b + ((p + 1 : Nat) : Int) by omega]
        exact hc2 (p + 1) (by omega)
      refine k9 _ (fun i hi => ?_) (fun i hi => ?_) (fun e r q => ?_)
      · rw [up_i (by omega), up_i (by omega), g1 i hi, if_pos (by omega)]
        rfl
      · show _ = ((y.1 (gt p i) : Nat) : Int)
        by_cases q1 : i = p + 1
        · rw [q1, gt_r, show b + ((p + 1 : Nat) : Int) = b + p + 1 by omega, up_e, e1]
        · rw [up_i (by omega)]
          by_cases q2 : i = p
          · rw [q2, gt_l, up_e, e2]
          · rw [up_i (by omega), gt_o q2 q1, g2 120 (b + i) (by omega)]
            exact hc2 i hi
      · rw [up_f (by omega), up_f (by omega)]
        exact g2 e r (by omega)
    · refine x_aload rfl ?_
      refine h_getR sc_94 rfl (by omega) ?_
      refine x_iload rfl ?_
      refine x_iload rfl ?_
      refine x_iadd ?_
      refine h_iald sc_120 ⟨by omega, by omega⟩ (by decide) ?_
      rw [hkk, g1 k (by omega), if_neg (by omega)]
      have lk := hx.lt (i := k) (by omega)
      refine n_istore [some (vR _), some (vI _), some (vI _), some (vI _), some (vI _), some (vI _)] (Nat.le_of_ble_eq_true rfl) rfl ?_
      refine x_aload rfl ?_
      refine h_getR sc_94 rfl (by omega) ?_
      refine x_iload rfl ?_
      refine x_iload rfl ?_
      refine x_iadd ?_
      refine x_iload rfl ?_
      refine x_iload rfl ?_
      refine n_icmp_ne ⟨by omega, by omega⟩ ⟨by omega, by omega⟩ (fun c2 => ?_) (fun c2 => ?_)
      · refine x_iload rfl ?_
        refine x_iload rfl ?_
        refine x_ci ?_
        refine x_iadd ?_
        refine n_icmp_ne ⟨by omega, by omega⟩ ⟨by omega, by omega⟩ (fun c3 => ?_) (fun c3 => ?_)
        · refine x_iload rfl ?_
          refine x_fall ?_
          refine h_iast sc_120 ⟨by omega, by omega⟩ (by decide) ?_
          refine n_iinc [some (vR _), some (vI _), some (vI _), some (vI _), some (vI _), some (vI _)] rfl rfl ?_
          refine x_goto ?_
          refine ih (N - (k + 1)) (by omega) (k + 1) _ _ (by omega) (by omega) (fun i hi => ?_) (fun e r q => ?_)
          · by_cases q : i = k
            · subst q
              rw [up_e, if_pos (by omega)]
              unfold gt
              repeat' split
              all_goals omega
            · rw [up_i (by omega), g1 i hi]
              by_cases q2 : i < k
              · rw [if_pos q2, if_pos (by omega)]
              · rw [if_neg q2, if_neg (by omega)]
          · rw [up_f (by omega)]
            exact g2 e r q
        · refine x_iload rfl ?_
          refine x_goto ?_
          refine h_iast sc_120 ⟨by omega, by omega⟩ (by decide) ?_
          refine n_iinc [some (vR _), some (vI _), some (vI _), some (vI _), some (vI _), some (vI _)] rfl rfl ?_
          refine x_goto ?_
          refine ih (N - (k + 1)) (by omega) (k + 1) _ _ (by omega) (by omega) (fun i hi => ?_) (fun e r q => ?_)
          · by_cases q : i = k
            · subst q
              rw [up_e, if_pos (by omega)]
              unfold gt
              repeat' split
              all_goals omega
            · rw [up_i (by omega), g1 i hi]
              by_cases q2 : i < k
              · rw [if_pos q2, if_pos (by omega)]
              · rw [if_neg q2, if_neg (by omega)]
          · rw [up_f (by omega)]
            exact g2 e r q
      · refine x_iload rfl ?_
        refine x_ci ?_
        refine x_iadd ?_
        refine x_goto ?_
        refine h_iast sc_120 ⟨by omega, by omega⟩ (by decide) ?_
        refine n_iinc [some (vR _), some (vI _), some (vI _), some (vI _), some (vI _), some (vI _)] rfl rfl ?_
        refine x_goto ?_
        refine ih (N - (k + 1)) (by omega) (k + 1) _ _ (by omega) (by omega) (fun i hi => ?_) (fun e r q => ?_)
        · by_cases q : i = k
          · subst q
            rw [up_e, if_pos (by omega)]
            unfold gt
            repeat' split
            all_goals omega
          · rw [up_i (by omega), g1 i hi]
            by_cases q2 : i < k
            · rw [if_pos q2, if_pos (by omega)]
            · rw [if_neg q2, if_neg (by omega)]
        · rw [up_f (by omega)]
          exact g2 e r q
  refine n_at (m := 113) (q := mr113) (kn := (0, 4)) [some (vR _), some (vI _), some (vI _), some (vI _), none, none] mb113 rfl rfl (h_rcv sc_94) (Nat.le_of_ble_eq_true rfl) rfl rfl ?_
  refine x_ci ?_
  refine n_istore [some (vR _), some (vI _), some (vI _), some (vI _), some (vI _), _] (Nat.le_of_ble_eq_true rfl) rfl ?_
  refine x_fall ?_
  exact L1 N 0 0 s rfl (by omega) (fun i hi => by rw [if_neg (by omega)]; exact hc i hi) (fun _ _ _ => rfl)
/-- two factors of a row, at a and at b -/
def W2 (s : St) (a b : Int) (N : Nat) (k : Nat) (F : SQ) : Prop := okS N F ∧ CE s a (F k) N ∧ CE s b (F (k + 1)) N
/-- what weighing has done so far -/
def Wd (N k : Nat) (F G : SQ) (w : Int) : Prop := ∃ m, Rd N m F G ∧ (∀ j, j ≠ k → j ≠ k + 1 → G j = F j) ∧ ((w = 0 ∧ m = 0) ∨ (w = 1 ∧ 0 < m))
theorem Wd.go {k p : Nat} {F G : SQ} {w : Int} (h : Wd N k F G w) (a : mvd N G k p) : Wd N k F (mvt G k p) 1 := by
  obtain ⟨m, h1, h2, _⟩ := h
  exact ⟨m + 1, Rd_trans h1 (Rd_one a), fun j q1 q2 => (mvt_o q1 q2).trans (h2 j q1 q2), Or.inr ⟨rfl, Nat.succ_pos m⟩⟩
theorem r_weighs (hd : 2 ≤ d) (hN : N ≤ 6) (h41 : s 94 41 = N) (ha : 0 ≤ a ∧ a + 6 ≤ 1200) (hb : 0 ≤ b ∧ b + 6 ≤ 1200) (hab : a + 6 ≤ b ∨ b + 6 ≤ a) {F : SQ} {k : Nat} (hw2 : W2 s a b N k F) (k9 : ∀ t G m w, Rd N m F G → (∀ j, j ≠ k → j ≠ k + 1 → G j = F j) → W2 t a b N k G → (∀ q, ¬ mvd N G k q) → efr a b s t → ((w = 0 ∧ m = 0) ∨ (w = 1 ∧ 0 < m)) → Q (some (vI w)) (HP h0 t)) : wpM PP d 114 [vR 94, vI a, vI b] (HP h0 s) Q := by
  have L1 : ∀ M0 : Nat, ∀ {o5 : Option pv} (w : Int) (mo : Int) (G0 : SQ) (t : St), ((mo = 0 ∧ M0 = 2 * ln (G0 (k + 1)) ∧ ∀ q, ¬ mvd N G0 k q) ∨ (mo = 1 ∧ M0 = 2 * ln (G0 (k + 1)) + 1)) → (W2 t a b N k G0) → (Wd N k F G0 w) → (efr a b s t) →  wp PP d mb114 (mb114.getD 1 []) [some (vR 94), some (vI a), some (vI b), some (vI w), some (vI mo), o5] [] (HP h0 t) Q := by
    refine s_ind (fun M0 ih0 => ?_)
    intro o5 w mo G0 t gm g1 g2 g3
    have hw01 : w = 0 ∨ w = 1 := by
      obtain ⟨_, _, _, z⟩ := g2
      omega
    have hmo : mo = 0 ∨ mo = 1 := by
      rcases gm with ⟨z, _⟩ | ⟨z, _⟩ <;> omega
    refine x_iload rfl ?_
    refine n_if_eq ⟨by omega, by omega⟩ (fun c1 => ?_) (fun c1 => ?_)
    · refine x_iload rfl ?_
      refine x_zret (by first | exact bI_01 _ | omega) ?_
      obtain ⟨m', r1, r2, r3⟩ := g2
      rcases gm with ⟨z1, _, z3⟩ | ⟨z, _⟩
      · exact k9 t G0 m' w r1 r2 g1 z3 g3 r3
      · exact absurd z (by omega)
    · refine x_ci ?_
      refine n_istore [some (vR _), some (vI _), some (vI _), some (vI _), some (vI _), _] (Nat.le_of_ble_eq_true rfl) rfl ?_
      refine x_ci ?_
      refine n_istore [some (vR _), some (vI _), some (vI _), some (vI _), some (vI _), some (vI _)] (Nat.le_of_ble_eq_true rfl) rfl ?_
      refine x_fall ?_
      have L2_pre : 2 * ln (G0 (k + 1)) + 1 = M0 := by
        rcases gm with ⟨z, _⟩ | ⟨_, z⟩
        · exact absurd z (by omega)
        · exact z.symm
      have L2 : ∀ M : Nat, ∀ (p : Nat) (pp : Int) (w : Int) (mo : Int) (G : SQ) (t : St), (pp = p) → (M = N - p ∧ p ≤ N) → (W2 t a b N k G) → (Wd N k F G w) → (efr a b s t) → ((mo = 0 ∧ G = G0 ∧ ∀ q, q < p → ¬ mvd N G k q) ∨ (mo = 1 ∧ ln (G (k + 1)) < ln (G0 (k + 1)))) →  wp PP d mb114 (mb114.getD 2 []) [some (vR 94), some (vI a), some (vI b), some (vI w), some (vI mo), some (vI pp)] [] (HP h0 t) Q := by
        refine s_ind (fun M ih => ?_)
        intro p pp w mo G t hpp hM g1 g2 g3 g4
        subst hpp
        refine x_iload rfl ?_
        refine x_ci ?_
        refine x_iadd ?_
        refine x_aload rfl ?_
        refine h_getI 41 sc_94 rfl rfl ?_
        rw [(g3 94 41 (by omega)).trans h41]
        refine n_icmp_ge ⟨by omega, by omega⟩ ⟨by omega, by omega⟩ (fun c1 => ?_) (fun c1 => ?_)
        · refine x_goto ?_
          rcases g4 with ⟨z1, z2, z3⟩ | ⟨z1, z2⟩
          · refine ih0 (2 * ln (G (k + 1))) (by subst z2; omega) w mo G t (Or.inl ⟨z1, rfl, fun q mv => ?_⟩) g1 g2 g3
            have := mv.1
            exact z3 q (by omega) mv
          · exact ih0 (2 * ln (G (k + 1)) + 1) (by omega) w mo G t (Or.inr ⟨z1, rfl⟩) g1 g2 g3
        · refine x_aload rfl ?_
          refine x_iload rfl ?_
          refine x_iload rfl ?_
          refine x_ci ?_
          refine n_call [vR _, vI _, vI _, vI _] [] (by omega) (Nat.le_of_ble_eq_true rfl) rfl rfl (Nat.le_of_ble_eq_true rfl) ?_
          refine r_crossB (by omega) hN ((g3 94 41 (by omega)).trans h41) (g1.1 (k + 1)) hb g1.2.2 (p := p) (by omega) (fun hy1 => ?_) (fun hy1 => ?_)
          · show wp PP _ _ _ _ [vI _] _ _
            refine n_if_eq ⟨by omega, by omega⟩ (fun z => by omega) (fun _ => ?_)
            refine x_aload rfl ?_
            refine x_iload rfl ?_
            refine x_iload rfl ?_
            refine x_ci ?_
            refine n_call [vR _, vI _, vI _, vI _] [] (by omega) (Nat.le_of_ble_eq_true rfl) rfl rfl (Nat.le_of_ble_eq_true rfl) ?_
            refine r_crossE (by omega) hN ((g3 94 41 (by omega)).trans h41) (g1.1 k) ha g1.2.1 (p := p) (by omega) (fun hy2 => ?_) (fun hy2 => ?_)
            · show wp PP _ _ _ _ [vI _] _ _
              refine n_if_eq ⟨by omega, by omega⟩ (fun z => by omega) (fun _ => ?_)
              refine x_goto ?_
              refine n_iinc [_, _, _, _, _, _] rfl rfl ?_
              refine x_goto ?_
              refine ih (N - (p + 1)) (by omega) (p + 1) _ w mo G t (by omega) (by omega) g1 g2 g3 ?_
              rcases g4 with ⟨z1, z2, z3⟩ | z
              · refine Or.inl ⟨z1, z2, fun q hq mv => ?_⟩
                by_cases e : q = p
                · subst e
                  first
                    | exact hy1 mv.2.1
                    | exact mv.2.2 hy2
                · exact z3 q (by omega) mv
              · exact Or.inr z
            · show wp PP _ _ _ _ [vI _] _ _
              refine n_if_eq ⟨by omega, by omega⟩ (fun _ => ?_) (fun z => absurd rfl z)
              have mv : mvd N G k p := ⟨by omega, hy1, hy2⟩
              refine x_aload rfl ?_
              refine x_iload rfl ?_
              refine x_iload rfl ?_
              refine x_iload rfl ?_
              refine n_call [vR _, vI _, vI _, vI _] [] (by omega) (Nat.le_of_ble_eq_true rfl) rfl rfl (Nat.le_of_ble_eq_true rfl) ?_
              refine r_carries (by omega) hN ((g3 94 41 (by omega)).trans h41) (g1.1 k) ha g1.2.1 (g1.1 (k + 1)) hb hab g1.2.2 (p := p) (by omega) (fun u u1 u2 u3 => ?_)
              show wp PP _ _ _ _ [] _ _
              refine x_ci ?_
              refine n_istore [_, _, _, _, _, _] (Nat.le_of_ble_eq_true rfl) rfl ?_
              refine x_ci ?_
              refine n_istore [_, _, _, _, _, _] (Nat.le_of_ble_eq_true rfl) rfl ?_
              refine x_fall ?_
              refine n_iinc [_, _, _, _, _, _] rfl rfl ?_
              refine x_goto ?_
              have lw := ln_W (p := p) (x := G (k + 1)) (by omega) hy1
              refine ih (N - (p + 1)) (by omega) (p + 1) _ 1 1 (mvt G k p) _ (by omega) (by omega) ⟨g1.1.mv (by omega) k, by rw [mvt_k]; exact u1, by rw [mvt_k1]; exact u2⟩ (g2.go mv) (efr_tr g3 u3) (Or.inr ⟨rfl, ?_⟩)
              rw [mvt_k1]
              rcases g4 with ⟨_, z, _⟩ | ⟨_, z⟩
              · rw [z] at lw ⊢
                omega
              · omega
          · show wp PP _ _ _ _ [vI _] _ _
            refine n_if_eq ⟨by omega, by omega⟩ (fun _ => ?_) (fun z => absurd rfl z)
            refine n_iinc [_, _, _, _, _, _] rfl rfl ?_
            refine x_goto ?_
            refine ih (N - (p + 1)) (by omega) (p + 1) _ w mo G t (by omega) (by omega) g1 g2 g3 ?_
            rcases g4 with ⟨z1, z2, z3⟩ | z
            · refine Or.inl ⟨z1, z2, fun q hq mv => ?_⟩
              by_cases e : q = p
              · subst e
                first
                  | exact hy1 mv.2.1
                  | exact mv.2.2 hy1
              · exact z3 q (by omega) mv
            · exact Or.inr z
      exact L2 N 0 0 w 0 G0 t rfl (by omega) g1 g2 g3 (Or.inl ⟨rfl, rfl, fun q hq => by omega⟩)
  refine n_at (m := 114) (q := mr114) (kn := (0, 3)) [some (vR _), some (vI _), some (vI _), none, none, none] mb114 rfl rfl (h_rcv sc_94) (Nat.le_of_ble_eq_true rfl) rfl rfl ?_
  refine x_ci ?_
  refine n_istore [some (vR _), some (vI _), some (vI _), some (vI _), _, _] (Nat.le_of_ble_eq_true rfl) rfl ?_
  refine x_ci ?_
  refine n_istore [some (vR _), some (vI _), some (vI _), some (vI _), some (vI _), _] (Nat.le_of_ble_eq_true rfl) rfl ?_
  refine x_fall ?_
  exact L1 _ 0 1 F s (Or.inr ⟨rfl, rfl⟩) hw2 ⟨0, rfl, fun _ _ _ => rfl, Or.inl ⟨rfl, rfl⟩⟩ efr_rfl
end FO1
