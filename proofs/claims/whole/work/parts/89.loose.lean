/-! LOOSE, ALIKE: the coil and the form say the same -/
section LO1
variable {d tp : Nat} {h0 : pheap} {s tqq uqq : St} {Q : Option pv → pheap → Prop} {N n n' : Nat} {L : Int} {c c' : Int → Int}
abbrev lsP (c : Int → Int) (n : Nat) : Prop := ∀ r : Fin 12, wR c n ((r : Nat) : Int) = ((r : Nat) : Int) % 2
abbrev alP (c : Int → Int) (n : Nat) (c' : Int → Int) (n' : Nat) : Prop := ∀ r : Fin 12, wR c n ((r : Nat) : Int) = wR c' n' ((r : Nat) : Int)
theorem vC.ten (hv : vC L c n) : ∀ i : Int, 0 ≤ i → i < n → 0 ≤ c i ∧ c i < 10 := fun i i0 i1 => by
  have := hv i i0 i1
  have := cnt_R L
  omega
theorem wR_out : ∀ {n : Nat}, (∀ i : Int, 0 ≤ i → i < n → 0 ≤ c i ∧ c i < 10) → ∀ j : Int, j < 0 ∨ 12 ≤ j → wR c n j = j % 2
  | 0, _, j, _ => rfl
  | n + 1, h, j, hj => by
    have hc := h n (by omega) (by omega)
    show (if c n % 2 = 0 then rovr (2 * (c n / 2)) (wR c n) else runr (2 * (c n / 2)) (wR c n)) j = _
    split
    · rw [rov_o (by omega), wR_out (fun i i0 i1 => h i i0 (by omega)) j hj]
    · rw [run_o (by omega), wR_out (fun i i0 i1 => h i i0 (by omega)) j hj]
theorem wR_fold : ∀ {n : Nat}, (∀ i : Int, 0 ≤ i → i < n → 0 ≤ c i ∧ c i < 10) → wR c n = rn fR (wl c n) bR
  | 0, _ => rfl
  | n + 1, h => by
    have hc := h n (by omega) (by omega)
    rw [rn_wl, ← wR_fold (fun i i0 i1 => h i i0 (by omega))]
    show (if c n % 2 = 0 then rovr (2 * (c n / 2)) (wR c n) else runr (2 * (c n / 2)) (wR c n)) = _
    unfold fR
    obtain ⟨m, hm⟩ : ∃ m : Nat, c n = m := ⟨(c n).toNat, by omega⟩
    rw [hm, Int.toNat_natCast]
    by_cases q : m % 2 = 0
    · rw [if_pos (by omega), if_pos q, show 2 * ((m : Int) / 2) = 2 * ((m / 2 : Nat) : Int) by omega]
    · rw [if_neg (by omega), if_neg q, show 2 * ((m : Int) / 2) = 2 * ((m / 2 : Nat) : Int) by omega]
theorem lsP_iff (hN : N ≤ 6) (hNL : cnt L = N) (hv : vC L c n) : lsP c n ↔ qW N hN c n = q0 N := by
  have hv2 : vw 0 N (wl c n) := wl_vw (fun i i0 i1 => by have := hv i i0 i1; omega)
  have e := wR_fold hv.ten
  rw [show (qW N hN c n = q0 N) = (rn (qf N hN) (wl c n) (q0 N) = q0 N) from rfl, ← loose_iff hN hv2, ← e]
  constructor
  · intro h
    funext j
    by_cases q : j < 0 ∨ 12 ≤ j
    · exact wR_out hv.ten j q
    · have := h ⟨j.toNat, by omega⟩
      dsimp only at this
      rw [show ((j.toNat : Nat) : Int) = j by omega] at this
      exact this
  · intro h r
    rw [h]
    rfl
/-- what undoes a word -/
def invw : List Nat → List Nat
  | [] => []
  | c :: wqq => invw wqq ++ [ivc c]
theorem rn_inv {β : Type} {f : Nat → β → β} (ha : Act N β f) : ∀ (wqq : List Nat) (_ : vw 0 N wqq) (x b : β), rn f (invw wqq) x = b ↔ x = rn f wqq b
  | [], _, x, b => Iff.rfl
  | c :: wqq, hw, x, b => by
    have hc := (hw c (List.mem_cons_self ..)).2
    have ih := rn_inv ha wqq (fun d hd => hw d (List.mem_cons_of_mem c hd)) x (f c b)
    show rn f (invw wqq ++ [ivc c]) x = b ↔ x = rn f wqq (f c b)
    rw [rn_app, ← ih]
    have i2 : ivc (ivc c) = c := by
      unfold ivc
      repeat' split
      all_goals omega
    constructor
    · intro e
      have e : f (ivc c) (rn f (invw wqq) x) = b := e
      rw [← e]
      have := ha.undo (c := ivc c) (by rw [ivc_2]; exact hc) (rn f (invw wqq) x)
      rw [i2] at this
      exact this.symm
    · intro e
      show f (ivc c) (rn f (invw wqq) x) = b
      rw [e]
      exact ha.undo hc b
theorem vw_inv : ∀ {wqq : List Nat}, vw 0 N wqq → vw 0 N (invw wqq)
  | [], h => h
  | c :: wqq, h => fun x hx => by
    rcases List.mem_append.mp hx with hx | hx
    · exact vw_inv (fun d hd => h d (List.mem_cons_of_mem c hd)) x hx
    · have hx : x = ivc c := by simpa using hx
      rw [hx, ivc_2]
      exact h c (List.mem_cons_self ..)
theorem same_iff (hN : N ≤ 6) {wqq w' : List Nat} (hw : vw 0 N wqq) (hw' : vw 0 N w') : rn fR wqq bR = rn fR w' bR ↔ rn (qf N hN) wqq (q0 N) = rn (qf N hN) w' (q0 N) := by
  have a : vw 0 N (wqq ++ invw w') := fun x hx => by
    rcases List.mem_append.mp hx with hx | hx
    · exact hw x hx
    · exact vw_inv hw' x hx
  have l := loose_iff hN a
  rw [rn_app, rn_app, rn_inv (fR_act N) w' hw', rn_inv (qf_act hN) w' hw'] at l
  exact l
theorem alP_iff (hN : N ≤ 6) (hNL : cnt L = N) (hv : vC L c n) (hv' : vC L c' n') : alP c n c' n' ↔ qW N hN c n = qW N hN c' n' := by
  have w1qq : vw 0 N (wl c n) := wl_vw (fun i i0 i1 => by have := hv i i0 i1; omega)
  have w2qq : vw 0 N (wl c' n') := wl_vw (fun i i0 i1 => by have := hv' i i0 i1; omega)
  rw [show (qW N hN c n = qW N hN c' n') = (rn (qf N hN) (wl c n) (q0 N) = rn (qf N hN) (wl c' n') (q0 N)) from rfl, ← same_iff hN w1qq w2qq, ← wR_fold hv.ten, ← wR_fold hv'.ten]
  constructor
  · intro h
    funext j
    by_cases q : j < 0 ∨ 12 ≤ j
    · rw [wR_out hv.ten j q, wR_out hv'.ten j q]
    · have := h ⟨j.toNat, by omega⟩
      dsimp only at this
      rw [show ((j.toNat : Nat) : Int) = j by omega] at this
      exact this
  · intro h r
    rw [h]
/-- a row's letters undone, the last one first -/
def iqW (N : Nat) (hN : N ≤ 6) (c : Int → Int) : Nat → QF N → QF N
  | 0, q => q
  | m + 1, q => iqW N hN c m (qf N hN (ivc (c m).toNat) q)
theorem iqW_iff (hN : N ≤ 6) : ∀ {m : Nat} {q : QF N}, (∀ i : Int, 0 ≤ i → i < m → 0 ≤ c i ∧ c i < 2 * ((N : Int) - 1)) → (iqW N hN c m q = q0 N ↔ q = qW N hN c m)
  | 0, q, _ => Iff.rfl
  | m + 1, q, h => by
    have hc := h m (by omega) (by omega)
    have h1 : (c m).toNat / 2 + 1 < N := by omega
    show iqW N hN c m (qf N hN (ivc (c m).toNat) q) = q0 N ↔ _
    rw [iqW_iff hN (fun i i0 i1 => h i i0 (by omega)), qW_s]
    have i2 : ivc (ivc (c m).toNat) = (c m).toNat := by
      unfold ivc
      repeat' split
      all_goals omega
    have a := qf_act hN
    constructor
    · intro e
      rw [← e]
      have := a.undo (c := ivc (c m).toNat) (by rw [ivc_2]; exact h1) q
      rw [i2] at this
      exact this.symm
    · intro e
      rw [e]
      exact a.undo h1 _
theorem vC.none (hv : vC L c n) (h : cnt L < 2) : n = 0 := by
  refine Classical.byContradiction (fun q => ?_)
  have := hv 0 (by omega) (by omega)
  omega
theorem m_isLoose (hd : 13 ≤ d) (hp : PL 54 L n c s) (k : ∀ tqq, lkC tp s tqq → Q (some (vI (bI (lsP c n)))) (HP h0 tqq)) : wpM PP d 15 [vR 32] (HP h0 s) Q := by
  refine n_at (m := 15) (q := mr15) (kn := (0, 1)) [some (vR _)] mb15 rfl rfl (h_rcv sc_32) (Nat.le_of_ble_eq_true rfl) rfl rfl ?_
  refine x_aload rfl ?_
  refine h_getR sc_32 rfl (by omega) ?_
  refine x_aload rfl ?_
  refine h_getR sc_32 rfl (by omega) ?_
  refine h_getR sc_53 rfl (by omega) ?_
  refine n_call [vR _, vR _] [] (by omega) (Nat.le_of_ble_eq_true rfl) rfl rfl (Nat.le_of_ble_eq_true rfl) ?_
  refine m_straightens co_90 pl_54 (by omega) (by omega) hp (fun i hi => wR_B60 (by have := hp.hn; omega) (fun j j0 j1 => hp.v.ten j j0 (by omega))) (fun tqq g1 g2 => ?_)
  show wp PP _ _ _ [some (vR _)] [vI _] _ _
  refine x_zret (by first | exact bI_01 _ | omega) ?_
  exact k tqq (fun b r q1 q2 q3 q4 => g2 b (by omega) r)
theorem m_alike {L' ia : Int} (hd : 13 ≤ d) (hp : PL 54 L n c s) (h8 : s 32 8 = ia) (hia : ia = 0 ∨ ia = 1) (hI : ia = 1 → PL 59 L' n' c' s) (k0 : ia = 0 → Q (some (vI (-2))) (HP h0 s)) (k1 : ia = 1 → L ≠ L' → Q (some (vI 0)) (HP h0 s)) (k2 : ia = 1 → L = L' → ∀ tqq, lkC tp s tqq → Q (some (vI (bI (alP c n c' n')))) (HP h0 tqq)) : wpM PP d 16 [vR 32] (HP h0 s) Q := by
  refine n_at (m := 16) (q := mr16) (kn := (0, 1)) [some (vR _)] mb16 rfl rfl (h_rcv sc_32) (Nat.le_of_ble_eq_true rfl) rfl rfl ?_
  refine x_aload rfl ?_
  refine h_getZ 8 sc_32 rfl rfl ?_
  rw [h8]
  refine n_if_ne ⟨by omega, by omega⟩ (fun c1 => ?_) (fun c1 => ?_)
  · refine x_aload rfl ?_
    refine h_getR sc_32 rfl (by omega) ?_
    refine h_getR sc_53 rfl (by omega) ?_
    refine h_getI 3 sc_54 rfl rfl ?_
    rw [hp.left]
    have hL0 := hp.hL
    refine x_aload rfl ?_
    refine h_getR sc_32 rfl (by omega) ?_
    refine h_getR sc_58 rfl (by omega) ?_
    refine h_getI 3 sc_59 rfl rfl ?_
    have hpi := hI (by omega)
    have hL1 := hpi.hL
    rw [hpi.left]
    refine n_icmp_eq ⟨by omega, by omega⟩ ⟨by omega, by omega⟩ (fun c2 => ?_) (fun c2 => ?_)
    · refine x_aload rfl ?_
      refine h_getR sc_32 rfl (by omega) ?_
      refine x_aload rfl ?_
      refine h_getR sc_32 rfl (by omega) ?_
      refine h_getR sc_53 rfl (by omega) ?_
      refine n_call [vR _, vR _] [] (by omega) (Nat.le_of_ble_eq_true rfl) rfl rfl (Nat.le_of_ble_eq_true rfl) ?_
      have hpi := hI (by omega)
      refine m_wind co_90 pl_54 (by omega) (by omega) hp (fun i hi => wR_B60 (by have := hp.hn; omega) (fun j j0 j1 => hp.v.ten j j0 (by omega))) (fun tqq g1 g2 => ?_)
      show wp PP _ _ _ [some (vR _)] [] _ _
      refine x_aload rfl ?_
      refine h_getR sc_32 rfl (by omega) ?_
      refine x_aload rfl ?_
      refine h_getR sc_32 rfl (by omega) ?_
      refine h_getR sc_58 rfl (by omega) ?_
      refine n_call [vR _, vR _] [] (by omega) (Nat.le_of_ble_eq_true rfl) rfl rfl (Nat.le_of_ble_eq_true rfl) ?_
      have hpi2 : PL 59 L' n' c' tqq := PLout hpi (fun b z1qq z2qq r => g2 b (by omega) r)
      refine m_wind co_92 pl_59 (by omega) (by omega) hpi2 (fun i hi => wR_B60 (by have := hpi.hn; omega) (fun j j0 j1 => hpi.v.ten j j0 (by omega))) (fun uqq g3 g4 => ?_)
      show wp PP _ _ _ [some (vR _)] [] _ _
      refine x_aload rfl ?_
      refine h_getR sc_32 rfl (by omega) ?_
      refine x_aload rfl ?_
      refine h_getR sc_32 rfl (by omega) ?_
      refine n_call [vR _, vR _] [] (by omega) (Nat.le_of_ble_eq_true rfl) rfl rfl (Nat.le_of_ble_eq_true rfl) ?_
      have w1qq : ∀ j : Int, 0 ≤ j → j < 12 → uqq (90 + 1) j = wR c n j := fun j j0 j1 => (g4 91 (by omega) j).trans (g1 j j0 j1)
      have w2qq : ∀ j : Int, 0 ≤ j → j < 12 → uqq (92 + 1) j = wR c' n' j := g3
      refine m_isAs co_90 co_92 (fun j j0 j1 => by rw [w1qq j j0 j1]; exact wR_B60 (by have := hp.hn; omega) hp.v.ten j j0 j1) (fun j j0 j1 => by rw [w2qq j j0 j1]; exact wR_B60 (by have := hpi.hn; omega) hpi.v.ten j j0 j1) ?_
      show wp PP _ _ _ [some (vR _)] [vI _] _ _
      refine t_I (bI (alP c n c' n')) (bI_cg ⟨fun zqq r => ?_, fun zqq r => ?_⟩) ?_
      · have := zqq r
        rw [w1qq _ (by omega) (by have := r.2; omega), w2qq _ (by omega) (by have := r.2; omega)] at this
        exact this
      · rw [w1qq _ (by omega) (by have := r.2; omega), w2qq _ (by omega) (by have := r.2; omega)]
        exact zqq r
      refine n_call [vI _] [] (by omega) (Nat.le_of_ble_eq_true rfl) rfl rfl (Nat.le_of_ble_eq_true rfl) ?_
      refine m_bit (by first | exact bI_01 _ | omega) ?_
      show wp PP _ _ _ [some (vR _)] [vI _] _ _
      refine x_iret ?_
      first
        | exact k0 (by omega)
        | exact k1 (by omega) (by omega)
        | exact k2 (by omega) (by omega) uqq (fun b r q1 q2 q3 q4 => (g4 b (by omega) r).trans (g2 b (by omega) r))
    · refine x_ci ?_
      refine x_iret ?_
      first
        | exact k0 (by omega)
        | exact k1 (by omega) (by omega)
        | exact k2 (by omega) (by omega) uqq (fun b r q1 q2 q3 q4 => (g4 b (by omega) r).trans (g2 b (by omega) r))
  · refine x_ci ?_
    refine x_iret ?_
    first
      | exact k0 (by omega)
      | exact k1 (by omega) (by omega)
      | exact k2 (by omega) (by omega) uqq (fun b r q1 q2 q3 q4 => (g4 b (by omega) r).trans (g2 b (by omega) r))
theorem r_isLooseNow {g : Int} (hd : 10 ≤ d) (hg : 0 ≤ g ∧ g < 23) (hr : RD g L n c s) (k : ∀ tqq, (∀ (b : Nat) (r : Int), ¬ (b = 94 ∧ r = 41) → ¬ (b = 120 ∧ 600 * (0 : Int) ≤ r ∧ r < 600 * (0 : Int) + 600) → ¬ (b = 118 ∧ r = 0) → ¬ (b = 119 ∧ r = 0) → tqq b r = s b r) → Q (some (vI (bI (lsP c n)))) (HP h0 tqq)) : wpM PP d 121 [vR 94, vI g] (HP h0 s) Q := by
  have hct := cnt_R L
  refine n_at (m := 121) (q := mr121) (kn := (0, 2)) [some (vR _), some (vI _)] mb121 rfl rfl (h_rcv sc_94) (Nat.le_of_ble_eq_true rfl) rfl rfl ?_
  refine x_aload rfl ?_
  refine x_ci ?_
  refine x_iload rfl ?_
  refine n_call [vR _, vI _, vI _] [] (by omega) (Nat.le_of_ble_eq_true rfl) rfl rfl (Nat.le_of_ble_eq_true rfl) ?_
  obtain ⟨N, hNL⟩ : ∃ N : Nat, cnt L = N := ⟨(cnt L).toNat, by omega⟩
  have hN : N ≤ 6 := by omega
  refine r_formOf (f := 0) (g := g) (by omega) (by omega) hN hNL hg hr (fun tqq g1 g2 g3 => ?_)
  show wp PP _ _ _ [some (vR _), some (vI _)] [] _ _
  refine x_aload rfl ?_
  refine x_ci ?_
  refine n_call [vR _, vI _] [] (by omega) (Nat.le_of_ble_eq_true rfl) rfl rfl (Nat.le_of_ble_eq_true rfl) ?_
  have li := lsP_iff hN hNL hr.2.2.1
  refine r_none (f := 0) (by omega) hN (by have := hr.2.1; omega) (by
    by_cases q : 2 ≤ N
    · exact Or.inl q
    · exact Or.inr (hr.2.2.1.none (by omega))) g1 (fun zqq => ?_) (fun zqq => ?_)
  · show wp PP _ _ _ _ [vI _] _ _
    refine x_zret (by decide) ?_
    exact cB1 (k tqq g3) (li.mpr zqq)
  · show wp PP _ _ _ _ [vI _] _ _
    refine x_zret (by decide) ?_
    exact cB0 (k tqq g3) (fun y => zqq (li.mp y))
theorem r_isLoose (hd : 11 ≤ d) (hr0 : RD 0 L n c s) (k : ∀ tqq, lkN s tqq → Q (some (vI (bI (lsP c n)))) (HP h0 tqq)) : wpM PP d 139 [vR 94] (HP h0 s) Q := by
  refine n_at (m := 139) (q := mr139) (kn := (0, 1)) [some (vR _)] mb139 rfl rfl (h_rcv sc_94) (Nat.le_of_ble_eq_true rfl) rfl rfl ?_
  refine x_aload rfl ?_
  refine x_ci ?_
  refine h_putI 0 sc_94 rfl rfl ?_
  refine x_aload rfl ?_
  refine x_ci ?_
  refine n_call [vR _, vI _] [] (by omega) (Nat.le_of_ble_eq_true rfl) rfl rfl (Nat.le_of_ble_eq_true rfl) ?_
  refine r_isLooseNow (g := 0) (by omega) (by omega) (RD.up hr0 (by decide)) (fun tqq g1 => ?_)
  show wp PP _ _ _ [some (vR _)] [vI _] _ _
  refine x_zret (by first | exact bI_01 _ | omega) ?_
  exact k tqq (fun b r q1 q2 q3 q4 q5 q6 q7 => by rw [g1 b r (by omega) (by omega) (by omega) (by omega), up_f (by omega)])
end LO1
