/-! SEARCH, the reference: places and bonds of a dance danced aside; a crossing taken back; areHome, boundPairs over them -/
section PR1
variable {d : Nat} {h0 : pheap} {s : St} {Q : Option pv → pheap → Prop} {L f : Int} {n : Nat} {c : Int → Int}
def SB (L : Int) (c : Int → Int) (n : Nat) (s : St) : Prop := (∀ p, 0 ≤ p → p < cnt L → s 114 p = wO L c n p) ∧ (∀ j, 0 ≤ j → j < 36 → s 115 j = wB L c n j)
theorem SD.sb (h : SD L c n s) : SB L c n s := ⟨h.1, h.2.1⟩
theorem SB.of {tqq : St} (h : SB L c n s) (g : ∀ q, tqq 114 q = s 114 q) (g2 : ∀ q, tqq 115 q = s 115 q) : SB L c n tqq :=
  ⟨fun p p0 p1 => by rw [g]; exact h.1 p p0 p1, fun j j0 j1 => by rw [g2]; exact h.2 j j0 j1⟩
theorem SB.step {tqq : St} (hs : SB L c n s) (hc : crossd (c n) (wO L c n (c n / 2)) (wO L c n (c n / 2 + 1)) s tqq) : SB L c (n + 1) tqq := by
  obtain ⟨c1, c2, c3, c4, c5⟩ := hc
  refine ⟨fun p p0 p1 => ?_, fun j j0 j1 => ?_⟩
  · rw [c2]
    simp only [wO]
    split
    · rfl
    · split
      · rfl
      · exact hs.1 p p0 p1
  · rw [c3]
    simp only [wB]
    split
    · rw [hs.2 j j0 j1]
    · exact hs.2 j j0 j1
theorem SB.back {tqq : St} (hs : SB L c (n + 1) s) {x : Int} (h2 : x / 2 = c n / 2) (hg : sgn x = - sgn (c n)) (hc : crossd x (wO L c n (c n / 2 + 1)) (wO L c n (c n / 2)) s tqq) : SB L c n tqq := by
  obtain ⟨c1, c2, c3, c4, c5⟩ := hc
  refine ⟨fun p p0 p1 => ?_, fun j j0 j1 => ?_⟩
  · rw [c2, h2]
    by_cases e : p = c n / 2
    · rw [if_pos e, e]
    · rw [if_neg e]
      by_cases e2 : p = c n / 2 + 1
      · rw [if_pos e2, e2]
      · rw [if_neg e2, hs.1 p p0 p1]
        simp only [wO]
        rw [if_neg e, if_neg e2]
  · rw [c3, hs.2 j j0 j1, hg]
    simp only [wB]
    by_cases e : j = 6 * wO L c n (c n / 2) + wO L c n (c n / 2 + 1) ∨ j = 6 * wO L c n (c n / 2 + 1) + wO L c n (c n / 2)
    · rw [if_pos e, if_pos e.symm]
      omega
    · rw [if_neg e, if_neg (fun zqq => e zqq.symm)]
theorem r_boundToB (hn : n ≤ 60) (hs : SB L c n s) {x : Int} (hx : 0 ≤ x ∧ x < 6) (k : Q (some (vI (bd L c n x))) (HP h0 s)) : wpM PP d 105 [vR 94, vI x] (HP h0 s) Q := by
  have L1 : ∀ N : Nat, ∀ (j : Nat) (i : Int) (q : Int), (i = j) → (N = 6 - j ∧ j ≤ 6) → (q = bdN L c n x j) →  wp PP d mb105 (mb105.getD 1 []) [some (vR 94), some (vI x), some (vI q), some (vI i)] [] (HP h0 s) Q := by
    refine s_ind (fun N ih => ?_)
    intro j i q hj hn2 hq
    have gb := bdN_R (L := L) (c := c) (n := n) (x := x) j
    have gw := wB_R (L := L) (c := c) n (6 * x + i)
    have g1 : j < 6 → s 115 (6 * x + i) = wB L c n (6 * x + i) := fun zqq => hs.2 _ (by omega) (by omega)
    have gt : j < 6 → i_or q (i_shl 1 i) = q + 2 ^ j := fun zqq => by
      have e : i.toNat = j := by omega
      have := or_bit (b := q) (k := i) (by omega) (by rw [e, hq]; exact gb)
      rw [this, e]
    have g0 : i_or q 0 = q := or_zero (by rw [hq]; exact gb.1) (by
      have := p2_6 j (by omega)
      rw [hq]
      omega)
    refine x_iload rfl ?_
    refine x_ci ?_
    refine n_icmp_ge ⟨by omega, by omega⟩ ⟨by omega, by omega⟩ (fun c1 => ?_) (fun c1 => ?_)
    · refine x_iload rfl ?_
      refine x_iret ?_
      refine cI k ?_
      have e : j = 6 := by omega
      rw [hq, e]
      rfl
    · refine x_iload rfl ?_
      refine x_aload rfl ?_
      refine h_getR sc_94 rfl (by omega) ?_
      refine x_ci ?_
      refine x_iload rfl ?_
      refine x_imul ?_
      refine x_iload rfl ?_
      refine x_iadd ?_
      refine h_iald sc_115 ⟨by omega, by omega⟩ (by decide) ?_
      rw [g1 (by omega)]
      refine n_if_eq ⟨by omega, by omega⟩ (fun c2 => ?_) (fun c2 => ?_)
      · refine x_ci ?_
        refine x_fall ?_
        refine x_ior ?_
        first | rw [gt (by omega)] | rw [g0]
        refine n_istore [some (vR _), some (vI _), some (vI _), some (vI _)] (Nat.le_of_ble_eq_true rfl) rfl ?_
        refine n_iinc [some (vR _), some (vI _), some (vI _), some (vI _)] rfl rfl ?_
        refine x_goto ?_
        refine ih (6 - (j + 1)) (by omega) (j + 1) _ _ (by omega) (by omega) ?_
        simp only [bdN]
        rw [if_neg (by rw [← hj]; intro zqq; exact zqq c2), hq]
        omega
      · refine x_ci ?_
        refine x_iload rfl ?_
        refine x_ishl ?_
        refine x_goto ?_
        refine x_ior ?_
        first | rw [gt (by omega)] | rw [g0]
        refine n_istore [some (vR _), some (vI _), some (vI _), some (vI _)] (Nat.le_of_ble_eq_true rfl) rfl ?_
        refine n_iinc [some (vR _), some (vI _), some (vI _), some (vI _)] rfl rfl ?_
        refine x_goto ?_
        refine ih (6 - (j + 1)) (by omega) (j + 1) _ _ (by omega) (by omega) ?_
        simp only [bdN]
        rw [if_pos (by rw [← hj]; exact c2), hq]
  refine n_at (m := 105) (q := mr105) (kn := (0, 2)) [some (vR _), some (vI _), none, none] mb105 rfl rfl (h_rcv sc_94) (Nat.le_of_ble_eq_true rfl) rfl rfl ?_
  refine x_ci ?_
  refine n_istore [some (vR _), some (vI _), some (vI _), _] (Nat.le_of_ble_eq_true rfl) rfl ?_
  refine x_ci ?_
  refine n_istore [some (vR _), some (vI _), some (vI _), some (vI _)] (Nat.le_of_ble_eq_true rfl) rfl ?_
  refine x_fall ?_
  refine L1 6 0 0 _ rfl (by omega) rfl
theorem r_boundPairsB (hd : 1 ≤ d) (hn : n ≤ 60) (hs : SB L c n s) (k : Q (some (vI (b2N L c n 6 / 2))) (HP h0 s)) : wpM PP d 106 [vR 94] (HP h0 s) Q := by
  have L1 : ∀ N : Nat, ∀ (j : Nat) (i : Int) (q : Int), (i = j) → (N = 6 - j ∧ j ≤ 6) → (q = b2N L c n j) →  wp PP d mb106 (mb106.getD 1 []) [some (vR 94), some (vI q), some (vI i)] [] (HP h0 s) Q := by
    refine s_ind (fun N ih => ?_)
    intro j i q hj hn2 hq
    have gq := b2N_R (L := L) (c := c) (n := n) j
    refine x_iload rfl ?_
    refine x_ci ?_
    refine n_icmp_ge ⟨by omega, by omega⟩ ⟨by omega, by omega⟩ (fun c1 => ?_) (fun c1 => ?_)
    · refine x_iload rfl ?_
      refine x_ci ?_
      refine n_idiv ⟨by omega, by omega⟩ ⟨by omega, by omega⟩ ?_
      refine x_iret ?_
      refine cI k ?_
      have e : j = 6 := by omega
      rw [hq, e]
    · refine x_iload rfl ?_
      refine x_aload rfl ?_
      refine x_iload rfl ?_
      refine n_call [vR _, vI _] [vI _] (by omega) (Nat.le_of_ble_eq_true rfl) rfl rfl (Nat.le_of_ble_eq_true rfl) ?_
      have gb := bd_R (L := L) (c := c) (n := n) (x := i)
      refine r_boundToB hn hs (by omega) ?_
      show wp PP _ _ _ [some (vR _), some (vI _), some (vI _)] [vI _, vI _] _ _
      refine n_call [vI _] [vI _] (by omega) (Nat.le_of_ble_eq_true rfl) rfl rfl (Nat.le_of_ble_eq_true rfl) ?_
      refine r_bitsOf bd_R ?_
      show wp PP _ _ _ [some (vR _), some (vI _), some (vI _)] [vI _, vI _] _ _
      refine x_iadd ?_
      refine n_istore [some (vR _), some (vI _), some (vI _)] (Nat.le_of_ble_eq_true rfl) rfl ?_
      refine n_iinc [some (vR _), some (vI _), some (vI _)] rfl rfl ?_
      refine x_goto ?_
      refine ih (6 - (j + 1)) (by omega) (j + 1) _ _ (by omega) (by omega) ?_
      simp only [b2N]
      rw [hq, hj]
  refine n_at (m := 106) (q := mr106) (kn := (0, 1)) [some (vR _), none, none] mb106 rfl rfl (h_rcv sc_94) (Nat.le_of_ble_eq_true rfl) rfl rfl ?_
  refine x_ci ?_
  refine n_istore [some (vR _), some (vI _), _] (Nat.le_of_ble_eq_true rfl) rfl ?_
  refine x_ci ?_
  refine n_istore [some (vR _), some (vI _), some (vI _)] (Nat.le_of_ble_eq_true rfl) rfl ?_
  refine x_fall ?_
  refine L1 6 0 0 _ rfl (by omega) rfl
theorem r_areHomeS (hf : 0 ≤ f ∧ f < 23) (hd : 1 ≤ d) (hL : 0 ≤ L ∧ L < 64) (hv : vC L c n) (r1 : s 111 f = L) (hs : SB L c n s) (k : Q (some (vI (bI (tpO (wO L c n) (cnt L).toNat (cnt L).toNat = 0)))) (HP h0 s)) : wpM PP d 108 [vR 94, vI f] (HP h0 s) Q := by
  have hct := cnt_R L
  have L1 : ∀ N : Nat, ∀ (i : Int), (1 ≤ i ∧ i ≤ 7) → (N = (cnt L).toNat - i.toNat) → (∀ q : Int, 1 ≤ q → q < i → wO L c n (q - 1) ≤ wO L c n q) →  wp PP d mb108 (mb108.getD 1 []) [some (vR 94), some (vI f), some (vI i)] [] (HP h0 s) Q := by
    refine s_ind (fun N ih => ?_)
    intro i hj hn2 g
    have g1 : i < cnt L → s 114 i = wO L c n i ∧ s 114 (i - 1) = wO L c n (i - 1) := fun zqq => ⟨hs.1 _ (by omega) zqq, hs.1 _ (by omega) (by omega)⟩
    have o1 : i < cnt L → _ := fun zqq => wO_R hL hv i (by omega) zqq
    have o2 : i < cnt L → _ := fun zqq => wO_R hL hv (i - 1) (by omega) (by omega)
    refine x_iload rfl ?_
    refine x_aload rfl ?_
    refine h_getR sc_94 rfl (by omega) ?_
    refine x_iload rfl ?_
    refine h_iald sc_111 ⟨by omega, by omega⟩ (by decide) ?_
    refine n_call [vI _] [vI _] (by omega) (Nat.le_of_ble_eq_true rfl) rfl rfl (Nat.le_of_ble_eq_true rfl) ?_
    rw [r1]
    refine r_bitsOf hL ?_
    show wp PP _ _ _ [some (vR _), some (vI _), some (vI _)] [vI _, vI _] _ _
    refine n_icmp_ge ⟨by omega, by omega⟩ ⟨by omega, by omega⟩ (fun c1 => ?_) (fun c1 => ?_)
    · refine x_ci ?_
      refine x_zret (by first | exact bI_01 _ | omega) ?_
      first
        | exact cB0 k (tp_not (k := i) (by omega) (by omega) (by omega))
        | exact cB1 k (tp_home (fun q q0 q1 => g q q0 (by omega)))
    · refine x_aload rfl ?_
      refine h_getR sc_94 rfl (by omega) ?_
      refine x_iload rfl ?_
      refine x_ci ?_
      refine x_isub ?_
      refine h_iald sc_114 ⟨by omega, by omega⟩ (by decide) ?_
      have o1 := o1 (by omega)
      have o2 := o2 (by omega)
      have g1 := g1 (by omega)
      rw [g1.2]
      refine x_aload rfl ?_
      refine h_getR sc_94 rfl (by omega) ?_
      refine x_iload rfl ?_
      refine h_iald sc_114 ⟨by omega, by omega⟩ (by decide) ?_
      rw [g1.1]
      refine n_icmp_le ⟨by omega, by omega⟩ ⟨by omega, by omega⟩ (fun c2 => ?_) (fun c2 => ?_)
      · refine n_iinc [some (vR _), some (vI _), some (vI _)] rfl rfl ?_
        refine x_goto ?_
        refine ih ((cnt L).toNat - (i + 1).toNat) (by omega) (i + 1) (by omega) (by omega) (fun q q0 q1 => ?_)
        by_cases e : q = i
        · subst e
          exact c2
        · exact g q q0 (by omega)
      · refine x_ci ?_
        refine x_zret (by first | exact bI_01 _ | omega) ?_
        first
          | exact cB0 k (tp_not (k := i) (by omega) (by omega) (by omega))
          | exact cB1 k (tp_home (fun q q0 q1 => g q q0 (by omega)))
  refine n_at (m := 108) (q := mr108) (kn := (0, 2)) [some (vR _), some (vI _), none] mb108 rfl rfl (h_rcv sc_94) (Nat.le_of_ble_eq_true rfl) rfl rfl ?_
  refine x_ci ?_
  refine n_istore [some (vR _), some (vI _), some (vI _)] (Nat.le_of_ble_eq_true rfl) rfl ?_
  refine x_fall ?_
  refine L1 ((cnt L).toNat - 1) 1 (by omega) (by omega) (fun q q0 q1 => by omega)
end PR1
