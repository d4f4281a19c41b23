/-! THE REFERENCE: stands, bonds, who is free, who is home, copies -/
section R3
variable {d : Nat} {h0 h : pheap} {s : St} {Q : Option pv → pheap → Prop} {L f : Int} {n : Nat} {c c' : Int → Int}
theorem rfr_rfl {s : St} : rfr s s := fun _ _ _ => rfl
theorem rfr_tr {s t u : St} (h1 : rfr s t) (h2 : rfr t u) : rfr s u := fun b h j => (h2 b h j).trans (h1 b h j)
theorem r_stands (hf : 0 ≤ f ∧ f < 23) {m : Nat} (hd : 2 ≤ d) (hL : 0 ≤ L ∧ L < 64) (hf1 : s 111 f = L) (hm : m ≤ 48) (hv : vC L c m) (hc : ∀ i : Int, 0 ≤ i → i < m → s 113 (48 * f + i) = c i) (k : ∀ t, SD L c m t → rfr s t → Q none (HP h0 t)) : wpM PP d 102 [vR 94, vI f, vI m] (HP h0 s) Q := by
  have L3 : ∀ N : Nat, ∀ (j : Nat) (i : Int) (t : St), (i = j) → (N = m - j ∧ j ≤ m) → (SD L c j t) → (rfr s t) →  wp PP d mb102 (mb102.getD 7 []) [some (vR 94), some (vI f), some (vI m), some (vI (cnt L)), some (vI i)] [] (HP h0 t) Q := by
    refine s_ind (fun N ih => ?_)
    intro j i t hj hn2 g1 g2
    have g8 : j < m → t 113 (48 * f + i) = c i := fun z => (g2 113 (by omega) _).trans (hc i (by omega) (by omega))
    have g9 : j < m → 0 ≤ c i ∧ c i < 2 * (cnt L - 1) := fun z => hv i (by omega) (by omega)
    have hct := cnt_R L
    have vj : vC L c j := vC_less hv (by omega)
    refine x_iload rfl ?_
    refine x_iload rfl ?_
    refine n_icmp_ge ⟨by omega, by omega⟩ ⟨by omega, by omega⟩ (fun c1 => ?_) (fun c1 => ?_)
    · refine x_ret ?_
      have e : j = m := by omega
      subst e
      exact k t g1 g2
    · refine x_aload rfl ?_
      refine x_aload rfl ?_
      refine h_getR sc_94 rfl (by omega) ?_
      refine x_ci ?_
      refine x_iload rfl ?_
      refine x_imul ?_
      refine x_iload rfl ?_
      refine x_iadd ?_
      refine h_iald sc_113 ⟨by omega, by omega⟩ (by decide) ?_
      refine n_call [vR _, vI _] [] (by omega) (Nat.le_of_ble_eq_true rfl) rfl rfl (Nat.le_of_ble_eq_true rfl) ?_
      rw [g8 (by omega)]
      have g9 := g9 (by omega)
      have o1 := wO_R hL vj (c i / 2) (by omega) (by omega)
      have o2 := wO_R hL vj (c i / 2 + 1) (by omega) (by omega)
      refine r_crosses (x := c i) (o1 := wO L c j (c i / 2)) (o2 := wO L c j (c i / 2 + 1)) (by omega) (g1.1 _ (by omega) (by omega)) (g1.1 _ (by omega) (by omega)) ⟨o1.1, o1.2.1⟩ ⟨o2.1, o2.2.1⟩ (fun e => by have := wO_inj hL vj _ _ (by omega) (by omega) (by omega) (by omega) e; omega) (fun u hu => ?_)
      show wp PP _ _ _ [some (vR _), some (vI _), some (vI _), some (vI _), some (vI _)] [] _ _
      refine n_iinc [some (vR _), some (vI _), some (vI _), some (vI _), some (vI _)] rfl rfl ?_
      refine x_goto ?_
      have e9 : c j = c i := by rw [hj]
      refine ih (m - (j + 1)) (by omega) (j + 1) _ _ (by omega) (by omega) (g1.step hL (vC_less hv (by omega)) (by rw [e9]; exact hu)) (rfr_tr g2 hu.1)
  have L2 : ∀ N : Nat, ∀ (i : Int) (t : St), (N = 36 - i.toNat) → (0 ≤ i ∧ i ≤ 36) → (∀ p, 0 ≤ p → p < cnt L → t 114 p = ordN L 6 p) → (∀ q, 0 ≤ q → q < i → t 115 q = 0) → (∀ x, 0 ≤ x → x < 6 → t 116 x = 0 ∧ t 117 x = 0) → (rfr s t) →  wp PP d mb102 (mb102.getD 5 []) [some (vR 94), some (vI f), some (vI m), some (vI (cnt L)), some (vI i)] [] (HP h0 t) Q := by
    refine s_ind (fun N ih => ?_)
    intro i t hn hr g1 g2 g3 g4
    refine x_iload rfl ?_
    refine x_ci ?_
    refine n_icmp_ge ⟨by omega, by omega⟩ ⟨by omega, by omega⟩ (fun c1 => ?_) (fun c1 => ?_)
    · refine x_ci ?_
      refine n_istore [some (vR _), some (vI _), some (vI _), some (vI _), some (vI _)] (Nat.le_of_ble_eq_true rfl) rfl ?_
      refine x_fall ?_
      refine L3 m 0 0 _ rfl (by omega) ⟨g1, fun j j0 j1 => g2 j j0 (by omega), fun x x0 x1 => (g3 x x0 x1).1, fun x x0 x1 => (g3 x x0 x1).2⟩ g4
    · refine x_aload rfl ?_
      refine h_getR sc_94 rfl (by omega) ?_
      refine x_iload rfl ?_
      refine x_ci ?_
      refine h_iast sc_115 ⟨by omega, by omega⟩ (by decide) ?_
      refine n_iinc [some (vR _), some (vI _), some (vI _), some (vI _), some (vI _)] rfl rfl ?_
      refine x_goto ?_
      refine ih (36 - (i + 1).toNat) (by omega) (i + 1) _ rfl (by omega) (fun p p0 p1 => ?_) (fun q q0 q1 => ?_) (fun x x0 x1 => ?_) (fun b hb r => ?_)
      · rw [up_a (by decide)]
        exact g1 p p0 p1
      · rw [up_at]
        split
        · rfl
        · exact g2 q q0 (by omega)
      · rw [up_a (by decide), up_a (by decide)]
        exact g3 x x0 x1
      · rw [up_a (by omega)]
        exact g4 b hb r
  have L1 : ∀ N : Nat, ∀ (j : Nat) (i : Int) (q : Int) (t : St), (i = j) → (N = 6 - j ∧ j ≤ 6) → (q = cntN L j) → (∀ p, 0 ≤ p → p < cntN L j → t 114 p = ordN L j p) → (∀ x : Int, 0 ≤ x → x < j → t 116 x = 0 ∧ t 117 x = 0) → (rfr s t) →  wp PP d mb102 (mb102.getD 1 []) [some (vR 94), some (vI f), some (vI m), some (vI q), some (vI i)] [] (HP h0 t) Q := by
    refine s_ind (fun N ih => ?_)
    intro j i q t hj hn hq g1 g3 g4
    have b1 := bt_R L j
    have b2 := cntN_R L j
    have e1 : t 111 f = L := (g4 111 (by omega) f).trans hf1
    refine x_iload rfl ?_
    refine x_ci ?_
    refine n_icmp_ge ⟨by omega, by omega⟩ ⟨by omega, by omega⟩ (fun c1 => ?_) (fun c1 => ?_)
    · refine x_ci ?_
      refine n_istore [some (vR _), some (vI _), some (vI _), some (vI _), some (vI _)] (Nat.le_of_ble_eq_true rfl) rfl ?_
      refine x_fall ?_
      have e6 : j = 6 := by omega
      subst e6
      rw [hq]
      refine L2 36 0 _ rfl (by omega) g1 (fun q q0 q1 => by omega) (fun x x0 x1 => g3 x x0 x1) g4
    · refine x_aload rfl ?_
      refine h_getR sc_94 rfl (by omega) ?_
      refine x_iload rfl ?_
      refine x_ci ?_
      refine h_iast sc_116 ⟨by omega, by omega⟩ (by decide) ?_
      refine x_aload rfl ?_
      refine h_getR sc_94 rfl (by omega) ?_
      refine x_iload rfl ?_
      refine x_ci ?_
      refine h_iast sc_117 ⟨by omega, by omega⟩ (by decide) ?_
      refine x_aload rfl ?_
      refine x_iload rfl ?_
      refine x_iload rfl ?_
      refine n_call [vR _, vI _, vI _] [] (by omega) (Nat.le_of_ble_eq_true rfl) rfl rfl (Nat.le_of_ble_eq_true rfl) ?_
      refine r_isLeft ⟨by omega, by omega⟩ (by rw [up_a (by decide), up_a (by decide), e1]; exact hL) ⟨by omega, by omega⟩ ?_
      rw [up_a (a := 117) (b := 111) (by decide), up_a (a := 116) (b := 111) (by decide), e1]
      show wp PP _ _ _ [some (vR _), some (vI _), some (vI _), some (vI _), some (vI _)] [vI _] _ _
      refine z_if_ne (fun c2 => ?_) (fun c2 => ?_)
      · refine x_aload rfl ?_
        refine h_getR sc_94 rfl (by omega) ?_
        refine x_iload rfl ?_
        refine x_iload rfl ?_
        refine h_iast sc_114 ⟨by omega, by omega⟩ (by decide) ?_
        refine n_iinc [some (vR _), some (vI _), some (vI _), some (vI _), some (vI _)] rfl rfl ?_
        refine x_fall ?_
        refine n_iinc [some (vR _), some (vI _), some (vI _), some (vI _), some (vI _)] rfl rfl ?_
        refine x_goto ?_
        have hb : bt L j = 1 := by rw [← hj]; exact c2
        refine ih (6 - (j + 1)) (by omega) (j + 1) _ _ _ (by omega) (by omega) ?_ (fun p p0 p1 => ?_) (fun x x0 x1 => ?_) (fun b hb r => ?_)
        · simp only [cntN]
          omega
        · simp only [cntN] at p1
          simp only [ordN]
          rw [up_at, hq]
          by_cases e : p = cntN L j
          · rw [if_pos e, if_pos ⟨hb, e⟩, hj]
          · rw [if_neg e, if_neg (fun z => e z.2), up_a (by decide), up_a (by decide)]
            exact g1 p p0 (by omega)
        · by_cases e : x = i
          · simp [up, e]
          · have := g3 x x0 (by omega)
            simp [up, e, this]
        · rw [up_a (by omega), up_a (by omega), up_a (by omega)]
          exact g4 b hb r
      · refine x_goto ?_
        refine n_iinc [some (vR _), some (vI _), some (vI _), some (vI _), some (vI _)] rfl rfl ?_
        refine x_goto ?_
        have hb : bt L j ≠ 1 := by rw [← hj]; exact c2
        refine ih (6 - (j + 1)) (by omega) (j + 1) _ _ _ (by omega) (by omega) ?_ (fun p p0 p1 => ?_) (fun x x0 x1 => ?_) (fun b hb r => ?_)
        · simp only [cntN]
          omega
        · simp only [cntN] at p1
          simp only [ordN]
          rw [if_neg (fun z => hb z.1), up_a (by decide), up_a (by decide)]
          exact g1 p p0 (by omega)
        · by_cases e : x = i
          · simp [up, e]
          · have := g3 x x0 (by omega)
            simp [up, e, this]
        · rw [up_a (by omega), up_a (by omega)]
          exact g4 b hb r
  refine n_at (m := 102) (q := mr102) (kn := (0, 3)) [some (vR _), some (vI _), some (vI _), none, none] mb102 rfl rfl (h_rcv sc_94) (Nat.le_of_ble_eq_true rfl) rfl rfl ?_
  refine x_ci ?_
  refine n_istore [some (vR _), some (vI _), some (vI _), some (vI _), _] (Nat.le_of_ble_eq_true rfl) rfl ?_
  refine x_ci ?_
  refine n_istore [some (vR _), some (vI _), some (vI _), some (vI _), some (vI _)] (Nat.le_of_ble_eq_true rfl) rfl ?_
  refine x_fall ?_
  refine L1 6 0 0 _ s rfl (by omega) rfl (fun p p0 p1 => by simp only [cntN] at p1; omega) (fun x x0 x1 => by omega) rfr_rfl
theorem r_standsAll (hf : 0 ≤ f ∧ f < 23) (hd : 3 ≤ d) (hr : RD f L n c s) (k : ∀ t, SD L c n t → rfr s t → Q none (HP h0 t)) : wpM PP d 104 [vR 94, vI f] (HP h0 s) Q := by
  obtain ⟨hL, hn, hv, r1, r2, r3⟩ := hr
  refine n_at (m := 104) (q := mr104) (kn := (0, 2)) [some (vR _), some (vI _)] mb104 rfl rfl (h_rcv sc_94) (Nat.le_of_ble_eq_true rfl) rfl rfl ?_
  refine x_aload rfl ?_
  refine x_iload rfl ?_
  refine x_aload rfl ?_
  refine h_getR sc_94 rfl (by omega) ?_
  refine x_iload rfl ?_
  refine h_iald sc_112 ⟨by omega, by omega⟩ (by decide) ?_
  refine n_call [vR _, vI _, vI _] [] (by omega) (Nat.le_of_ble_eq_true rfl) rfl rfl (Nat.le_of_ble_eq_true rfl) ?_
  rw [r2]
  refine r_stands (c := c) (L := L) ⟨by omega, by omega⟩ (m := n) (by omega) hL r1 hn hv r3 (fun t t1 t2 => ?_)
  show wp PP _ _ _ [some (vR _), some (vI _)] [] _ _
  refine x_ret ?_
  exact k t t1 t2
theorem p2_6 : ∀ j : Nat, j < 7 → (2 : Int) ^ j ≤ 64 := by decide
theorem or_zero {q : Int} (h0 : 0 ≤ q) (h1 : q < 2147483648) : i_or q 0 = q := by
  obtain ⟨m, rfl⟩ : ∃ m : Nat, q = m := ⟨q.toNat, by omega⟩
  have := i_or_nat (a := m) (b := 0) (by omega) (by decide)
  simpa using this
theorem r_boundTo (hn : n ≤ 60) (hs : SD L c n s) {x : Int} (hx : 0 ≤ x ∧ x < 6) (k : Q (some (vI (bd L c n x))) (HP h0 s)) : wpM PP d 105 [vR 94, vI x] (HP h0 s) Q := by
  have L1 : ∀ N : Nat, ∀ (j : Nat) (i : Int) (q : Int), (i = j) → (N = 6 - j ∧ j ≤ 6) → (q = bdN L c n x j) →  wp PP d mb105 (mb105.getD 1 []) [some (vR 94), some (vI x), some (vI q), some (vI i)] [] (HP h0 s) Q := by
    refine s_ind (fun N ih => ?_)
    intro j i q hj hn2 hq
    have gb := bdN_R (L := L) (c := c) (n := n) (x := x) j
    have gw := wB_R (L := L) (c := c) n (6 * x + i)
    have g1 : j < 6 → s 115 (6 * x + i) = wB L c n (6 * x + i) := fun z => hs.2.1 _ (by omega) (by omega)
    have gt : j < 6 → i_or q (i_shl 1 i) = q + 2 ^ j := fun z => by
      have e : i.toNat = j := by omega
      have := or_bit (b := q) (k := i) (by omega) (by rw [e, hq]; exact gb)
      rw [this, e]
    have g0 : i_or q 0 = q := or_zero (by rw [hq]; exact gb.1) (by
      have := p2_6 j (by omega)
      rw [hq]
      omega)
    refine x_iload rfl ?_
    refine x_ci ?_
    refine n_icmp_ge ⟨by omega, by omega⟩ ⟨by omega, by omega⟩ (fun c1 => ?_) (fun c1 => ?_)
    · refine x_iload rfl ?_
      refine x_iret ?_
      refine cI k ?_
      have e : j = 6 := by omega
      rw [hq, e]
      rfl
    · refine x_iload rfl ?_
      refine x_aload rfl ?_
      refine h_getR sc_94 rfl (by omega) ?_
      refine x_ci ?_
      refine x_iload rfl ?_
      refine x_imul ?_
      refine x_iload rfl ?_
      refine x_iadd ?_
      refine h_iald sc_115 ⟨by omega, by omega⟩ (by decide) ?_
      rw [g1 (by omega)]
      refine n_if_eq ⟨by omega, by omega⟩ (fun c2 => ?_) (fun c2 => ?_)
      · refine x_ci ?_
        refine x_fall ?_
        refine x_ior ?_
        first | rw [gt (by omega)] | rw [g0]
        refine n_istore [some (vR _), some (vI _), some (vI _), some (vI _)] (Nat.le_of_ble_eq_true rfl) rfl ?_
        refine n_iinc [some (vR _), some (vI _), some (vI _), some (vI _)] rfl rfl ?_
        refine x_goto ?_
        refine ih (6 - (j + 1)) (by omega) (j + 1) _ _ (by omega) (by omega) ?_
        simp only [bdN]
        rw [if_neg (by rw [← hj]; intro z; exact z c2), hq]
        omega
      · refine x_ci ?_
        refine x_iload rfl ?_
        refine x_ishl ?_
        refine x_goto ?_
        refine x_ior ?_
        first | rw [gt (by omega)] | rw [g0]
        refine n_istore [some (vR _), some (vI _), some (vI _), some (vI _)] (Nat.le_of_ble_eq_true rfl) rfl ?_
        refine n_iinc [some (vR _), some (vI _), some (vI _), some (vI _)] rfl rfl ?_
        refine x_goto ?_
        refine ih (6 - (j + 1)) (by omega) (j + 1) _ _ (by omega) (by omega) ?_
        simp only [bdN]
        rw [if_pos (by rw [← hj]; exact c2), hq]
  refine n_at (m := 105) (q := mr105) (kn := (0, 2)) [some (vR _), some (vI _), none, none] mb105 rfl rfl (h_rcv sc_94) (Nat.le_of_ble_eq_true rfl) rfl rfl ?_
  refine x_ci ?_
  refine n_istore [some (vR _), some (vI _), some (vI _), _] (Nat.le_of_ble_eq_true rfl) rfl ?_
  refine x_ci ?_
  refine n_istore [some (vR _), some (vI _), some (vI _), some (vI _)] (Nat.le_of_ble_eq_true rfl) rfl ?_
  refine x_fall ?_
  refine L1 6 0 0 _ rfl (by omega) rfl
/-- those who are bound, told twice; bits of those who are free -/
def b2N (L : Int) (c : Int → Int) (n : Nat) : Nat → Int
  | 0 => 0
  | k + 1 => b2N L c n k + cnt (bd L c n k)
def foN (L : Int) (c : Int → Int) (n : Nat) : Nat → Int
  | 0 => 0
  | k + 1 => foN L c n k + (if bt L k = 1 ∧ bd L c n k = 0 then 2 ^ k else 0)
theorem b2N_R : ∀ k : Nat, 0 ≤ b2N L c n k ∧ b2N L c n k ≤ 6 * k
  | 0 => by simp [b2N]
  | k + 1 => by
    have := b2N_R k
    have := cnt_R (bd L c n k)
    simp only [b2N]
    omega
theorem foN_R : ∀ k : Nat, 0 ≤ foN L c n k ∧ foN L c n k < 2 ^ k
  | 0 => by simp [foN]
  | k + 1 => by
    have := foN_R k
    simp only [foN, Int.pow_succ]
    split <;> omega
theorem r_boundPairs (hd : 1 ≤ d) (hn : n ≤ 60) (hs : SD L c n s) (k : Q (some (vI (b2N L c n 6 / 2))) (HP h0 s)) : wpM PP d 106 [vR 94] (HP h0 s) Q := by
  have L1 : ∀ N : Nat, ∀ (j : Nat) (i : Int) (q : Int), (i = j) → (N = 6 - j ∧ j ≤ 6) → (q = b2N L c n j) →  wp PP d mb106 (mb106.getD 1 []) [some (vR 94), some (vI q), some (vI i)] [] (HP h0 s) Q := by
    refine s_ind (fun N ih => ?_)
    intro j i q hj hn2 hq
    have gq := b2N_R (L := L) (c := c) (n := n) j
    refine x_iload rfl ?_
    refine x_ci ?_
    refine n_icmp_ge ⟨by omega, by omega⟩ ⟨by omega, by omega⟩ (fun c1 => ?_) (fun c1 => ?_)
    · refine x_iload rfl ?_
      refine x_ci ?_
      refine n_idiv ⟨by omega, by omega⟩ ⟨by omega, by omega⟩ ?_
      refine x_iret ?_
      refine cI k ?_
      have e : j = 6 := by omega
      rw [hq, e]
    · refine x_iload rfl ?_
      refine x_aload rfl ?_
      refine x_iload rfl ?_
      refine n_call [vR _, vI _] [vI _] (by omega) (Nat.le_of_ble_eq_true rfl) rfl rfl (Nat.le_of_ble_eq_true rfl) ?_
      refine r_boundTo hn hs ⟨by omega, by omega⟩ ?_
      show wp PP _ _ _ [some (vR _), some (vI _), some (vI _)] [vI _, vI _] _ _
      refine n_call [vI _] [vI _] (by omega) (Nat.le_of_ble_eq_true rfl) rfl rfl (Nat.le_of_ble_eq_true rfl) ?_
      refine r_bitsOf bd_R ?_
      show wp PP _ _ _ [some (vR _), some (vI _), some (vI _)] [vI _, vI _] _ _
      refine x_iadd ?_
      refine n_istore [some (vR _), some (vI _), some (vI _)] (Nat.le_of_ble_eq_true rfl) rfl ?_
      refine n_iinc [some (vR _), some (vI _), some (vI _)] rfl rfl ?_
      refine x_goto ?_
      refine ih (6 - (j + 1)) (by omega) (j + 1) _ _ (by omega) (by omega) ?_
      simp only [b2N]
      rw [hq, hj]
  refine n_at (m := 106) (q := mr106) (kn := (0, 1)) [some (vR _), none, none] mb106 rfl rfl (h_rcv sc_94) (Nat.le_of_ble_eq_true rfl) rfl rfl ?_
  refine x_ci ?_
  refine n_istore [some (vR _), some (vI _), _] (Nat.le_of_ble_eq_true rfl) rfl ?_
  refine x_ci ?_
  refine n_istore [some (vR _), some (vI _), some (vI _)] (Nat.le_of_ble_eq_true rfl) rfl ?_
  refine x_fall ?_
  refine L1 6 0 0 _ rfl (by omega) rfl
end R3
