/-! THE REFERENCE: who is free, who is home, places, copies, letting go -/
section R4
variable {d : Nat} {h0 h : pheap} {s : St} {Q : Option pv → pheap → Prop} {L f : Int} {n : Nat} {c c' : Int → Int}
theorem tpI_z {g : Int → Int} {p : Int} : ∀ k : Nat, (∀ q : Int, p < q → q < k → g p ≤ g q) → tpI g p k = 0
  | 0, _ => rfl
  | k + 1, h => by
    simp only [tpI]
    rw [tpI_z k (fun q q0 q1 => h q q0 (by omega))]
    split
    · rw [bI_f (by have := h k (by omega) (by omega); omega)]
      rfl
    · rfl
theorem tpO_z {g : Int → Int} {m : Nat} (h : ∀ p q : Int, 0 ≤ p → p < q → q < m → g p ≤ g q) : ∀ k : Nat, tpO g m k = 0
  | 0 => rfl
  | k + 1 => by
    simp only [tpO]
    rw [tpO_z h k, tpI_z m (fun q q0 q1 => h k q (by omega) q0 q1)]
    rfl
theorem tpI_p {g : Int → Int} {p q : Int} (h0 : 0 ≤ p) (hq : p < q) (hg : g q < g p) : ∀ k : Nat, q < k → 0 < tpI g p k
  | 0, h => by omega
  | k + 1, h => by
    have := tpI_R g p k
    have := bI_R (g k < g p)
    simp only [tpI]
    by_cases e : q = k
    · subst e
      rw [if_pos hq, bI_t hg]
      omega
    · have := tpI_p h0 hq hg k (by omega)
      split <;> omega
theorem tpO_p {g : Int → Int} {m : Nat} {p q : Int} (h0 : 0 ≤ p) (hq : p < q) (hm : q < m) (hg : g q < g p) : ∀ k : Nat, p < k → 0 < tpO g m k
  | 0, h => by omega
  | k + 1, h => by
    have := tpO_R g m k
    have := tpI_R g k m
    simp only [tpO]
    by_cases e : p = k
    · subst e
      have := tpI_p h0 hq hg m hm
      omega
    · have := tpO_p h0 hq hm hg k (by omega)
      omega
theorem sorted_all {g : Int → Int} {m : Int} (h : ∀ k : Int, 1 ≤ k → k < m → g (k - 1) ≤ g k) (p : Int) (h0 : 0 ≤ p) : ∀ k : Nat, p + k < m → g p ≤ g (p + k)
  | 0, _ => by simp
  | k + 1, hk => by
    have := sorted_all h p h0 k (by omega)
    have := h (p + k + 1) (by omega) (by omega)
    have e : p + ((k + 1 : Nat) : Int) = p + k + 1 := by omega
    have e2 : p + (k : Int) + 1 - 1 = p + k := by omega
    rw [e]
    rw [e2] at this
    omega
theorem tp_home {g : Int → Int} {m : Nat} (h : ∀ k : Int, 1 ≤ k → k < m → g (k - 1) ≤ g k) : tpO g m m = 0 := tpO_z (fun p q p0 pq qm => by
  have := sorted_all h p p0 (q - p).toNat (by omega)
  have e : p + ((q - p).toNat : Int) = q := by omega
  rwa [e] at this) m
theorem tp_not {g : Int → Int} {m : Nat} {k : Int} (h1 : 1 ≤ k) (h2 : k < m) (hg : g k < g (k - 1)) : ¬ tpO g m m = 0 := by
  have := tpO_p (p := k - 1) (q := k) (m := m) (by omega) (by omega) h2 hg m (by omega)
  omega
theorem r_freeOnes (hf : 0 ≤ f ∧ f < 23) (hd : 2 ≤ d) (hr : RD f L n c s) (hs : SD L c n s) (k : Q (some (vI (foN L c n 6))) (HP h0 s)) : wpM PP d 107 [vR 94, vI f] (HP h0 s) Q := by
  obtain ⟨hL, hn0, hv, r1, r2, r3⟩ := hr
  have hn : n ≤ 60 := by omega
  have L1 : ∀ N : Nat, ∀ (j : Nat) (i : Int) (q : Int), (i = j) → (N = 6 - j ∧ j ≤ 6) → (q = foN L c n j) →  wp PP d mb107 (mb107.getD 1 []) [some (vR 94), some (vI f), some (vI q), some (vI i)] [] (HP h0 s) Q := by
    refine s_ind (fun N ih => ?_)
    intro j i q hj hn2 hq
    have gb := foN_R (L := L) (c := c) (n := n) j
    have gt : j < 6 → i_or q (i_shl 1 i) = q + 2 ^ j := fun z => by
      have e : i.toNat = j := by omega
      have := or_bit (b := q) (k := i) (by omega) (by rw [e, hq]; exact gb)
      rw [this, e]
    have g0 : i_or q 0 = q := or_zero (by rw [hq]; exact gb.1) (by
      have := p2_6 j (by omega)
      rw [hq]
      omega)
    refine x_iload rfl ?_
    refine x_ci ?_
    refine n_icmp_ge ⟨by omega, by omega⟩ ⟨by omega, by omega⟩ (fun c1 => ?_) (fun c1 => ?_)
    · refine x_iload rfl ?_
      refine x_iret ?_
      refine cI k ?_
      have e : j = 6 := by omega
      rw [hq, e]
    · refine x_iload rfl ?_
      refine x_aload rfl ?_
      refine x_iload rfl ?_
      refine x_iload rfl ?_
      refine n_call [vR _, vI _, vI _] [vI _] (by omega) (Nat.le_of_ble_eq_true rfl) rfl rfl (Nat.le_of_ble_eq_true rfl) ?_
      refine r_isLeft ⟨by omega, by omega⟩ (by rw [r1]; exact hL) ⟨by omega, by omega⟩ ?_
      rw [r1]
      show wp PP _ _ _ [some (vR _), some (vI _), some (vI _), some (vI _)] [vI _, vI _] _ _
      refine z_if_eq (fun c2 => ?_) (fun c2 => ?_)
      · refine x_ci ?_
        refine x_fall ?_
        refine x_ior ?_
        first | rw [gt (by omega)] | rw [g0]
        refine n_istore [some (vR _), some (vI _), some (vI _), some (vI _)] (Nat.le_of_ble_eq_true rfl) rfl ?_
        refine n_iinc [some (vR _), some (vI _), some (vI _), some (vI _)] rfl rfl ?_
        refine x_goto ?_
        refine ih (6 - (j + 1)) (by omega) (j + 1) _ _ (by omega) (by omega) ?_
        simp only [foN]
        rw [if_neg (by rw [← hj]; intro z; exact c2 z.1), hq]
        omega
      · refine x_aload rfl ?_
        refine x_iload rfl ?_
        refine n_call [vR _, vI _] [vI _] (by omega) (Nat.le_of_ble_eq_true rfl) rfl rfl (Nat.le_of_ble_eq_true rfl) ?_
        have gb := bd_R (L := L) (c := c) (n := n) (x := i)
        refine r_boundTo hn hs ⟨by omega, by omega⟩ ?_
        show wp PP _ _ _ [some (vR _), some (vI _), some (vI _), some (vI _)] [vI _, vI _] _ _
        refine n_if_ne ⟨by omega, by omega⟩ (fun c3 => ?_) (fun c3 => ?_)
        · refine x_ci ?_
          refine x_fall ?_
          refine x_ior ?_
          first | rw [gt (by omega)] | rw [g0]
          refine n_istore [some (vR _), some (vI _), some (vI _), some (vI _)] (Nat.le_of_ble_eq_true rfl) rfl ?_
          refine n_iinc [some (vR _), some (vI _), some (vI _), some (vI _)] rfl rfl ?_
          refine x_goto ?_
          refine ih (6 - (j + 1)) (by omega) (j + 1) _ _ (by omega) (by omega) ?_
          simp only [foN]
          rw [if_neg (by rw [← hj]; intro z; exact c3 z.2), hq]
          omega
        · refine x_ci ?_
          refine x_iload rfl ?_
          refine x_ishl ?_
          refine x_goto ?_
          refine x_ior ?_
          first | rw [gt (by omega)] | rw [g0]
          refine n_istore [some (vR _), some (vI _), some (vI _), some (vI _)] (Nat.le_of_ble_eq_true rfl) rfl ?_
          refine n_iinc [some (vR _), some (vI _), some (vI _), some (vI _)] rfl rfl ?_
          refine x_goto ?_
          refine ih (6 - (j + 1)) (by omega) (j + 1) _ _ (by omega) (by omega) ?_
          simp only [foN]
          rw [if_pos (by rw [← hj]; exact ⟨c2, c3⟩), hq]
  refine n_at (m := 107) (q := mr107) (kn := (0, 2)) [some (vR _), some (vI _), none, none] mb107 rfl rfl (h_rcv sc_94) (Nat.le_of_ble_eq_true rfl) rfl rfl ?_
  refine x_ci ?_
  refine n_istore [some (vR _), some (vI _), some (vI _), _] (Nat.le_of_ble_eq_true rfl) rfl ?_
  refine x_ci ?_
  refine n_istore [some (vR _), some (vI _), some (vI _), some (vI _)] (Nat.le_of_ble_eq_true rfl) rfl ?_
  refine x_fall ?_
  refine L1 6 0 0 _ rfl (by omega) rfl
theorem r_areHome (hf : 0 ≤ f ∧ f < 23) (hd : 1 ≤ d) (hr : RD f L n c s) (hs : SD L c n s) (k : Q (some (vI (bI (tpO (wO L c n) (cnt L).toNat (cnt L).toNat = 0)))) (HP h0 s)) : wpM PP d 108 [vR 94, vI f] (HP h0 s) Q := by
  obtain ⟨hL, hn0, hv, r1, r2, r3⟩ := hr
  have hct := cnt_R L
  have L1 : ∀ N : Nat, ∀ (i : Int), (1 ≤ i ∧ i ≤ 7) → (N = (cnt L).toNat - i.toNat) → (∀ q : Int, 1 ≤ q → q < i → wO L c n (q - 1) ≤ wO L c n q) →  wp PP d mb108 (mb108.getD 1 []) [some (vR 94), some (vI f), some (vI i)] [] (HP h0 s) Q := by
    refine s_ind (fun N ih => ?_)
    intro i hj hn2 g
    have g1 : i < cnt L → s 114 i = wO L c n i ∧ s 114 (i - 1) = wO L c n (i - 1) := fun z => ⟨hs.1 _ (by omega) z, hs.1 _ (by omega) (by omega)⟩
    have o1 : i < cnt L → _ := fun z => wO_R hL hv i (by omega) z
    have o2 : i < cnt L → _ := fun z => wO_R hL hv (i - 1) (by omega) (by omega)
    refine x_iload rfl ?_
    refine x_aload rfl ?_
    refine h_getR sc_94 rfl (by omega) ?_
    refine x_iload rfl ?_
    refine h_iald sc_111 ⟨by omega, by omega⟩ (by decide) ?_
    refine n_call [vI _] [vI _] (by omega) (Nat.le_of_ble_eq_true rfl) rfl rfl (Nat.le_of_ble_eq_true rfl) ?_
    rw [r1]
    refine r_bitsOf hL ?_
    show wp PP _ _ _ [some (vR _), some (vI _), some (vI _)] [vI _, vI _] _ _
    refine n_icmp_ge ⟨by omega, by omega⟩ ⟨by omega, by omega⟩ (fun c1 => ?_) (fun c1 => ?_)
    · refine x_ci ?_
      refine x_zret (by first | exact bI_01 _ | omega) ?_
      first
        | exact cB0 k (tp_not (k := i) (by omega) (by omega) (by omega))
        | exact cB1 k (tp_home (fun q q0 q1 => g q q0 (by omega)))
    · refine x_aload rfl ?_
      refine h_getR sc_94 rfl (by omega) ?_
      refine x_iload rfl ?_
      refine x_ci ?_
      refine x_isub ?_
      refine h_iald sc_114 ⟨by omega, by omega⟩ (by decide) ?_
      have o1 := o1 (by omega)
      have o2 := o2 (by omega)
      have g1 := g1 (by omega)
      rw [g1.2]
      refine x_aload rfl ?_
      refine h_getR sc_94 rfl (by omega) ?_
      refine x_iload rfl ?_
      refine h_iald sc_114 ⟨by omega, by omega⟩ (by decide) ?_
      rw [g1.1]
      refine n_icmp_le ⟨by omega, by omega⟩ ⟨by omega, by omega⟩ (fun c2 => ?_) (fun c2 => ?_)
      · refine n_iinc [some (vR _), some (vI _), some (vI _)] rfl rfl ?_
        refine x_goto ?_
        refine ih ((cnt L).toNat - (i + 1).toNat) (by omega) (i + 1) (by omega) (by omega) (fun q q0 q1 => ?_)
        by_cases e : q = i
        · subst e
          exact c2
        · exact g q q0 (by omega)
      · refine x_ci ?_
        refine x_zret (by first | exact bI_01 _ | omega) ?_
        first
          | exact cB0 k (tp_not (k := i) (by omega) (by omega) (by omega))
          | exact cB1 k (tp_home (fun q q0 q1 => g q q0 (by omega)))
  refine n_at (m := 108) (q := mr108) (kn := (0, 2)) [some (vR _), some (vI _), none] mb108 rfl rfl (h_rcv sc_94) (Nat.le_of_ble_eq_true rfl) rfl rfl ?_
  refine x_ci ?_
  refine n_istore [some (vR _), some (vI _), some (vI _)] (Nat.le_of_ble_eq_true rfl) rfl ?_
  refine x_fall ?_
  refine L1 ((cnt L).toNat - 1) 1 (by omega) (by omega) (fun q q0 q1 => by omega)
theorem r_placeOf (hd : 1 ≤ d) (hr : RD 0 L n c s) (hs : SD L c n s) {x : Int} (hx : 0 ≤ x ∧ x < 6) (k : Q (some (vI (if bt L x = 1 then plN c n (cntN L x.toNat) else -2))) (HP h0 s)) : wpM PP d 132 [vR 94, vI x] (HP h0 s) Q := by
  obtain ⟨hL, hn0, hv, r1, r2, r3⟩ := hr
  have hct := cnt_R L
  have L1 : ∀ N : Nat, ∀ (i : Int), (0 ≤ i ∧ i ≤ 7) → (N = (cnt L).toNat - i.toNat) → (∀ q : Int, 0 ≤ q → q < i → wO L c n q ≠ x) →  wp PP d mb132 (mb132.getD 1 []) [some (vR 94), some (vI x), some (vI i)] [] (HP h0 s) Q := by
    refine s_ind (fun N ih => ?_)
    intro i hj hn2 g
    have g1 : i < cnt L → s 114 i = wO L c n i := fun z => hs.1 _ (by omega) z
    have o1 : i < cnt L → _ := fun z => wO_R hL hv i (by omega) z
    refine x_iload rfl ?_
    refine x_aload rfl ?_
    refine h_getR sc_94 rfl (by omega) ?_
    refine x_ci ?_
    refine h_iald sc_111 ⟨by omega, by omega⟩ (by decide) ?_
    refine n_call [vI _] [vI _] (by omega) (Nat.le_of_ble_eq_true rfl) rfl rfl (Nat.le_of_ble_eq_true rfl) ?_
    rw [r1]
    refine r_bitsOf hL ?_
    show wp PP _ _ _ [some (vR _), some (vI _), some (vI _)] [vI _, vI _] _ _
    refine n_icmp_ge ⟨by omega, by omega⟩ ⟨by omega, by omega⟩ (fun c1 => ?_) (fun c1 => ?_)
    · refine x_ci ?_
      refine x_iret ?_
      first
        | (refine cI k ?_
           rw [if_neg]
           intro z
           have p := plN_R hv (cntN L x.toNat) (cntN_R L x.toNat).1 (ord_cnt hL ⟨hx.1, hx.2, z⟩).2
           exact g _ p.1 (by omega) (wO_at hL ⟨hx.1, hx.2, z⟩ n))
        | (refine cI k ?_
           have z : bt L x = 1 := by rw [← c2]; exact o1.2.2
           have p := plN_R hv (cntN L x.toNat) (cntN_R L x.toNat).1 (ord_cnt hL ⟨hx.1, hx.2, z⟩).2
           rw [if_pos z]
           exact (wO_inj hL hv i _ hj.1 (by omega) p.1 p.2 (c2.trans (wO_at hL ⟨hx.1, hx.2, z⟩ n).symm)).symm)
    · refine x_aload rfl ?_
      refine h_getR sc_94 rfl (by omega) ?_
      refine x_iload rfl ?_
      refine h_iald sc_114 ⟨by omega, by omega⟩ (by decide) ?_
      have o1 := o1 (by omega)
      rw [g1 (by omega)]
      refine x_iload rfl ?_
      refine n_icmp_ne ⟨by omega, by omega⟩ ⟨by omega, by omega⟩ (fun c2 => ?_) (fun c2 => ?_)
      · refine n_iinc [some (vR _), some (vI _), some (vI _)] rfl rfl ?_
        refine x_goto ?_
        refine ih ((cnt L).toNat - (i + 1).toNat) (by omega) (i + 1) (by omega) (by omega) (fun q q0 q1 => ?_)
        by_cases e : q = i
        · subst e
          exact c2
        · exact g q q0 (by omega)
      · refine x_iload rfl ?_
        refine x_iret ?_
        first
          | (refine cI k ?_
             rw [if_neg]
             intro z
             have p := plN_R hv (cntN L x.toNat) (cntN_R L x.toNat).1 (ord_cnt hL ⟨hx.1, hx.2, z⟩).2
             exact g _ p.1 (by omega) (wO_at hL ⟨hx.1, hx.2, z⟩ n))
          | (refine cI k ?_
             have z : bt L x = 1 := by rw [← c2]; exact o1.2.2
             have p := plN_R hv (cntN L x.toNat) (cntN_R L x.toNat).1 (ord_cnt hL ⟨hx.1, hx.2, z⟩).2
             rw [if_pos z]
             exact (wO_inj hL hv i _ hj.1 (by omega) p.1 p.2 (c2.trans (wO_at hL ⟨hx.1, hx.2, z⟩ n).symm)).symm)
  refine n_at (m := 132) (q := mr132) (kn := (0, 2)) [some (vR _), some (vI _), none] mb132 rfl rfl (h_rcv sc_94) (Nat.le_of_ble_eq_true rfl) rfl rfl ?_
  refine x_ci ?_
  refine n_istore [some (vR _), some (vI _), some (vI _)] (Nat.le_of_ble_eq_true rfl) rfl ?_
  refine x_fall ?_
  refine L1 ((cnt L).toNat) 0 (by omega) (by omega) (fun q q0 q1 => by omega)
end R4
