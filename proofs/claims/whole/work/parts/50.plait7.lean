/-! THE PLAIT: where one stands; the pairs of places that are bound -/
section P7
variable {d a : Nat} {h0 h : pheap} {s : St} {Q : Option pv → pheap → Prop} {L : Int} {n : Nat} {c c' : Int → Int}
theorem m_standsAt2 (hP : isPl a) {x : Int} {w : Int → Int} (hx : 0 ≤ x ∧ x < 100) (hC : 0 ≤ s a 4 ∧ s a 4 ≤ 6) (ho : ∀ p : Int, 0 ≤ p → p < s a 4 → s (a + 2) p = w p) (k : Q (some (vI (if x < s a 4 then w x else -1))) (HP h0 s)) : wpM PP d 208 [vR a, vI x] (HP h0 s) Q := by
  by_cases q : x < s a 4
  · rw [if_pos q, ← ho x hx.1 q] at k
    exact m_standsAt hP hC ⟨hx.1, q⟩ k
  · rw [if_neg q] at k
    exact m_standsNo hP ⟨by omega, by omega⟩ hC (Or.inr (by omega)) k
theorem m_placeOf (hP : isPl a) (hd : 1 ≤ d) (hp : PL a L n c s) {x : Int} (hx : 0 ≤ x ∧ x < 6 ∧ bt L x = 1) (k : Q (some (vI (plN c n (cntN L x.toNat)))) (HP h0 s)) : wpM PP d 209 [vR a, vI x] (HP h0 s) Q := by
  have ha := hP.1.1
  have hct := cnt_R L
  have hn := hp.hn
  have q3 := hp.left
  have q4 := hp.count
  have q5 := hp.size
  have hL := hp.hL
  have L1 : ∀ N : Nat, ∀ (i : Int), (0 ≤ i ∧ i ≤ 6) → (N = 6 - i.toNat) → (∀ q : Int, 0 ≤ q → q < i → q < cnt L → wO L c n q ≠ x) →  wp PP d mb209 (mb209.getD 1 []) [some (vR a), some (vI x), some (vI i)] [] (HP h0 s) Q := by
    refine s_ind (fun N ih => ?_)
    intro i hi hn2 g
    refine x_iload rfl ?_
    refine x_aload rfl ?_
    refine h_getR hP.1 rfl (by omega) ?_
    refine h_alen 6 hP.2.2.1 (by decide) rfl ?_
    refine n_icmp_ge ⟨by omega, by omega⟩ ⟨by omega, by omega⟩ (fun c1 => ?_) (fun c1 => ?_)
    · refine x_ci ?_
      refine x_iret ?_
      first
        | (refine cI k ?_
           have p := plN_R hp.v (cntN L x.toNat) (cntN_R L x.toNat).1 (ord_cnt hL hx).2
           have w := wO_at (c := c) hL hx n
           by_cases y : i < cnt L
           · rw [if_pos y] at c2
             exact wO_inj hL hp.v _ _ p.1 p.2 hi.1 y (w.trans c2.symm)
           · rw [if_neg y] at c2
             omega)
        | (exfalso
           have p := plN_R hp.v (cntN L x.toNat) (cntN_R L x.toNat).1 (ord_cnt hL hx).2
           exact g _ p.1 (by omega) p.2 (wO_at hL hx n))
    · refine x_aload rfl ?_
      refine x_iload rfl ?_
      refine n_call [vR _, vI _] [] (by omega) (Nat.le_of_ble_eq_true rfl) rfl rfl (Nat.le_of_ble_eq_true rfl) ?_
      refine m_standsAt2 hP (w := wO L c n) ?_ (by rw [hp.count]; exact hct) (by rw [hp.count]; exact fun p p0 p1 => hp.order p0 p1) ?_
      · omega
      rw [hp.count]
      have wr : i < cnt L → _ := fun z => wO_R hL hp.v i (by omega) z
      have wr2 : iR (if i < cnt L then wO L c n i else -1) := by
        split
        · have := wr (by assumption)
          exact ⟨by omega, by omega⟩
        · exact ⟨by decide, by decide⟩
      show wp PP _ _ _ [some (vR _), some (vI _), some (vI _)] [vI _] _ _
      refine x_iload rfl ?_
      refine n_icmp_ne ⟨by omega, by omega⟩ ⟨by omega, by omega⟩ (fun c2 => ?_) (fun c2 => ?_)
      · refine n_iinc [some (vR _), some (vI _), some (vI _)] rfl rfl ?_
        refine x_goto ?_
        refine ih (6 - (i + 1).toNat) (by omega) (i + 1) (by omega) rfl (fun q h1 h2 h3 w => ?_)
        by_cases z : q = i
        · subst z
          rw [if_pos h3] at c2
          exact c2 w
        · exact g q h1 (by omega) h3 w
      · refine x_iload rfl ?_
        refine x_iret ?_
        first
          | (refine cI k ?_
             have p := plN_R hp.v (cntN L x.toNat) (cntN_R L x.toNat).1 (ord_cnt hL hx).2
             have w := wO_at (c := c) hL hx n
             by_cases y : i < cnt L
             · rw [if_pos y] at c2
               exact wO_inj hL hp.v _ _ p.1 p.2 hi.1 y (w.trans c2.symm)
             · rw [if_neg y] at c2
               omega)
          | (exfalso
             have p := plN_R hp.v (cntN L x.toNat) (cntN_R L x.toNat).1 (ord_cnt hL hx).2
             exact g _ p.1 (by omega) p.2 (wO_at hL hx n))
  refine n_at (m := 209) (q := mr209) (kn := (0, 2)) [some (vR _), some (vI _), none] mb209 rfl rfl (h_rcv hP.1) (Nat.le_of_ble_eq_true rfl) rfl rfl ?_
  refine x_ci ?_
  refine n_istore [some (vR _), some (vI _), some (vI _)] (Nat.le_of_ble_eq_true rfl) rfl ?_
  refine x_fall ?_
  exact L1 6 0 (by omega) rfl (fun q h1 h2 h3 => by omega)
/-- the pairs of places that are bound, as bits: (bits, how many pairs) behind all with one below x, then those of x with others below k -/
def bpI (L : Int) (c : Int → Int) (n : Nat) (x : Nat) (st : Int × Int) : Nat → Int × Int
  | 0 => st
  | k + 1 => if x < k ∧ bt L x = 1 ∧ bt L k = 1 then ((bpI L c n x st k).1 + (if wB L c n (6 * x + k) ≠ 0 then 2 ^ (bpI L c n x st k).2.toNat else 0), (bpI L c n x st k).2 + 1) else bpI L c n x st k
def bpO (L : Int) (c : Int → Int) (n : Nat) : Nat → Int × Int
  | 0 => (0, 0)
  | x + 1 => bpI L c n x (bpO L c n x) 6
theorem bpI_R {x : Nat} {st : Int × Int} (h : 0 ≤ st.2 ∧ 0 ≤ st.1 ∧ st.1 < 2 ^ st.2.toNat) : ∀ k : Nat, st.2 ≤ (bpI L c n x st k).2 ∧ (bpI L c n x st k).2 ≤ st.2 + (if x + 1 < k then ((k - 1 - x : Nat) : Int) else 0) ∧ 0 ≤ (bpI L c n x st k).1 ∧ (bpI L c n x st k).1 < 2 ^ (bpI L c n x st k).2.toNat
  | 0 => ⟨by simp [bpI], by simp [bpI], h.2.1, h.2.2⟩
  | k + 1 => by
    have ih := bpI_R (x := x) h k
    simp only [bpI]
    by_cases q : x < k ∧ bt L x = 1 ∧ bt L k = 1
    · rw [if_pos q]
      dsimp only
      have e : ((bpI L c n x st k).2 + 1).toNat = (bpI L c n x st k).2.toNat + 1 := by omega
      rw [e, Int.pow_succ]
      obtain ⟨i1, i2, i3, i4⟩ := ih
      refine ⟨by omega, ?_, ?_, ?_⟩
      · rw [if_pos (by omega)]
        split at i2 <;> omega
      · split <;> omega
      · split <;> omega
    · rw [if_neg q]
      obtain ⟨i1, i2, i3, i4⟩ := ih
      refine ⟨i1, ?_, i3, i4⟩
      split at i2 <;> split <;> omega
theorem bpO_R : ∀ x : Nat, x ≤ 6 → 0 ≤ (bpO L c n x).2 ∧ (bpO L c n x).2 ≤ 5 * x ∧ 0 ≤ (bpO L c n x).1 ∧ (bpO L c n x).1 < 2 ^ (bpO L c n x).2.toNat
  | 0, _ => ⟨by simp [bpO], by simp [bpO], by simp [bpO], by simp [bpO]⟩
  | x + 1, hx => by
    have ih := bpO_R x (by omega)
    have := bpI_R (L := L) (c := c) (n := n) (x := x) ⟨ih.1, ih.2.2.1, ih.2.2.2⟩ 6
    simp only [bpO]
    obtain ⟨i1, i2, i3, i4⟩ := this
    refine ⟨by omega, ?_, i3, i4⟩
    split at i2 <;> omega
theorem p2_31 : ∀ j : Nat, j < 32 → (2 : Int) ^ j ≤ 2147483648 := by decide
theorem bpI_0 {x : Nat} {st : Int × Int} : ∀ k : Nat, k ≤ x + 1 → bpI L c n x st k = st
  | 0, _ => rfl
  | k + 1, h => by
    simp only [bpI]
    rw [if_neg (by omega), bpI_0 k (by omega)]
theorem m_boundPairs (hP : isPl a) (hd : 2 ≤ d) (hp : PL a L n c s) (k : Q (some (vI (bpO L c n 6).1)) (HP h0 s)) : wpM PP d 228 [vR a] (HP h0 s) Q := by
  have ha := hP.1.1
  have hc := cnt_R L
  have hn := hp.hn
  have q3 := hp.left
  have q4 := hp.count
  have q5 := hp.size
  have hL := hp.hL
  have L1 : ∀ N : Nat, ∀ {o4 : Option pv} (x : Nat) (i : Int) (q : Int) (w : Int), (i = x) → (N = 6 - x ∧ x ≤ 6) → (q = (bpO L c n x).1) → (w = (bpO L c n x).2) →  wp PP d mb228 (mb228.getD 1 []) [some (vR a), some (vI q), some (vI w), some (vI i), o4] [] (HP h0 s) Q := by
    refine s_ind (fun N ih => ?_)
    intro o4 x i q w hi hn2 hq hw
    refine x_iload rfl ?_
    refine x_ci ?_
    refine n_icmp_ge ⟨by omega, by omega⟩ ⟨by omega, by omega⟩ (fun c1 => ?_) (fun c1 => ?_)
    · refine x_iload rfl ?_
      refine x_iret ?_
      refine cI k ?_
      have e : x = 6 := by omega
      rw [hq, e]
    · refine x_iload rfl ?_
      refine x_ci ?_
      refine x_iadd ?_
      refine n_istore [some (vR _), some (vI _), some (vI _), some (vI _), some (vI _)] (Nat.le_of_ble_eq_true rfl) rfl ?_
      refine x_fall ?_
      have L2 : ∀ M : Nat, ∀ (u : Nat) (r : Int) (q : Int) (w : Int), (r = u) → (M = 6 - u ∧ x + 1 ≤ u ∧ u ≤ 6) → (q = (bpI L c n x (bpO L c n x) u).1) → (w = (bpI L c n x (bpO L c n x) u).2) →  wp PP d mb228 (mb228.getD 2 []) [some (vR a), some (vI q), some (vI w), some (vI i), some (vI r)] [] (HP h0 s) Q := by
        refine s_ind (fun M ih2 => ?_)
        intro u r q w hu hM hq hw
        have bo := bpO_R (L := L) (c := c) (n := n) x (by omega)
        have bi := bpI_R (L := L) (c := c) (n := n) (x := x) ⟨bo.1, bo.2.2.1, bo.2.2.2⟩ u
        have b2 : (bpI L c n x (bpO L c n x) u).2 ≤ 5 * x + (if x + 1 < u then ((u - 1 - x : Nat) : Int) else 0) := by omega
        have b3 : u < 6 → 0 ≤ w ∧ w < 31 := fun z => by
          rw [hw]
          split at b2 <;> omega
        have gt : u < 6 → i_or q (i_shl 1 w) = q + 2 ^ w.toNat := fun z => by
          rw [hq, hw]
          exact or_bit (by rw [← hw]; exact b3 z) ⟨bi.2.2.1, bi.2.2.2⟩
        have g0 : u < 6 → i_or q 0 = q := fun z => or_zero (by rw [hq]; exact bi.2.2.1) (by
          have b4 := b3 z
          have b5 : (2 : Int) ^ (bpI L c n x (bpO L c n x) u).2.toNat ≤ 2147483648 := p2_31 _ (by rw [← hw]; omega)
          rw [hq]
          omega)
        refine x_iload rfl ?_
        refine x_ci ?_
        refine n_icmp_ge ⟨by omega, by omega⟩ ⟨by omega, by omega⟩ (fun c1 => ?_) (fun c1 => ?_)
        · refine n_iinc [some (vR _), some (vI _), some (vI _), some (vI _), some (vI _)] rfl rfl ?_
          refine x_goto ?_
          have e6 : u = 6 := by omega
          rw [e6] at hq hw
          refine ih (6 - (x + 1)) (by omega) (x + 1) _ _ _ (by omega) (by omega) ?_ ?_
          · rw [hq]
            rfl
          · rw [hw]
            rfl
        · refine x_aload rfl ?_
          refine x_iload rfl ?_
          refine n_call [vR _, vI _] [] (by omega) (Nat.le_of_ble_eq_true rfl) rfl rfl (Nat.le_of_ble_eq_true rfl) ?_
          refine m_isLeft hP (by rw [q3]; exact hL) ⟨by omega, by omega⟩ ?_
          rw [q3]
          show wp PP _ _ _ [some (vR _), some (vI _), some (vI _), some (vI _), some (vI _)] [vI _] _ _
          refine z_if_eq (fun c2 => ?_) (fun c2 => ?_)
          · refine n_iinc [some (vR _), some (vI _), some (vI _), some (vI _), some (vI _)] rfl rfl ?_
            refine x_goto ?_
            have e : bpI L c n x (bpO L c n x) (u + 1) = bpI L c n x (bpO L c n x) u := by
              simp only [bpI]
              exact if_neg (fun y => c2 ⟨by omega, by omega, by rw [hi]; exact y.2.1⟩)
            refine ih2 (6 - (u + 1)) (by omega) (u + 1) _ _ _ (by omega) (by omega) ?_ ?_
            · rw [e]
              exact hq
            · rw [e]
              exact hw
          · refine x_aload rfl ?_
            refine x_iload rfl ?_
            refine n_call [vR _, vI _] [] (by omega) (Nat.le_of_ble_eq_true rfl) rfl rfl (Nat.le_of_ble_eq_true rfl) ?_
            refine m_isLeft hP (by rw [q3]; exact hL) ⟨by omega, by omega⟩ ?_
            rw [q3]
            show wp PP _ _ _ [some (vR _), some (vI _), some (vI _), some (vI _), some (vI _)] [vI _] _ _
            refine z_if_eq (fun c3 => ?_) (fun c3 => ?_)
            · refine n_iinc [some (vR _), some (vI _), some (vI _), some (vI _), some (vI _)] rfl rfl ?_
              refine x_goto ?_
              have e : bpI L c n x (bpO L c n x) (u + 1) = bpI L c n x (bpO L c n x) u := by
                simp only [bpI]
                exact if_neg (fun y => c3 ⟨by omega, by omega, by rw [hu]; exact y.2.2⟩)
              refine ih2 (6 - (u + 1)) (by omega) (u + 1) _ _ _ (by omega) (by omega) ?_ ?_
              · rw [e]
                exact hq
              · rw [e]
                exact hw
            · refine x_iload rfl ?_
              refine x_aload rfl ?_
              refine x_iload rfl ?_
              refine x_iload rfl ?_
              refine n_call [vR _, vI _, vI _] [vI _] (by omega) (Nat.le_of_ble_eq_true rfl) rfl rfl (Nat.le_of_ble_eq_true rfl) ?_
              refine m_bondP hP (by omega) hp ⟨by omega, by omega⟩ ⟨by omega, by omega⟩ ?_
              have wr := wB_R (L := L) (c := c) n (6 * i + r)
              show wp PP _ _ _ [some (vR _), some (vI _), some (vI _), some (vI _), some (vI _)] [vI _, vI _] _ _
              refine n_if_eq ⟨by omega, by omega⟩ (fun c4 => ?_) (fun c4 => ?_)
              · refine x_ci ?_
                refine x_fall ?_
                refine x_ior ?_
                first
                  | rw [gt (by omega)]
                  | rw [g0 (by omega)]
                refine n_istore [some (vR _), some (vI _), some (vI _), some (vI _), some (vI _)] (Nat.le_of_ble_eq_true rfl) rfl ?_
                have b3 := b3 (by omega)
                refine n_iinc [some (vR _), some (vI _), some (vI _), some (vI _), some (vI _)] rfl rfl ?_
                refine x_fall ?_
                refine n_iinc [some (vR _), some (vI _), some (vI _), some (vI _), some (vI _)] rfl rfl ?_
                refine x_goto ?_
                have e : bpI L c n x (bpO L c n x) (u + 1) = ((bpI L c n x (bpO L c n x) u).1 + (if wB L c n (6 * x + u) ≠ 0 then 2 ^ (bpI L c n x (bpO L c n x) u).2.toNat else 0), (bpI L c n x (bpO L c n x) u).2 + 1) := by
                  simp only [bpI]
                  exact if_pos ⟨by omega, by rw [← hi]; exact c2.2.2, by rw [← hu]; exact c3.2.2⟩
                refine ih2 (6 - (u + 1)) (by omega) (u + 1) _ _ _ (by omega) (by omega) ?_ ?_
                · rw [e]
                  dsimp only
                  rw [if_neg (by rw [← hi, ← hu]; exact fun y => y c4), hq]
                  omega
                · rw [e, hw]
              · refine x_ci ?_
                refine x_iload rfl ?_
                refine x_ishl ?_
                refine x_goto ?_
                refine x_ior ?_
                first
                  | rw [gt (by omega)]
                  | rw [g0 (by omega)]
                refine n_istore [some (vR _), some (vI _), some (vI _), some (vI _), some (vI _)] (Nat.le_of_ble_eq_true rfl) rfl ?_
                have b3 := b3 (by omega)
                refine n_iinc [some (vR _), some (vI _), some (vI _), some (vI _), some (vI _)] rfl rfl ?_
                refine x_fall ?_
                refine n_iinc [some (vR _), some (vI _), some (vI _), some (vI _), some (vI _)] rfl rfl ?_
                refine x_goto ?_
                have e : bpI L c n x (bpO L c n x) (u + 1) = ((bpI L c n x (bpO L c n x) u).1 + (if wB L c n (6 * x + u) ≠ 0 then 2 ^ (bpI L c n x (bpO L c n x) u).2.toNat else 0), (bpI L c n x (bpO L c n x) u).2 + 1) := by
                  simp only [bpI]
                  exact if_pos ⟨by omega, by rw [← hi]; exact c2.2.2, by rw [← hu]; exact c3.2.2⟩
                refine ih2 (6 - (u + 1)) (by omega) (u + 1) _ _ _ (by omega) (by omega) ?_ ?_
                · rw [e]
                  dsimp only
                  rw [if_pos (by rw [← hi, ← hu]; exact c4), hq, hw]
                · rw [e, hw]
      refine L2 (6 - (x + 1)) (x + 1) _ _ _ (by omega) (by omega) ?_ ?_
      · rw [bpI_0 _ (by omega)]
        exact hq
      · rw [bpI_0 _ (by omega)]
        exact hw
  refine n_at (m := 228) (q := mr228) (kn := (0, 1)) [some (vR _), none, none, none, none] mb228 rfl rfl (h_rcv hP.1) (Nat.le_of_ble_eq_true rfl) rfl rfl ?_
  refine x_ci ?_
  refine n_istore [some (vR _), some (vI _), _, _, _] (Nat.le_of_ble_eq_true rfl) rfl ?_
  refine x_ci ?_
  refine n_istore [some (vR _), some (vI _), some (vI _), _, _] (Nat.le_of_ble_eq_true rfl) rfl ?_
  refine x_ci ?_
  refine n_istore [some (vR _), some (vI _), some (vI _), some (vI _), _] (Nat.le_of_ble_eq_true rfl) rfl ?_
  refine x_fall ?_
  exact L1 6 0 0 0 0 rfl (by omega) rfl rfl
end P7
