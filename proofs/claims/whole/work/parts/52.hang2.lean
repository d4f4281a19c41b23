/-! WHAT HANGS ON A CROSSING, the reference's side -/
section HH
variable {d : Nat} {h0 h : pheap} {s : St} {Q : Option pv → pheap → Prop} {n : Nat} {c : Int → Int}
def curH (c : Int → Int) (k0 j : Nat) (i : Int) : Prop := j = k0 ∨ (k0 < j ∧ ∃ r : Fin j, k0 ≤ r.1 ∧ ((r.1 : Nat) : Int) < i ∧ hgN c k0 j ((r.1 : Nat) : Int) = 1 ∧ nearP (c ((r.1 : Nat) : Int)) (c j))
theorem cur_end {k0 j : Nat} {i : Int} {x : Int} (hx : (x = 1 ∧ curH c k0 j i) ∨ (x = 0 ∧ ¬ curH c k0 j i)) (he : x = 1 ∨ (j : Int) ≤ i) : x = hgN c k0 (j + 1) j := by
  rw [hg_at]
  rcases hx with ⟨x1, q⟩ | ⟨x0, q⟩
  · rw [x1, if_pos]
    rcases q with q | ⟨q1, r, r1, r2, r3, r4⟩
    · exact Or.inl q
    · exact Or.inr ⟨q1, r, r1, r3, r4⟩
  · rw [x0, if_neg]
    rintro (z | ⟨z1, r, r1, r3, r4⟩)
    · exact q (Or.inl z)
    · exact q (Or.inr ⟨z1, r, r1, by have := r.2; omega, r3, r4⟩)
theorem cur_step {k0 j : Nat} {i : Nat} (hj : k0 < j) (hi : k0 ≤ i ∧ i < j) (hno : ¬ curH c k0 j i) : curH c k0 j ((i : Int) + 1) ↔ (hgN c k0 j i = 1 ∧ nearP (c i) (c j)) := by
  constructor
  · rintro (z | ⟨z1, ⟨r, hr⟩, r1, r2, r3⟩)
    · omega
    · by_cases e : r = i
      · subst e
        exact r3
      · exact absurd (Or.inr ⟨z1, ⟨r, hr⟩, r1, by dsimp only at r2 ⊢; omega, r3⟩) hno
  · intro z
    exact Or.inr ⟨hj, ⟨i, hi.2⟩, hi.1, by dsimp only; omega, z⟩
theorem hg01 {k0 : Nat} : ∀ (k : Nat) (q : Int), hgN c k0 k q = 0 ∨ hgN c k0 k q = 1
  | 0, _ => Or.inl rfl
  | k + 1, q => by
    simp only [hgN]
    split
    · split
      · exact Or.inr rfl
      · exact Or.inl rfl
    · exact hg01 k q
theorem r_hangsOn {k0 : Nat} (hd : 8 ≤ d) (hmn : s 112 0 = n) (hn48 : n ≤ 48) (hv : ∀ i : Int, 0 ≤ i → i < n → 0 ≤ c i ∧ c i < 10) (hcd : ∀ i : Int, 0 ≤ i → i < n → s 113 i = c i) (hk0 : k0 < n) (k9 : ∀ t, (∀ b : Nat, b ≠ 121 → ∀ r, t b r = s b r) → Q (some (vI (hcN c k0 n))) (HP h0 t)) : wpM PP d 134 [vR 94, vI k0] (HP h0 s) Q := by
  have L1 : ∀ N : Nat, ∀ {o4 : Option pv} (j : Nat) (k : Int) (w : Int) (t : St), (k = j) → (N = n - j ∧ j ≤ n) → (w = hcN c k0 j) → (∀ q : Int, 0 ≤ q → q < j → t 121 q = hgN c k0 j q) → (∀ b : Nat, b ≠ 121 → ∀ r, t b r = s b r) →  wp PP d mb134 (mb134.getD 1 []) [some (vR 94), some (vI k0), some (vI w), some (vI k), o4] [] (HP h0 t) Q := by
    refine s_ind (fun N ih => ?_)
    intro o4 j k w t hk hn2 hw g1 g3
    have gc := hcN_R (c := c) (k0 := k0) j
    refine x_iload rfl ?_
    refine x_aload rfl ?_
    refine h_getR sc_94 rfl (by omega) ?_
    refine x_ci ?_
    refine h_iald sc_112 ⟨by omega, by omega⟩ (by decide) ?_
    rw [(g3 112 (by decide) 0).trans hmn]
    refine n_icmp_ge ⟨by omega, by omega⟩ ⟨by omega, by omega⟩ (fun c1 => ?_) (fun c1 => ?_)
    · refine x_iload rfl ?_
      refine x_iret ?_
      refine cI (k9 _ (fun b2 hb r => g3 b2 hb r)) ?_
      have e : j = n := by omega
      rw [hw, e]
    · refine x_aload rfl ?_
      refine h_getR sc_94 rfl (by omega) ?_
      refine x_iload rfl ?_
      refine x_iload rfl ?_
      refine x_iload rfl ?_
      refine n_icmp_ne ⟨by omega, by omega⟩ ⟨by omega, by omega⟩ (fun c2 => ?_) (fun c2 => ?_)
      · refine x_ci ?_
        refine x_fall ?_
        refine h_bast2 sc_121 ⟨by omega, by omega⟩ (by decide) ?_
        refine x_iload rfl ?_
        refine n_istore [some (vR _), some (vI _), some (vI _), some (vI _), some (vI _)] (Nat.le_of_ble_eq_true rfl) rfl ?_
        refine x_fall ?_
        have L2 : ∀ M : Nat, ∀ (i : Int) (t : St), (M = j - i.toNat) → (k0 ≤ i ∧ i ≤ 48) → (∀ q : Int, 0 ≤ q → q < k → t 121 q = hgN c k0 j q) → ((t 121 k = 1 ∧ curH c k0 j i) ∨ (t 121 k = 0 ∧ ¬ curH c k0 j i)) → (∀ b : Nat, b ≠ 121 → ∀ r, t b r = s b r) →  wp PP d mb134 (mb134.getD 4 []) [some (vR 94), some (vI k0), some (vI w), some (vI k), some (vI i)] [] (HP h0 t) Q := by
          refine s_ind (fun M ih2 => ?_)
          intro i t hM hi g1 g2 g3
          have hcode := fun (q : Int) (q0 : 0 ≤ q) (q1 : q < n) => (g3 113 (by decide) q).trans (hcd q q0 q1)
          have x01 : t 121 k = 0 ∨ t 121 k = 1 := by
            rcases g2 with ⟨z, -⟩ | ⟨z, -⟩ <;> omega
          have ok := hv k (by omega) (by omega)
          have h01 := fun (q : Int) => hg01 (c := c) (k0 := k0) j q
          refine x_iload rfl ?_
          refine x_iload rfl ?_
          refine n_icmp_ge ⟨by omega, by omega⟩ ⟨by omega, by omega⟩ (fun c1 => ?_) (fun c1 => ?_)
          · refine x_iload rfl ?_
            refine x_aload rfl ?_
            refine h_getR sc_94 rfl (by omega) ?_
            refine x_iload rfl ?_
            refine h_bald2 sc_121 ⟨by omega, by omega⟩ (by decide) ?_
            refine n_if_eq ⟨by omega, by omega⟩ (fun c2 => ?_) (fun c2 => ?_)
            · refine x_ci ?_
              refine x_fall ?_
              refine x_iadd ?_
              refine n_istore [some (vR _), some (vI _), some (vI _), some (vI _), some (vI _)] (Nat.le_of_ble_eq_true rfl) rfl ?_
              refine n_iinc [some (vR _), some (vI _), some (vI _), some (vI _), some (vI _)] rfl rfl ?_
              refine x_goto ?_
              have ce := cur_end g2 (by omega)
              have hg3 := hg01 (c := c) (k0 := k0) (j + 1) k
              refine ih (n - (j + 1)) (by omega) (j + 1) _ _ _ (by omega) (by omega) ?_ (fun q q0 q1 => ?_) g3
              · simp only [hcN]
                rw [← ce]
                rw [if_neg (by omega), hw]
              · by_cases e : q = k
                · rw [e, ce, hk]
                · rw [g1 q q0 (by omega)]
                  exact (hg_keep (by omega)).symm
            · refine x_iload rfl ?_
              refine x_iload rfl ?_
              refine n_icmp_eq ⟨by omega, by omega⟩ ⟨by omega, by omega⟩ (fun c3 => ?_) (fun c3 => ?_)
              · refine x_ci ?_
                refine x_fall ?_
                refine x_iadd ?_
                refine n_istore [some (vR _), some (vI _), some (vI _), some (vI _), some (vI _)] (Nat.le_of_ble_eq_true rfl) rfl ?_
                refine n_iinc [some (vR _), some (vI _), some (vI _), some (vI _), some (vI _)] rfl rfl ?_
                refine x_goto ?_
                have ce := cur_end g2 (by omega)
                have hg3 := hg01 (c := c) (k0 := k0) (j + 1) k
                refine ih (n - (j + 1)) (by omega) (j + 1) _ _ _ (by omega) (by omega) ?_ (fun q q0 q1 => ?_) g3
                · simp only [hcN]
                  rw [← ce]
                  rw [if_neg (by omega), hw]
                · by_cases e : q = k
                  · rw [e, ce, hk]
                  · rw [g1 q q0 (by omega)]
                    exact (hg_keep (by omega)).symm
              · refine x_ci ?_
                refine x_goto ?_
                refine x_iadd ?_
                refine n_istore [some (vR _), some (vI _), some (vI _), some (vI _), some (vI _)] (Nat.le_of_ble_eq_true rfl) rfl ?_
                refine n_iinc [some (vR _), some (vI _), some (vI _), some (vI _), some (vI _)] rfl rfl ?_
                refine x_goto ?_
                have ce := cur_end g2 (by omega)
                have hg3 := hg01 (c := c) (k0 := k0) (j + 1) k
                refine ih (n - (j + 1)) (by omega) (j + 1) _ _ _ (by omega) (by omega) ?_ (fun q q0 q1 => ?_) g3
                · simp only [hcN]
                  rw [← ce]
                  rw [if_pos ⟨by omega, by omega⟩, hw]
                · by_cases e : q = k
                  · rw [e, ce, hk]
                  · rw [g1 q q0 (by omega)]
                    exact (hg_keep (by omega)).symm
          · refine x_aload rfl ?_
            refine h_getR sc_94 rfl (by omega) ?_
            refine x_iload rfl ?_
            refine h_bald2 sc_121 ⟨by omega, by omega⟩ (by decide) ?_
            skip
            refine n_if_ne ⟨by omega, by omega⟩ (fun c2 => ?_) (fun c2 => ?_)
            · refine x_iload rfl ?_
              refine x_aload rfl ?_
              refine h_getR sc_94 rfl (by omega) ?_
              refine x_iload rfl ?_
              refine h_bald2 sc_121 ⟨by omega, by omega⟩ (by decide) ?_
              refine n_if_eq ⟨by omega, by omega⟩ (fun c3 => ?_) (fun c3 => ?_)
              · refine x_ci ?_
                refine x_fall ?_
                refine x_iadd ?_
                refine n_istore [some (vR _), some (vI _), some (vI _), some (vI _), some (vI _)] (Nat.le_of_ble_eq_true rfl) rfl ?_
                refine n_iinc [some (vR _), some (vI _), some (vI _), some (vI _), some (vI _)] rfl rfl ?_
                refine x_goto ?_
                have ce := cur_end g2 (by omega)
                have hg3 := hg01 (c := c) (k0 := k0) (j + 1) k
                refine ih (n - (j + 1)) (by omega) (j + 1) _ _ _ (by omega) (by omega) ?_ (fun q q0 q1 => ?_) g3
                · simp only [hcN]
                  rw [← ce]
                  rw [if_neg (by omega), hw]
                · by_cases e : q = k
                  · rw [e, ce, hk]
                  · rw [g1 q q0 (by omega)]
                    exact (hg_keep (by omega)).symm
              · refine x_iload rfl ?_
                refine x_iload rfl ?_
                refine n_icmp_eq ⟨by omega, by omega⟩ ⟨by omega, by omega⟩ (fun c4 => ?_) (fun c4 => ?_)
                · refine x_ci ?_
                  refine x_fall ?_
                  refine x_iadd ?_
                  refine n_istore [some (vR _), some (vI _), some (vI _), some (vI _), some (vI _)] (Nat.le_of_ble_eq_true rfl) rfl ?_
                  refine n_iinc [some (vR _), some (vI _), some (vI _), some (vI _), some (vI _)] rfl rfl ?_
                  refine x_goto ?_
                  have ce := cur_end g2 (by omega)
                  have hg3 := hg01 (c := c) (k0 := k0) (j + 1) k
                  refine ih (n - (j + 1)) (by omega) (j + 1) _ _ _ (by omega) (by omega) ?_ (fun q q0 q1 => ?_) g3
                  · simp only [hcN]
                    rw [← ce]
                    rw [if_neg (by omega), hw]
                  · by_cases e : q = k
                    · rw [e, ce, hk]
                    · rw [g1 q q0 (by omega)]
                      exact (hg_keep (by omega)).symm
                · refine x_ci ?_
                  refine x_goto ?_
                  refine x_iadd ?_
                  refine n_istore [some (vR _), some (vI _), some (vI _), some (vI _), some (vI _)] (Nat.le_of_ble_eq_true rfl) rfl ?_
                  refine n_iinc [some (vR _), some (vI _), some (vI _), some (vI _), some (vI _)] rfl rfl ?_
                  refine x_goto ?_
                  have ce := cur_end g2 (by omega)
                  have hg3 := hg01 (c := c) (k0 := k0) (j + 1) k
                  refine ih (n - (j + 1)) (by omega) (j + 1) _ _ _ (by omega) (by omega) ?_ (fun q q0 q1 => ?_) g3
                  · simp only [hcN]
                    rw [← ce]
                    rw [if_pos ⟨by omega, by omega⟩, hw]
                  · by_cases e : q = k
                    · rw [e, ce, hk]
                    · rw [g1 q q0 (by omega)]
                      exact (hg_keep (by omega)).symm
            · refine x_aload rfl ?_
              refine h_getR sc_94 rfl (by omega) ?_
              refine x_iload rfl ?_
              refine x_aload rfl ?_
              refine h_getR sc_94 rfl (by omega) ?_
              refine x_iload rfl ?_
              refine h_bald2 sc_121 ⟨by omega, by omega⟩ (by decide) ?_
              have gi := g1 i (by omega) (by omega)
              have o01 := h01 i
              have oi := hv i (by omega) (by omega)
              rw [gi]
              refine n_if_eq ⟨by omega, by omega⟩ (fun c3 => ?_) (fun c3 => ?_)
              · refine x_ci ?_
                refine x_fall ?_
                refine h_bast2 sc_121 ⟨by omega, by omega⟩ (by decide) ?_
                refine n_iinc [some (vR _), some (vI _), some (vI _), some (vI _), some (vI _)] rfl rfl ?_
                refine x_goto ?_
                refine ih2 (j - (i + 1).toNat) (by omega) (i + 1) _ (by omega) (by omega) (fun q q0 q1 => ?_) ?_ (fun b2 hb r => ?_)
                · rw [up_i (by omega)]
                  exact g1 q q0 q1
                · rw [up_e]
                  have st := cur_step (c := c) (k0 := k0) (j := j) (i := i.toNat) (by omega) (by omega) (by rw [show ((i.toNat : Nat) : Int) = i by omega]; rcases g2 with ⟨z, -⟩ | ⟨-, z⟩; omega; exact z)
                  rw [show ((i.toNat : Nat) : Int) = i by omega, ← hk] at st
                  refine Or.inr ⟨by decide, fun z => ?_⟩
                  have z := st.mp z
                  have e1 := z.1
                  have e2 := z.2
                  omega
                · rw [up_a hb]
                  exact g3 b2 hb r
              · refine x_aload rfl ?_
                refine h_getR sc_94 rfl (by omega) ?_
                refine x_iload rfl ?_
                refine h_iald sc_113 ⟨by omega, by omega⟩ (by decide) ?_
                rw [hcode i (by omega) (by omega)]
                refine x_ci ?_
                refine n_idiv ⟨by omega, by omega⟩ ⟨by omega, by omega⟩ ?_
                refine x_aload rfl ?_
                refine h_getR sc_94 rfl (by omega) ?_
                refine x_iload rfl ?_
                refine h_iald sc_113 ⟨by omega, by omega⟩ (by decide) ?_
                rw [hcode k (by omega) (by omega)]
                refine x_ci ?_
                refine n_idiv ⟨by omega, by omega⟩ ⟨by omega, by omega⟩ ?_
                refine x_isub ?_
                refine n_iabs ⟨by omega, by omega⟩ (by omega) (Nat.le_of_ble_eq_true rfl) ?_
                refine x_ci ?_
                refine n_icmp_gt ⟨by omega, by omega⟩ ⟨by omega, by omega⟩ (fun c4 => ?_) (fun c4 => ?_)
                · refine x_ci ?_
                  refine x_fall ?_
                  refine h_bast2 sc_121 ⟨by omega, by omega⟩ (by decide) ?_
                  refine n_iinc [some (vR _), some (vI _), some (vI _), some (vI _), some (vI _)] rfl rfl ?_
                  refine x_goto ?_
                  refine ih2 (j - (i + 1).toNat) (by omega) (i + 1) _ (by omega) (by omega) (fun q q0 q1 => ?_) ?_ (fun b2 hb r => ?_)
                  · rw [up_i (by omega)]
                    exact g1 q q0 q1
                  · rw [up_e]
                    have st := cur_step (c := c) (k0 := k0) (j := j) (i := i.toNat) (by omega) (by omega) (by rw [show ((i.toNat : Nat) : Int) = i by omega]; rcases g2 with ⟨z, -⟩ | ⟨-, z⟩; omega; exact z)
                    rw [show ((i.toNat : Nat) : Int) = i by omega, ← hk] at st
                    refine Or.inr ⟨by decide, fun z => ?_⟩
                    have z := st.mp z
                    have e1 := z.1
                    have e2 := z.2
                    omega
                  · rw [up_a hb]
                    exact g3 b2 hb r
                · refine x_ci ?_
                  refine x_goto ?_
                  refine h_bast2 sc_121 ⟨by omega, by omega⟩ (by decide) ?_
                  refine n_iinc [some (vR _), some (vI _), some (vI _), some (vI _), some (vI _)] rfl rfl ?_
                  refine x_goto ?_
                  refine ih2 (j - (i + 1).toNat) (by omega) (i + 1) _ (by omega) (by omega) (fun q q0 q1 => ?_) ?_ (fun b2 hb r => ?_)
                  · rw [up_i (by omega)]
                    exact g1 q q0 q1
                  · rw [up_e]
                    have st := cur_step (c := c) (k0 := k0) (j := j) (i := i.toNat) (by omega) (by omega) (by rw [show ((i.toNat : Nat) : Int) = i by omega]; rcases g2 with ⟨z, -⟩ | ⟨-, z⟩; omega; exact z)
                    rw [show ((i.toNat : Nat) : Int) = i by omega, ← hk] at st
                    exact Or.inl ⟨by decide, st.mpr ⟨by omega, by omega, by omega⟩⟩
                  · rw [up_a hb]
                    exact g3 b2 hb r
        have c0 : curH c k0 j k0 ↔ j = k0 := ⟨fun z => by
          rcases z with z | ⟨z1, r, r1, r2, r3⟩
          · exact z
          · omega, fun z => Or.inl z⟩
        refine L2 _ k0 _ rfl (by omega) (fun q q0 q1 => ?_) ?_ (fun b2 hb r => ?_)
        · rw [up_i (by omega)]
          exact g1 q q0 (by omega)
        · rw [up_e]
          exact Or.inr ⟨by decide, fun z => by have := c0.mp z; omega⟩
        · rw [up_a hb]
          exact g3 b2 hb r
      · refine x_ci ?_
        refine x_goto ?_
        refine h_bast2 sc_121 ⟨by omega, by omega⟩ (by decide) ?_
        refine x_iload rfl ?_
        refine n_istore [some (vR _), some (vI _), some (vI _), some (vI _), some (vI _)] (Nat.le_of_ble_eq_true rfl) rfl ?_
        refine x_fall ?_
        have L2 : ∀ M : Nat, ∀ (i : Int) (t : St), (M = j - i.toNat) → (k0 ≤ i ∧ i ≤ 48) → (∀ q : Int, 0 ≤ q → q < k → t 121 q = hgN c k0 j q) → ((t 121 k = 1 ∧ curH c k0 j i) ∨ (t 121 k = 0 ∧ ¬ curH c k0 j i)) → (∀ b : Nat, b ≠ 121 → ∀ r, t b r = s b r) →  wp PP d mb134 (mb134.getD 4 []) [some (vR 94), some (vI k0), some (vI w), some (vI k), some (vI i)] [] (HP h0 t) Q := by
          refine s_ind (fun M ih2 => ?_)
          intro i t hM hi g1 g2 g3
          have hcode := fun (q : Int) (q0 : 0 ≤ q) (q1 : q < n) => (g3 113 (by decide) q).trans (hcd q q0 q1)
          have x01 : t 121 k = 0 ∨ t 121 k = 1 := by
            rcases g2 with ⟨z, -⟩ | ⟨z, -⟩ <;> omega
          have ok := hv k (by omega) (by omega)
          have h01 := fun (q : Int) => hg01 (c := c) (k0 := k0) j q
          refine x_iload rfl ?_
          refine x_iload rfl ?_
          refine n_icmp_ge ⟨by omega, by omega⟩ ⟨by omega, by omega⟩ (fun c1 => ?_) (fun c1 => ?_)
          · refine x_iload rfl ?_
            refine x_aload rfl ?_
            refine h_getR sc_94 rfl (by omega) ?_
            refine x_iload rfl ?_
            refine h_bald2 sc_121 ⟨by omega, by omega⟩ (by decide) ?_
            refine n_if_eq ⟨by omega, by omega⟩ (fun c2 => ?_) (fun c2 => ?_)
            · refine x_ci ?_
              refine x_fall ?_
              refine x_iadd ?_
              refine n_istore [some (vR _), some (vI _), some (vI _), some (vI _), some (vI _)] (Nat.le_of_ble_eq_true rfl) rfl ?_
              refine n_iinc [some (vR _), some (vI _), some (vI _), some (vI _), some (vI _)] rfl rfl ?_
              refine x_goto ?_
              have ce := cur_end g2 (by omega)
              have hg3 := hg01 (c := c) (k0 := k0) (j + 1) k
              refine ih (n - (j + 1)) (by omega) (j + 1) _ _ _ (by omega) (by omega) ?_ (fun q q0 q1 => ?_) g3
              · simp only [hcN]
                rw [← ce]
                rw [if_neg (by omega), hw]
              · by_cases e : q = k
                · rw [e, ce, hk]
                · rw [g1 q q0 (by omega)]
                  exact (hg_keep (by omega)).symm
            · refine x_iload rfl ?_
              refine x_iload rfl ?_
              refine n_icmp_eq ⟨by omega, by omega⟩ ⟨by omega, by omega⟩ (fun c3 => ?_) (fun c3 => ?_)
              · refine x_ci ?_
                refine x_fall ?_
                refine x_iadd ?_
                refine n_istore [some (vR _), some (vI _), some (vI _), some (vI _), some (vI _)] (Nat.le_of_ble_eq_true rfl) rfl ?_
                refine n_iinc [some (vR _), some (vI _), some (vI _), some (vI _), some (vI _)] rfl rfl ?_
                refine x_goto ?_
                have ce := cur_end g2 (by omega)
                have hg3 := hg01 (c := c) (k0 := k0) (j + 1) k
                refine ih (n - (j + 1)) (by omega) (j + 1) _ _ _ (by omega) (by omega) ?_ (fun q q0 q1 => ?_) g3
                · simp only [hcN]
                  rw [← ce]
                  rw [if_neg (by omega), hw]
                · by_cases e : q = k
                  · rw [e, ce, hk]
                  · rw [g1 q q0 (by omega)]
                    exact (hg_keep (by omega)).symm
              · refine x_ci ?_
                refine x_goto ?_
                refine x_iadd ?_
                refine n_istore [some (vR _), some (vI _), some (vI _), some (vI _), some (vI _)] (Nat.le_of_ble_eq_true rfl) rfl ?_
                refine n_iinc [some (vR _), some (vI _), some (vI _), some (vI _), some (vI _)] rfl rfl ?_
                refine x_goto ?_
                have ce := cur_end g2 (by omega)
                have hg3 := hg01 (c := c) (k0 := k0) (j + 1) k
                refine ih (n - (j + 1)) (by omega) (j + 1) _ _ _ (by omega) (by omega) ?_ (fun q q0 q1 => ?_) g3
                · simp only [hcN]
                  rw [← ce]
                  rw [if_pos ⟨by omega, by omega⟩, hw]
                · by_cases e : q = k
                  · rw [e, ce, hk]
                  · rw [g1 q q0 (by omega)]
                    exact (hg_keep (by omega)).symm
          · refine x_aload rfl ?_
            refine h_getR sc_94 rfl (by omega) ?_
            refine x_iload rfl ?_
            refine h_bald2 sc_121 ⟨by omega, by omega⟩ (by decide) ?_
            skip
            refine n_if_ne ⟨by omega, by omega⟩ (fun c2 => ?_) (fun c2 => ?_)
            · refine x_iload rfl ?_
              refine x_aload rfl ?_
              refine h_getR sc_94 rfl (by omega) ?_
              refine x_iload rfl ?_
              refine h_bald2 sc_121 ⟨by omega, by omega⟩ (by decide) ?_
              refine n_if_eq ⟨by omega, by omega⟩ (fun c3 => ?_) (fun c3 => ?_)
              · refine x_ci ?_
                refine x_fall ?_
                refine x_iadd ?_
                refine n_istore [some (vR _), some (vI _), some (vI _), some (vI _), some (vI _)] (Nat.le_of_ble_eq_true rfl) rfl ?_
                refine n_iinc [some (vR _), some (vI _), some (vI _), some (vI _), some (vI _)] rfl rfl ?_
                refine x_goto ?_
                have ce := cur_end g2 (by omega)
                have hg3 := hg01 (c := c) (k0 := k0) (j + 1) k
                refine ih (n - (j + 1)) (by omega) (j + 1) _ _ _ (by omega) (by omega) ?_ (fun q q0 q1 => ?_) g3
                · simp only [hcN]
                  rw [← ce]
                  rw [if_neg (by omega), hw]
                · by_cases e : q = k
                  · rw [e, ce, hk]
                  · rw [g1 q q0 (by omega)]
                    exact (hg_keep (by omega)).symm
              · refine x_iload rfl ?_
                refine x_iload rfl ?_
                refine n_icmp_eq ⟨by omega, by omega⟩ ⟨by omega, by omega⟩ (fun c4 => ?_) (fun c4 => ?_)
                · refine x_ci ?_
                  refine x_fall ?_
                  refine x_iadd ?_
                  refine n_istore [some (vR _), some (vI _), some (vI _), some (vI _), some (vI _)] (Nat.le_of_ble_eq_true rfl) rfl ?_
                  refine n_iinc [some (vR _), some (vI _), some (vI _), some (vI _), some (vI _)] rfl rfl ?_
                  refine x_goto ?_
                  have ce := cur_end g2 (by omega)
                  have hg3 := hg01 (c := c) (k0 := k0) (j + 1) k
                  refine ih (n - (j + 1)) (by omega) (j + 1) _ _ _ (by omega) (by omega) ?_ (fun q q0 q1 => ?_) g3
                  · simp only [hcN]
                    rw [← ce]
                    rw [if_neg (by omega), hw]
                  · by_cases e : q = k
                    · rw [e, ce, hk]
                    · rw [g1 q q0 (by omega)]
                      exact (hg_keep (by omega)).symm
                · refine x_ci ?_
                  refine x_goto ?_
                  refine x_iadd ?_
                  refine n_istore [some (vR _), some (vI _), some (vI _), some (vI _), some (vI _)] (Nat.le_of_ble_eq_true rfl) rfl ?_
                  refine n_iinc [some (vR _), some (vI _), some (vI _), some (vI _), some (vI _)] rfl rfl ?_
                  refine x_goto ?_
                  have ce := cur_end g2 (by omega)
                  have hg3 := hg01 (c := c) (k0 := k0) (j + 1) k
                  refine ih (n - (j + 1)) (by omega) (j + 1) _ _ _ (by omega) (by omega) ?_ (fun q q0 q1 => ?_) g3
                  · simp only [hcN]
                    rw [← ce]
                    rw [if_pos ⟨by omega, by omega⟩, hw]
                  · by_cases e : q = k
                    · rw [e, ce, hk]
                    · rw [g1 q q0 (by omega)]
                      exact (hg_keep (by omega)).symm
            · refine x_aload rfl ?_
              refine h_getR sc_94 rfl (by omega) ?_
              refine x_iload rfl ?_
              refine x_aload rfl ?_
              refine h_getR sc_94 rfl (by omega) ?_
              refine x_iload rfl ?_
              refine h_bald2 sc_121 ⟨by omega, by omega⟩ (by decide) ?_
              have gi := g1 i (by omega) (by omega)
              have o01 := h01 i
              have oi := hv i (by omega) (by omega)
              rw [gi]
              refine n_if_eq ⟨by omega, by omega⟩ (fun c3 => ?_) (fun c3 => ?_)
              · refine x_ci ?_
                refine x_fall ?_
                refine h_bast2 sc_121 ⟨by omega, by omega⟩ (by decide) ?_
                refine n_iinc [some (vR _), some (vI _), some (vI _), some (vI _), some (vI _)] rfl rfl ?_
                refine x_goto ?_
                refine ih2 (j - (i + 1).toNat) (by omega) (i + 1) _ (by omega) (by omega) (fun q q0 q1 => ?_) ?_ (fun b2 hb r => ?_)
                · rw [up_i (by omega)]
                  exact g1 q q0 q1
                · rw [up_e]
                  have st := cur_step (c := c) (k0 := k0) (j := j) (i := i.toNat) (by omega) (by omega) (by rw [show ((i.toNat : Nat) : Int) = i by omega]; rcases g2 with ⟨z, -⟩ | ⟨-, z⟩; omega; exact z)
                  rw [show ((i.toNat : Nat) : Int) = i by omega, ← hk] at st
                  refine Or.inr ⟨by decide, fun z => ?_⟩
                  have z := st.mp z
                  have e1 := z.1
                  have e2 := z.2
                  omega
                · rw [up_a hb]
                  exact g3 b2 hb r
              · refine x_aload rfl ?_
                refine h_getR sc_94 rfl (by omega) ?_
                refine x_iload rfl ?_
                refine h_iald sc_113 ⟨by omega, by omega⟩ (by decide) ?_
                rw [hcode i (by omega) (by omega)]
                refine x_ci ?_
                refine n_idiv ⟨by omega, by omega⟩ ⟨by omega, by omega⟩ ?_
                refine x_aload rfl ?_
                refine h_getR sc_94 rfl (by omega) ?_
                refine x_iload rfl ?_
                refine h_iald sc_113 ⟨by omega, by omega⟩ (by decide) ?_
                rw [hcode k (by omega) (by omega)]
                refine x_ci ?_
                refine n_idiv ⟨by omega, by omega⟩ ⟨by omega, by omega⟩ ?_
                refine x_isub ?_
                refine n_iabs ⟨by omega, by omega⟩ (by omega) (Nat.le_of_ble_eq_true rfl) ?_
                refine x_ci ?_
                refine n_icmp_gt ⟨by omega, by omega⟩ ⟨by omega, by omega⟩ (fun c4 => ?_) (fun c4 => ?_)
                · refine x_ci ?_
                  refine x_fall ?_
                  refine h_bast2 sc_121 ⟨by omega, by omega⟩ (by decide) ?_
                  refine n_iinc [some (vR _), some (vI _), some (vI _), some (vI _), some (vI _)] rfl rfl ?_
                  refine x_goto ?_
                  refine ih2 (j - (i + 1).toNat) (by omega) (i + 1) _ (by omega) (by omega) (fun q q0 q1 => ?_) ?_ (fun b2 hb r => ?_)
                  · rw [up_i (by omega)]
                    exact g1 q q0 q1
                  · rw [up_e]
                    have st := cur_step (c := c) (k0 := k0) (j := j) (i := i.toNat) (by omega) (by omega) (by rw [show ((i.toNat : Nat) : Int) = i by omega]; rcases g2 with ⟨z, -⟩ | ⟨-, z⟩; omega; exact z)
                    rw [show ((i.toNat : Nat) : Int) = i by omega, ← hk] at st
                    refine Or.inr ⟨by decide, fun z => ?_⟩
                    have z := st.mp z
                    have e1 := z.1
                    have e2 := z.2
                    omega
                  · rw [up_a hb]
                    exact g3 b2 hb r
                · refine x_ci ?_
                  refine x_goto ?_
                  refine h_bast2 sc_121 ⟨by omega, by omega⟩ (by decide) ?_
                  refine n_iinc [some (vR _), some (vI _), some (vI _), some (vI _), some (vI _)] rfl rfl ?_
                  refine x_goto ?_
                  refine ih2 (j - (i + 1).toNat) (by omega) (i + 1) _ (by omega) (by omega) (fun q q0 q1 => ?_) ?_ (fun b2 hb r => ?_)
                  · rw [up_i (by omega)]
                    exact g1 q q0 q1
                  · rw [up_e]
                    have st := cur_step (c := c) (k0 := k0) (j := j) (i := i.toNat) (by omega) (by omega) (by rw [show ((i.toNat : Nat) : Int) = i by omega]; rcases g2 with ⟨z, -⟩ | ⟨-, z⟩; omega; exact z)
                    rw [show ((i.toNat : Nat) : Int) = i by omega, ← hk] at st
                    exact Or.inl ⟨by decide, st.mpr ⟨by omega, by omega, by omega⟩⟩
                  · rw [up_a hb]
                    exact g3 b2 hb r
        have c0 : curH c k0 j k0 ↔ j = k0 := ⟨fun z => by
          rcases z with z | ⟨z1, r, r1, r2, r3⟩
          · exact z
          · omega, fun z => Or.inl z⟩
        refine L2 _ k0 _ rfl (by omega) (fun q q0 q1 => ?_) ?_ (fun b2 hb r => ?_)
        · rw [up_i (by omega)]
          exact g1 q q0 (by omega)
        · rw [up_e]
          exact Or.inl ⟨by decide, c0.mpr (by omega)⟩
        · rw [up_a hb]
          exact g3 b2 hb r
  refine n_at (m := 134) (q := mr134) (kn := (0, 2)) [some (vR _), some (vI _), none, none, none] mb134 rfl rfl (h_rcv sc_94) (Nat.le_of_ble_eq_true rfl) rfl rfl ?_
  refine x_ci ?_
  refine n_istore [some (vR _), some (vI _), some (vI _), _, _] (Nat.le_of_ble_eq_true rfl) rfl ?_
  refine x_ci ?_
  refine n_istore [some (vR _), some (vI _), some (vI _), some (vI _), _] (Nat.le_of_ble_eq_true rfl) rfl ?_
  refine x_fall ?_
  exact L1 n 0 0 0 s rfl (by omega) rfl (fun q q0 q1 => by omega) (fun _ _ _ => rfl)
end HH
