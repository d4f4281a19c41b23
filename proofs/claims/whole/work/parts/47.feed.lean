/-! THE TAPE, both sides -/
section FD
variable {d : Nat} {h0 h : pheap} {s : St} {Q : Option pv → pheap → Prop}
/-- the k-th byte of a number, as the class keeps it and as the reference does -/
def cbB (v : Int) (k : Nat) : Int := a_nar 1 (i_byte (i_shr v (24 - 8 * (k : Int))))
def rbB (v : Int) (k : Nat) : Int := i_and (i_shr v (24 - 8 * (k : Int))) 255
/-- which of five numbers the j-th byte comes of -/
def sel5 (a b c d e : Int) (j : Nat) : Int := if j < 4 then a else if j < 8 then b else if j < 12 then c else if j < 16 then d else e
def tfr (s t : St) : Prop := ∀ (b : Nat) (r : Int), ¬ b = 34 → ¬ (b = 33 ∧ r = 1) → t b r = s b r
theorem tfr_tr {s t u : St} (h1 : tfr s t) (h2 : tfr t u) : tfr s u := fun b r q1 q2 => (h2 b r q1 q2).trans (h1 b r q1 q2)
theorem m_hasRoomFor {x : Int} (h1 : 0 ≤ s 33 1 ∧ s 33 1 ≤ 700) (hx : 0 ≤ x ∧ x ≤ 1000) (k : Q (some (vI (bI (s 33 1 + x ≤ 700)))) (HP h0 s)) : wpM PP d 287 [vR 33, vI x] (HP h0 s) Q := by
  refine n_at (m := 287) (q := mr287) (kn := (0, 2)) [some (vR _), some (vI _)] mb287 rfl rfl (h_rcv sc_33) (Nat.le_of_ble_eq_true rfl) rfl rfl ?_
  refine x_aload rfl ?_
  refine h_getI 1 sc_33 rfl rfl ?_
  refine x_iload rfl ?_
  refine x_iadd ?_
  refine x_aload rfl ?_
  refine h_getR sc_33 rfl (by omega) ?_
  refine h_alen 700 sc_34 (by decide) rfl ?_
  refine n_icmp_gt ⟨by omega, by omega⟩ ⟨by omega, by omega⟩ (fun c1 => ?_) (fun c1 => ?_)
  · refine x_ci ?_
    refine x_fall ?_
    refine x_zret (by first | exact bI_01 _ | omega) ?_
    exact cB0 k (by omega)
  · refine x_ci ?_
    refine x_goto ?_
    refine x_zret (by first | exact bI_01 _ | omega) ?_
    exact cB1 k (by omega)
theorem m_tput {v z : Int} (hz0 : 0 ≤ z ∧ z ≤ 696) (h1 : s 33 1 = z) (k : ∀ t, t 33 1 = z + 4 → (∀ q : Nat, q < 4 → t 34 (z + q) = cbB v q) → (∀ r : Int, r < z → t 34 r = s 34 r) → tfr s t → Q none (HP h0 t)) : wpM PP d 288 [vR 33, vI v] (HP h0 s) Q := by
  have L1 : ∀ N : Nat, ∀ (j : Nat) (i : Int) (t : St), (i = 24 - 8 * (j : Int)) → (N = 4 - j ∧ j ≤ 4) → (t 33 1 = z + j) → (∀ q : Nat, q < j → t 34 (z + q) = cbB v q) → (∀ r : Int, r < z → t 34 r = s 34 r) → (tfr s t) →  wp PP d mb288 (mb288.getD 1 []) [some (vR 33), some (vI v), some (vI i)] [] (HP h0 t) Q := by
    refine s_ind (fun N ih => ?_)
    intro j i t hj hn hz g1 g2 g3
    refine x_iload rfl ?_
    refine n_if_lt ⟨by omega, by omega⟩ (fun c1 => ?_) (fun c1 => ?_)
    · refine x_ret ?_
      have e : j = 4 := by omega
      subst e
      exact k t (by omega) g1 g2 g3
    · refine x_aload rfl ?_
      refine h_getI 1 sc_33 rfl rfl ?_
      rw [hz]
      refine n_if_lt ⟨by omega, by omega⟩ (fun c2 => ?_) (fun c2 => ?_)
      · skip
        refine n_iinc [some (vR _), some (vI _), some (vI _)] rfl rfl ?_
        refine x_goto ?_
        exfalso
        omega
      · refine x_aload rfl ?_
        refine h_getI 1 sc_33 rfl rfl ?_
        rw [hz]
        refine x_aload rfl ?_
        refine h_getR sc_33 rfl (by omega) ?_
        refine h_alen 700 sc_34 (by decide) rfl ?_
        refine n_icmp_ge ⟨by omega, by omega⟩ ⟨by omega, by omega⟩ (fun c3 => ?_) (fun c3 => ?_)
        · skip
          refine n_iinc [some (vR _), some (vI _), some (vI _)] rfl rfl ?_
          refine x_goto ?_
          exfalso
          omega
        · refine x_aload rfl ?_
          refine h_getR sc_33 rfl (by omega) ?_
          refine x_aload rfl ?_
          refine h_getI 1 sc_33 rfl rfl ?_
          rw [hz]
          refine x_iload rfl ?_
          refine x_iload rfl ?_
          refine t_I (24 - 8 * (j : Int)) (by omega) ?_
          refine x_ishr ?_
          refine x_i2b ?_
          refine h_bast1 sc_34 ⟨by omega, by omega⟩ (by decide) ?_
          refine x_aload rfl ?_
          refine x_dupR ?_
          refine h_getI 1 sc_33 rfl rfl ?_
          rw [up_a (b := 33) (by decide), hz]
          refine x_ci ?_
          refine x_iadd ?_
          refine h_putI 1 sc_33 rfl rfl ?_
          refine x_fall ?_
          skip
          refine n_iinc [some (vR _), some (vI _), some (vI _)] rfl rfl ?_
          refine x_goto ?_
          refine ih (4 - (j + 1)) (by omega) (j + 1) _ _ (by omega) (by omega) ?_ (fun q hq => ?_) (fun r hr => ?_) (fun b r w1 w2 => ?_)
          · rw [up_e]
            omega
          · rw [up_a (by decide), up_at]
            by_cases e : q = j
            · rw [if_pos (by omega), e]
              rfl
            · rw [if_neg (by omega)]
              exact g1 q (by omega)
          · rw [up_a (by decide), up_i (by omega)]
            exact g2 r hr
          · rw [up_f (by omega), up_a (by omega)]
            exact g3 b r w1 w2
  refine n_at (m := 288) (q := mr288) (kn := (0, 2)) [some (vR _), some (vI _), none] mb288 rfl rfl (h_rcv sc_33) (Nat.le_of_ble_eq_true rfl) rfl rfl ?_
  refine x_ci ?_
  refine n_istore [some (vR _), some (vI _), some (vI _)] (Nat.le_of_ble_eq_true rfl) rfl ?_
  refine x_fall ?_
  exact L1 4 0 24 s (by omega) (by omega) (by omega) (fun q hq => by omega) (fun _ _ => rfl) (fun _ _ _ _ => rfl)
theorem m_feed {x1 x2 x3 x4 x5 z : Int} (hd : 2 ≤ d) (h1 : s 33 1 = z) (hz0 : 0 ≤ z ∧ z ≤ 700) (k : ∀ t, t 33 1 = (if z ≤ 680 then z + 20 else z) → (∀ r : Int, r < z → t 34 r = s 34 r) → (z ≤ 680 → ∀ j : Nat, j < 20 → t 34 (z + j) = cbB (sel5 x1 x2 x3 x4 x5 j) (j % 4)) → tfr s t → Q (some (vI (if z ≤ 680 then z + 20 else -1))) (HP h0 t)) : wpM PP d 7 [vR 32, vI x1, vI x2, vI x3, vI x4, vI x5] (HP h0 s) Q := by
  refine n_at (m := 7) (q := mr7) (kn := (0, 6)) [some (vR _), some (vI _), some (vI _), some (vI _), some (vI _), some (vI _)] mb7 rfl rfl (h_rcv sc_32) (Nat.le_of_ble_eq_true rfl) rfl rfl ?_
  refine x_aload rfl ?_
  refine h_getR sc_32 rfl (by omega) ?_
  refine x_ci ?_
  refine n_call [vR _, vI _] [] (by omega) (Nat.le_of_ble_eq_true rfl) rfl rfl (Nat.le_of_ble_eq_true rfl) ?_
  refine m_hasRoomFor (by omega) (by omega) ?_
  show wp PP _ _ _ [some (vR _), some (vI _), some (vI _), some (vI _), some (vI _), some (vI _)] [vI _] _ _
  refine z_if_ne (fun c1 => ?_) (fun c1 => ?_)
  · refine x_aload rfl ?_
    refine h_getR sc_32 rfl (by omega) ?_
    refine x_iload rfl ?_
    refine n_call [vR _, vI _] [] (by omega) (Nat.le_of_ble_eq_true rfl) rfl rfl (Nat.le_of_ble_eq_true rfl) ?_
    refine m_tput (z := z + 0) (by omega) (by rw [h1]; omega) (fun t1 p11 p12 p13 p14 => ?_)
    show wp PP _ _ _ [some (vR _), some (vI _), some (vI _), some (vI _), some (vI _), some (vI _)] [] _ _
    refine x_aload rfl ?_
    refine h_getR sc_32 rfl (by omega) ?_
    refine x_iload rfl ?_
    refine n_call [vR _, vI _] [] (by omega) (Nat.le_of_ble_eq_true rfl) rfl rfl (Nat.le_of_ble_eq_true rfl) ?_
    refine m_tput (z := z + 4) (by omega) (by rw [p11]; omega) (fun t2 p21 p22 p23 p24 => ?_)
    show wp PP _ _ _ [some (vR _), some (vI _), some (vI _), some (vI _), some (vI _), some (vI _)] [] _ _
    refine x_aload rfl ?_
    refine h_getR sc_32 rfl (by omega) ?_
    refine x_iload rfl ?_
    refine n_call [vR _, vI _] [] (by omega) (Nat.le_of_ble_eq_true rfl) rfl rfl (Nat.le_of_ble_eq_true rfl) ?_
    refine m_tput (z := z + 8) (by omega) (by rw [p21]; omega) (fun t3 p31 p32 p33 p34 => ?_)
    show wp PP _ _ _ [some (vR _), some (vI _), some (vI _), some (vI _), some (vI _), some (vI _)] [] _ _
    refine x_aload rfl ?_
    refine h_getR sc_32 rfl (by omega) ?_
    refine x_iload rfl ?_
    refine n_call [vR _, vI _] [] (by omega) (Nat.le_of_ble_eq_true rfl) rfl rfl (Nat.le_of_ble_eq_true rfl) ?_
    refine m_tput (z := z + 12) (by omega) (by rw [p31]; omega) (fun t4 p41 p42 p43 p44 => ?_)
    show wp PP _ _ _ [some (vR _), some (vI _), some (vI _), some (vI _), some (vI _), some (vI _)] [] _ _
    refine x_aload rfl ?_
    refine h_getR sc_32 rfl (by omega) ?_
    refine x_iload rfl ?_
    refine n_call [vR _, vI _] [] (by omega) (Nat.le_of_ble_eq_true rfl) rfl rfl (Nat.le_of_ble_eq_true rfl) ?_
    refine m_tput (z := z + 16) (by omega) (by rw [p41]; omega) (fun t5 p51 p52 p53 p54 => ?_)
    show wp PP _ _ _ [some (vR _), some (vI _), some (vI _), some (vI _), some (vI _), some (vI _)] [] _ _
    refine x_aload rfl ?_
    refine h_getR sc_32 rfl (by omega) ?_
    refine h_getI 1 sc_33 rfl rfl ?_
    refine t_I (z + 20) (by omega) ?_
    refine x_iret ?_
    first
      | (rw [if_neg (by omega), if_neg (by omega)] at k
         exact k s h1 (fun _ _ => rfl) (fun q => absurd q (by omega)) (fun _ _ _ _ => rfl))
      | (rw [if_pos (by omega), if_pos (by omega)] at k
         refine k t5 (by omega) (fun r hr => ?_) (fun _ j hj => ?_) (tfr_tr (tfr_tr (tfr_tr (tfr_tr p14 p24) p34) p44) p54)
         · rw [p53 r (by omega), p43 r (by omega), p33 r (by omega), p23 r (by omega), p13 r (by omega)]
         · rcases (by omega : j < 4 ∨ (4 ≤ j ∧ j < 8) ∨ (8 ≤ j ∧ j < 12) ∨ (12 ≤ j ∧ j < 16) ∨ 16 ≤ j) with g | g | g | g | g
           · have w := p12 (j - 0) (by omega)
             rw [show z + 0 + ((j - 0 : Nat) : Int) = z + (j : Int) by omega] at w
             have es : sel5 x1 x2 x3 x4 x5 j = x1 := by
               unfold sel5
               rw [if_pos (by omega)]
             rw [p53 _ (by omega), p43 _ (by omega), p33 _ (by omega), p23 _ (by omega), w, es, show j % 4 = j - 0 by omega]
           · have w := p22 (j - 4) (by omega)
             rw [show z + 4 + ((j - 4 : Nat) : Int) = z + (j : Int) by omega] at w
             have es : sel5 x1 x2 x3 x4 x5 j = x2 := by
               unfold sel5
               rw [if_neg (by omega), if_pos (by omega)]
             rw [p53 _ (by omega), p43 _ (by omega), p33 _ (by omega), w, es, show j % 4 = j - 4 by omega]
           · have w := p32 (j - 8) (by omega)
             rw [show z + 8 + ((j - 8 : Nat) : Int) = z + (j : Int) by omega] at w
             have es : sel5 x1 x2 x3 x4 x5 j = x3 := by
               unfold sel5
               rw [if_neg (by omega), if_neg (by omega), if_pos (by omega)]
             rw [p53 _ (by omega), p43 _ (by omega), w, es, show j % 4 = j - 8 by omega]
           · have w := p42 (j - 12) (by omega)
             rw [show z + 12 + ((j - 12 : Nat) : Int) = z + (j : Int) by omega] at w
             have es : sel5 x1 x2 x3 x4 x5 j = x4 := by
               unfold sel5
               rw [if_neg (by omega), if_neg (by omega), if_neg (by omega), if_pos (by omega)]
             rw [p53 _ (by omega), w, es, show j % 4 = j - 12 by omega]
           · have w := p52 (j - 16) (by omega)
             rw [show z + 16 + ((j - 16 : Nat) : Int) = z + (j : Int) by omega] at w
             have es : sel5 x1 x2 x3 x4 x5 j = x5 := by
               unfold sel5
               rw [if_neg (by omega), if_neg (by omega), if_neg (by omega), if_neg (by omega)]
             rw [w, es, show j % 4 = j - 16 by omega])
  · refine x_ci ?_
    refine x_iret ?_
    first
      | (rw [if_neg (by omega), if_neg (by omega)] at k
         exact k s h1 (fun _ _ => rfl) (fun q => absurd q (by omega)) (fun _ _ _ _ => rfl))
      | (rw [if_pos (by omega), if_pos (by omega)] at k
         refine k t5 (by omega) (fun r hr => ?_) (fun _ j hj => ?_) (tfr_tr (tfr_tr (tfr_tr (tfr_tr p14 p24) p34) p44) p54)
         · rw [p53 r (by omega), p43 r (by omega), p33 r (by omega), p23 r (by omega), p13 r (by omega)]
         · rcases (by omega : j < 4 ∨ (4 ≤ j ∧ j < 8) ∨ (8 ≤ j ∧ j < 12) ∨ (12 ≤ j ∧ j < 16) ∨ 16 ≤ j) with g | g | g | g | g
           · have w := p12 (j - 0) (by omega)
             rw [show z + 0 + ((j - 0 : Nat) : Int) = z + (j : Int) by omega] at w
             have es : sel5 x1 x2 x3 x4 x5 j = x1 := by
               unfold sel5
               rw [if_pos (by omega)]
             rw [p53 _ (by omega), p43 _ (by omega), p33 _ (by omega), p23 _ (by omega), w, es, show j % 4 = j - 0 by omega]
           · have w := p22 (j - 4) (by omega)
             rw [show z + 4 + ((j - 4 : Nat) : Int) = z + (j : Int) by omega] at w
             have es : sel5 x1 x2 x3 x4 x5 j = x2 := by
               unfold sel5
               rw [if_neg (by omega), if_pos (by omega)]
             rw [p53 _ (by omega), p43 _ (by omega), p33 _ (by omega), w, es, show j % 4 = j - 4 by omega]
           · have w := p32 (j - 8) (by omega)
             rw [show z + 8 + ((j - 8 : Nat) : Int) = z + (j : Int) by omega] at w
             have es : sel5 x1 x2 x3 x4 x5 j = x3 := by
               unfold sel5
               rw [if_neg (by omega), if_neg (by omega), if_pos (by omega)]
             rw [p53 _ (by omega), p43 _ (by omega), w, es, show j % 4 = j - 8 by omega]
           · have w := p42 (j - 12) (by omega)
             rw [show z + 12 + ((j - 12 : Nat) : Int) = z + (j : Int) by omega] at w
             have es : sel5 x1 x2 x3 x4 x5 j = x4 := by
               unfold sel5
               rw [if_neg (by omega), if_neg (by omega), if_neg (by omega), if_pos (by omega)]
             rw [p53 _ (by omega), w, es, show j % 4 = j - 12 by omega]
           · have w := p52 (j - 16) (by omega)
             rw [show z + 16 + ((j - 16 : Nat) : Int) = z + (j : Int) by omega] at w
             have es : sel5 x1 x2 x3 x4 x5 j = x5 := by
               unfold sel5
               rw [if_neg (by omega), if_neg (by omega), if_neg (by omega), if_neg (by omega)]
             rw [w, es, show j % 4 = j - 16 by omega])
theorem r_feed {x1 x2 x3 x4 x5 z : Int} (h1 : s 94 2 = z) (hz0 : 0 ≤ z ∧ z ≤ 700) (k : ∀ t, t 94 2 = (if z ≤ 680 then z + 20 else z) → (∀ r : Int, r < z → t 95 r = s 95 r) → (z ≤ 680 → ∀ j : Nat, j < 20 → t 95 (z + j) = rbB (sel5 x1 x2 x3 x4 x5 j) (j % 4)) → (∀ (b : Nat) (r : Int), ¬ b = 95 → ¬ (b = 94 ∧ r = 2) → ¬ (b = 94 ∧ r = 0) → t b r = s b r) → Q (some (vI (if z ≤ 680 then z + 20 else -1))) (HP h0 t)) : wpM PP d 59 [vR 94, vI x1, vI x2, vI x3, vI x4, vI x5] (HP h0 s) Q := by
  refine n_at (m := 59) (q := mr59) (kn := (0, 6)) [some (vR _), some (vI _), some (vI _), some (vI _), some (vI _), some (vI _), none, none] mb59 rfl rfl (h_rcv sc_94) (Nat.le_of_ble_eq_true rfl) rfl rfl ?_
  refine x_aload rfl ?_
  refine x_ci ?_
  refine h_putI 0 sc_94 rfl rfl ?_
  refine x_aload rfl ?_
  refine h_getI 2 sc_94 rfl rfl ?_
  rw [up_i (i := 0) (by decide), h1]
  refine x_ci ?_
  refine n_icmp_le ⟨by omega, by omega⟩ ⟨by omega, by omega⟩ (fun c1 => ?_) (fun c1 => ?_)
  · refine x_ci ?_
    refine n_istore [some (vR _), some (vI _), some (vI _), some (vI _), some (vI _), some (vI _), some (vI _), _] (Nat.le_of_ble_eq_true rfl) rfl ?_
    refine x_fall ?_
    have hz1 : z ≤ 680 := by omega
    have L1 : ∀ N : Nat, ∀ {o7 : Option pv} (j : Nat) (i : Int) (t : St), (i = j) → (N = 20 - j ∧ j ≤ 20) → (t 94 2 = z) → (∀ q : Nat, q < j → t 95 (z + q) = rbB (sel5 x1 x2 x3 x4 x5 q) (q % 4)) → (∀ r : Int, r < z → t 95 r = s 95 r) → (∀ (b : Nat) (r : Int), ¬ b = 95 → ¬ (b = 94 ∧ r = 2) → ¬ (b = 94 ∧ r = 0) → t b r = s b r) →  wp PP d mb59 (mb59.getD 2 []) [some (vR 94), some (vI x1), some (vI x2), some (vI x3), some (vI x4), some (vI x5), some (vI i), o7] [] (HP h0 t) Q := by
      refine s_ind (fun N ih => ?_)
      intro o7 j i t hj hn hz g1 g2 g3
      refine x_iload rfl ?_
      refine x_ci ?_
      refine n_icmp_ge ⟨by omega, by omega⟩ ⟨by omega, by omega⟩ (fun c1 => ?_) (fun c1 => ?_)
      · refine x_aload rfl ?_
        refine x_dupR ?_
        refine h_getI 2 sc_94 rfl rfl ?_
        rw [hz]
        refine x_ci ?_
        refine x_iadd ?_
        refine h_putI 2 sc_94 rfl rfl ?_
        refine x_aload rfl ?_
        refine h_getI 2 sc_94 rfl rfl ?_
        rw [up_e]
        refine x_iret ?_
        have e : j = 20 := by omega
        subst e
        rw [if_pos hz1, if_pos hz1] at k
        refine k _ up_e (fun r hr => ?_) (fun _ q hq => ?_) (fun b r w1 w2 w3 => ?_)
        · rw [up_a (by decide)]
          exact g2 r hr
        · rw [up_a (by decide)]
          exact g1 q hq
        · rw [up_f w2]
          exact g3 b r w1 w2 w3
      · refine x_iload rfl ?_
        refine x_ci ?_
        refine n_icmp_ge ⟨by omega, by omega⟩ ⟨by omega, by omega⟩ (fun c2 => ?_) (fun c2 => ?_)
        · refine x_iload rfl ?_
          refine x_ci ?_
          refine n_icmp_ge ⟨by omega, by omega⟩ ⟨by omega, by omega⟩ (fun c3 => ?_) (fun c3 => ?_)
          · refine x_iload rfl ?_
            refine x_ci ?_
            refine n_icmp_ge ⟨by omega, by omega⟩ ⟨by omega, by omega⟩ (fun c4 => ?_) (fun c4 => ?_)
            · refine x_iload rfl ?_
              refine x_ci ?_
              refine n_icmp_ge ⟨by omega, by omega⟩ ⟨by omega, by omega⟩ (fun c5 => ?_) (fun c5 => ?_)
              · refine x_iload rfl ?_
                refine x_fall ?_
                refine t_I (sel5 x1 x2 x3 x4 x5 j) ?_ ?_
                · unfold sel5
                  first
                    | (rw [if_pos (by omega)]; done)
                    | (rw [if_neg (by omega), if_pos (by omega)]; done)
                    | (rw [if_neg (by omega), if_neg (by omega), if_pos (by omega)]; done)
                    | (rw [if_neg (by omega), if_neg (by omega), if_neg (by omega), if_pos (by omega)]; done)
                    | (rw [if_neg (by omega), if_neg (by omega), if_neg (by omega), if_neg (by omega)]; done)
                refine n_istore [some (vR _), some (vI _), some (vI _), some (vI _), some (vI _), some (vI _), some (vI _), some (vI _)] (Nat.le_of_ble_eq_true rfl) rfl ?_
                refine x_aload rfl ?_
                refine h_getR sc_94 rfl (by omega) ?_
                refine x_aload rfl ?_
                refine h_getI 2 sc_94 rfl rfl ?_
                rw [hz]
                refine x_iload rfl ?_
                refine x_iadd ?_
                refine x_iload rfl ?_
                refine x_ci ?_
                refine x_ci ?_
                refine x_iload rfl ?_
                refine x_ci ?_
                refine n_irem ⟨by omega, by omega⟩ ⟨by omega, by omega⟩ ?_
                refine x_imul ?_
                refine x_isub ?_
                refine t_I (24 - 8 * ((j % 4 : Nat) : Int)) (by omega) ?_
                refine x_ishr ?_
                refine x_ci ?_
                refine x_iand ?_
                rw [show i_and (i_shr (sel5 x1 x2 x3 x4 x5 j) (24 - 8 * ((j % 4 : Nat) : Int))) 255 = rbB (sel5 x1 x2 x3 x4 x5 j) (j % 4) from rfl]
                refine h_iast sc_95 ⟨by omega, by omega⟩ (by decide) ?_
                refine n_iinc [some (vR _), some (vI _), some (vI _), some (vI _), some (vI _), some (vI _), some (vI _), some (vI _)] rfl rfl ?_
                refine x_goto ?_
                refine ih (20 - (j + 1)) (by omega) (j + 1) _ _ (by omega) (by omega) ?_ (fun q hq => ?_) (fun r hr => ?_) (fun b r w1 w2 w3 => ?_)
                · rw [up_a (by decide)]
                  exact hz
                · rw [up_at]
                  by_cases e : q = j
                  · rw [if_pos (by omega), e]
                  · rw [if_neg (by omega)]
                    exact g1 q (by omega)
                · rw [up_i (by omega)]
                  exact g2 r hr
                · rw [up_a w1]
                  exact g3 b r w1 w2 w3
              · refine x_iload rfl ?_
                refine x_goto ?_
                refine t_I (sel5 x1 x2 x3 x4 x5 j) ?_ ?_
                · unfold sel5
                  first
                    | (rw [if_pos (by omega)]; done)
                    | (rw [if_neg (by omega), if_pos (by omega)]; done)
                    | (rw [if_neg (by omega), if_neg (by omega), if_pos (by omega)]; done)
                    | (rw [if_neg (by omega), if_neg (by omega), if_neg (by omega), if_pos (by omega)]; done)
                    | (rw [if_neg (by omega), if_neg (by omega), if_neg (by omega), if_neg (by omega)]; done)
                refine n_istore [some (vR _), some (vI _), some (vI _), some (vI _), some (vI _), some (vI _), some (vI _), some (vI _)] (Nat.le_of_ble_eq_true rfl) rfl ?_
                refine x_aload rfl ?_
                refine h_getR sc_94 rfl (by omega) ?_
                refine x_aload rfl ?_
                refine h_getI 2 sc_94 rfl rfl ?_
                rw [hz]
                refine x_iload rfl ?_
                refine x_iadd ?_
                refine x_iload rfl ?_
                refine x_ci ?_
                refine x_ci ?_
                refine x_iload rfl ?_
                refine x_ci ?_
                refine n_irem ⟨by omega, by omega⟩ ⟨by omega, by omega⟩ ?_
                refine x_imul ?_
                refine x_isub ?_
                refine t_I (24 - 8 * ((j % 4 : Nat) : Int)) (by omega) ?_
                refine x_ishr ?_
                refine x_ci ?_
                refine x_iand ?_
                rw [show i_and (i_shr (sel5 x1 x2 x3 x4 x5 j) (24 - 8 * ((j % 4 : Nat) : Int))) 255 = rbB (sel5 x1 x2 x3 x4 x5 j) (j % 4) from rfl]
                refine h_iast sc_95 ⟨by omega, by omega⟩ (by decide) ?_
                refine n_iinc [some (vR _), some (vI _), some (vI _), some (vI _), some (vI _), some (vI _), some (vI _), some (vI _)] rfl rfl ?_
                refine x_goto ?_
                refine ih (20 - (j + 1)) (by omega) (j + 1) _ _ (by omega) (by omega) ?_ (fun q hq => ?_) (fun r hr => ?_) (fun b r w1 w2 w3 => ?_)
                · rw [up_a (by decide)]
                  exact hz
                · rw [up_at]
                  by_cases e : q = j
                  · rw [if_pos (by omega), e]
                  · rw [if_neg (by omega)]
                    exact g1 q (by omega)
                · rw [up_i (by omega)]
                  exact g2 r hr
                · rw [up_a w1]
                  exact g3 b r w1 w2 w3
            · refine x_iload rfl ?_
              refine x_goto ?_
              refine t_I (sel5 x1 x2 x3 x4 x5 j) ?_ ?_
              · unfold sel5
                first
                  | (rw [if_pos (by omega)]; done)
                  | (rw [if_neg (by omega), if_pos (by omega)]; done)
                  | (rw [if_neg (by omega), if_neg (by omega), if_pos (by omega)]; done)
                  | (rw [if_neg (by omega), if_neg (by omega), if_neg (by omega), if_pos (by omega)]; done)
                  | (rw [if_neg (by omega), if_neg (by omega), if_neg (by omega), if_neg (by omega)]; done)
              refine n_istore [some (vR _), some (vI _), some (vI _), some (vI _), some (vI _), some (vI _), some (vI _), some (vI _)] (Nat.le_of_ble_eq_true rfl) rfl ?_
              refine x_aload rfl ?_
              refine h_getR sc_94 rfl (by omega) ?_
              refine x_aload rfl ?_
              refine h_getI 2 sc_94 rfl rfl ?_
              rw [hz]
              refine x_iload rfl ?_
              refine x_iadd ?_
              refine x_iload rfl ?_
              refine x_ci ?_
              refine x_ci ?_
              refine x_iload rfl ?_
              refine x_ci ?_
              refine n_irem ⟨by omega, by omega⟩ ⟨by omega, by omega⟩ ?_
              refine x_imul ?_
              refine x_isub ?_
              refine t_I (24 - 8 * ((j % 4 : Nat) : Int)) (by omega) ?_
              refine x_ishr ?_
              refine x_ci ?_
              refine x_iand ?_
              rw [show i_and (i_shr (sel5 x1 x2 x3 x4 x5 j) (24 - 8 * ((j % 4 : Nat) : Int))) 255 = rbB (sel5 x1 x2 x3 x4 x5 j) (j % 4) from rfl]
              refine h_iast sc_95 ⟨by omega, by omega⟩ (by decide) ?_
              refine n_iinc [some (vR _), some (vI _), some (vI _), some (vI _), some (vI _), some (vI _), some (vI _), some (vI _)] rfl rfl ?_
              refine x_goto ?_
              refine ih (20 - (j + 1)) (by omega) (j + 1) _ _ (by omega) (by omega) ?_ (fun q hq => ?_) (fun r hr => ?_) (fun b r w1 w2 w3 => ?_)
              · rw [up_a (by decide)]
                exact hz
              · rw [up_at]
                by_cases e : q = j
                · rw [if_pos (by omega), e]
                · rw [if_neg (by omega)]
                  exact g1 q (by omega)
              · rw [up_i (by omega)]
                exact g2 r hr
              · rw [up_a w1]
                exact g3 b r w1 w2 w3
          · refine x_iload rfl ?_
            refine x_goto ?_
            refine t_I (sel5 x1 x2 x3 x4 x5 j) ?_ ?_
            · unfold sel5
              first
                | (rw [if_pos (by omega)]; done)
                | (rw [if_neg (by omega), if_pos (by omega)]; done)
                | (rw [if_neg (by omega), if_neg (by omega), if_pos (by omega)]; done)
                | (rw [if_neg (by omega), if_neg (by omega), if_neg (by omega), if_pos (by omega)]; done)
                | (rw [if_neg (by omega), if_neg (by omega), if_neg (by omega), if_neg (by omega)]; done)
            refine n_istore [some (vR _), some (vI _), some (vI _), some (vI _), some (vI _), some (vI _), some (vI _), some (vI _)] (Nat.le_of_ble_eq_true rfl) rfl ?_
            refine x_aload rfl ?_
            refine h_getR sc_94 rfl (by omega) ?_
            refine x_aload rfl ?_
            refine h_getI 2 sc_94 rfl rfl ?_
            rw [hz]
            refine x_iload rfl ?_
            refine x_iadd ?_
            refine x_iload rfl ?_
            refine x_ci ?_
            refine x_ci ?_
            refine x_iload rfl ?_
            refine x_ci ?_
            refine n_irem ⟨by omega, by omega⟩ ⟨by omega, by omega⟩ ?_
            refine x_imul ?_
            refine x_isub ?_
            refine t_I (24 - 8 * ((j % 4 : Nat) : Int)) (by omega) ?_
            refine x_ishr ?_
            refine x_ci ?_
            refine x_iand ?_
            rw [show i_and (i_shr (sel5 x1 x2 x3 x4 x5 j) (24 - 8 * ((j % 4 : Nat) : Int))) 255 = rbB (sel5 x1 x2 x3 x4 x5 j) (j % 4) from rfl]
            refine h_iast sc_95 ⟨by omega, by omega⟩ (by decide) ?_
            refine n_iinc [some (vR _), some (vI _), some (vI _), some (vI _), some (vI _), some (vI _), some (vI _), some (vI _)] rfl rfl ?_
            refine x_goto ?_
            refine ih (20 - (j + 1)) (by omega) (j + 1) _ _ (by omega) (by omega) ?_ (fun q hq => ?_) (fun r hr => ?_) (fun b r w1 w2 w3 => ?_)
            · rw [up_a (by decide)]
              exact hz
            · rw [up_at]
              by_cases e : q = j
              · rw [if_pos (by omega), e]
              · rw [if_neg (by omega)]
                exact g1 q (by omega)
            · rw [up_i (by omega)]
              exact g2 r hr
            · rw [up_a w1]
              exact g3 b r w1 w2 w3
        · refine x_iload rfl ?_
          refine x_goto ?_
          refine t_I (sel5 x1 x2 x3 x4 x5 j) ?_ ?_
          · unfold sel5
            first
              | (rw [if_pos (by omega)]; done)
              | (rw [if_neg (by omega), if_pos (by omega)]; done)
              | (rw [if_neg (by omega), if_neg (by omega), if_pos (by omega)]; done)
              | (rw [if_neg (by omega), if_neg (by omega), if_neg (by omega), if_pos (by omega)]; done)
              | (rw [if_neg (by omega), if_neg (by omega), if_neg (by omega), if_neg (by omega)]; done)
          refine n_istore [some (vR _), some (vI _), some (vI _), some (vI _), some (vI _), some (vI _), some (vI _), some (vI _)] (Nat.le_of_ble_eq_true rfl) rfl ?_
          refine x_aload rfl ?_
          refine h_getR sc_94 rfl (by omega) ?_
          refine x_aload rfl ?_
          refine h_getI 2 sc_94 rfl rfl ?_
          rw [hz]
          refine x_iload rfl ?_
          refine x_iadd ?_
          refine x_iload rfl ?_
          refine x_ci ?_
          refine x_ci ?_
          refine x_iload rfl ?_
          refine x_ci ?_
          refine n_irem ⟨by omega, by omega⟩ ⟨by omega, by omega⟩ ?_
          refine x_imul ?_
          refine x_isub ?_
          refine t_I (24 - 8 * ((j % 4 : Nat) : Int)) (by omega) ?_
          refine x_ishr ?_
          refine x_ci ?_
          refine x_iand ?_
          rw [show i_and (i_shr (sel5 x1 x2 x3 x4 x5 j) (24 - 8 * ((j % 4 : Nat) : Int))) 255 = rbB (sel5 x1 x2 x3 x4 x5 j) (j % 4) from rfl]
          refine h_iast sc_95 ⟨by omega, by omega⟩ (by decide) ?_
          refine n_iinc [some (vR _), some (vI _), some (vI _), some (vI _), some (vI _), some (vI _), some (vI _), some (vI _)] rfl rfl ?_
          refine x_goto ?_
          refine ih (20 - (j + 1)) (by omega) (j + 1) _ _ (by omega) (by omega) ?_ (fun q hq => ?_) (fun r hr => ?_) (fun b r w1 w2 w3 => ?_)
          · rw [up_a (by decide)]
            exact hz
          · rw [up_at]
            by_cases e : q = j
            · rw [if_pos (by omega), e]
            · rw [if_neg (by omega)]
              exact g1 q (by omega)
          · rw [up_i (by omega)]
            exact g2 r hr
          · rw [up_a w1]
            exact g3 b r w1 w2 w3
    refine L1 20 0 0 _ rfl (by omega) ?_ (fun q hq => by omega) (fun r hr => up_a (by decide)) (fun b r w1 w2 w3 => up_f w3)
    rw [up_i (by decide)]
    exact h1
  · refine x_ci ?_
    refine x_iret ?_
    rw [if_neg (by omega), if_neg (by omega)] at k
    refine k _ ?_ (fun r hr => up_a (by decide)) (fun q => absurd q (by omega)) (fun b r w1 w2 w3 => up_f w3)
    rw [up_i (by decide)]
    exact h1
end FD
