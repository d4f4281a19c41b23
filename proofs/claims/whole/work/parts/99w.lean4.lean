/-! LEAN: the reference -/
section LN4
variable {d : Nat} {h0 : pheap} {s : St} {Q : Option pv → pheap → Prop} {L : Int} {n zqq K : Nat} {c c' : Int → Int}
def noneAt (c : Int → Int) (n k : Nat) : Prop := ∀ i : Nat, k < i → i < n → c i / 2 = c k / 2 → sgn (c i) = -(sgn (c k)) → (∀ j : Nat, k < j → j < i → farC (c k) (c j)) → False
theorem r_undoneBy (hd : 9 ≤ d) (hr0 : RD 1 L n c s) {k : Nat} (hk : k < n) (kY : ∀ i : Nat, k < i → i < n → c i = c k + 1 - 2 * (c k % 2) → (∀ j : Nat, k < j → j < i → farC (c k) (c j)) → Q (some (vI (i : Int))) (HP h0 s)) (kN : noneAt c n k → Q (some (vI (-1))) (HP h0 s)) : wpM PP d 152 [vR 94, vI (k : Int)] (HP h0 s) Q := by
  have hn48 := hr0.2.1
  have hv10 := hr0.2.2.1.ten
  have hk10 := hv10 (k : Int) (by omega) (by omega)
  have L1 : ∀ N : Nat, ∀ {o3 : Option pv} (i : Nat) (ii : Int), (ii = i) → (N = n - i ∧ i ≤ n ∧ k < i) → (∀ j : Nat, k < j → j < i → farC (c k) (c j)) →  wp PP d mb152 (mb152.getD 1 []) [some (vR 94), some (vI (k : Int)), some (vI ii), o3] [] (HP h0 s) Q := by
    refine s_ind (fun N ih => ?_)
    intro o3 i ii h1 hM g
    subst h1
    refine x_iload rfl ?_
    refine x_aload rfl ?_
    refine h_getR sc_94 rfl (by omega) ?_
    refine x_ci ?_
    refine h_iald sc_112 ⟨by omega, by omega⟩ (by decide) ?_
    rw [hr0.2.2.2.2.1]
    refine n_icmp_ge ⟨by omega, by omega⟩ ⟨by omega, by omega⟩ (fun c1 => ?_) (fun c1 => ?_)
    · refine x_ci ?_
      refine x_iret ?_
      first
        | (refine kN (fun q q0 q1 q2 q3 q4 => ?_)
           have := g q q0 (by omega)
           unfold farC at this
           omega)
        | exact kY i (by omega) (by omega) (by omega) (fun j j0 j1 => g j j0 j1)
        | (refine kN (fun q q0 q1 q2 q3 q4 => ?_)
           by_cases e1 : q < i
           · have := g q q0 e1
             unfold farC at this
             omega
           · by_cases e2 : q = i
             · rw [e2] at q2 q3
               have := sgn_x2 q2 q3
               omega
             · have := q4 i (by omega) (by omega)
               unfold farC at this
               omega)
    · refine x_aload rfl ?_
      refine h_getR sc_94 rfl (by omega) ?_
      refine x_ci ?_
      refine x_iload rfl ?_
      refine x_iadd ?_
      refine h_iald sc_113 ⟨by omega, by omega⟩ (by decide) ?_
      rw [show 48 + (i : Int) = 48 * 1 + (i : Int) by omega, hr0.2.2.2.2.2 _ (by omega) (by omega)]
      have hi := hv10 (i : Int) (by omega) (by omega)
      refine x_ci ?_
      refine n_idiv ⟨by omega, by omega⟩ ⟨by omega, by omega⟩ ?_
      refine x_aload rfl ?_
      refine h_getR sc_94 rfl (by omega) ?_
      refine x_ci ?_
      refine x_iload rfl ?_
      refine x_iadd ?_
      refine h_iald sc_113 ⟨by omega, by omega⟩ (by decide) ?_
      rw [show 48 + (k : Int) = 48 * 1 + (k : Int) by omega, hr0.2.2.2.2.2 _ (by omega) (by omega)]
      refine x_ci ?_
      refine n_idiv ⟨by omega, by omega⟩ ⟨by omega, by omega⟩ ?_
      refine x_isub ?_
      refine n_iabs ⟨by omega, by omega⟩ (by omega) (Nat.le_of_ble_eq_true rfl) ?_
      refine n_istore [some (vR _), some (vI _), some (vI _), some (vI _)] (Nat.le_of_ble_eq_true rfl) rfl ?_
      refine x_aload rfl ?_
      refine h_getR sc_94 rfl (by omega) ?_
      refine x_ci ?_
      refine x_iload rfl ?_
      refine x_iadd ?_
      refine h_iald sc_113 ⟨by omega, by omega⟩ (by decide) ?_
      rw [show 48 + (i : Int) = 48 * 1 + (i : Int) by omega, hr0.2.2.2.2.2 _ (by omega) (by omega)]
      refine x_aload rfl ?_
      refine h_getR sc_94 rfl (by omega) ?_
      refine x_ci ?_
      refine x_iload rfl ?_
      refine x_iadd ?_
      refine h_iald sc_113 ⟨by omega, by omega⟩ (by decide) ?_
      rw [show 48 + (k : Int) = 48 * 1 + (k : Int) by omega, hr0.2.2.2.2.2 _ (by omega) (by omega)]
      refine x_ci ?_
      refine x_ixor ?_
      rw [xor1 (by omega) (by omega)]
      refine n_icmp_ne ⟨by omega, by omega⟩ ⟨by omega, by omega⟩ (fun c2 => ?_) (fun c2 => ?_)
      · refine x_iload rfl ?_
        refine x_ci ?_
        refine n_icmp_ge ⟨by omega, by omega⟩ ⟨by omega, by omega⟩ (fun c3 => ?_) (fun c3 => ?_)
        · refine n_iinc [some (vR _), some (vI _), some (vI _), some (vI _)] rfl rfl ?_
          refine x_goto ?_
          refine ih (n - (i + 1)) (by omega) (i + 1) _ (by omega) (by omega) (fun j j0 j1 => ?_)
          by_cases e : j = i
          · rw [e]
            unfold farC
            omega
          · exact g j j0 (by omega)
        · refine x_ci ?_
          refine x_iret ?_
          first
            | (refine kN (fun q q0 q1 q2 q3 q4 => ?_)
               have := g q q0 (by omega)
               unfold farC at this
               omega)
            | exact kY i (by omega) (by omega) (by omega) (fun j j0 j1 => g j j0 j1)
            | (refine kN (fun q q0 q1 q2 q3 q4 => ?_)
               by_cases e1 : q < i
               · have := g q q0 e1
                 unfold farC at this
                 omega
               · by_cases e2 : q = i
                 · rw [e2] at q2 q3
                   have := sgn_x2 q2 q3
                   omega
                 · have := q4 i (by omega) (by omega)
                   unfold farC at this
                   omega)
      · refine x_iload rfl ?_
        refine x_iret ?_
        first
          | (refine kN (fun q q0 q1 q2 q3 q4 => ?_)
             have := g q q0 (by omega)
             unfold farC at this
             omega)
          | exact kY i (by omega) (by omega) (by omega) (fun j j0 j1 => g j j0 j1)
          | (refine kN (fun q q0 q1 q2 q3 q4 => ?_)
             by_cases e1 : q < i
             · have := g q q0 e1
               unfold farC at this
               omega
             · by_cases e2 : q = i
               · rw [e2] at q2 q3
                 have := sgn_x2 q2 q3
                 omega
               · have := q4 i (by omega) (by omega)
                 unfold farC at this
                 omega)
  refine n_at (m := 152) (q := mr152) (kn := (0, 2)) [some (vR _), some (vI _), none, none] mb152 rfl rfl (h_rcv sc_94) (Nat.le_of_ble_eq_true rfl) rfl rfl ?_
  refine x_iload rfl ?_
  refine x_ci ?_
  refine x_iadd ?_
  refine n_istore [some (vR _), some (vI _), some (vI _), _] (Nat.le_of_ble_eq_true rfl) rfl ?_
  refine x_fall ?_
  exact L1 (n - (k + 1)) (k + 1) _ (by omega) (by omega) (fun j j0 j1 => by omega)
theorem r_takesOut (hr0 : RD 1 L n c s) {k : Nat} (hk : k < n) (hK : ∀ tqq, RD 1 L (n - 1) (rmv c k) tqq → mF s tqq → Q none (HP h0 tqq)) : wpM PP d 153 [vR 94, vI (k : Int)] (HP h0 s) Q := by
  have hn48 := hr0.2.1
  have L1 : ∀ N : Nat, ∀ (i : Nat) (ii : Int) (tqq : St), (ii = i) → (N = n - i ∧ i + 1 ≤ n ∧ k ≤ i) → (tqq 112 1 = (n : Int) - 1) → (∀ q : Int, 0 ≤ q → q < n → tqq 113 (48 + q) = if (k : Int) ≤ q ∧ q < i then c (q + 1) else c q) → (∀ (b : Nat) (r : Int), ¬ (b = 112 ∧ r = 1) → ¬ (b = 113 ∧ 48 ≤ r ∧ r < 96) → tqq b r = s b r) →  wp PP d mb153 (mb153.getD 1 []) [some (vR 94), some (vI (k : Int)), some (vI ii)] [] (HP h0 tqq) Q := by
    refine s_ind (fun N ih => ?_)
    intro i ii tqq h1 hM g1 g2 g3
    subst h1
    refine x_iload rfl ?_
    refine x_aload rfl ?_
    refine h_getR sc_94 rfl (by omega) ?_
    refine x_ci ?_
    refine h_iald sc_112 ⟨by omega, by omega⟩ (by decide) ?_
    rw [g1]
    refine n_icmp_ge ⟨by omega, by omega⟩ ⟨by omega, by omega⟩ (fun c1 => ?_) (fun c1 => ?_)
    · refine x_ret ?_
      refine hK tqq ⟨hr0.1, by omega, fun i i0 i1 => ?_, (g3 111 1 (by omega) (by omega)).trans hr0.2.2.2.1, by rw [g1]; omega, fun q q0 q1 => ?_⟩ (fun b r q1 q2 q3 q4 => g3 b r q3 q4)
      · unfold rmv
        split
        · exact hr0.2.2.1 _ i0 (by omega)
        · exact hr0.2.2.1 _ (by omega) (by omega)
      · rw [show (48 : Int) * 1 + q = 48 + q by omega, g2 q q0 (by omega)]
        unfold rmv
        by_cases e : q < k
        · rw [if_neg (by omega), if_pos e]
        · rw [if_pos (by omega), if_neg e]
    · refine x_aload rfl ?_
      refine h_getR sc_94 rfl (by omega) ?_
      refine x_ci ?_
      refine x_iload rfl ?_
      refine x_iadd ?_
      refine x_aload rfl ?_
      refine h_getR sc_94 rfl (by omega) ?_
      refine x_ci ?_
      refine x_iload rfl ?_
      refine x_iadd ?_
      refine x_ci ?_
      refine x_iadd ?_
      refine h_iald sc_113 ⟨by omega, by omega⟩ (by decide) ?_
      refine h_iast sc_113 ⟨by omega, by omega⟩ (by decide) ?_
      refine n_iinc [some (vR _), some (vI _), some (vI _)] rfl rfl ?_
      refine x_goto ?_
      refine ih (n - (i + 1)) (by omega) (i + 1) _ _ (by omega) (by omega) ?_ (fun q q0 q1 => ?_) (fun b r q1 q2 => ?_)
      · rw [up_a (by decide)]
        exact g1
      · by_cases e : q = i
        · rw [e, up_e, show (48 : Int) + i + 1 = 48 + ((i : Int) + 1) by omega, g2 _ (by omega) (by omega), if_neg (by omega), if_pos (by omega)]
        · rw [up_i (by omega), g2 q q0 q1]
          by_cases e2 : (k : Int) ≤ q ∧ q < i
          · rw [if_pos e2, if_pos (by omega)]
          · rw [if_neg e2, if_neg (by omega)]
      · rw [up_f (by omega)]
        exact g3 b r q1 q2
  refine n_at (m := 153) (q := mr153) (kn := (0, 2)) [some (vR _), some (vI _), none] mb153 rfl rfl (h_rcv sc_94) (Nat.le_of_ble_eq_true rfl) rfl rfl ?_
  refine x_aload rfl ?_
  refine h_getR sc_94 rfl (by omega) ?_
  refine x_ci ?_
  refine x_dup2 ?_
  refine h_iald sc_112 ⟨by omega, by omega⟩ (by decide) ?_
  rw [hr0.2.2.2.2.1]
  refine x_ci ?_
  refine x_isub ?_
  refine h_iast sc_112 ⟨by omega, by omega⟩ (by decide) ?_
  refine x_iload rfl ?_
  refine n_istore [some (vR _), some (vI _), some (vI _)] (Nat.le_of_ble_eq_true rfl) rfl ?_
  refine x_fall ?_
  refine L1 (n - k) k _ _ rfl (by omega) up_e (fun q q0 q1 => ?_) (fun b r q1 q2 => up_f (by omega))
  rw [up_a (by decide), if_neg (by omega), show 48 + q = 48 * 1 + q by omega]
  exact hr0.2.2.2.2.2 q q0 q1
theorem mF_k {tqq : St} (h : mF s tqq) : lkN s tqq := fun b r q1 q2 q3 q4 q5 q6 q7 => h b r (by omega) (by omega) (by omega) (by omega)
theorem r_lean (hd : 12 ≤ d) (hr0 : RD 0 L n c s) (hK : ∀ tqq, lkN s tqq → Q (some (vI (lnA c n))) (HP h0 tqq)) : wpM PP d 154 [vR 94] (HP h0 s) Q := by
  obtain ⟨hL, hn, hv, r1, r2, r3⟩ := hr0
  have L1 : ∀ N : Nat, ∀ {o2 : Option pv} (n1 : Nat) (k : Nat) (kk : Int) (c1 : Int → Int) (tqq : St), (kk = k) → (N = 49 * n1 + (n1 - k) ∧ n1 ≤ 48 ∧ k ≤ n1) → (RD 1 L n1 c1 tqq) → (lnA c1 n1 = lnA c n) → (∀ q : Nat, q < k → noneAt c1 n1 q) → (lkN s tqq) →  wp PP d mb154 (mb154.getD 1 []) [some (vR 94), some (vI kk), o2] [] (HP h0 tqq) Q := by
    refine s_ind (fun N ih => ?_)
    intro o2 n1 k kk c1 tqq h1 hM g1 g2 g3 g4
    subst h1
    refine x_iload rfl ?_
    refine x_aload rfl ?_
    refine h_getR sc_94 rfl (by omega) ?_
    refine x_ci ?_
    refine h_iald sc_112 ⟨by omega, by omega⟩ (by decide) ?_
    rw [g1.2.2.2.2.1]
    refine n_icmp_ge ⟨by omega, by omega⟩ ⟨by omega, by omega⟩ (fun cc1 => ?_) (fun cc1 => ?_)
    · refine x_aload rfl ?_
      refine h_getR sc_94 rfl (by omega) ?_
      refine x_ci ?_
      refine h_iald sc_112 ⟨by omega, by omega⟩ (by decide) ?_
      rw [g1.2.2.2.2.1]
      refine x_iret ?_
      refine cI (hK tqq g4) ?_
      rw [← g2]
      exact lnA_irr (fun q i q1 q2 q3 q4 q5 => g3 q (by omega) i q1 q2 q3 q4 q5) g1.2.2.1.ten
    · refine x_aload rfl ?_
      refine x_iload rfl ?_
      refine n_call [vR _, vI _] [] (by omega) (Nat.le_of_ble_eq_true rfl) rfl rfl (Nat.le_of_ble_eq_true rfl) ?_
      refine r_undoneBy (by omega) g1 (show k < n1 by omega) (fun vqq v1qq v2qq v3qq v4qq => ?_) (fun y => ?_)
      · show wp PP _ _ _ _ [vI _] _ _
        refine n_istore [some (vR _), some (vI _), some (vI _)] (Nat.le_of_ble_eq_true rfl) rfl ?_
        refine x_iload rfl ?_
        refine x_ci ?_
        refine n_icmp_ne ⟨by omega, by omega⟩ ⟨by omega, by omega⟩ (fun c2 => ?_) (fun c2 => ?_)
        · refine x_aload rfl ?_
          refine x_iload rfl ?_
          refine n_call [vR _, vI _] [] (by omega) (Nat.le_of_ble_eq_true rfl) rfl rfl (Nat.le_of_ble_eq_true rfl) ?_
          refine r_takesOut g1 v2qq (fun uqq u1qq u2qq => ?_)
          show wp PP _ _ _ [some (vR _), some (vI _), some (vI _)] [] _ _
          refine x_aload rfl ?_
          refine x_iload rfl ?_
          refine n_call [vR _, vI _] [] (by omega) (Nat.le_of_ble_eq_true rfl) rfl rfl (Nat.le_of_ble_eq_true rfl) ?_
          refine r_takesOut u1qq (show k < n1 - 1 by omega) (fun wqq w1qq w2qq => ?_)
          show wp PP _ _ _ [some (vR _), some (vI _), some (vI _)] [] _ _
          refine x_ci ?_
          refine n_istore [some (vR _), some (vI _), some (vI _)] (Nat.le_of_ble_eq_true rfl) rfl ?_
          refine x_goto ?_
          refine ih (49 * (n1 - 2) + (n1 - 2)) (by omega) (n1 - 2) 0 _ _ wqq rfl (by omega) (by rw [show n1 - 2 = n1 - 1 - 1 by omega]; exact w1qq) ?_ (fun q hq => by omega) (lkN_tr g4 (lkN_tr (mF_k u2qq) (mF_k w2qq)))
          rw [← g2]
          unfold lnA
          have sx := sgn_x (g1.2.2.1.ten vqq (by omega) (by omega)).1 v3qq
          rw [Ph_out v1qq v2qq sx.1 sx.2 v4qq]
        · exfalso
          omega
      · show wp PP _ _ _ _ [vI _] _ _
        refine n_istore [some (vR _), some (vI _), some (vI _)] (Nat.le_of_ble_eq_true rfl) rfl ?_
        refine x_iload rfl ?_
        refine x_ci ?_
        refine n_icmp_ne ⟨by omega, by omega⟩ ⟨by omega, by omega⟩ (fun c2 => ?_) (fun c2 => ?_)
        · exfalso
          omega
        · refine n_iinc [some (vR _), some (vI _), some (vI _)] rfl rfl ?_
          refine x_goto ?_
          refine ih (49 * n1 + (n1 - (k + 1))) (by omega) n1 (k + 1) _ _ tqq (by omega) (by omega) g1 g2 (fun q hq => ?_) g4
          by_cases e : q = k
          · rw [e]
            exact y
          · exact g3 q (by omega)
  refine n_at (m := 154) (q := mr154) (kn := (0, 1)) [some (vR _), none, none] mb154 rfl rfl (h_rcv sc_94) (Nat.le_of_ble_eq_true rfl) rfl rfl ?_
  refine x_aload rfl ?_
  refine x_ci ?_
  refine h_putI 0 sc_94 rfl rfl ?_
  refine x_aload rfl ?_
  refine x_ci ?_
  refine x_ci ?_
  refine n_call [vR _, vI _, vI _] [] (by omega) (Nat.le_of_ble_eq_true rfl) rfl rfl (Nat.le_of_ble_eq_true rfl) ?_
  refine r_copies (to := 1) (as := 0) (by omega) (by omega) (by omega) ((up_a (by decide)).trans r2) hn (fun tqq g => ?_)
  show wp PP _ _ _ [some (vR _), _, _] [] _ _
  refine x_ci ?_
  refine n_istore [some (vR _), some (vI _), _] (Nat.le_of_ble_eq_true rfl) rfl ?_
  refine x_fall ?_
  have g1' : RD 0 L n c (up s 94 0 0) := RD.up ⟨hL, hn, hv, r1, r2, r3⟩ (by decide)
  refine L1 (49 * n + n) n 0 0 c tqq rfl (by omega) (g.rd g1') rfl (fun q hq => by omega) (fun b q q1 q2 q3 q4 q5 q6 q7 => ?_)
  rw [g.1 b q (by omega) (by omega), up_f (by omega)]
end LN4
