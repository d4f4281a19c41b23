/-! THE PLAIT: two taken out, one lets go, the pairs that are bound -/
section P6
variable {d a : Nat} {h0 h : pheap} {s : St} {Q : Option pv → pheap → Prop} {L : Int} {n : Nat} {c c' : Int → Int}
theorem m_takeOutTwo (hP : isPl a) (hd : 13 ≤ d) (hp : PL a L n c s) {f : Int} (hf : 0 ≤ f ∧ f + 1 < n) (k : ∀ t, PL a L (n - 2) (fun q => if q < f then c q else c (q + 2)) t → fr a s t → Q none (HP h0 t)) : wpM PP d 214 [vR a, vI f] (HP h0 s) Q := by
  have ha := hP.1.1
  have hc := cnt_R L
  have hn := hp.hn
  have q3 := hp.left
  have q4 := hp.count
  have q5 := hp.size
  have hL := hp.hL
  have L1 : ∀ N : Nat, ∀ (j : Nat) (i : Int) (t : St), (i = j) → (N = n - 2 - j ∧ j + 2 ≤ n ∧ f ≤ j) → (∀ b r, b ≠ a + 1 → t b r = s b r) → (∀ r : Int, 0 ≤ r → r < n → t (a + 1) r = if f ≤ r ∧ r < i then c (r + 2) else c r) →  wp PP d mb214 (mb214.getD 1 []) [some (vR a), some (vI f), some (vI i)] [] (HP h0 t) Q := by
    refine s_ind (fun N ih => ?_)
    intro j i t hj hn2 g1 g2
    have e3 : t a 3 = L := (g1 a 3 (by omega)).trans q3
    have e5 : t a 5 = n := (g1 a 5 (by omega)).trans q5
    refine x_iload rfl ?_
    refine x_ci ?_
    refine x_iadd ?_
    refine x_aload rfl ?_
    refine h_getI 5 hP.1 rfl rfl ?_
    refine n_icmp_ge ⟨by omega, by omega⟩ ⟨by omega, by omega⟩ (fun c1 => ?_) (fun c1 => ?_)
    · refine x_aload rfl ?_
      refine x_ci ?_
      refine x_aload rfl ?_
      refine h_getI 5 hP.1 rfl rfl ?_
      refine x_ci ?_
      refine x_isub ?_
      refine n_imax ⟨by omega, by omega⟩ ⟨by omega, by omega⟩ (by omega) (Nat.le_of_ble_eq_true rfl) ?_
      refine h_putI 5 hP.1 rfl rfl ?_
      refine x_aload rfl ?_
      refine n_call [vR _] [] (by omega) (Nat.le_of_ble_eq_true rfl) rfl rfl (Nat.le_of_ble_eq_true rfl) ?_
      refine m_walk (L := L) (n := n - 2) (c := fun q => if q < f then c q else c (q + 2)) hP (by omega) ?_ hL ?_ (by omega) ?_ ?_ (fun u u1 u2 => ?_)
      · rw [up_i (by decide)]
        exact e3
      · rw [up_e]
        omega
      · intro q z0 z1
        dsimp only
        split
        · exact hp.v q z0 (by omega)
        · exact hp.v (q + 2) (by omega) (by omega)
      · intro q z0 z1
        rw [up_a (by omega), g2 q z0 (by omega)]
        split
        · rw [if_neg (by omega)]
        · rw [if_pos (by omega)]
      show wp PP _ _ _ [some (vR _), some (vI _), some (vI _)] [] _ _
      refine x_ret ?_
      refine k u u1 (fun b hb r => ?_)
      rw [u2 b hb r, up_a (by omega)]
      exact g1 b r (by omega)
    · refine x_aload rfl ?_
      refine x_iload rfl ?_
      refine x_aload rfl ?_
      refine x_iload rfl ?_
      refine x_ci ?_
      refine x_iadd ?_
      refine n_call [vR _, vI _] [vI _, vR _] (by omega) (Nat.le_of_ble_eq_true rfl) rfl rfl (Nat.le_of_ble_eq_true rfl) ?_
      refine m_codeAt hP ⟨by omega, by omega⟩ ?_
      show wp PP _ _ _ [some (vR _), some (vI _), some (vI _)] [vI _, vI _, vR _] _ _
      refine n_call [vR _, vI _, vI _] [] (by omega) (Nat.le_of_ble_eq_true rfl) rfl rfl (Nat.le_of_ble_eq_true rfl) ?_
      refine m_setCode hP (by omega) (by omega) ?_
      show wp PP _ _ _ [some (vR _), some (vI _), some (vI _)] [] _ _
      refine n_iinc [some (vR _), some (vI _), some (vI _)] rfl rfl ?_
      refine x_goto ?_
      refine ih (n - 2 - (j + 1)) (by omega) (j + 1) _ _ (by omega) (by omega) (fun b r hb => ?_) (fun r r0 r1 => ?_)
      · rw [up_a hb]
        exact g1 b r hb
      · rw [up_at]
        by_cases e : r = i
        · rw [if_pos e, if_pos (by omega), e]
          rw [g2 _ (by omega) (by omega), if_neg (by omega)]
        · rw [if_neg e, g2 r r0 r1]
          by_cases e2 : f ≤ r ∧ r < i
          · rw [if_pos e2, if_pos (by omega)]
          · rw [if_neg e2, if_neg (by omega)]
  refine n_at (m := 214) (q := mr214) (kn := (0, 2)) [some (vR _), some (vI _), none] mb214 rfl rfl (h_rcv hP.1) (Nat.le_of_ble_eq_true rfl) rfl rfl ?_
  refine x_iload rfl ?_
  refine n_istore [some (vR _), some (vI _), some (vI _)] (Nat.le_of_ble_eq_true rfl) rfl ?_
  refine x_fall ?_
  refine L1 (n - 2 - f.toNat) f.toNat _ _ (by omega) (by omega) (fun b r hb => rfl) (fun r r0 r1 => ?_)
  rw [if_neg (by omega)]
  exact hp.code r0 r1
theorem m_release (hP : isPl a) (hd : 13 ≤ d) (hp : PL a L n c s) {x : Int} (hx : 0 ≤ x ∧ x < 6 ∧ bt L x = 1) (k : ∀ t, PL a (clr L x) (rk L c (cntN L x.toNat) n) (rc L c (cntN L x.toNat) n) t → fr a s t → Q none (HP h0 t)) : wpM PP d 215 [vR a, vI x] (HP h0 s) Q := by
  have ha := hP.1.1
  have hc := cnt_R L
  have hn := hp.hn
  have q3 := hp.left
  have q4 := hp.count
  have q5 := hp.size
  have hL := hp.hL
  have hcl := clr_is hL ⟨hx.1, hx.2.1⟩
  have L1 : ∀ N : Nat, ∀ {o5 o6 : Option pv} (j : Nat) (i : Int) (q : Int) (w : Int) (t : St), (i = j) → (N = n - j ∧ j ≤ n) → (q = plN c j (cntN L x.toNat)) → (w = rk L c (cntN L x.toNat) j) → (∀ b r, b ≠ a + 1 → t b r = s b r) → (∀ r : Int, 0 ≤ r → r < rk L c (cntN L x.toNat) j → t (a + 1) r = rc L c (cntN L x.toNat) j r) → (∀ r : Int, j ≤ r → r < n → t (a + 1) r = c r) →  wp PP d mb215 (mb215.getD 1 []) [some (vR a), some (vI x), some (vI q), some (vI w), some (vI i), o5, o6] [] (HP h0 t) Q := by
    refine s_ind (fun N ih => ?_)
    intro o5 o6 j i q w t hj hn2 hq hw g1 g2 g3
    have e3 : t a 3 = L := (g1 a 3 (by omega)).trans q3
    have e5 : t a 5 = n := (g1 a 5 (by omega)).trans q5
    have vj : vC L c j := vC_less hp.v (by omega)
    have gq := plN_R vj (cntN L x.toNat) (cntN_R L x.toNat).1 (ord_cnt hL hx).2
    rw [← hq] at gq
    have gk := rk_le (L := L) (c := c) (q := cntN L x.toNat) j
    have g9 : i < n → 0 ≤ c i ∧ c i < 2 * (cnt L - 1) := fun z => hp.v i (by omega) z
    have g8 : i < n → t (a + 1) i = c i := fun z => g3 i (by omega) z
    refine x_iload rfl ?_
    refine x_aload rfl ?_
    refine h_getI 5 hP.1 rfl rfl ?_
    refine n_icmp_ge ⟨by omega, by omega⟩ ⟨by omega, by omega⟩ (fun c1 => ?_) (fun c1 => ?_)
    · refine x_aload rfl ?_
      refine x_iload rfl ?_
      refine n_call [vR _, vI _] [] (by omega) (Nat.le_of_ble_eq_true rfl) rfl rfl (Nat.le_of_ble_eq_true rfl) ?_
      refine m_isLeft hP (by first | assumption | omega | (simp [up]; omega)) ⟨by omega, by omega⟩ ?_
      show wp PP _ _ _ [some (vR _), some (vI _), some (vI _), some (vI _), some (vI _), _, _] [vI _] _ _
      refine z_if_eq (fun c2 => ?_) (fun c2 => ?_)
      · exfalso
        rw [e3] at c2
        omega
      · refine x_aload rfl ?_
        refine x_dupR ?_
        refine h_getI 3 hP.1 rfl rfl ?_
        refine x_ci ?_
        refine x_iload rfl ?_
        refine x_ishl ?_
        refine x_ci ?_
        refine x_ixor ?_
        refine x_iand ?_
        rw [e3, hcl.1]
        refine h_putI 3 hP.1 rfl rfl ?_
        refine x_fall ?_
        skip
        refine x_aload rfl ?_
        refine x_iload rfl ?_
        refine h_putI 5 hP.1 rfl rfl ?_
        refine x_aload rfl ?_
        refine n_call [vR _] [] (by omega) (Nat.le_of_ble_eq_true rfl) rfl rfl (Nat.le_of_ble_eq_true rfl) ?_
        have ej : j = n := by omega
        subst ej
        refine m_walk (L := clr L x) (n := rk L c (cntN L x.toNat) j) (c := rc L c (cntN L x.toNat) j) hP (by omega) ?_ ⟨hcl.2.1, hcl.2.2.1⟩ ?_ (by omega) ?_ ?_ (fun u u1 u2 => ?_)
        · rw [up_i (by decide), up_e]
        · rw [up_e]
          omega
        · intro r z0 z1
          have := rc_v (cntN_R L x.toNat).1 (ord_cnt hL hx).2 vj r z0 z1
          rw [hcl.2.2.2 hx.2.2]
          exact this
        · intro r z0 z1
          rw [up_a (by omega), up_a (by omega)]
          exact g2 r z0 z1
        show wp PP _ _ _ [some (vR _), some (vI _), some (vI _), some (vI _), some (vI _), _, _] [] _ _
        refine x_ret ?_
        refine k u u1 (fun b hb r => ?_)
        rw [u2 b hb r, up_a (by omega), up_a (by omega)]
        exact g1 b r (by omega)
    · refine x_aload rfl ?_
      refine x_iload rfl ?_
      refine n_call [vR _, vI _] [] (by omega) (Nat.le_of_ble_eq_true rfl) rfl rfl (Nat.le_of_ble_eq_true rfl) ?_
      refine m_codeAt hP ⟨by omega, by omega⟩ ?_
      show wp PP _ _ _ [some (vR _), some (vI _), some (vI _), some (vI _), some (vI _), _, _] [vI _] _ _
      refine t_I (c i) (g8 (by omega)) ?_
      have g9 := g9 (by omega)
      refine n_istore [some (vR _), some (vI _), some (vI _), some (vI _), some (vI _), some (vI _), _] (Nat.le_of_ble_eq_true rfl) rfl ?_
      refine x_iload rfl ?_
      refine n_call [vI _] [] (by omega) (Nat.le_of_ble_eq_true rfl) rfl rfl (Nat.le_of_ble_eq_true rfl) ?_
      refine m_placeOfCode ⟨by omega, by omega⟩ ?_
      show wp PP _ _ _ [some (vR _), some (vI _), some (vI _), some (vI _), some (vI _), some (vI _), _] [vI _] _ _
      refine n_istore [some (vR _), some (vI _), some (vI _), some (vI _), some (vI _), some (vI _), some (vI _)] (Nat.le_of_ble_eq_true rfl) rfl ?_
      refine x_iload rfl ?_
      refine x_iload rfl ?_
      refine n_icmp_eq ⟨by omega, by omega⟩ ⟨by omega, by omega⟩ (fun c2 => ?_) (fun c2 => ?_)
      · refine x_ci ?_
        refine x_iload rfl ?_
        refine x_imul ?_
        refine x_ci ?_
        refine x_iadd ?_
        refine x_iload rfl ?_
        refine x_isub ?_
        refine n_istore [some (vR _), some (vI _), some (vI _), some (vI _), some (vI _), some (vI _), some (vI _)] (Nat.le_of_ble_eq_true rfl) rfl ?_
        refine x_goto ?_
        refine n_iinc [some (vR _), some (vI _), some (vI _), some (vI _), some (vI _), some (vI _), some (vI _)] rfl rfl ?_
        refine x_goto ?_
        refine ih (n - (j + 1)) (by omega) (j + 1) _ _ _ _ (by omega) (by omega) ?_ ?_ g1 ?_ (fun r r0 r1 => g3 r (by omega) r1)
        · simp only [plN, plA]
          rw [← hq, ← hj]
          split
          · omega
          · omega
        · simp only [rk]
          rw [if_pos (by rw [← hq, ← hj]; omega), hw]
        · intro r r0 r1
          simp only [rk] at r1
          simp only [rc]
          rw [if_pos (by rw [← hq, ← hj]; omega)] at r1 ⊢
          exact g2 r r0 r1
      · refine x_iload rfl ?_
        refine x_iload rfl ?_
        refine x_ci ?_
        refine x_iadd ?_
        refine n_icmp_ne ⟨by omega, by omega⟩ ⟨by omega, by omega⟩ (fun c3 => ?_) (fun c3 => ?_)
        · refine x_aload rfl ?_
          refine x_iload rfl ?_
          refine x_iload rfl ?_
          refine x_iload rfl ?_
          refine n_icmp_ge ⟨by omega, by omega⟩ ⟨by omega, by omega⟩ (fun c4 => ?_) (fun c4 => ?_)
          · refine x_iload rfl ?_
            refine x_fall ?_
            refine n_call [vR _, vI _, vI _] [] (by omega) (Nat.le_of_ble_eq_true rfl) rfl rfl (Nat.le_of_ble_eq_true rfl) ?_
            refine m_setCode hP (by omega) (by omega) ?_
            show wp PP _ _ _ [some (vR _), some (vI _), some (vI _), some (vI _), some (vI _), some (vI _), some (vI _)] [] _ _
            refine n_iinc [some (vR _), some (vI _), some (vI _), some (vI _), some (vI _), some (vI _), some (vI _)] rfl rfl ?_
            refine x_fall ?_
            refine n_iinc [some (vR _), some (vI _), some (vI _), some (vI _), some (vI _), some (vI _), some (vI _)] rfl rfl ?_
            refine x_goto ?_
            refine ih (n - (j + 1)) (by omega) (j + 1) _ _ _ _ (by omega) (by omega) ?_ ?_ (fun b r hb => by rw [up_a hb]; exact g1 b r hb) ?_ (fun r r0 r1 => ?_)
            · simp only [plN, plA]
              rw [← hq, ← hj, if_neg (by omega), if_neg (by omega)]
            · simp only [rk]
              rw [if_neg (by rw [← hq, ← hj]; omega), hw]
              omega
            · intro r r0 r1
              simp only [rk] at r1
              simp only [rc]
              rw [if_neg (by rw [← hq, ← hj]; omega)] at r1 ⊢
              rw [up_at, ← hw]
              split
              · rw [← hq, ← hj]
                rw [if_neg (by omega)]
              · exact g2 r r0 (by omega)
            · rw [up_i (by omega)]
              exact g3 r (by omega) r1
          · refine x_iload rfl ?_
            refine x_ci ?_
            refine x_isub ?_
            refine x_goto ?_
            refine n_call [vR _, vI _, vI _] [] (by omega) (Nat.le_of_ble_eq_true rfl) rfl rfl (Nat.le_of_ble_eq_true rfl) ?_
            refine m_setCode hP (by omega) (by omega) ?_
            show wp PP _ _ _ [some (vR _), some (vI _), some (vI _), some (vI _), some (vI _), some (vI _), some (vI _)] [] _ _
            refine n_iinc [some (vR _), some (vI _), some (vI _), some (vI _), some (vI _), some (vI _), some (vI _)] rfl rfl ?_
            refine x_fall ?_
            refine n_iinc [some (vR _), some (vI _), some (vI _), some (vI _), some (vI _), some (vI _), some (vI _)] rfl rfl ?_
            refine x_goto ?_
            refine ih (n - (j + 1)) (by omega) (j + 1) _ _ _ _ (by omega) (by omega) ?_ ?_ (fun b r hb => by rw [up_a hb]; exact g1 b r hb) ?_ (fun r r0 r1 => ?_)
            · simp only [plN, plA]
              rw [← hq, ← hj, if_neg (by omega), if_neg (by omega)]
            · simp only [rk]
              rw [if_neg (by rw [← hq, ← hj]; omega), hw]
              omega
            · intro r r0 r1
              simp only [rk] at r1
              simp only [rc]
              rw [if_neg (by rw [← hq, ← hj]; omega)] at r1 ⊢
              rw [up_at, ← hw]
              split
              · rw [← hq, ← hj]
                rw [if_pos (by omega)]
              · exact g2 r r0 (by omega)
            · rw [up_i (by omega)]
              exact g3 r (by omega) r1
        · refine x_fall ?_
          refine x_ci ?_
          refine x_iload rfl ?_
          refine x_imul ?_
          refine x_ci ?_
          refine x_iadd ?_
          refine x_iload rfl ?_
          refine x_isub ?_
          refine n_istore [some (vR _), some (vI _), some (vI _), some (vI _), some (vI _), some (vI _), some (vI _)] (Nat.le_of_ble_eq_true rfl) rfl ?_
          refine x_goto ?_
          refine n_iinc [some (vR _), some (vI _), some (vI _), some (vI _), some (vI _), some (vI _), some (vI _)] rfl rfl ?_
          refine x_goto ?_
          refine ih (n - (j + 1)) (by omega) (j + 1) _ _ _ _ (by omega) (by omega) ?_ ?_ g1 ?_ (fun r r0 r1 => g3 r (by omega) r1)
          · simp only [plN, plA]
            rw [← hq, ← hj]
            split
            · omega
            · omega
          · simp only [rk]
            rw [if_pos (by rw [← hq, ← hj]; omega), hw]
          · intro r r0 r1
            simp only [rk] at r1
            simp only [rc]
            rw [if_pos (by rw [← hq, ← hj]; omega)] at r1 ⊢
            exact g2 r r0 r1
  refine n_at (m := 215) (q := mr215) (kn := (0, 2)) [some (vR _), some (vI _), none, none, none, none, none] mb215 rfl rfl (h_rcv hP.1) (Nat.le_of_ble_eq_true rfl) rfl rfl ?_
  refine x_aload rfl ?_
  refine x_iload rfl ?_
  refine n_call [vR _, vI _] [] (by omega) (Nat.le_of_ble_eq_true rfl) rfl rfl (Nat.le_of_ble_eq_true rfl) ?_
  refine m_placeAtFirst hP (by omega) (by first | assumption | omega | (simp [up]; omega)) ⟨by omega, by omega⟩ ?_
  show wp PP _ _ _ [some (vR _), some (vI _), _, _, _, _, _] [vI _] _ _
  refine n_istore [some (vR _), some (vI _), some (vI _), _, _, _, _] (Nat.le_of_ble_eq_true rfl) rfl ?_
  refine x_ci ?_
  refine n_istore [some (vR _), some (vI _), some (vI _), some (vI _), _, _, _] (Nat.le_of_ble_eq_true rfl) rfl ?_
  refine x_ci ?_
  refine n_istore [some (vR _), some (vI _), some (vI _), some (vI _), some (vI _), _, _] (Nat.le_of_ble_eq_true rfl) rfl ?_
  refine x_fall ?_
  refine L1 n 0 0 _ 0 s rfl (by omega) ?_ rfl (fun b r hb => rfl) (fun r r0 r1 => absurd r1 (by simp [rk]; omega)) (fun r r0 r1 => hp.code (by omega) r1)
  rw [hp.left, paf_l hx]
  rfl
end P6
