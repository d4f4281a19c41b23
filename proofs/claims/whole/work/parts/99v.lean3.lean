/-! LEAN: the class -/
section LN3
variable {d a tp : Nat} {h0 : pheap} {s : St} {Q : Option pv → pheap → Prop} {L : Int} {n zqq K : Nat} {c c' : Int → Int}
theorem m_lastNear (hP : isPl a) (hd : 11 ≤ d) {kp : Nat} {x : Int} (hk : kp ≤ 52) (hx : 0 ≤ x ∧ x < 10) (he : ∀ j : Int, 0 ≤ j → j < kp → 0 ≤ s (a + 1) j ∧ s (a + 1) j < 10) (kN : (∀ j : Nat, j < kp → ¬ ner (s (a + 1) j) (x / 2)) → Q (some (vI (-1))) (HP h0 s)) (kY : ∀ vqq : Nat, vqq < kp → ner (s (a + 1) vqq) (x / 2) → (∀ j : Nat, vqq < j → j < kp → ¬ ner (s (a + 1) j) (x / 2)) → Q (some (vI (vqq : Int))) (HP h0 s)) : wpM PP d 224 [vR a, vI (kp : Int), vI x] (HP h0 s) Q := by
  have ha := hP.1.1
  have L1 : ∀ N : Nat, ∀ (i : Int), (N = (i + 1).toNat ∧ -1 ≤ i ∧ i < kp) → (∀ q : Nat, i < q → q < kp → ¬ ner (s (a + 1) q) (x / 2)) →  wp PP d mb224 (mb224.getD 1 []) [some (vR a), some (vI (kp : Int)), some (vI x), some (vI i)] [] (HP h0 s) Q := by
    refine s_ind (fun N ih => ?_)
    intro i hM g
    refine x_iload rfl ?_
    refine n_if_lt ⟨by omega, by omega⟩ (fun c1 => ?_) (fun c1 => ?_)
    · refine x_ci ?_
      refine x_iret ?_
      first
        | (refine kN (fun q hq => g q (by omega) hq))
        | (obtain ⟨vqq, hvv⟩ : ∃ vqq : Nat, i = vqq := ⟨i.toNat, by omega⟩
           subst hvv
           exact kY vqq (by omega) (by unfold ner; omega) (fun q h1 h2 => g q (by omega) h2))
    · refine x_aload rfl ?_
      refine x_iload rfl ?_
      refine n_call [vR _, vI _] [] (by omega) (Nat.le_of_ble_eq_true rfl) rfl rfl (Nat.le_of_ble_eq_true rfl) ?_
      have hj := he i (by omega) (by omega)
      refine m_codeAt hP ⟨by omega, by omega⟩ ?_
      show wp PP _ _ _ [some (vR _), some (vI _), some (vI _), some (vI _)] [vI _] _ _
      refine x_iload rfl ?_
      refine n_call [vI _, vI _] [] (by omega) (Nat.le_of_ble_eq_true rfl) rfl rfl (Nat.le_of_ble_eq_true rfl) ?_
      refine m_apart (by omega) ⟨by omega, by omega⟩ ⟨by omega, by omega⟩ ?_
      show wp PP _ _ _ [some (vR _), some (vI _), some (vI _), some (vI _)] [vI _] _ _
      refine x_ci ?_
      refine n_icmp_ge ⟨by omega, by omega⟩ ⟨by omega, by omega⟩ (fun c2 => ?_) (fun c2 => ?_)
      · refine n_iinc [some (vR _), some (vI _), some (vI _), some (vI _)] rfl rfl ?_
        refine x_goto ?_
        refine ih (i.toNat) (by omega) (i + -1) (by omega) (fun q h1 h2 => ?_)
        by_cases e : (q : Int) = i
        · rw [e]
          unfold ner
          omega
        · exact g q (by omega) h2
      · refine x_iload rfl ?_
        refine x_iret ?_
        first
          | (refine kN (fun q hq => g q (by omega) hq))
          | (obtain ⟨vqq, hvv⟩ : ∃ vqq : Nat, i = vqq := ⟨i.toNat, by omega⟩
             subst hvv
             exact kY vqq (by omega) (by unfold ner; omega) (fun q h1 h2 => g q (by omega) h2))
  refine n_at (m := 224) (q := mr224) (kn := (0, 3)) [some (vR _), some (vI _), some (vI _), none] mb224 rfl rfl (h_rcv hP.1) (Nat.le_of_ble_eq_true rfl) rfl rfl ?_
  refine x_iload rfl ?_
  refine x_ci ?_
  refine x_isub ?_
  refine n_istore [some (vR _), some (vI _), some (vI _), some (vI _)] (Nat.le_of_ble_eq_true rfl) rfl ?_
  refine x_fall ?_
  exact L1 kp ((kp : Int) - 1) (by omega) (fun q h1 h2 => by omega)
theorem m_leanSize (hP : isPl a) (hd : 13 ≤ d) (hn : n ≤ 52) (h5 : s a 5 = n) (hv : ∀ j : Int, 0 ≤ j → j < n → 0 ≤ c j ∧ c j < 10) (hc : ∀ j : Int, 0 ≤ j → j < n → s (a + 1) j = c j) (k : ∀ tqq, (∀ (b : Nat) (r : Int), ¬ b = a + 1 → ¬ (b = a ∧ r = 5) → tqq b r = s b r) → Q (some (vI (lnA c n))) (HP h0 tqq)) : wpM PP d 223 [vR a] (HP h0 s) Q := by
  have ha := hP.1.1
  have L1 : ∀ N : Nat, ∀ {o3 o4 o5 : Option pv} (i : Nat) (kp : Nat) (ii : Int) (kk : Int) (tqq : St), (ii = i) → (kk = kp) → (N = n - i ∧ i ≤ n ∧ kp ≤ i) → (pil (rl (tqq (a + 1)) kp) = Ph c i) → (∀ j : Int, i ≤ j → j < n → tqq (a + 1) j = c j) → (∀ j : Int, 0 ≤ j → j < kp → 0 ≤ tqq (a + 1) j ∧ tqq (a + 1) j < 10) → (∀ (b : Nat) (r : Int), ¬ b = a + 1 → tqq b r = s b r) →  wp PP d mb223 (mb223.getD 1 []) [some (vR a), some (vI kk), some (vI ii), o3, o4, o5] [] (HP h0 tqq) Q := by
    refine s_ind (fun N ih => ?_)
    intro o3 o4 o5 i kp ii kk tqq h1 h2 hM g1 g2 g3 g4
    subst h1
    subst h2
    refine x_iload rfl ?_
    refine x_aload rfl ?_
    refine h_getI 5 hP.1 rfl rfl ?_
    rw [g4 a 5 (by omega), h5]
    refine n_icmp_ge ⟨by omega, by omega⟩ ⟨by omega, by omega⟩ (fun c1 => ?_) (fun c1 => ?_)
    · refine x_aload rfl ?_
      refine x_iload rfl ?_
      refine h_putI 5 hP.1 rfl rfl ?_
      refine x_iload rfl ?_
      refine x_iret ?_
      have ei : i = n := by omega
      subst ei
      refine cI (k _ (fun b r q1 q2 => ?_)) ?_
      · rw [up_f (by omega)]
        exact g4 b r q1
      · unfold lnA
        rw [← g1, nP_pil (fun y hy => by
          obtain ⟨j, j1, j2⟩ := rl_mem hy
          rw [j2]
          exact g3 j (by omega) (by omega)), rl_len]
    · refine x_aload rfl ?_
      refine x_iload rfl ?_
      refine n_call [vR _, vI _] [] (by omega) (Nat.le_of_ble_eq_true rfl) rfl rfl (Nat.le_of_ble_eq_true rfl) ?_
      refine m_codeAt hP ⟨by omega, by omega⟩ ?_
      show wp PP _ _ _ [some (vR _), some (vI _), some (vI _), _, _, _] [vI _] _ _
      rw [g2 (i : Int) (by omega) (by omega)]
      refine n_istore [some (vR _), some (vI _), some (vI _), some (vI _), _, _] (Nat.le_of_ble_eq_true rfl) rfl ?_
      refine x_aload rfl ?_
      refine x_iload rfl ?_
      refine x_iload rfl ?_
      refine n_call [vR _, vI _, vI _] [] (by omega) (Nat.le_of_ble_eq_true rfl) rfl rfl (Nat.le_of_ble_eq_true rfl) ?_
      have hx := hv (i : Int) (by omega) (by omega)
      refine m_lastNear hP (by omega) (by omega) hx g3 (fun y => ?_) (fun vqq v1qq v2qq v3qq => ?_)
      · show wp PP _ _ _ _ [vI _] _ _
        refine n_istore [some (vR _), some (vI _), some (vI _), some (vI _), some (vI _), _] (Nat.le_of_ble_eq_true rfl) rfl ?_
        refine x_iload rfl ?_
        refine n_if_lt ⟨by omega, by omega⟩ (fun c2 => ?_) (fun c2 => ?_)
        · refine x_aload rfl ?_
          refine x_iload rfl ?_
          refine x_iload rfl ?_
          refine n_call [vR _, vI _, vI _] [] (by omega) (Nat.le_of_ble_eq_true rfl) rfl rfl (Nat.le_of_ble_eq_true rfl) ?_
          refine m_setCode hP (by rw [g4 a 5 (by omega), h5]; omega) (by rw [g4 a 5 (by omega), h5]; omega) ?_
          show wp PP _ _ _ [some (vR _), some (vI _), some (vI _), some (vI _), some (vI _), _] [] _ _
          refine n_iinc [some (vR _), some (vI _), some (vI _), some (vI _), some (vI _), _] rfl rfl ?_
          refine x_fall ?_
          refine n_iinc [some (vR _), some (vI _), some (vI _), some (vI _), some (vI _), _] rfl rfl ?_
          refine x_goto ?_
          refine ih (n - (i + 1)) (by omega) (i + 1) (kp + 1) _ _ _ (by omega) (by omega) (by omega) ?_ (fun j j0 j1 => ?_) (fun j j0 j1 => ?_) (fun b r q1 => ?_)
          · have er : rl (up tqq (a + 1) kp (c i) (a + 1)) (kp + 1) = c i :: rl (tqq (a + 1)) kp := by
              show up tqq (a + 1) kp (c i) (a + 1) kp :: rl (up tqq (a + 1) kp (c i) (a + 1)) kp = _
              rw [up_e, rl_cg (c := up tqq (a + 1) kp (c i) (a + 1)) (c' := tqq (a + 1)) (fun j j0 j1 => up_i (by omega))]
            rw [er]
            show _ = sg (c i) (Ph c i)
            rw [← g1]
            first
              | exact (K_none y).symm
              | exact (K_push v1qq v2qq (fun wqq => c3 (sgn_x2 wqq.1 wqq.2)) v3qq).symm
          · rw [up_i (by omega)]
            exact g2 j (by omega) j1
          · by_cases e : j = kp
            · rw [e, up_e]
              exact hx
            · rw [up_i e]
              exact g3 j j0 (by omega)
          · rw [up_a q1]
            exact g4 b r q1
        · exfalso
          omega
      · show wp PP _ _ _ _ [vI _] _ _
        refine n_istore [some (vR _), some (vI _), some (vI _), some (vI _), some (vI _), _] (Nat.le_of_ble_eq_true rfl) rfl ?_
        refine x_iload rfl ?_
        refine n_if_lt ⟨by omega, by omega⟩ (fun c2 => ?_) (fun c2 => ?_)
        · exfalso
          omega
        · refine x_aload rfl ?_
          refine x_iload rfl ?_
          refine n_call [vR _, vI _] [] (by omega) (Nat.le_of_ble_eq_true rfl) rfl rfl (Nat.le_of_ble_eq_true rfl) ?_
          have gv := g3 (vqq : Int) (by omega) (by omega)
          refine m_codeAt hP ⟨by omega, by omega⟩ ?_
          show wp PP _ _ _ [some (vR _), some (vI _), some (vI _), some (vI _), some (vI _), _] [vI _] _ _
          refine x_iload rfl ?_
          refine n_call [vI _, vI _] [] (by omega) (Nat.le_of_ble_eq_true rfl) rfl rfl (Nat.le_of_ble_eq_true rfl) ?_
          refine m_undo ⟨by omega, by omega⟩ ⟨by omega, by omega⟩ ?_
          show wp PP _ _ _ [some (vR _), some (vI _), some (vI _), some (vI _), some (vI _), _] [vI _] _ _
          refine z_if_eq (fun c3 => ?_) (fun c3 => ?_)
          · refine x_aload rfl ?_
            refine x_iload rfl ?_
            refine x_iload rfl ?_
            refine n_call [vR _, vI _, vI _] [] (by omega) (Nat.le_of_ble_eq_true rfl) rfl rfl (Nat.le_of_ble_eq_true rfl) ?_
            refine m_setCode hP (by rw [g4 a 5 (by omega), h5]; omega) (by rw [g4 a 5 (by omega), h5]; omega) ?_
            show wp PP _ _ _ [some (vR _), some (vI _), some (vI _), some (vI _), some (vI _), _] [] _ _
            refine n_iinc [some (vR _), some (vI _), some (vI _), some (vI _), some (vI _), _] rfl rfl ?_
            refine x_fall ?_
            refine n_iinc [some (vR _), some (vI _), some (vI _), some (vI _), some (vI _), _] rfl rfl ?_
            refine x_goto ?_
            refine ih (n - (i + 1)) (by omega) (i + 1) (kp + 1) _ _ _ (by omega) (by omega) (by omega) ?_ (fun j j0 j1 => ?_) (fun j j0 j1 => ?_) (fun b r q1 => ?_)
            · have er : rl (up tqq (a + 1) kp (c i) (a + 1)) (kp + 1) = c i :: rl (tqq (a + 1)) kp := by
                show up tqq (a + 1) kp (c i) (a + 1) kp :: rl (up tqq (a + 1) kp (c i) (a + 1)) kp = _
                rw [up_e, rl_cg (c := up tqq (a + 1) kp (c i) (a + 1)) (c' := tqq (a + 1)) (fun j j0 j1 => up_i (by omega))]
              rw [er]
              show _ = sg (c i) (Ph c i)
              rw [← g1]
              first
                | exact (K_none y).symm
                | exact (K_push v1qq v2qq (fun wqq => c3 (sgn_x2 wqq.1 wqq.2)) v3qq).symm
            · rw [up_i (by omega)]
              exact g2 j (by omega) j1
            · by_cases e : j = kp
              · rw [e, up_e]
                exact hx
              · rw [up_i e]
                exact g3 j j0 (by omega)
            · rw [up_a q1]
              exact g4 b r q1
          · refine x_iload rfl ?_
            refine n_istore [some (vR _), some (vI _), some (vI _), some (vI _), some (vI _), some (vI _)] (Nat.le_of_ble_eq_true rfl) rfl ?_
            refine x_fall ?_
            have vx := sgn_x (g3 vqq (by omega) (by omega)).1 c3
            have L2 : ∀ M2 : Nat, ∀ (k : Nat) (kk : Int) (uqq : St), (kk = k) → (M2 = kp - k ∧ vqq ≤ k ∧ k + 1 ≤ kp) → (∀ q : Int, uqq (a + 1) q = if (vqq : Int) ≤ q ∧ q < k then tqq (a + 1) (q + 1) else tqq (a + 1) q) → (∀ (b : Nat) (r : Int), ¬ b = a + 1 → uqq b r = tqq b r) →  wp PP d mb223 (mb223.getD 2 []) [some (vR a), some (vI (kp : Int)), some (vI (i : Int)), some (vI (c i)), some (vI (vqq : Int)), some (vI kk)] [] (HP h0 uqq) Q := by
              refine s_ind (fun M2 ih2 => ?_)
              intro k kk uqq hk2 hM2 u1qq u2qq
              subst hk2
              refine x_iload rfl ?_
              refine x_ci ?_
              refine x_iadd ?_
              refine x_iload rfl ?_
              refine n_icmp_ge ⟨by omega, by omega⟩ ⟨by omega, by omega⟩ (fun c1 => ?_) (fun c1 => ?_)
              · refine n_iinc [some (vR _), some (vI _), some (vI _), some (vI _), some (vI _), some (vI _)] rfl rfl ?_
                refine x_goto ?_
                refine n_iinc [some (vR _), some (vI _), some (vI _), some (vI _), some (vI _), some (vI _)] rfl rfl ?_
                refine x_goto ?_
                refine ih (n - (i + 1)) (by omega) (i + 1) (kp - 1) _ _ uqq (by omega) (by omega) (by omega) ?_ (fun j j0 j1 => ?_) (fun j j0 j1 => ?_) (fun b r q1 => ?_)
                · have er : rl (uqq (a + 1)) (kp - 1) = rl (rmv (tqq (a + 1)) vqq) (kp - 1) := rl_cg (fun j j0 j1 => by
                    rw [u1qq j]
                    unfold rmv
                    by_cases e : j < vqq
                    · rw [if_neg (by omega), if_pos e]
                    · rw [if_pos (by omega), if_neg e])
                  rw [er]
                  show _ = sg (c i) (Ph c i)
                  rw [← g1]
                  exact K_pop v1qq vx.1 vx.2 v3qq
                · rw [u1qq j, if_neg (by omega)]
                  exact g2 j (by omega) j1
                · rw [u1qq j]
                  split
                  · exact g3 _ (by omega) (by omega)
                  · exact g3 j j0 (by omega)
                · rw [u2qq b r q1]
                  exact g4 b r q1
              · refine x_aload rfl ?_
                refine x_iload rfl ?_
                refine x_aload rfl ?_
                refine x_iload rfl ?_
                refine x_ci ?_
                refine x_iadd ?_
                refine n_call [vR _, vI _] [vI _, vR _] (by omega) (Nat.le_of_ble_eq_true rfl) rfl rfl (Nat.le_of_ble_eq_true rfl) ?_
                have gk := g3 ((k : Int) + 1) (by omega) (by omega)
                refine m_codeAt hP ⟨by omega, by omega⟩ ?_
                show wp PP _ _ _ [some (vR _), some (vI _), some (vI _), some (vI _), some (vI _), some (vI _)] [vI _, vI _, vR _] _ _
                refine n_call [vR _, vI _, vI _] [] (by omega) (Nat.le_of_ble_eq_true rfl) rfl rfl (Nat.le_of_ble_eq_true rfl) ?_
                refine m_setCode hP (by rw [u2qq a 5 (by omega), g4 a 5 (by omega), h5]; omega) (by rw [u2qq a 5 (by omega), g4 a 5 (by omega), h5]; omega) ?_
                show wp PP _ _ _ [some (vR _), some (vI _), some (vI _), some (vI _), some (vI _), some (vI _)] [] _ _
                refine n_iinc [some (vR _), some (vI _), some (vI _), some (vI _), some (vI _), some (vI _)] rfl rfl ?_
                refine x_goto ?_
                refine ih2 (kp - (k + 1)) (by omega) (k + 1) _ _ (by omega) (by omega) (fun q => ?_) (fun b r q1 => ?_)
                · by_cases e : q = k
                  · rw [e, up_e, u1qq, if_neg (by omega), if_pos (by omega)]
                  · rw [up_i e, u1qq q]
                    by_cases e2 : (vqq : Int) ≤ q ∧ q < k
                    · rw [if_pos e2, if_pos (by omega)]
                    · rw [if_neg e2, if_neg (by omega)]
                · rw [up_a q1]
                  exact u2qq b r q1
            exact L2 (kp - vqq) vqq vqq tqq rfl (by omega) (fun q => by rw [if_neg (by omega)]) (fun b r q1 => rfl)
  refine n_at (m := 223) (q := mr223) (kn := (0, 1)) [some (vR _), none, none, none, none, none] mb223 rfl rfl (h_rcv hP.1) (Nat.le_of_ble_eq_true rfl) rfl rfl ?_
  refine x_ci ?_
  refine n_istore [some (vR _), some (vI _), _, _, _, _] (Nat.le_of_ble_eq_true rfl) rfl ?_
  refine x_ci ?_
  refine n_istore [some (vR _), some (vI _), some (vI _), _, _, _] (Nat.le_of_ble_eq_true rfl) rfl ?_
  refine x_fall ?_
  refine L1 n 0 0 0 0 s rfl rfl (by omega) (by funext q; rfl) (fun j j0 j1 => hc j (by omega) j1) (fun j j0 j1 => by omega) (fun b r q1 => rfl)
theorem m_lean (hd : 15 ≤ d) (hp : PL 54 L n c s) (k : ∀ tqq, lkC tp s tqq → Q (some (vI (lnA c n))) (HP h0 tqq)) : wpM PP d 26 [vR 32] (HP h0 s) Q := by
  refine n_at (m := 26) (q := mr26) (kn := (0, 1)) [some (vR _)] mb26 rfl rfl (h_rcv sc_32) (Nat.le_of_ble_eq_true rfl) rfl rfl ?_
  refine x_aload rfl ?_
  refine h_getR sc_32 rfl (by omega) ?_
  refine h_getR sc_63 rfl (by omega) ?_
  refine x_aload rfl ?_
  refine h_getR sc_32 rfl (by omega) ?_
  refine h_getR sc_53 rfl (by omega) ?_
  refine n_call [vR _, vR _] [] (by omega) (Nat.le_of_ble_eq_true rfl) rfl rfl (Nat.le_of_ble_eq_true rfl) ?_
  refine m_takeFrom pl_64 pl_54 (by omega) (by omega) hp (fun tqq t1qq t2qq => ?_)
  show wp PP _ _ _ [some (vR _)] [] _ _
  refine x_aload rfl ?_
  refine h_getR sc_32 rfl (by omega) ?_
  refine h_getR sc_63 rfl (by omega) ?_
  refine n_call [vR _] [] (by omega) (Nat.le_of_ble_eq_true rfl) rfl rfl (Nat.le_of_ble_eq_true rfl) ?_
  refine m_leanSize pl_64 (by omega) t1qq.2.1 t1qq.size t1qq.v.ten t1qq.2.2.2.2.2.2.2.1 (fun uqq u1qq => ?_)
  show wp PP _ _ _ [some (vR _)] [vI _] _ _
  refine x_iret ?_
  refine k uqq (fun b q q1 q2 q3 q4 => ?_)
  rw [u1qq b q (by omega) (by omega), t2qq b (by omega) q]
end LN3
