/-! TEXT: the reference's lines: a line from its first token -/
section TXT2
variable {d : Nat} {h0 h : pheap} {s tqq uqq : St} {Q : Option pv → pheap → Prop} {B : Int → Int} {n p q N : Nat} {sz : Int} {k vqq : Int} {D : Nat × (Int → Int)} {T : Nat × (Int → Int) × (Int → Int)} {S E : Int × Int} {K : KS} {L : (Int → Int) × (Int → Int)} {X : TS}
theorem r_line (hd : 156 ≤ d) (hb : bOk B n) (hR : RLN B n p D T S E K L N s) (hI : XI D T S E K L) (hp : p ≤ n) (hk0 : tkK B n p ≠ 0) (kS : ∀ (q : Nat) (D2 : Nat × (Int → Int)) (T2 : Nat × (Int → Int) × (Int → Int)) (S2 E2 : Int × Int) (K2 : KS) (L2 : (Int → Int) × (Int → Int)), lSt B n (p, D, T, S, E, K, L, N) (0, 0, (q, D2, T2, S2, E2, K2, L2, N + 1)) → q ≤ n → ∀ tqq, RLN B n q D2 T2 S2 E2 K2 L2 (N + 1) tqq → jF s tqq → Q none (HP h0 tqq)) (kF : ∀ (f : Int) (pl : Nat), lSt B n (p, D, T, S, E, K, L, N) (f, pl, (p, D, T, S, E, K, L, N)) → 1 ≤ f ∧ f ≤ 3 → ∀ tqq, tqq 94 18 = f → tqq 94 19 = (pl : Int) → jF s tqq → Q none (HP h0 tqq)) : wpM PP d 77 [vR 94] (HP h0 s) Q := by
  have hT := hR.2.1
  have iD := hI.1.1
  have iT := hI.2.1.1
  have tr := tkR_is (B := B) (n := n) (p := p) hb
  have ts := TKN_s hR.1.2.1 tr
  refine n_at (m := 77) (q := mr77) (kn := (0, 1)) [some (vR _), none, none] mb77 rfl rfl (h_rcv sc_94) (Nat.le_of_ble_eq_true rfl) rfl rfl ?_
  refine x_aload rfl ?_
  refine h_getI 16 sc_94 rfl rfl ?_
  refine n_if_ne ⟨by omega, by omega⟩ (fun c1 => ?_) (fun c1 => ?_)
  · refine x_aload rfl ?_
    refine x_ci ?_
    refine n_call [vR _, vI _] [] (by omega) (Nat.le_of_ble_eq_true rfl) rfl rfl (Nat.le_of_ble_eq_true rfl) ?_
    refine r_wrong hR.1.2.2 hR.1.2.1.2.1 ?_
    show wp PP _ _ _ [some (vR _), _, _] [] _ _
    refine x_ret ?_
    exact kF 1 _ (lS_1 hk0 (by omega)) (by decide) _ (by rw [up_i (by decide), up_e]) up_e (jF_up (jF_up jF_rfl (by omega)) (by omega))
  · refine x_aload rfl ?_
    refine h_getI 17 sc_94 rfl rfl ?_
    have v17 := (hR.1.2.1.2.2.2.2.2.2.1 (by omega)).2
    rw [v17]
    refine x_ci ?_
    refine n_icmp_le ⟨by omega, by omega⟩ ⟨by omega, by omega⟩ (fun c2 => ?_) (fun c2 => ?_)
    · have kk : tkK B n p = 4 := by omega
      have v17 := (hR.1.2.1.2.2.2.2.2.2.1 kk).2
      have hvv : tkV B n p = 0 ∨ tkV B n p = 1 ∨ tkV B n p = 2 ∨ tkV B n p = 3 ∨ tkV B n p = 4 ∨ tkV B n p = 5 := by
        have := tr.2.2.2.2.1 kk
        omega
      have t0qq := tkE_R (B := B) (n := n) (p := p) hp (by omega) (by omega)
      obtain ⟨a, hA11, hA⟩ := hT.2.2.2.2.2
      rcases hvv with hv | hv | hv | hv | hv | hv
      · have hv : tkK B n p = 4 ∧ tkV B n p = 0 := ⟨kk, hv⟩
        have hl : ∀ {r : LNR}, lDan B n p D (p, D, T, S, E, K, L, N) (fun D2 => (D2, T, S, E, K, L, N + 1)) = r ↔ lSt B n (p, D, T, S, E, K, L, N) r := fun {r} => ⟨fun y => by rw [← y]; exact lS_dan hv.1 hv.2, fun y => lSt_one (lS_dan hv.1 hv.2) y⟩
        refine x_aload rfl ?_
        refine h_getI 17 sc_94 rfl rfl ?_
        rw [v17, hv.2]
        refine n_istore [some (vR _), some (vI _), _] (Nat.le_of_ble_eq_true rfl) rfl ?_
        refine x_aload rfl ?_
        refine x_iload rfl ?_
        refine n_call [vR _, vI _] [] (by omega) (Nat.le_of_ble_eq_true rfl) rfl rfl (Nat.le_of_ble_eq_true rfl) ?_
        refine r_isFull (D := D) (T := T) (by omega) (by omega) hT.1.1 hT.2.1.1 hI.1.1 hI.2.1.1 (fun c1 => ?_) (fun c1 => ?_)
        · show wp PP _ _ _ _ [vI _] _ _
          refine n_if_eq ⟨by omega, by omega⟩ (fun c9 => by exfalso; omega) (fun _ => ?_)
          refine x_aload rfl ?_
          refine x_ci ?_
          refine n_call [vR _, vI _] [] (by omega) (Nat.le_of_ble_eq_true rfl) rfl rfl (Nat.le_of_ble_eq_true rfl) ?_
          refine r_wrong hR.1.2.2 hR.1.2.1.2.1 ?_
          show wp PP _ _ _ [some (vR _), some (vI _), _] [] _ _
          refine x_goto ?_
          have f18 : up (up s 94 18 2) 94 19 ((tkP B n p : Nat) : Int) 94 18 = 2 := by rw [up_i (by decide), up_e]
          refine x_aload rfl ?_
          refine h_getI 18 sc_94 rfl rfl ?_
          rw [f18]
          refine n_if_eq ⟨by omega, by omega⟩ (fun c9 => by exfalso; omega) (fun _ => ?_)
          refine x_ret ?_
          exact kF 2 _ (hl.mp (by unfold lDan; rw [if_pos (show 6 ≤ D.1 by omega)])) (by decide) _ f18 up_e (jF_up (jF_up jF_rfl (by omega)) (by omega))
        · show wp PP _ _ _ _ [vI _] _ _
          refine n_if_eq ⟨by omega, by omega⟩ (fun _ => ?_) (fun c9 => by exfalso; omega)
          refine x_iload rfl ?_
          refine x_ci ?_
          refine n_icmp_eq ⟨by omega, by omega⟩ ⟨by omega, by omega⟩ (fun c9 => by exfalso; omega) (fun _ => ?_)
          refine x_iload rfl ?_
          refine x_ci ?_
          refine n_icmp_ne ⟨by omega, by omega⟩ ⟨by omega, by omega⟩ (fun _ => ?_) (fun c9 => by exfalso; omega)
          refine x_aload rfl ?_
          refine h_getI 18 sc_94 rfl rfl ?_
          rw [hR.1.2.2]
          refine n_if_eq ⟨by omega, by omega⟩ (fun _ => ?_) (fun c9 => by exfalso; omega)
          refine x_aload rfl ?_
          refine x_dupR ?_
          refine h_getI 11 sc_94 rfl rfl ?_
          rw [hA11]
          refine x_ci ?_
          refine x_iload rfl ?_
          refine t_I ((0 : Nat) : Int) rfl ?_
          refine x_ishl ?_
          refine x_ior ?_
          rw [(ft_or hA.1 (by omega)).1]
          refine h_putI 11 sc_94 rfl rfl ?_
          refine x_aload rfl ?_
          refine n_call [vR _] [] (by omega) (Nat.le_of_ble_eq_true rfl) rfl rfl (Nat.le_of_ble_eq_true rfl) ?_
          refine r_token (p := tkE B n p) (by omega) (hR.1.1.of (up_i (by decide)) (fun r => up_a (by decide))) hb ((up_i (by decide)).trans hR.1.2.1.1) t0qq.2 (fun uqq u1qq u2qq => ?_)
          have uA : ∀ (b : Nat) (i : Int), ¬ (b = 94 ∧ 14 ≤ i ∧ i ≤ 17) → ¬ (b = 94 ∧ i = 11) → uqq b i = s b i := fun b i y1 y2 => (u2qq b i y1).trans (up_f (by omega))
          have u11 : uqq 94 11 = ((a ||| 2 ^ 0 : Nat) : Int) := (u2qq 94 11 (by omega)).trans up_e
          have uF : jF s uqq := jF_tr (jF_up jF_rfl (by omega)) u2qq.j
          have hE2 : RQ B n (tkE B n p) uqq := ⟨(hR.1.1.of (up_i (by decide)) (fun r => up_a (by decide))).f u2qq, u1qq, (uA 94 18 (by omega) (by omega)).trans hR.1.2.2⟩
          have t1qq : tkK B n (tkE B n p) ≠ 0 → tkK B n (tkE B n p) ≠ 1 → tkE B n p < tkE B n (tkE B n p) ∧ tkE B n (tkE B n p) ≤ n := fun y1 y2 => tkE_R (B := B) (n := n) (p := tkE B n p) t0qq.2 (by omega) (by omega)
          have u5qq : uqq 96 5 = D.1 := (uA 96 5 (by omega) (by omega)).trans hT.1.1
          have u6qq : uqq 96 6 = T.1 := (uA 96 6 (by omega) (by omega)).trans hT.2.1.1
          show wp PP _ _ _ [some (vR _), some (vI _), _] [] _ _
          refine x_iload rfl ?_
          refine n_tsw 5 rfl ⟨by omega, by omega⟩ (fun c9 => by exfalso; omega) (And.intro (fun _ => ?_) (And.intro (fun c9 => by exfalso; omega) (And.intro (fun c9 => by exfalso; omega) (And.intro (fun c9 => by exfalso; omega) (And.intro (fun c9 => by exfalso; omega) trivial)))))
          refine x_aload rfl ?_
          refine h_getR sc_94 rfl (by omega) ?_
          refine x_ci ?_
          refine x_aload rfl ?_
          refine x_ci ?_
          refine n_call [vR _, vI _] [vI _, vR _] (by omega) (Nat.le_of_ble_eq_true rfl) rfl rfl (Nat.le_of_ble_eq_true rfl) ?_
          refine r_fresher (by omega) ?_
          show wp PP _ _ _ [some (vR _), some (vI _), _] [vI _, vI _, vR _] _ _
          rw [show (5 : Int) + 0 = 5 from rfl, u5qq]
          refine x_iadd ?_
          refine x_aload rfl ?_
          refine x_aload rfl ?_
          refine h_getR sc_94 rfl (by omega) ?_
          refine x_ci ?_
          refine x_aload rfl ?_
          refine x_ci ?_
          refine n_call [vR _, vI _] [vI _, vR _, vR _, vI _, vR _] (by omega) (Nat.le_of_ble_eq_true rfl) rfl rfl (Nat.le_of_ble_eq_true rfl) ?_
          refine r_fresher (by omega) ?_
          show wp PP _ _ _ [some (vR _), some (vI _), _] [vI _, vI _, vR _, vR _, vI _, vR _] _ _
          rw [show (5 : Int) + 0 = 5 from rfl, u5qq]
          refine n_call [vR _, vR _, vI _, vI _] [vI _, vR _] (by omega) (Nat.le_of_ble_eq_true rfl) rfl rfl (Nat.le_of_ble_eq_true rfl) ?_
          refine r_fresh (D := D) (by omega) hb hE2 ?_ hI.1.1 (fun i i0 i1 => (uA 97 _ (by omega) (by omega)).trans (hT.1.2 i i0 i1)) (fun i i0 i1 => by have := hI.1.2 i i0 i1; omega) (fun y1 y2 wqq w1qq w2qq => ?_) (fun f hf => ?_)
          · by_cases zqq : tkK B n (tkE B n p) = 3
            · exact Or.inl (t1qq (by omega) (by omega)).2
            · exact Or.inr zqq
          · have wA : ∀ (b : Nat) (i : Int), ¬ (b = 94 ∧ 14 ≤ i ∧ i ≤ 17) → ¬ (b = 94 ∧ i = 11) → wqq b i = s b i := fun b i y1 y2 => (w2qq b i y1).trans (uA b i y1 y2)
            have hTw : TSR D T S E K L wqq := hT.of2 (fun b r y => wA b r (by omega) (by omega)) ((w2qq 94 11 (by omega)).trans u11) (TLD_oth hA (by decide))
            have w5qq : up wqq 97 (6 + (D.1 : Int)) (tkV B n (tkE B n p)) 96 5 = D.1 := (up_a (by decide)).trans hTw.1.1
            have jw : jF s (up (up wqq 97 (6 + (D.1 : Int)) (tkV B n (tkE B n p))) 96 5 ((D.1 : Int) + 1)) := jF_up (jF_up (jF_tr uF w2qq.j) (by omega)) (by omega)
            show wp PP _ _ _ _ [vI _, vI _, vR _] _ _
            refine h_iast sc_97 ⟨by omega, by omega⟩ (by decide) ?_
            refine x_aload rfl ?_
            refine x_ci ?_
            refine x_aload rfl ?_
            refine x_ci ?_
            refine n_call [vR _, vI _] [vI _, vR _] (by omega) (Nat.le_of_ble_eq_true rfl) rfl rfl (Nat.le_of_ble_eq_true rfl) ?_
            refine r_fresher (by omega) ?_
            show wp PP _ _ _ [some (vR _), some (vI _), _] [vI _, vI _, vR _] _ _
            rw [show (5 : Int) + 0 = 5 from rfl]
            rw [w5qq]
            refine x_ci ?_
            refine x_iadd ?_
            refine n_call [vR _, vI _, vI _] [] (by omega) (Nat.le_of_ble_eq_true rfl) rfl rfl (Nat.le_of_ble_eq_true rfl) ?_
            refine r_reads (by omega) ?_
            rw [show (5 : Int) + 0 = 5 from rfl]
            show wp PP _ _ _ [some (vR _), some (vI _), _] [] _ _
            refine x_goto ?_
            refine r_tail (p := tkE B n (tkE B n p)) (N := N) (by omega) hb ⟨w1qq.of (fun b r y => by rw [up_f (by omega), up_f (by omega)]), hTw.dan rfl, ?_, ?_, ?_, ?_⟩ (t1qq (by omega) (by omega)).2 (fun y x x1 x2 => ?_) (fun y x x1 x2 x3 => ?_)
            · rw [up_f (by omega), up_f (by omega), wA _ _ (by omega) (by omega)]; exact hR.2.2.1
            · rw [up_f (by omega), up_f (by omega), wA _ _ (by omega) (by omega)]; exact hR.2.2.2.1
            · rw [up_f (by omega), up_f (by omega), wA _ _ (by omega) (by omega)]; exact hR.2.2.2.2.1
            · rw [up_f (by omega), up_f (by omega), wA _ _ (by omega) (by omega)]; exact hR.2.2.2.2.2
            · refine kS _ _ _ _ _ _ _ (hl.mp ?_) (tkE_R (B := B) (n := n) (p := tkE B n (tkE B n p)) (t1qq (by omega) (by omega)).2 (by omega) (by omega)).2 x x1 (jF_tr jw x2)
              unfold lDan
              rw [if_neg (show ¬ 6 ≤ D.1 by omega), if_neg (fun zqq => zqq y1), if_neg (fun zqq => zqq y2)]
              exact lEnd_y y
            · refine kF 1 _ (hl.mp ?_) (by decide) x x1 x2 (jF_tr jw x3)
              unfold lDan
              rw [if_neg (show ¬ 6 ≤ D.1 by omega), if_neg (fun zqq => zqq y1), if_neg (fun zqq => zqq y2)]
              exact lEnd_n y
          · have hf12 : f = 1 ∨ f = 3 := by omega
            have f18 : up (up (up (up uqq 94 18 f) 94 19 ((tkP B n (tkE B n p) : Nat) : Int)) 97 (6 + (D.1 : Int)) 0) 96 5 ((D.1 : Int) + 1) 94 18 = f := by
              rw [up_a (by decide), up_a (by decide), up_i (by decide), up_e]
            have f19 : up (up (up (up uqq 94 18 f) 94 19 ((tkP B n (tkE B n p) : Nat) : Int)) 97 (6 + (D.1 : Int)) 0) 96 5 ((D.1 : Int) + 1) 94 19 = ((tkP B n (tkE B n p) : Nat) : Int) := by
              rw [up_a (by decide), up_a (by decide), up_e]
            have jw : jF s (up (up (up (up uqq 94 18 f) 94 19 ((tkP B n (tkE B n p) : Nat) : Int)) 97 (6 + (D.1 : Int)) 0) 96 5 ((D.1 : Int) + 1)) := jF_up (jF_up (jF_up (jF_up uF (by omega)) (by omega)) (by omega)) (by omega)
            have w5qq : up (up (up uqq 94 18 f) 94 19 ((tkP B n (tkE B n p) : Nat) : Int)) 97 (6 + (D.1 : Int)) 0 96 5 = D.1 := by
              rw [up_a (by decide), up_a (by decide), up_a (by decide)]
              exact u5qq
            show wp PP _ _ _ _ [vI _, vI _, vR _] _ _
            refine h_iast sc_97 ⟨by omega, by omega⟩ (by decide) ?_
            refine x_aload rfl ?_
            refine x_ci ?_
            refine x_aload rfl ?_
            refine x_ci ?_
            refine n_call [vR _, vI _] [vI _, vR _] (by omega) (Nat.le_of_ble_eq_true rfl) rfl rfl (Nat.le_of_ble_eq_true rfl) ?_
            refine r_fresher (by omega) ?_
            show wp PP _ _ _ [some (vR _), some (vI _), _] [vI _, vI _, vR _] _ _
            rw [show (5 : Int) + 0 = 5 from rfl, w5qq]
            refine x_ci ?_
            refine x_iadd ?_
            refine n_call [vR _, vI _, vI _] [] (by omega) (Nat.le_of_ble_eq_true rfl) rfl rfl (Nat.le_of_ble_eq_true rfl) ?_
            refine r_reads (by omega) ?_
            rw [show (5 : Int) + 0 = 5 from rfl]
            show wp PP _ _ _ [some (vR _), some (vI _), _] [] _ _
            refine x_goto ?_
            refine r_tailF (by rw [f18]; omega) ?_
            refine kF f _ (hl.mp ?_) (by omega) _ f18 f19 jw
            unfold lDan
            rw [if_neg (show ¬ 6 ≤ D.1 by omega)]
            rcases hf with zqq | zqq
            · rw [if_pos zqq.2, zqq.1]
            · rw [if_neg (fun y => y zqq.2.1), if_pos zqq.2.2, zqq.1]
      · have hv : tkK B n p = 4 ∧ tkV B n p = 1 := ⟨kk, hv⟩
        have hl : ∀ {r : LNR}, lTel B n p T (p, D, T, S, E, K, L, N) (fun T2 => (D, T2, S, E, K, L, N + 1)) = r ↔ lSt B n (p, D, T, S, E, K, L, N) r := fun {r} => ⟨fun y => by rw [← y]; exact lS_tel hv.1 (by omega), fun y => lSt_one (lS_tel hv.1 (by omega)) y⟩
        refine x_aload rfl ?_
        refine h_getI 17 sc_94 rfl rfl ?_
        rw [v17, hv.2]
        refine n_istore [some (vR _), some (vI _), _] (Nat.le_of_ble_eq_true rfl) rfl ?_
        refine x_aload rfl ?_
        refine x_iload rfl ?_
        refine n_call [vR _, vI _] [] (by omega) (Nat.le_of_ble_eq_true rfl) rfl rfl (Nat.le_of_ble_eq_true rfl) ?_
        refine r_isFull (D := D) (T := T) (by omega) (by omega) hT.1.1 hT.2.1.1 hI.1.1 hI.2.1.1 (fun c1 => ?_) (fun c1 => ?_)
        · show wp PP _ _ _ _ [vI _] _ _
          refine n_if_eq ⟨by omega, by omega⟩ (fun c9 => by exfalso; omega) (fun _ => ?_)
          refine x_aload rfl ?_
          refine x_ci ?_
          refine n_call [vR _, vI _] [] (by omega) (Nat.le_of_ble_eq_true rfl) rfl rfl (Nat.le_of_ble_eq_true rfl) ?_
          refine r_wrong hR.1.2.2 hR.1.2.1.2.1 ?_
          show wp PP _ _ _ [some (vR _), some (vI _), _] [] _ _
          refine x_goto ?_
          have f18 : up (up s 94 18 2) 94 19 ((tkP B n p : Nat) : Int) 94 18 = 2 := by rw [up_i (by decide), up_e]
          refine x_aload rfl ?_
          refine h_getI 18 sc_94 rfl rfl ?_
          rw [f18]
          refine n_if_eq ⟨by omega, by omega⟩ (fun c9 => by exfalso; omega) (fun _ => ?_)
          refine x_ret ?_
          exact kF 2 _ (hl.mp (by unfold lTel; rw [if_pos (show 24 ≤ T.1 by omega)])) (by decide) _ f18 up_e (jF_up (jF_up jF_rfl (by omega)) (by omega))
        · show wp PP _ _ _ _ [vI _] _ _
          refine n_if_eq ⟨by omega, by omega⟩ (fun _ => ?_) (fun c9 => by exfalso; omega)
          refine x_iload rfl ?_
          refine x_ci ?_
          refine n_icmp_eq ⟨by omega, by omega⟩ ⟨by omega, by omega⟩ (fun c9 => by exfalso; omega) (fun _ => ?_)
          refine x_iload rfl ?_
          refine x_ci ?_
          refine n_icmp_ne ⟨by omega, by omega⟩ ⟨by omega, by omega⟩ (fun _ => ?_) (fun c9 => by exfalso; omega)
          refine x_aload rfl ?_
          refine h_getI 18 sc_94 rfl rfl ?_
          rw [hR.1.2.2]
          refine n_if_eq ⟨by omega, by omega⟩ (fun _ => ?_) (fun c9 => by exfalso; omega)
          refine x_aload rfl ?_
          refine x_dupR ?_
          refine h_getI 11 sc_94 rfl rfl ?_
          rw [hA11]
          refine x_ci ?_
          refine x_iload rfl ?_
          refine t_I ((1 : Nat) : Int) rfl ?_
          refine x_ishl ?_
          refine x_ior ?_
          rw [(ft_or hA.1 (by omega)).1]
          refine h_putI 11 sc_94 rfl rfl ?_
          refine x_aload rfl ?_
          refine n_call [vR _] [] (by omega) (Nat.le_of_ble_eq_true rfl) rfl rfl (Nat.le_of_ble_eq_true rfl) ?_
          refine r_token (p := tkE B n p) (by omega) (hR.1.1.of (up_i (by decide)) (fun r => up_a (by decide))) hb ((up_i (by decide)).trans hR.1.2.1.1) t0qq.2 (fun uqq u1qq u2qq => ?_)
          have uA : ∀ (b : Nat) (i : Int), ¬ (b = 94 ∧ 14 ≤ i ∧ i ≤ 17) → ¬ (b = 94 ∧ i = 11) → uqq b i = s b i := fun b i y1 y2 => (u2qq b i y1).trans (up_f (by omega))
          have u11 : uqq 94 11 = ((a ||| 2 ^ 1 : Nat) : Int) := (u2qq 94 11 (by omega)).trans up_e
          have uF : jF s uqq := jF_tr (jF_up jF_rfl (by omega)) u2qq.j
          have hE2 : RQ B n (tkE B n p) uqq := ⟨(hR.1.1.of (up_i (by decide)) (fun r => up_a (by decide))).f u2qq, u1qq, (uA 94 18 (by omega) (by omega)).trans hR.1.2.2⟩
          have t1qq : tkK B n (tkE B n p) ≠ 0 → tkK B n (tkE B n p) ≠ 1 → tkE B n p < tkE B n (tkE B n p) ∧ tkE B n (tkE B n p) ≤ n := fun y1 y2 => tkE_R (B := B) (n := n) (p := tkE B n p) t0qq.2 (by omega) (by omega)
          have u5qq : uqq 96 5 = D.1 := (uA 96 5 (by omega) (by omega)).trans hT.1.1
          have u6qq : uqq 96 6 = T.1 := (uA 96 6 (by omega) (by omega)).trans hT.2.1.1
          show wp PP _ _ _ [some (vR _), some (vI _), _] [] _ _
          refine x_iload rfl ?_
          refine n_tsw 5 rfl ⟨by omega, by omega⟩ (fun c9 => by exfalso; omega) (And.intro (fun c9 => by exfalso; omega) (And.intro (fun _ => ?_) (And.intro (fun c9 => by exfalso; omega) (And.intro (fun c9 => by exfalso; omega) (And.intro (fun c9 => by exfalso; omega) trivial)))))
          refine x_ci ?_
          refine x_aload rfl ?_
          refine x_ci ?_
          refine n_call [vR _, vI _] [vI _] (by omega) (Nat.le_of_ble_eq_true rfl) rfl rfl (Nat.le_of_ble_eq_true rfl) ?_
          refine r_fresher (by omega) ?_
          show wp PP _ _ _ [some (vR _), some (vI _), _] [vI _, vI _] _ _
          rw [show (5 : Int) + 1 = 6 from rfl, u6qq]
          refine x_iadd ?_
          refine n_istore [some (vR _), some (vI _), some (vI _)] (Nat.le_of_ble_eq_true rfl) rfl ?_
          refine x_aload rfl ?_
          refine h_getR sc_94 rfl (by omega) ?_
          refine x_iload rfl ?_
          refine x_aload rfl ?_
          refine x_ci ?_
          refine x_ci ?_
          refine n_call [vR _, vI _, vI _] [vI _, vR _] (by omega) (Nat.le_of_ble_eq_true rfl) rfl rfl (Nat.le_of_ble_eq_true rfl) ?_
          refine r_numeral (by omega) hb hE2 ?_ (by omega) (fun y1 y2 wqq w1qq w2qq => ?_) (fun f hf => ?_)
          · by_cases zqq : tkK B n (tkE B n p) = 2
            · exact Or.inl (t1qq (by omega) (by omega)).2
            · exact Or.inr zqq
          · have hTu : TSR D T S E K L wqq := hT.of2 (fun b r y => (w2qq b r (by omega)).trans (uA b r (by omega) (by omega))) ((w2qq 94 11 (by omega)).trans u11) (TLD_oth hA (by decide))
            show wp PP _ _ _ _ [vI _, vI _, vR _] _ _
            refine h_iast sc_98 ⟨by omega, by omega⟩ (by decide) ?_
            refine x_aload rfl ?_
            refine h_getR sc_94 rfl (by omega) ?_
            refine x_iload rfl ?_
            refine x_ci ?_
            refine x_aload rfl ?_
            refine x_ci ?_
            refine x_ci ?_
            refine n_call [vR _, vI _, vI _] [vI _, vI _, vR _] (by omega) (Nat.le_of_ble_eq_true rfl) rfl rfl (Nat.le_of_ble_eq_true rfl) ?_
            refine r_numeral (p := tkE B n (tkE B n p)) (by omega) hb (w1qq.of (fun b r y => up_f (by omega))) ?_ (by omega) (fun z1qq z2qq x x1 x2 => ?_) (fun f hf => ?_)
            · by_cases zqq : tkK B n (tkE B n (tkE B n p)) = 2
              · exact Or.inl (tkE_R (B := B) (n := n) (p := tkE B n (tkE B n p)) (t1qq (by omega) (by omega)).2 (by omega) (by omega)).2
              · exact Or.inr zqq
            · have t2qq := tkE_R (B := B) (n := n) (p := tkE B n (tkE B n p)) (t1qq (by omega) (by omega)).2 (by omega) (by omega)
              have xA : ∀ (b : Nat) (i : Int), ¬ (b = 94 ∧ 14 ≤ i ∧ i ≤ 17) → ¬ (b = 94 ∧ i = 11) → ¬ b = 98 → x b i = s b i := fun b i y1 y2 y3 => (x2 b i y1).trans ((up_a y3).trans ((w2qq b i y1).trans (uA b i y1 y2)))
              have jx : jF s (up (up x 99 (24 + (T.1 : Int)) (2 * tkV B n (tkE B n (tkE B n p)) + 0)) 96 6 ((T.1 : Int) + 1)) := jF_up (jF_up (jF_tr (jF_up (jF_tr uF w2qq.j) (by omega)) x2.j) (by omega)) (by omega)
              have x6 : up x 99 (24 + (T.1 : Int)) (2 * tkV B n (tkE B n (tkE B n p)) + 0) 96 6 = T.1 := by
                rw [up_a (by decide), xA _ _ (by omega) (by omega) (by omega)]
                exact hT.2.1.1
              show wp PP _ _ _ _ [vI _, vI _, vI _, vR _] _ _
              refine x_imul ?_
              refine x_iload rfl ?_
              refine x_ci ?_
              refine n_icmp_ne ⟨by omega, by omega⟩ ⟨by omega, by omega⟩ (fun _ => ?_) (fun c9 => by exfalso; omega)
              refine x_ci ?_
              refine x_fall ?_
              refine x_iadd ?_
              refine h_iast sc_99 ⟨by omega, by omega⟩ (by decide) ?_
              refine x_aload rfl ?_
              refine x_ci ?_
              refine x_aload rfl ?_
              refine x_ci ?_
              refine n_call [vR _, vI _] [vI _, vR _] (by omega) (Nat.le_of_ble_eq_true rfl) rfl rfl (Nat.le_of_ble_eq_true rfl) ?_
              refine r_fresher (by omega) ?_
              show wp PP _ _ _ [some (vR _), some (vI _), some (vI _)] [vI _, vI _, vR _] _ _
              rw [show (5 : Int) + 1 = 6 from rfl, x6]
              refine x_ci ?_
              refine x_iadd ?_
              refine n_call [vR _, vI _, vI _] [] (by omega) (Nat.le_of_ble_eq_true rfl) rfl rfl (Nat.le_of_ble_eq_true rfl) ?_
              refine r_reads (by omega) ?_
              rw [show (5 : Int) + 1 = 6 from rfl]
              show wp PP _ _ _ [some (vR _), some (vI _), some (vI _)] [] _ _
              refine x_goto ?_
              refine r_tail (p := tkE B n (tkE B n (tkE B n p))) (N := N) (by omega) hb ⟨x1.of (fun b r y => by rw [up_f (by omega), up_f (by omega)]), hTu.tel rfl (by rw [x2 98 _ (by omega), up_e]) (fun b r y => by rw [x2 b r (by omega), up_f (by omega), w2qq b r (by omega)]), ?_, ?_, ?_, ?_⟩ t2qq.2 (fun y y3 y4 y5 => ?_) (fun y y3 y4 y5 y6 => ?_)
              · rw [up_f (by omega), up_f (by omega), xA _ _ (by omega) (by omega) (by omega)]; exact hR.2.2.1
              · rw [up_f (by omega), up_f (by omega), xA _ _ (by omega) (by omega) (by omega)]; exact hR.2.2.2.1
              · rw [up_f (by omega), up_f (by omega), xA _ _ (by omega) (by omega) (by omega)]; exact hR.2.2.2.2.1
              · rw [up_f (by omega), up_f (by omega), xA _ _ (by omega) (by omega) (by omega)]; exact hR.2.2.2.2.2
              · refine kS _ _ _ _ _ _ _ (hl.mp ?_) (tkE_R (B := B) (n := n) (p := tkE B n (tkE B n (tkE B n p))) t2qq.2 (by omega) (by omega)).2 y3 y4 (jF_tr jx y5)
                unfold lTel
                rw [if_neg (show ¬ 24 ≤ T.1 by omega), lNum_y y1 y2, lNum_y z1qq z2qq]
                refine (lEnd_y y).trans ?_
                rw [hv.2, show (1 : Int) - 1 = 0 from rfl]
              · refine kF 1 _ (hl.mp ?_) (by decide) y3 y4 y5 (jF_tr jx y6)
                unfold lTel
                rw [if_neg (show ¬ 24 ≤ T.1 by omega), lNum_y y1 y2, lNum_y z1qq z2qq]
                exact lEnd_n y
            · have hf12 : f = 1 ∨ f = 2 := by omega
              have f18 : up (up (up (up (up wqq 98 (24 + (T.1 : Int)) (tkV B n (tkE B n p))) 94 18 f) 94 19 ((tkP B n (tkE B n (tkE B n p)) : Nat) : Int)) 99 (24 + (T.1 : Int)) (2 * 0 + 0)) 96 6 ((T.1 : Int) + 1) 94 18 = f := by
                rw [up_a (by decide), up_a (by decide), up_i (by decide), up_e]
              have f19 : up (up (up (up (up wqq 98 (24 + (T.1 : Int)) (tkV B n (tkE B n p))) 94 18 f) 94 19 ((tkP B n (tkE B n (tkE B n p)) : Nat) : Int)) 99 (24 + (T.1 : Int)) (2 * 0 + 0)) 96 6 ((T.1 : Int) + 1) 94 19 = ((tkP B n (tkE B n (tkE B n p)) : Nat) : Int) := by
                rw [up_a (by decide), up_a (by decide), up_e]
              have jx : jF s (up (up (up (up (up wqq 98 (24 + (T.1 : Int)) (tkV B n (tkE B n p))) 94 18 f) 94 19 ((tkP B n (tkE B n (tkE B n p)) : Nat) : Int)) 99 (24 + (T.1 : Int)) (2 * 0 + 0)) 96 6 ((T.1 : Int) + 1)) := jF_up (jF_up (jF_up (jF_up (jF_up (jF_tr uF w2qq.j) (by omega)) (by omega)) (by omega)) (by omega)) (by omega)
              have x6 : up (up (up (up wqq 98 (24 + (T.1 : Int)) (tkV B n (tkE B n p))) 94 18 f) 94 19 ((tkP B n (tkE B n (tkE B n p)) : Nat) : Int)) 99 (24 + (T.1 : Int)) (2 * 0 + 0) 96 6 = T.1 := by
                rw [up_a (by decide), up_a (by decide), up_a (by decide), up_a (by decide), w2qq 96 6 (by omega)]
                exact u6qq
              show wp PP _ _ _ _ [vI _, vI _, vI _, vR _] _ _
              refine x_imul ?_
              refine x_iload rfl ?_
              refine x_ci ?_
              refine n_icmp_ne ⟨by omega, by omega⟩ ⟨by omega, by omega⟩ (fun _ => ?_) (fun c9 => by exfalso; omega)
              refine x_ci ?_
              refine x_fall ?_
              refine x_iadd ?_
              refine h_iast sc_99 ⟨by omega, by omega⟩ (by decide) ?_
              refine x_aload rfl ?_
              refine x_ci ?_
              refine x_aload rfl ?_
              refine x_ci ?_
              refine n_call [vR _, vI _] [vI _, vR _] (by omega) (Nat.le_of_ble_eq_true rfl) rfl rfl (Nat.le_of_ble_eq_true rfl) ?_
              refine r_fresher (by omega) ?_
              show wp PP _ _ _ [some (vR _), some (vI _), some (vI _)] [vI _, vI _, vR _] _ _
              rw [show (5 : Int) + 1 = 6 from rfl, x6]
              refine x_ci ?_
              refine x_iadd ?_
              refine n_call [vR _, vI _, vI _] [] (by omega) (Nat.le_of_ble_eq_true rfl) rfl rfl (Nat.le_of_ble_eq_true rfl) ?_
              refine r_reads (by omega) ?_
              rw [show (5 : Int) + 1 = 6 from rfl]
              show wp PP _ _ _ [some (vR _), some (vI _), some (vI _)] [] _ _
              refine x_goto ?_
              refine r_tailF (by rw [f18]; omega) ?_
              refine kF f _ (hl.mp ?_) (by omega) _ f18 f19 jx
              unfold lTel
              rw [if_neg (show ¬ 24 ≤ T.1 by omega), lNum_y y1 y2]
              rcases hf with zqq | zqq
              · rw [lNum_1 zqq.2, zqq.1]
              · rw [lNum_2 zqq.2.1 zqq.2.2, zqq.1]
          · have hf12 : f = 1 ∨ f = 2 := by omega
            have f18 : up (up (up (up (up uqq 94 18 f) 94 19 ((tkP B n (tkE B n p) : Nat) : Int)) 98 (24 + (T.1 : Int)) 0) 99 (24 + (T.1 : Int)) (2 * 0 + 0)) 96 6 ((T.1 : Int) + 1) 94 18 = f := by
              rw [up_a (by decide), up_a (by decide), up_a (by decide), up_i (by decide), up_e]
            have f19 : up (up (up (up (up uqq 94 18 f) 94 19 ((tkP B n (tkE B n p) : Nat) : Int)) 98 (24 + (T.1 : Int)) 0) 99 (24 + (T.1 : Int)) (2 * 0 + 0)) 96 6 ((T.1 : Int) + 1) 94 19 = ((tkP B n (tkE B n p) : Nat) : Int) := by
              rw [up_a (by decide), up_a (by decide), up_a (by decide), up_e]
            have g18 : up (up (up uqq 94 18 f) 94 19 ((tkP B n (tkE B n p) : Nat) : Int)) 98 (24 + (T.1 : Int)) 0 94 18 = f := by
              rw [up_a (by decide), up_i (by decide), up_e]
            have jw : jF s (up (up (up (up (up uqq 94 18 f) 94 19 ((tkP B n (tkE B n p) : Nat) : Int)) 98 (24 + (T.1 : Int)) 0) 99 (24 + (T.1 : Int)) (2 * 0 + 0)) 96 6 ((T.1 : Int) + 1)) := jF_up (jF_up (jF_up (jF_up (jF_up uF (by omega)) (by omega)) (by omega)) (by omega)) (by omega)
            have x6 : up (up (up (up uqq 94 18 f) 94 19 ((tkP B n (tkE B n p) : Nat) : Int)) 98 (24 + (T.1 : Int)) 0) 99 (24 + (T.1 : Int)) (2 * 0 + 0) 96 6 = T.1 := by
              rw [up_a (by decide), up_a (by decide), up_a (by decide), up_a (by decide)]
              exact u6qq
            show wp PP _ _ _ _ [vI _, vI _, vR _] _ _
            refine h_iast sc_98 ⟨by omega, by omega⟩ (by decide) ?_
            refine x_aload rfl ?_
            refine h_getR sc_94 rfl (by omega) ?_
            refine x_iload rfl ?_
            refine x_ci ?_
            refine x_aload rfl ?_
            refine x_ci ?_
            refine x_ci ?_
            refine n_call [vR _, vI _, vI _] [vI _, vI _, vR _] (by omega) (Nat.le_of_ble_eq_true rfl) rfl rfl (Nat.le_of_ble_eq_true rfl) ?_
            refine f_numeral (by rw [g18]; omega) ?_
            show wp PP _ _ _ [some (vR _), some (vI _), some (vI _)] [vI _, vI _, vI _, vR _] _ _
            refine x_imul ?_
            refine x_iload rfl ?_
            refine x_ci ?_
            refine n_icmp_ne ⟨by omega, by omega⟩ ⟨by omega, by omega⟩ (fun _ => ?_) (fun c9 => by exfalso; omega)
            refine x_ci ?_
            refine x_fall ?_
            refine x_iadd ?_
            refine h_iast sc_99 ⟨by omega, by omega⟩ (by decide) ?_
            refine x_aload rfl ?_
            refine x_ci ?_
            refine x_aload rfl ?_
            refine x_ci ?_
            refine n_call [vR _, vI _] [vI _, vR _] (by omega) (Nat.le_of_ble_eq_true rfl) rfl rfl (Nat.le_of_ble_eq_true rfl) ?_
            refine r_fresher (by omega) ?_
            show wp PP _ _ _ [some (vR _), some (vI _), some (vI _)] [vI _, vI _, vR _] _ _
            rw [show (5 : Int) + 1 = 6 from rfl, x6]
            refine x_ci ?_
            refine x_iadd ?_
            refine n_call [vR _, vI _, vI _] [] (by omega) (Nat.le_of_ble_eq_true rfl) rfl rfl (Nat.le_of_ble_eq_true rfl) ?_
            refine r_reads (by omega) ?_
            rw [show (5 : Int) + 1 = 6 from rfl]
            show wp PP _ _ _ [some (vR _), some (vI _), some (vI _)] [] _ _
            refine x_goto ?_
            refine r_tailF (by rw [f18]; omega) ?_
            refine kF f _ (hl.mp ?_) (by omega) _ f18 f19 jw
            unfold lTel
            rw [if_neg (show ¬ 24 ≤ T.1 by omega)]
            rcases hf with zqq | zqq
            · rw [lNum_1 zqq.2, zqq.1]
            · rw [lNum_2 zqq.2.1 zqq.2.2, zqq.1]
      · have hv : tkK B n p = 4 ∧ tkV B n p = 2 := ⟨kk, hv⟩
        have hl : ∀ {r : LNR}, lTel B n p T (p, D, T, S, E, K, L, N) (fun T2 => (D, T2, S, E, K, L, N + 1)) = r ↔ lSt B n (p, D, T, S, E, K, L, N) r := fun {r} => ⟨fun y => by rw [← y]; exact lS_tel hv.1 (by omega), fun y => lSt_one (lS_tel hv.1 (by omega)) y⟩
        refine x_aload rfl ?_
        refine h_getI 17 sc_94 rfl rfl ?_
        rw [v17, hv.2]
        refine n_istore [some (vR _), some (vI _), _] (Nat.le_of_ble_eq_true rfl) rfl ?_
        refine x_aload rfl ?_
        refine x_iload rfl ?_
        refine n_call [vR _, vI _] [] (by omega) (Nat.le_of_ble_eq_true rfl) rfl rfl (Nat.le_of_ble_eq_true rfl) ?_
        refine r_isFull (D := D) (T := T) (by omega) (by omega) hT.1.1 hT.2.1.1 hI.1.1 hI.2.1.1 (fun c1 => ?_) (fun c1 => ?_)
        · show wp PP _ _ _ _ [vI _] _ _
          refine n_if_eq ⟨by omega, by omega⟩ (fun c9 => by exfalso; omega) (fun _ => ?_)
          refine x_aload rfl ?_
          refine x_ci ?_
          refine n_call [vR _, vI _] [] (by omega) (Nat.le_of_ble_eq_true rfl) rfl rfl (Nat.le_of_ble_eq_true rfl) ?_
          refine r_wrong hR.1.2.2 hR.1.2.1.2.1 ?_
          show wp PP _ _ _ [some (vR _), some (vI _), _] [] _ _
          refine x_goto ?_
          have f18 : up (up s 94 18 2) 94 19 ((tkP B n p : Nat) : Int) 94 18 = 2 := by rw [up_i (by decide), up_e]
          refine x_aload rfl ?_
          refine h_getI 18 sc_94 rfl rfl ?_
          rw [f18]
          refine n_if_eq ⟨by omega, by omega⟩ (fun c9 => by exfalso; omega) (fun _ => ?_)
          refine x_ret ?_
          exact kF 2 _ (hl.mp (by unfold lTel; rw [if_pos (show 24 ≤ T.1 by omega)])) (by decide) _ f18 up_e (jF_up (jF_up jF_rfl (by omega)) (by omega))
        · show wp PP _ _ _ _ [vI _] _ _
          refine n_if_eq ⟨by omega, by omega⟩ (fun _ => ?_) (fun c9 => by exfalso; omega)
          refine x_iload rfl ?_
          refine x_ci ?_
          refine n_icmp_eq ⟨by omega, by omega⟩ ⟨by omega, by omega⟩ (fun c9 => by exfalso; omega) (fun _ => ?_)
          refine x_iload rfl ?_
          refine x_ci ?_
          refine n_icmp_ne ⟨by omega, by omega⟩ ⟨by omega, by omega⟩ (fun _ => ?_) (fun c9 => by exfalso; omega)
          refine x_aload rfl ?_
          refine h_getI 18 sc_94 rfl rfl ?_
          rw [hR.1.2.2]
          refine n_if_eq ⟨by omega, by omega⟩ (fun _ => ?_) (fun c9 => by exfalso; omega)
          refine x_aload rfl ?_
          refine x_dupR ?_
          refine h_getI 11 sc_94 rfl rfl ?_
          rw [hA11]
          refine x_ci ?_
          refine x_iload rfl ?_
          refine t_I ((2 : Nat) : Int) rfl ?_
          refine x_ishl ?_
          refine x_ior ?_
          rw [(ft_or hA.1 (by omega)).1]
          refine h_putI 11 sc_94 rfl rfl ?_
          refine x_aload rfl ?_
          refine n_call [vR _] [] (by omega) (Nat.le_of_ble_eq_true rfl) rfl rfl (Nat.le_of_ble_eq_true rfl) ?_
          refine r_token (p := tkE B n p) (by omega) (hR.1.1.of (up_i (by decide)) (fun r => up_a (by decide))) hb ((up_i (by decide)).trans hR.1.2.1.1) t0qq.2 (fun uqq u1qq u2qq => ?_)
          have uA : ∀ (b : Nat) (i : Int), ¬ (b = 94 ∧ 14 ≤ i ∧ i ≤ 17) → ¬ (b = 94 ∧ i = 11) → uqq b i = s b i := fun b i y1 y2 => (u2qq b i y1).trans (up_f (by omega))
          have u11 : uqq 94 11 = ((a ||| 2 ^ 2 : Nat) : Int) := (u2qq 94 11 (by omega)).trans up_e
          have uF : jF s uqq := jF_tr (jF_up jF_rfl (by omega)) u2qq.j
          have hE2 : RQ B n (tkE B n p) uqq := ⟨(hR.1.1.of (up_i (by decide)) (fun r => up_a (by decide))).f u2qq, u1qq, (uA 94 18 (by omega) (by omega)).trans hR.1.2.2⟩
          have t1qq : tkK B n (tkE B n p) ≠ 0 → tkK B n (tkE B n p) ≠ 1 → tkE B n p < tkE B n (tkE B n p) ∧ tkE B n (tkE B n p) ≤ n := fun y1 y2 => tkE_R (B := B) (n := n) (p := tkE B n p) t0qq.2 (by omega) (by omega)
          have u5qq : uqq 96 5 = D.1 := (uA 96 5 (by omega) (by omega)).trans hT.1.1
          have u6qq : uqq 96 6 = T.1 := (uA 96 6 (by omega) (by omega)).trans hT.2.1.1
          show wp PP _ _ _ [some (vR _), some (vI _), _] [] _ _
          refine x_iload rfl ?_
          refine n_tsw 5 rfl ⟨by omega, by omega⟩ (fun c9 => by exfalso; omega) (And.intro (fun c9 => by exfalso; omega) (And.intro (fun c9 => by exfalso; omega) (And.intro (fun _ => ?_) (And.intro (fun c9 => by exfalso; omega) (And.intro (fun c9 => by exfalso; omega) trivial)))))
          refine x_ci ?_
          refine x_aload rfl ?_
          refine x_ci ?_
          refine n_call [vR _, vI _] [vI _] (by omega) (Nat.le_of_ble_eq_true rfl) rfl rfl (Nat.le_of_ble_eq_true rfl) ?_
          refine r_fresher (by omega) ?_
          show wp PP _ _ _ [some (vR _), some (vI _), _] [vI _, vI _] _ _
          rw [show (5 : Int) + 1 = 6 from rfl, u6qq]
          refine x_iadd ?_
          refine n_istore [some (vR _), some (vI _), some (vI _)] (Nat.le_of_ble_eq_true rfl) rfl ?_
          refine x_aload rfl ?_
          refine h_getR sc_94 rfl (by omega) ?_
          refine x_iload rfl ?_
          refine x_aload rfl ?_
          refine x_ci ?_
          refine x_ci ?_
          refine n_call [vR _, vI _, vI _] [vI _, vR _] (by omega) (Nat.le_of_ble_eq_true rfl) rfl rfl (Nat.le_of_ble_eq_true rfl) ?_
          refine r_numeral (by omega) hb hE2 ?_ (by omega) (fun y1 y2 wqq w1qq w2qq => ?_) (fun f hf => ?_)
          · by_cases zqq : tkK B n (tkE B n p) = 2
            · exact Or.inl (t1qq (by omega) (by omega)).2
            · exact Or.inr zqq
          · have hTu : TSR D T S E K L wqq := hT.of2 (fun b r y => (w2qq b r (by omega)).trans (uA b r (by omega) (by omega))) ((w2qq 94 11 (by omega)).trans u11) (TLD_oth hA (by decide))
            show wp PP _ _ _ _ [vI _, vI _, vR _] _ _
            refine h_iast sc_98 ⟨by omega, by omega⟩ (by decide) ?_
            refine x_aload rfl ?_
            refine h_getR sc_94 rfl (by omega) ?_
            refine x_iload rfl ?_
            refine x_ci ?_
            refine x_aload rfl ?_
            refine x_ci ?_
            refine x_ci ?_
            refine n_call [vR _, vI _, vI _] [vI _, vI _, vR _] (by omega) (Nat.le_of_ble_eq_true rfl) rfl rfl (Nat.le_of_ble_eq_true rfl) ?_
            refine r_numeral (p := tkE B n (tkE B n p)) (by omega) hb (w1qq.of (fun b r y => up_f (by omega))) ?_ (by omega) (fun z1qq z2qq x x1 x2 => ?_) (fun f hf => ?_)
            · by_cases zqq : tkK B n (tkE B n (tkE B n p)) = 2
              · exact Or.inl (tkE_R (B := B) (n := n) (p := tkE B n (tkE B n p)) (t1qq (by omega) (by omega)).2 (by omega) (by omega)).2
              · exact Or.inr zqq
            · have t2qq := tkE_R (B := B) (n := n) (p := tkE B n (tkE B n p)) (t1qq (by omega) (by omega)).2 (by omega) (by omega)
              have xA : ∀ (b : Nat) (i : Int), ¬ (b = 94 ∧ 14 ≤ i ∧ i ≤ 17) → ¬ (b = 94 ∧ i = 11) → ¬ b = 98 → x b i = s b i := fun b i y1 y2 y3 => (x2 b i y1).trans ((up_a y3).trans ((w2qq b i y1).trans (uA b i y1 y2)))
              have jx : jF s (up (up x 99 (24 + (T.1 : Int)) (2 * tkV B n (tkE B n (tkE B n p)) + 1)) 96 6 ((T.1 : Int) + 1)) := jF_up (jF_up (jF_tr (jF_up (jF_tr uF w2qq.j) (by omega)) x2.j) (by omega)) (by omega)
              have x6 : up x 99 (24 + (T.1 : Int)) (2 * tkV B n (tkE B n (tkE B n p)) + 1) 96 6 = T.1 := by
                rw [up_a (by decide), xA _ _ (by omega) (by omega) (by omega)]
                exact hT.2.1.1
              show wp PP _ _ _ _ [vI _, vI _, vI _, vR _] _ _
              refine x_imul ?_
              refine x_iload rfl ?_
              refine x_ci ?_
              refine n_icmp_ne ⟨by omega, by omega⟩ ⟨by omega, by omega⟩ (fun c9 => by exfalso; omega) (fun _ => ?_)
              refine x_ci ?_
              refine x_goto ?_
              refine x_iadd ?_
              refine h_iast sc_99 ⟨by omega, by omega⟩ (by decide) ?_
              refine x_aload rfl ?_
              refine x_ci ?_
              refine x_aload rfl ?_
              refine x_ci ?_
              refine n_call [vR _, vI _] [vI _, vR _] (by omega) (Nat.le_of_ble_eq_true rfl) rfl rfl (Nat.le_of_ble_eq_true rfl) ?_
              refine r_fresher (by omega) ?_
              show wp PP _ _ _ [some (vR _), some (vI _), some (vI _)] [vI _, vI _, vR _] _ _
              rw [show (5 : Int) + 1 = 6 from rfl, x6]
              refine x_ci ?_
              refine x_iadd ?_
              refine n_call [vR _, vI _, vI _] [] (by omega) (Nat.le_of_ble_eq_true rfl) rfl rfl (Nat.le_of_ble_eq_true rfl) ?_
              refine r_reads (by omega) ?_
              rw [show (5 : Int) + 1 = 6 from rfl]
              show wp PP _ _ _ [some (vR _), some (vI _), some (vI _)] [] _ _
              refine x_goto ?_
              refine r_tail (p := tkE B n (tkE B n (tkE B n p))) (N := N) (by omega) hb ⟨x1.of (fun b r y => by rw [up_f (by omega), up_f (by omega)]), hTu.tel rfl (by rw [x2 98 _ (by omega), up_e]) (fun b r y => by rw [x2 b r (by omega), up_f (by omega), w2qq b r (by omega)]), ?_, ?_, ?_, ?_⟩ t2qq.2 (fun y y3 y4 y5 => ?_) (fun y y3 y4 y5 y6 => ?_)
              · rw [up_f (by omega), up_f (by omega), xA _ _ (by omega) (by omega) (by omega)]; exact hR.2.2.1
              · rw [up_f (by omega), up_f (by omega), xA _ _ (by omega) (by omega) (by omega)]; exact hR.2.2.2.1
              · rw [up_f (by omega), up_f (by omega), xA _ _ (by omega) (by omega) (by omega)]; exact hR.2.2.2.2.1
              · rw [up_f (by omega), up_f (by omega), xA _ _ (by omega) (by omega) (by omega)]; exact hR.2.2.2.2.2
              · refine kS _ _ _ _ _ _ _ (hl.mp ?_) (tkE_R (B := B) (n := n) (p := tkE B n (tkE B n (tkE B n p))) t2qq.2 (by omega) (by omega)).2 y3 y4 (jF_tr jx y5)
                unfold lTel
                rw [if_neg (show ¬ 24 ≤ T.1 by omega), lNum_y y1 y2, lNum_y z1qq z2qq]
                refine (lEnd_y y).trans ?_
                rw [hv.2, show (2 : Int) - 1 = 1 from rfl]
              · refine kF 1 _ (hl.mp ?_) (by decide) y3 y4 y5 (jF_tr jx y6)
                unfold lTel
                rw [if_neg (show ¬ 24 ≤ T.1 by omega), lNum_y y1 y2, lNum_y z1qq z2qq]
                exact lEnd_n y
            · have hf12 : f = 1 ∨ f = 2 := by omega
              have f18 : up (up (up (up (up wqq 98 (24 + (T.1 : Int)) (tkV B n (tkE B n p))) 94 18 f) 94 19 ((tkP B n (tkE B n (tkE B n p)) : Nat) : Int)) 99 (24 + (T.1 : Int)) (2 * 0 + 1)) 96 6 ((T.1 : Int) + 1) 94 18 = f := by
                rw [up_a (by decide), up_a (by decide), up_i (by decide), up_e]
              have f19 : up (up (up (up (up wqq 98 (24 + (T.1 : Int)) (tkV B n (tkE B n p))) 94 18 f) 94 19 ((tkP B n (tkE B n (tkE B n p)) : Nat) : Int)) 99 (24 + (T.1 : Int)) (2 * 0 + 1)) 96 6 ((T.1 : Int) + 1) 94 19 = ((tkP B n (tkE B n (tkE B n p)) : Nat) : Int) := by
                rw [up_a (by decide), up_a (by decide), up_e]
              have jx : jF s (up (up (up (up (up wqq 98 (24 + (T.1 : Int)) (tkV B n (tkE B n p))) 94 18 f) 94 19 ((tkP B n (tkE B n (tkE B n p)) : Nat) : Int)) 99 (24 + (T.1 : Int)) (2 * 0 + 1)) 96 6 ((T.1 : Int) + 1)) := jF_up (jF_up (jF_up (jF_up (jF_up (jF_tr uF w2qq.j) (by omega)) (by omega)) (by omega)) (by omega)) (by omega)
              have x6 : up (up (up (up wqq 98 (24 + (T.1 : Int)) (tkV B n (tkE B n p))) 94 18 f) 94 19 ((tkP B n (tkE B n (tkE B n p)) : Nat) : Int)) 99 (24 + (T.1 : Int)) (2 * 0 + 1) 96 6 = T.1 := by
                rw [up_a (by decide), up_a (by decide), up_a (by decide), up_a (by decide), w2qq 96 6 (by omega)]
                exact u6qq
              show wp PP _ _ _ _ [vI _, vI _, vI _, vR _] _ _
              refine x_imul ?_
              refine x_iload rfl ?_
              refine x_ci ?_
              refine n_icmp_ne ⟨by omega, by omega⟩ ⟨by omega, by omega⟩ (fun c9 => by exfalso; omega) (fun _ => ?_)
              refine x_ci ?_
              refine x_goto ?_
              refine x_iadd ?_
              refine h_iast sc_99 ⟨by omega, by omega⟩ (by decide) ?_
              refine x_aload rfl ?_
              refine x_ci ?_
              refine x_aload rfl ?_
              refine x_ci ?_
              refine n_call [vR _, vI _] [vI _, vR _] (by omega) (Nat.le_of_ble_eq_true rfl) rfl rfl (Nat.le_of_ble_eq_true rfl) ?_
              refine r_fresher (by omega) ?_
              show wp PP _ _ _ [some (vR _), some (vI _), some (vI _)] [vI _, vI _, vR _] _ _
              rw [show (5 : Int) + 1 = 6 from rfl, x6]
              refine x_ci ?_
              refine x_iadd ?_
              refine n_call [vR _, vI _, vI _] [] (by omega) (Nat.le_of_ble_eq_true rfl) rfl rfl (Nat.le_of_ble_eq_true rfl) ?_
              refine r_reads (by omega) ?_
              rw [show (5 : Int) + 1 = 6 from rfl]
              show wp PP _ _ _ [some (vR _), some (vI _), some (vI _)] [] _ _
              refine x_goto ?_
              refine r_tailF (by rw [f18]; omega) ?_
              refine kF f _ (hl.mp ?_) (by omega) _ f18 f19 jx
              unfold lTel
              rw [if_neg (show ¬ 24 ≤ T.1 by omega), lNum_y y1 y2]
              rcases hf with zqq | zqq
              · rw [lNum_1 zqq.2, zqq.1]
              · rw [lNum_2 zqq.2.1 zqq.2.2, zqq.1]
          · have hf12 : f = 1 ∨ f = 2 := by omega
            have f18 : up (up (up (up (up uqq 94 18 f) 94 19 ((tkP B n (tkE B n p) : Nat) : Int)) 98 (24 + (T.1 : Int)) 0) 99 (24 + (T.1 : Int)) (2 * 0 + 1)) 96 6 ((T.1 : Int) + 1) 94 18 = f := by
              rw [up_a (by decide), up_a (by decide), up_a (by decide), up_i (by decide), up_e]
            have f19 : up (up (up (up (up uqq 94 18 f) 94 19 ((tkP B n (tkE B n p) : Nat) : Int)) 98 (24 + (T.1 : Int)) 0) 99 (24 + (T.1 : Int)) (2 * 0 + 1)) 96 6 ((T.1 : Int) + 1) 94 19 = ((tkP B n (tkE B n p) : Nat) : Int) := by
              rw [up_a (by decide), up_a (by decide), up_a (by decide), up_e]
            have g18 : up (up (up uqq 94 18 f) 94 19 ((tkP B n (tkE B n p) : Nat) : Int)) 98 (24 + (T.1 : Int)) 0 94 18 = f := by
              rw [up_a (by decide), up_i (by decide), up_e]
            have jw : jF s (up (up (up (up (up uqq 94 18 f) 94 19 ((tkP B n (tkE B n p) : Nat) : Int)) 98 (24 + (T.1 : Int)) 0) 99 (24 + (T.1 : Int)) (2 * 0 + 1)) 96 6 ((T.1 : Int) + 1)) := jF_up (jF_up (jF_up (jF_up (jF_up uF (by omega)) (by omega)) (by omega)) (by omega)) (by omega)
            have x6 : up (up (up (up uqq 94 18 f) 94 19 ((tkP B n (tkE B n p) : Nat) : Int)) 98 (24 + (T.1 : Int)) 0) 99 (24 + (T.1 : Int)) (2 * 0 + 1) 96 6 = T.1 := by
              rw [up_a (by decide), up_a (by decide), up_a (by decide), up_a (by decide)]
              exact u6qq
            show wp PP _ _ _ _ [vI _, vI _, vR _] _ _
            refine h_iast sc_98 ⟨by omega, by omega⟩ (by decide) ?_
            refine x_aload rfl ?_
            refine h_getR sc_94 rfl (by omega) ?_
            refine x_iload rfl ?_
            refine x_ci ?_
            refine x_aload rfl ?_
            refine x_ci ?_
            refine x_ci ?_
            refine n_call [vR _, vI _, vI _] [vI _, vI _, vR _] (by omega) (Nat.le_of_ble_eq_true rfl) rfl rfl (Nat.le_of_ble_eq_true rfl) ?_
            refine f_numeral (by rw [g18]; omega) ?_
            show wp PP _ _ _ [some (vR _), some (vI _), some (vI _)] [vI _, vI _, vI _, vR _] _ _
            refine x_imul ?_
            refine x_iload rfl ?_
            refine x_ci ?_
            refine n_icmp_ne ⟨by omega, by omega⟩ ⟨by omega, by omega⟩ (fun c9 => by exfalso; omega) (fun _ => ?_)
            refine x_ci ?_
            refine x_goto ?_
            refine x_iadd ?_
            refine h_iast sc_99 ⟨by omega, by omega⟩ (by decide) ?_
            refine x_aload rfl ?_
            refine x_ci ?_
            refine x_aload rfl ?_
            refine x_ci ?_
            refine n_call [vR _, vI _] [vI _, vR _] (by omega) (Nat.le_of_ble_eq_true rfl) rfl rfl (Nat.le_of_ble_eq_true rfl) ?_
            refine r_fresher (by omega) ?_
            show wp PP _ _ _ [some (vR _), some (vI _), some (vI _)] [vI _, vI _, vR _] _ _
            rw [show (5 : Int) + 1 = 6 from rfl, x6]
            refine x_ci ?_
            refine x_iadd ?_
            refine n_call [vR _, vI _, vI _] [] (by omega) (Nat.le_of_ble_eq_true rfl) rfl rfl (Nat.le_of_ble_eq_true rfl) ?_
            refine r_reads (by omega) ?_
            rw [show (5 : Int) + 1 = 6 from rfl]
            show wp PP _ _ _ [some (vR _), some (vI _), some (vI _)] [] _ _
            refine x_goto ?_
            refine r_tailF (by rw [f18]; omega) ?_
            refine kF f _ (hl.mp ?_) (by omega) _ f18 f19 jw
            unfold lTel
            rw [if_neg (show ¬ 24 ≤ T.1 by omega)]
            rcases hf with zqq | zqq
            · rw [lNum_1 zqq.2, zqq.1]
            · rw [lNum_2 zqq.2.1 zqq.2.2, zqq.1]
      · have hv : tkK B n p = 4 ∧ tkV B n p = 3 := ⟨kk, hv⟩
        have hl : ∀ {r : LNR}, lOne B n p 100 S (p, D, T, S, E, K, L, N) (fun S2 => (D, T, S2, E, K, L, N + 1)) = r ↔ lSt B n (p, D, T, S, E, K, L, N) r := fun {r} => ⟨fun y => by rw [← y]; exact lS_slip hv.1 hv.2, fun y => lSt_one (lS_slip hv.1 hv.2) y⟩
        have fs := ft_shr hA.1 (show 3 < 19 by omega)
        refine x_aload rfl ?_
        refine h_getI 17 sc_94 rfl rfl ?_
        rw [v17, hv.2]
        refine n_istore [some (vR _), some (vI _), _] (Nat.le_of_ble_eq_true rfl) rfl ?_
        refine x_aload rfl ?_
        refine x_iload rfl ?_
        refine n_call [vR _, vI _] [] (by omega) (Nat.le_of_ble_eq_true rfl) rfl rfl (Nat.le_of_ble_eq_true rfl) ?_
        refine r_isFull (D := D) (T := T) (by omega) (by omega) hT.1.1 hT.2.1.1 hI.1.1 hI.2.1.1 (fun c1 => ?_) (fun c1 => ?_)
        · show wp PP _ _ _ _ [vI _] _ _
          exfalso
          omega
        · show wp PP _ _ _ _ [vI _] _ _
          refine n_if_eq ⟨by omega, by omega⟩ (fun _ => ?_) (fun c9 => by exfalso; omega)
          refine x_iload rfl ?_
          refine x_ci ?_
          refine n_icmp_eq ⟨by omega, by omega⟩ ⟨by omega, by omega⟩ (fun _ => ?_) (fun c9 => by exfalso; omega)
          refine x_aload rfl ?_
          refine h_getI 11 sc_94 rfl rfl ?_
          rw [hA11]
          refine x_iload rfl ?_
          refine t_I ((3 : Nat) : Int) rfl ?_
          refine x_ishr ?_
          refine x_ci ?_
          refine x_iand ?_
          refine x_ci ?_
          refine n_icmp_ne ⟨by omega, by omega⟩ ⟨by omega, by omega⟩ (fun c3 => ?_) (fun c3 => ?_)
          · have c2 : ¬ S.1 = 1 := fun zqq => by
              have := fs.2.2.mpr (hA.2.1.mpr zqq)
              omega
            refine x_aload rfl ?_
            refine h_getI 18 sc_94 rfl rfl ?_
            rw [hR.1.2.2]
            refine n_if_eq ⟨by omega, by omega⟩ (fun _ => ?_) (fun c9 => by exfalso; omega)
            refine x_aload rfl ?_
            refine x_dupR ?_
            refine h_getI 11 sc_94 rfl rfl ?_
            rw [hA11]
            refine x_ci ?_
            refine x_iload rfl ?_
            refine t_I ((3 : Nat) : Int) rfl ?_
            refine x_ishl ?_
            refine x_ior ?_
            rw [(ft_or hA.1 (by omega)).1]
            refine h_putI 11 sc_94 rfl rfl ?_
            refine x_aload rfl ?_
            refine n_call [vR _] [] (by omega) (Nat.le_of_ble_eq_true rfl) rfl rfl (Nat.le_of_ble_eq_true rfl) ?_
            refine r_token (p := tkE B n p) (by omega) (hR.1.1.of (up_i (by decide)) (fun r => up_a (by decide))) hb ((up_i (by decide)).trans hR.1.2.1.1) t0qq.2 (fun uqq u1qq u2qq => ?_)
            have uA : ∀ (b : Nat) (i : Int), ¬ (b = 94 ∧ 14 ≤ i ∧ i ≤ 17) → ¬ (b = 94 ∧ i = 11) → uqq b i = s b i := fun b i y1 y2 => (u2qq b i y1).trans (up_f (by omega))
            have u11 : uqq 94 11 = ((a ||| 2 ^ 3 : Nat) : Int) := (u2qq 94 11 (by omega)).trans up_e
            have uF : jF s uqq := jF_tr (jF_up jF_rfl (by omega)) u2qq.j
            have hE2 : RQ B n (tkE B n p) uqq := ⟨(hR.1.1.of (up_i (by decide)) (fun r => up_a (by decide))).f u2qq, u1qq, (uA 94 18 (by omega) (by omega)).trans hR.1.2.2⟩
            have t1qq : tkK B n (tkE B n p) ≠ 0 → tkK B n (tkE B n p) ≠ 1 → tkE B n p < tkE B n (tkE B n p) ∧ tkE B n (tkE B n p) ≤ n := fun y1 y2 => tkE_R (B := B) (n := n) (p := tkE B n p) t0qq.2 (by omega) (by omega)
            have u5qq : uqq 96 5 = D.1 := (uA 96 5 (by omega) (by omega)).trans hT.1.1
            have u6qq : uqq 96 6 = T.1 := (uA 96 6 (by omega) (by omega)).trans hT.2.1.1
            show wp PP _ _ _ [some (vR _), some (vI _), _] [] _ _
            refine x_iload rfl ?_
            refine n_tsw 5 rfl ⟨by omega, by omega⟩ (fun c9 => by exfalso; omega) (And.intro (fun c9 => by exfalso; omega) (And.intro (fun c9 => by exfalso; omega) (And.intro (fun c9 => by exfalso; omega) (And.intro (fun _ => ?_) (And.intro (fun c9 => by exfalso; omega) trivial)))))
            refine x_aload rfl ?_
            refine x_ci ?_
            refine x_aload rfl ?_
            refine x_ci ?_
            refine x_ci ?_
            refine n_call [vR _, vI _, vI _] [vI _, vR _] (by omega) (Nat.le_of_ble_eq_true rfl) rfl rfl (Nat.le_of_ble_eq_true rfl) ?_
            refine r_numeral (by omega) hb hE2 ?_ (by omega) (fun y1 y2 wqq w1qq w2qq => ?_) (fun f hf => ?_)
            · by_cases zqq : tkK B n (tkE B n p) = 2
              · exact Or.inl (t1qq (by omega) (by omega)).2
              · exact Or.inr zqq
            · have wA : ∀ (b : Nat) (i : Int), ¬ (b = 94 ∧ 14 ≤ i ∧ i ≤ 17) → ¬ (b = 94 ∧ i = 11) → wqq b i = s b i := fun b i y1 y2 => (w2qq b i y1).trans (uA b i y1 y2)
              have jw : jF s (up wqq 96 7 (tkV B n (tkE B n p))) := jF_up (jF_tr uF w2qq.j) (by omega)
              show wp PP _ _ _ _ [vI _, vI _, vR _] _ _
              refine n_call [vR _, vI _, vI _] [] (by omega) (Nat.le_of_ble_eq_true rfl) rfl rfl (Nat.le_of_ble_eq_true rfl) ?_
              refine r_reads (by omega) ?_
              rw [show (5 : Int) + 2 = 7 from rfl]
              show wp PP _ _ _ [some (vR _), some (vI _), _] [] _ _
              refine x_goto ?_
              refine r_tail (p := tkE B n (tkE B n p)) (N := N) (by omega) hb ⟨w1qq.of (fun b r y => by rw [up_f (by omega)]), hT.slip (fun b r y => wA b r (by omega) (by omega)) ((w2qq 94 11 (by omega)).trans u11) hA, ?_, ?_, ?_, ?_⟩ (t1qq (by omega) (by omega)).2 (fun y x x1 x2 => ?_) (fun y x x1 x2 x3 => ?_)
              · rw [up_f (by omega), wA _ _ (by omega) (by omega)]; exact hR.2.2.1
              · rw [up_f (by omega), wA _ _ (by omega) (by omega)]; exact hR.2.2.2.1
              · rw [up_f (by omega), wA _ _ (by omega) (by omega)]; exact hR.2.2.2.2.1
              · rw [up_f (by omega), wA _ _ (by omega) (by omega)]; exact hR.2.2.2.2.2
              · refine kS _ _ _ _ _ _ _ (hl.mp ?_) (tkE_R (B := B) (n := n) (p := tkE B n (tkE B n p)) (t1qq (by omega) (by omega)).2 (by omega) (by omega)).2 x x1 (jF_tr jw x2)
                unfold lOne
                rw [if_neg (show ¬ S.1 = 1 by omega), lNum_y y1 y2]
                exact lEnd_y y
              · refine kF 1 _ (hl.mp ?_) (by decide) x x1 x2 (jF_tr jw x3)
                unfold lOne
                rw [if_neg (show ¬ S.1 = 1 by omega), lNum_y y1 y2]
                exact lEnd_n y
            · have hf12 : f = 1 ∨ f = 2 := by omega
              have f18 : up (up (up uqq 94 18 f) 94 19 ((tkP B n (tkE B n p) : Nat) : Int)) 96 7 0 94 18 = f := by
                rw [up_a (by decide), up_i (by decide), up_e]
              have f19 : up (up (up uqq 94 18 f) 94 19 ((tkP B n (tkE B n p) : Nat) : Int)) 96 7 0 94 19 = ((tkP B n (tkE B n p) : Nat) : Int) := by
                rw [up_a (by decide), up_e]
              have jw : jF s (up (up (up uqq 94 18 f) 94 19 ((tkP B n (tkE B n p) : Nat) : Int)) 96 7 0) := jF_up (jF_up (jF_up uF (by omega)) (by omega)) (by omega)
              show wp PP _ _ _ _ [vI _, vI _, vR _] _ _
              refine n_call [vR _, vI _, vI _] [] (by omega) (Nat.le_of_ble_eq_true rfl) rfl rfl (Nat.le_of_ble_eq_true rfl) ?_
              refine r_reads (by omega) ?_
              rw [show (5 : Int) + 2 = 7 from rfl]
              show wp PP _ _ _ [some (vR _), some (vI _), _] [] _ _
              refine x_goto ?_
              refine r_tailF (by rw [f18]; omega) ?_
              refine kF f _ (hl.mp ?_) (by omega) _ f18 f19 jw
              unfold lOne
              rw [if_neg (show ¬ S.1 = 1 by omega)]
              rcases hf with zqq | zqq
              · rw [lNum_1 zqq.2, zqq.1]
              · rw [lNum_2 zqq.2.1 zqq.2.2, zqq.1]
          · refine x_aload rfl ?_
            refine x_ci ?_
            refine n_call [vR _, vI _] [] (by omega) (Nat.le_of_ble_eq_true rfl) rfl rfl (Nat.le_of_ble_eq_true rfl) ?_
            refine r_wrong hR.1.2.2 hR.1.2.1.2.1 ?_
            show wp PP _ _ _ [some (vR _), some (vI _), _] [] _ _
            refine x_fall ?_
            have c2 := hA.2.1.mp (fs.2.2.mp (by omega))
            have f18 : up (up s 94 18 3) 94 19 ((tkP B n p : Nat) : Int) 94 18 = 3 := by rw [up_i (by decide), up_e]
            refine x_aload rfl ?_
            refine h_getI 18 sc_94 rfl rfl ?_
            rw [f18]
            refine n_if_eq ⟨by omega, by omega⟩ (fun c9 => by exfalso; omega) (fun _ => ?_)
            refine x_ret ?_
            exact kF 3 _ (hl.mp (by unfold lOne; rw [if_pos c2])) (by decide) _ f18 up_e (jF_up (jF_up jF_rfl (by omega)) (by omega))
      · have hv : tkK B n p = 4 ∧ tkV B n p = 4 := ⟨kk, hv⟩
        have hl : ∀ {r : LNR}, lOne B n p 99999 E (p, D, T, S, E, K, L, N) (fun E2 => (D, T, S, E2, K, L, N + 1)) = r ↔ lSt B n (p, D, T, S, E, K, L, N) r := fun {r} => ⟨fun y => by rw [← y]; exact lS_seed hv.1 hv.2, fun y => lSt_one (lS_seed hv.1 hv.2) y⟩
        have fs := ft_shr hA.1 (show 4 < 19 by omega)
        refine x_aload rfl ?_
        refine h_getI 17 sc_94 rfl rfl ?_
        rw [v17, hv.2]
        refine n_istore [some (vR _), some (vI _), _] (Nat.le_of_ble_eq_true rfl) rfl ?_
        refine x_aload rfl ?_
        refine x_iload rfl ?_
        refine n_call [vR _, vI _] [] (by omega) (Nat.le_of_ble_eq_true rfl) rfl rfl (Nat.le_of_ble_eq_true rfl) ?_
        refine r_isFull (D := D) (T := T) (by omega) (by omega) hT.1.1 hT.2.1.1 hI.1.1 hI.2.1.1 (fun c1 => ?_) (fun c1 => ?_)
        · show wp PP _ _ _ _ [vI _] _ _
          exfalso
          omega
        · show wp PP _ _ _ _ [vI _] _ _
          refine n_if_eq ⟨by omega, by omega⟩ (fun _ => ?_) (fun c9 => by exfalso; omega)
          refine x_iload rfl ?_
          refine x_ci ?_
          refine n_icmp_eq ⟨by omega, by omega⟩ ⟨by omega, by omega⟩ (fun c9 => by exfalso; omega) (fun _ => ?_)
          refine x_iload rfl ?_
          refine x_ci ?_
          refine n_icmp_ne ⟨by omega, by omega⟩ ⟨by omega, by omega⟩ (fun c9 => by exfalso; omega) (fun _ => ?_)
          refine x_fall ?_
          refine x_aload rfl ?_
          refine h_getI 11 sc_94 rfl rfl ?_
          rw [hA11]
          refine x_iload rfl ?_
          refine t_I ((4 : Nat) : Int) rfl ?_
          refine x_ishr ?_
          refine x_ci ?_
          refine x_iand ?_
          refine x_ci ?_
          refine n_icmp_ne ⟨by omega, by omega⟩ ⟨by omega, by omega⟩ (fun c3 => ?_) (fun c3 => ?_)
          · have c2 : ¬ E.1 = 1 := fun zqq => by
              have := fs.2.2.mpr (hA.2.2.1.mpr zqq)
              omega
            refine x_aload rfl ?_
            refine h_getI 18 sc_94 rfl rfl ?_
            rw [hR.1.2.2]
            refine n_if_eq ⟨by omega, by omega⟩ (fun _ => ?_) (fun c9 => by exfalso; omega)
            refine x_aload rfl ?_
            refine x_dupR ?_
            refine h_getI 11 sc_94 rfl rfl ?_
            rw [hA11]
            refine x_ci ?_
            refine x_iload rfl ?_
            refine t_I ((4 : Nat) : Int) rfl ?_
            refine x_ishl ?_
            refine x_ior ?_
            rw [(ft_or hA.1 (by omega)).1]
            refine h_putI 11 sc_94 rfl rfl ?_
            refine x_aload rfl ?_
            refine n_call [vR _] [] (by omega) (Nat.le_of_ble_eq_true rfl) rfl rfl (Nat.le_of_ble_eq_true rfl) ?_
            refine r_token (p := tkE B n p) (by omega) (hR.1.1.of (up_i (by decide)) (fun r => up_a (by decide))) hb ((up_i (by decide)).trans hR.1.2.1.1) t0qq.2 (fun uqq u1qq u2qq => ?_)
            have uA : ∀ (b : Nat) (i : Int), ¬ (b = 94 ∧ 14 ≤ i ∧ i ≤ 17) → ¬ (b = 94 ∧ i = 11) → uqq b i = s b i := fun b i y1 y2 => (u2qq b i y1).trans (up_f (by omega))
            have u11 : uqq 94 11 = ((a ||| 2 ^ 4 : Nat) : Int) := (u2qq 94 11 (by omega)).trans up_e
            have uF : jF s uqq := jF_tr (jF_up jF_rfl (by omega)) u2qq.j
            have hE2 : RQ B n (tkE B n p) uqq := ⟨(hR.1.1.of (up_i (by decide)) (fun r => up_a (by decide))).f u2qq, u1qq, (uA 94 18 (by omega) (by omega)).trans hR.1.2.2⟩
            have t1qq : tkK B n (tkE B n p) ≠ 0 → tkK B n (tkE B n p) ≠ 1 → tkE B n p < tkE B n (tkE B n p) ∧ tkE B n (tkE B n p) ≤ n := fun y1 y2 => tkE_R (B := B) (n := n) (p := tkE B n p) t0qq.2 (by omega) (by omega)
            have u5qq : uqq 96 5 = D.1 := (uA 96 5 (by omega) (by omega)).trans hT.1.1
            have u6qq : uqq 96 6 = T.1 := (uA 96 6 (by omega) (by omega)).trans hT.2.1.1
            show wp PP _ _ _ [some (vR _), some (vI _), _] [] _ _
            refine x_iload rfl ?_
            refine n_tsw 5 rfl ⟨by omega, by omega⟩ (fun c9 => by exfalso; omega) (And.intro (fun c9 => by exfalso; omega) (And.intro (fun c9 => by exfalso; omega) (And.intro (fun c9 => by exfalso; omega) (And.intro (fun c9 => by exfalso; omega) (And.intro (fun _ => ?_) trivial)))))
            refine x_aload rfl ?_
            refine x_ci ?_
            refine x_aload rfl ?_
            refine x_ci ?_
            refine x_ci ?_
            refine n_call [vR _, vI _, vI _] [vI _, vR _] (by omega) (Nat.le_of_ble_eq_true rfl) rfl rfl (Nat.le_of_ble_eq_true rfl) ?_
            refine r_numeral (by omega) hb hE2 ?_ (by omega) (fun y1 y2 wqq w1qq w2qq => ?_) (fun f hf => ?_)
            · by_cases zqq : tkK B n (tkE B n p) = 2
              · exact Or.inl (t1qq (by omega) (by omega)).2
              · exact Or.inr zqq
            · have wA : ∀ (b : Nat) (i : Int), ¬ (b = 94 ∧ 14 ≤ i ∧ i ≤ 17) → ¬ (b = 94 ∧ i = 11) → wqq b i = s b i := fun b i y1 y2 => (w2qq b i y1).trans (uA b i y1 y2)
              have jw : jF s (up wqq 96 8 (tkV B n (tkE B n p))) := jF_up (jF_tr uF w2qq.j) (by omega)
              show wp PP _ _ _ _ [vI _, vI _, vR _] _ _
              refine n_call [vR _, vI _, vI _] [] (by omega) (Nat.le_of_ble_eq_true rfl) rfl rfl (Nat.le_of_ble_eq_true rfl) ?_
              refine r_reads (by omega) ?_
              rw [show (5 : Int) + 3 = 8 from rfl]
              show wp PP _ _ _ [some (vR _), some (vI _), _] [] _ _
              refine x_goto ?_
              refine r_tail (p := tkE B n (tkE B n p)) (N := N) (by omega) hb ⟨w1qq.of (fun b r y => by rw [up_f (by omega)]), hT.seed (fun b r y => wA b r (by omega) (by omega)) ((w2qq 94 11 (by omega)).trans u11) hA, ?_, ?_, ?_, ?_⟩ (t1qq (by omega) (by omega)).2 (fun y x x1 x2 => ?_) (fun y x x1 x2 x3 => ?_)
              · rw [up_f (by omega), wA _ _ (by omega) (by omega)]; exact hR.2.2.1
              · rw [up_f (by omega), wA _ _ (by omega) (by omega)]; exact hR.2.2.2.1
              · rw [up_f (by omega), wA _ _ (by omega) (by omega)]; exact hR.2.2.2.2.1
              · rw [up_f (by omega), wA _ _ (by omega) (by omega)]; exact hR.2.2.2.2.2
              · refine kS _ _ _ _ _ _ _ (hl.mp ?_) (tkE_R (B := B) (n := n) (p := tkE B n (tkE B n p)) (t1qq (by omega) (by omega)).2 (by omega) (by omega)).2 x x1 (jF_tr jw x2)
                unfold lOne
                rw [if_neg (show ¬ E.1 = 1 by omega), lNum_y y1 y2]
                exact lEnd_y y
              · refine kF 1 _ (hl.mp ?_) (by decide) x x1 x2 (jF_tr jw x3)
                unfold lOne
                rw [if_neg (show ¬ E.1 = 1 by omega), lNum_y y1 y2]
                exact lEnd_n y
            · have hf12 : f = 1 ∨ f = 2 := by omega
              have f18 : up (up (up uqq 94 18 f) 94 19 ((tkP B n (tkE B n p) : Nat) : Int)) 96 8 0 94 18 = f := by
                rw [up_a (by decide), up_i (by decide), up_e]
              have f19 : up (up (up uqq 94 18 f) 94 19 ((tkP B n (tkE B n p) : Nat) : Int)) 96 8 0 94 19 = ((tkP B n (tkE B n p) : Nat) : Int) := by
                rw [up_a (by decide), up_e]
              have jw : jF s (up (up (up uqq 94 18 f) 94 19 ((tkP B n (tkE B n p) : Nat) : Int)) 96 8 0) := jF_up (jF_up (jF_up uF (by omega)) (by omega)) (by omega)
              show wp PP _ _ _ _ [vI _, vI _, vR _] _ _
              refine n_call [vR _, vI _, vI _] [] (by omega) (Nat.le_of_ble_eq_true rfl) rfl rfl (Nat.le_of_ble_eq_true rfl) ?_
              refine r_reads (by omega) ?_
              rw [show (5 : Int) + 3 = 8 from rfl]
              show wp PP _ _ _ [some (vR _), some (vI _), _] [] _ _
              refine x_goto ?_
              refine r_tailF (by rw [f18]; omega) ?_
              refine kF f _ (hl.mp ?_) (by omega) _ f18 f19 jw
              unfold lOne
              rw [if_neg (show ¬ E.1 = 1 by omega)]
              rcases hf with zqq | zqq
              · rw [lNum_1 zqq.2, zqq.1]
              · rw [lNum_2 zqq.2.1 zqq.2.2, zqq.1]
          · refine x_aload rfl ?_
            refine x_ci ?_
            refine n_call [vR _, vI _] [] (by omega) (Nat.le_of_ble_eq_true rfl) rfl rfl (Nat.le_of_ble_eq_true rfl) ?_
            refine r_wrong hR.1.2.2 hR.1.2.1.2.1 ?_
            show wp PP _ _ _ [some (vR _), some (vI _), _] [] _ _
            refine x_fall ?_
            have c2 := hA.2.2.1.mp (fs.2.2.mp (by omega))
            have f18 : up (up s 94 18 3) 94 19 ((tkP B n p : Nat) : Int) 94 18 = 3 := by rw [up_i (by decide), up_e]
            refine x_aload rfl ?_
            refine h_getI 18 sc_94 rfl rfl ?_
            rw [f18]
            refine n_if_eq ⟨by omega, by omega⟩ (fun c9 => by exfalso; omega) (fun _ => ?_)
            refine x_ret ?_
            exact kF 3 _ (hl.mp (by unfold lOne; rw [if_pos c2])) (by decide) _ f18 up_e (jF_up (jF_up jF_rfl (by omega)) (by omega))
      · have hv : tkK B n p = 4 ∧ tkV B n p = 5 := ⟨kk, hv⟩
        refine x_aload rfl ?_
        refine h_getI 17 sc_94 rfl rfl ?_
        rw [v17, hv.2]
        refine n_istore [some (vR _), some (vI _), _] (Nat.le_of_ble_eq_true rfl) rfl ?_
        refine x_aload rfl ?_
        refine x_iload rfl ?_
        refine n_call [vR _, vI _] [] (by omega) (Nat.le_of_ble_eq_true rfl) rfl rfl (Nat.le_of_ble_eq_true rfl) ?_
        refine r_isFull (D := D) (T := T) (by omega) (by omega) hT.1.1 hT.2.1.1 hI.1.1 hI.2.1.1 (fun c1 => ?_) (fun c1 => ?_)
        · show wp PP _ _ _ _ [vI _] _ _
          exfalso
          omega
        · show wp PP _ _ _ _ [vI _] _ _
          refine n_if_eq ⟨by omega, by omega⟩ (fun _ => ?_) (fun c9 => by exfalso; omega)
          refine x_iload rfl ?_
          refine x_ci ?_
          refine n_icmp_eq ⟨by omega, by omega⟩ ⟨by omega, by omega⟩ (fun c9 => by exfalso; omega) (fun _ => ?_)
          refine x_iload rfl ?_
          refine x_ci ?_
          refine n_icmp_ne ⟨by omega, by omega⟩ ⟨by omega, by omega⟩ (fun _ => ?_) (fun c9 => by exfalso; omega)
          refine x_aload rfl ?_
          refine h_getI 18 sc_94 rfl rfl ?_
          rw [hR.1.2.2]
          refine n_if_eq ⟨by omega, by omega⟩ (fun _ => ?_) (fun c9 => by exfalso; omega)
          refine x_aload rfl ?_
          refine x_dupR ?_
          refine h_getI 11 sc_94 rfl rfl ?_
          rw [hA11]
          refine x_ci ?_
          refine x_iload rfl ?_
          refine t_I ((5 : Nat) : Int) rfl ?_
          refine x_ishl ?_
          refine x_ior ?_
          rw [(ft_or hA.1 (by omega)).1]
          refine h_putI 11 sc_94 rfl rfl ?_
          refine x_aload rfl ?_
          refine n_call [vR _] [] (by omega) (Nat.le_of_ble_eq_true rfl) rfl rfl (Nat.le_of_ble_eq_true rfl) ?_
          refine r_token (p := tkE B n p) (by omega) (hR.1.1.of (up_i (by decide)) (fun r => up_a (by decide))) hb ((up_i (by decide)).trans hR.1.2.1.1) t0qq.2 (fun uqq u1qq u2qq => ?_)
          have uA : ∀ (b : Nat) (i : Int), ¬ (b = 94 ∧ 14 ≤ i ∧ i ≤ 17) → ¬ (b = 94 ∧ i = 11) → uqq b i = s b i := fun b i y1 y2 => (u2qq b i y1).trans (up_f (by omega))
          have u11 : uqq 94 11 = ((a ||| 2 ^ 5 : Nat) : Int) := (u2qq 94 11 (by omega)).trans up_e
          have uF : jF s uqq := jF_tr (jF_up jF_rfl (by omega)) u2qq.j
          have hE2 : RQ B n (tkE B n p) uqq := ⟨(hR.1.1.of (up_i (by decide)) (fun r => up_a (by decide))).f u2qq, u1qq, (uA 94 18 (by omega) (by omega)).trans hR.1.2.2⟩
          have t1qq : tkK B n (tkE B n p) ≠ 0 → tkK B n (tkE B n p) ≠ 1 → tkE B n p < tkE B n (tkE B n p) ∧ tkE B n (tkE B n p) ≤ n := fun y1 y2 => tkE_R (B := B) (n := n) (p := tkE B n p) t0qq.2 (by omega) (by omega)
          have u5qq : uqq 96 5 = D.1 := (uA 96 5 (by omega) (by omega)).trans hT.1.1
          have u6qq : uqq 96 6 = T.1 := (uA 96 6 (by omega) (by omega)).trans hT.2.1.1
          show wp PP _ _ _ [some (vR _), some (vI _), _] [] _ _
          refine x_iload rfl ?_
          refine n_tsw 5 rfl ⟨by omega, by omega⟩ (fun _ => ?_) (And.intro (fun c9 => by exfalso; omega) (And.intro (fun c9 => by exfalso; omega) (And.intro (fun c9 => by exfalso; omega) (And.intro (fun c9 => by exfalso; omega) (And.intro (fun c9 => by exfalso; omega) trivial)))))
          refine x_aload rfl ?_
          refine n_call [vR _] [] (by omega) (Nat.le_of_ble_eq_true rfl) rfl rfl (Nat.le_of_ble_eq_true rfl) ?_
          refine r_lawLine (N := N) (by omega) hb hE2 (hT.of2 (fun b r y => uA b r (by omega) (by omega)) u11 (TLD_oth hA (by decide))) t0qq.2 ((uA _ _ (by omega) (by omega)).trans hR.2.2.1) ((uA _ _ (by omega) (by omega)).trans hR.2.2.2.1) ((uA _ _ (by omega) (by omega)).trans hR.2.2.2.2.1) ((uA _ _ (by omega) (by omega)).trans hR.2.2.2.2.2) hI.2.2.2.2.1 (fun f hf => ?_) (fun y1 y2 f pl K2 hf12 e1 wqq f18 f19 wF => ?_) (fun y1 y2 p2 K2 x e1 e2 e3 xx x1 x2 => ?_)
          · have hf12 : f = 1 ∨ f = 3 := by omega
            have f18 : up (up uqq 94 18 f) 94 19 ((tkP B n (tkE B n p) : Nat) : Int) 94 18 = f := by rw [up_i (by decide), up_e]
            have f19 : up (up uqq 94 18 f) 94 19 ((tkP B n (tkE B n p) : Nat) : Int) 94 19 = ((tkP B n (tkE B n p) : Nat) : Int) := up_e
            show wp PP _ _ _ _ [] _ _
            refine x_fall ?_
            refine r_tailF (by rw [f18]; omega) ?_
            refine kF f _ ?_ (by omega) _ f18 f19 (jF_up (jF_up uF (by omega)) (by omega))
            rcases hf with zqq | zqq
            · rw [zqq.1]
              exact lS_rule hv.1 hv.2 zqq.2
            · rw [zqq.1]
              exact lS_told hv.1 hv.2 zqq.2.1 zqq.2.2
          · show wp PP _ _ _ _ [] _ _
            refine x_fall ?_
            refine r_tailF (by rw [f18]; omega) ?_
            have e := lS_law (D := D) (T := T) (S := S) (E := E) (L := L) (N := N) hv.1 hv.2 y1 y2 e1
            rw [if_neg (show ¬ f = -1 by omega)] at e
            exact kF f pl e (by omega) _ f18 f19 (jF_tr uF wF)
          · show wp PP _ _ _ _ [] _ _
            refine x_fall ?_
            refine r_tail (p := p2) (N := N) (by omega) hb x1 xx.2 (fun y y3 y4 y5 => ?_) (fun y y3 y4 y5 y6 => ?_)
            · have e := lS_law (D := D) (T := T) (S := S) (E := E) (L := L) (N := N) hv.1 hv.2 y1 y2 (e1 y)
              rw [if_pos rfl] at e
              exact kS _ _ _ _ _ _ _ e (tkE_R (B := B) (n := n) (p := p2) xx.2 (by omega) (by omega)).2 y3 y4 (jF_tr uF (jF_tr x2 y5))
            · obtain ⟨K3, e2⟩ := e2 y
              have e := lS_law (D := D) (T := T) (S := S) (E := E) (L := L) (N := N) hv.1 hv.2 y1 y2 e2
              rw [if_neg (show ¬ (1 : Int) = -1 by decide)] at e
              exact kF 1 _ e (by decide) y3 y4 y5 (jF_tr uF (jF_tr x2 y6))
    · refine x_fall ?_
      refine x_aload rfl ?_
      refine x_ci ?_
      refine n_call [vR _, vI _] [] (by omega) (Nat.le_of_ble_eq_true rfl) rfl rfl (Nat.le_of_ble_eq_true rfl) ?_
      refine r_wrong hR.1.2.2 hR.1.2.1.2.1 ?_
      show wp PP _ _ _ [some (vR _), _, _] [] _ _
      refine x_ret ?_
      exact kF 1 _ (lS_1 hk0 (by omega)) (by decide) _ (by rw [up_i (by decide), up_e]) up_e (jF_up (jF_up jF_rfl (by omega)) (by omega))
end TXT2
