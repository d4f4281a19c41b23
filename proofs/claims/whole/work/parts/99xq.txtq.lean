/-! TEXT: the reference's lines: a law -/
section TXQ
variable {d : Nat} {h0 h : pheap} {s tqq uqq : St} {Q : Option pv → pheap → Prop} {B : Int → Int} {n p q N : Nat} {sz : Int} {k vqq : Int} {D : Nat × (Int → Int)} {T : Nat × (Int → Int) × (Int → Int)} {S E : Int × Int} {K : KS} {L : (Int → Int) × (Int → Int)} {X : TS}
theorem TSR.law {K2 : KS} {r a : Nat} (h : TSR D T S E K L s) (hr : r < 3) (hK : K.1 < K2.1) (h1 : ∀ (b : Nat) (i : Int), (b = 96 ∧ 5 ≤ i ∧ i < 9) ∨ (97 ≤ b ∧ b ≤ 99) ∨ (b = 101 ∨ (b = 100 ∧ i ≠ 3 + r)) → tqq b i = s b i) (h2 : tqq 100 (3 + r) = K.1) (h3 : RK K2 tqq) (h4 : tqq 94 11 = ((a ||| 2 ^ (16 + r) : Nat) : Int)) (ha : TLD a S E L) {x : Int} (hx : x = K2.1) : TSR D T S E K2 (updF L.1 r K.1, updF L.2 r K2.1) (up tqq 101 (3 + r) x) := by
  obtain ⟨⟨a1, a2⟩, ⟨b1, b2⟩, ⟨c1, c2⟩, d1, e, _⟩ := h
  subst hx
  refine ⟨⟨by rw [up_a (by decide), h1 _ _ (by omega)]; exact a1, fun i i0 i1 => by rw [up_a (by decide), h1 _ _ (by omega)]; exact a2 i i0 i1⟩, ⟨by rw [up_a (by decide), h1 _ _ (by omega)]; exact b1, fun i i0 i1 => by rw [up_a (by decide), up_a (by decide), h1 _ _ (by omega), h1 _ _ (by omega)]; exact b2 i i0 i1⟩, ⟨by rw [up_a (by decide), h1 _ _ (by omega)]; exact c1, by rw [up_a (by decide), h1 _ _ (by omega)]; exact c2⟩, h3.of (fun b i q => up_a (by omega)), fun i i0 i1 => ?_, a ||| 2 ^ (16 + r), by rw [up_a (by decide)]; exact h4, TLD_law ha hr hK⟩
  show _ = updF L.1 r K.1 i ∧ _ = updF L.2 r K2.1 i
  unfold updF
  rw [up_a (b := 100) (by decide)]
  by_cases zqq : i = r
  · rw [if_pos zqq, if_pos zqq, zqq, up_e]
    exact ⟨h2, rfl⟩
  · rw [if_neg zqq, if_neg zqq, up_i (by omega), h1 _ _ (by omega), h1 _ _ (by omega)]
    exact e i i0 i1
/-- behind an E: its end, or a fault there -/
theorem E_end {p0 p2 : Nat} {V : List Int} {K2 : KS} (hb : bOk B n) (e1 : ∀ r, eEnd B n p2 2 (V ++ []) K2 r → eEnd B n p0 0 [] K r) (e2 : ∀ x, x ∈ V → x ≠ 13 ∧ 1 ≤ clo x) (e3 : iE K.1 K 2 (V ++ []) K2) (e5 : LA B n 1 p2 (V ++ []) K2) : iE K.1 K 2 [] (pps V K2) ∧ (tkK B n p2 = 5 ∧ tkV B n p2 = 15 → eEnd B n p0 0 [] K (-1, tkE B n p2, pps V K2)) ∧ (¬ (tkK B n p2 = 5 ∧ tkV B n p2 = 15) → ∃ K3, eEnd B n p0 0 [] K (1, tkP B n p2, K3)) := by
  have st0 : stl 0 (V ++ []) K2 = ([], pps V K2) := by
    rw [stl_pps 0 (fun x hx => ⟨(e2 x hx).1, by have := (e2 x hx).2; omega⟩)]
    rfl
  have op2 := (tot_pps (W := []) (K := K2) (fun x hx => (e2 x hx).1)).2
  have op0 : opn (V ++ []) = 0 := op2
  have so := stl_ok 0 e3
  rw [st0] at so
  refine ⟨so.1, fun y => ?_, fun y => ?_⟩
  · have en := e1 _ (eEnd_stop (eO_0 (K := K2) ⟨op0, y⟩) (by decide))
    rw [if_pos rfl, st0] at en
    exact en
  · have tr2 := tkR_is (B := B) (n := n) (p := p2) hb
    have es2 : ∃ m2 W2 K3, eStep (tkK B n p2) (tkV B n p2) 2 (V ++ []) K2 = (1, m2, W2, K3) := by
      by_cases cm : tkK B n p2 = 5 ∧ 3 ≤ tkV B n p2 ∧ tkV B n p2 ≤ 8
      · have j5 : jsg (tkK B n p2) (tkV B n p2) = tkV B n p2 := by rw [cm.1]; exact jsg_5 (by omega)
        have cg : clo (tkV B n p2) = 4 := by
          have gc : tkV B n p2 = 3 ∨ tkV B n p2 = 4 ∨ tkV B n p2 = 5 ∨ tkV B n p2 = 6 ∨ tkV B n p2 = 7 ∨ tkV B n p2 = 8 := by omega
          rcases gc with zqq | zqq | zqq | zqq | zqq | zqq <;> rw [zqq] <;> decide
        exact ⟨_, _, _, eO_3 (by omega) ⟨by rw [j5]; exact cg, e5.2.2.1 (by omega) cm⟩⟩
      · have a1 := e5.1 (by omega)
        have a2 := e5.2.1 (by omega)
        have a4 := e5.2.2.2.1 (by omega)
        have a5 := e5.2.2.2.2 (by omega)
        have v5qq := tr2.2.2.2.2.2
        refine ⟨_, _, _, eO_2 (fun zqq => y zqq.2) (fun zqq => by omega) ?_⟩
        unfold jsg
        rw [if_neg (by omega), if_neg (by omega)]
    obtain ⟨m2, W2, K3, es2⟩ := es2
    have en := e1 _ (eEnd_stop es2 (by decide))
    rw [if_neg (show ¬ (1 : Int) = -1 by decide)] at en
    exact ⟨K3, en⟩
theorem r_lawLine (hd : 154 ≤ d) (hb : bOk B n) (hE : RQ B n q s) (hT : TSR D T S E K L s) (hq : q ≤ n) (h12 : s 94 12 = N) (h22 : s 94 22 = 0) (h23 : s 94 23 = K.1) (h19 : s 94 19 = -1) (hK64 : K.1 ≤ 64) (kF : ∀ f : Int, (f = 1 ∧ ¬ (tkK B n q = 4 ∧ 6 ≤ tkV B n q ∧ tkV B n q ≤ 8)) ∨ (f = 3 ∧ (tkK B n q = 4 ∧ 6 ≤ tkV B n q ∧ tkV B n q ≤ 8) ∧ L.1 (tkV B n q - 6) < L.2 (tkV B n q - 6)) → Q none (HP h0 (up (up s 94 18 f) 94 19 ((tkP B n q : Nat) : Int)))) (kE : (tkK B n q = 4 ∧ 6 ≤ tkV B n q ∧ tkV B n q ≤ 8) → ¬ L.1 (tkV B n q - 6) < L.2 (tkV B n q - 6) → ∀ (f : Int) (pl : Nat) (K2 : KS), f = 1 ∨ f = 2 → eEnd B n (tkE B n q) 0 [] K (f, pl, K2) → ∀ tqq, tqq 94 18 = f → tqq 94 19 = (pl : Int) → jF s tqq → Q none (HP h0 tqq)) (kS : (tkK B n q = 4 ∧ 6 ≤ tkV B n q ∧ tkV B n q ≤ 8) → ¬ L.1 (tkV B n q - 6) < L.2 (tkV B n q - 6) → ∀ (p2 : Nat) (K2 : KS) (tqq : St), (tkK B n p2 = 5 ∧ tkV B n p2 = 15 → eEnd B n (tkE B n q) 0 [] K (-1, tkE B n p2, K2)) → (¬ (tkK B n p2 = 5 ∧ tkV B n p2 = 15) → ∃ K3, eEnd B n (tkE B n q) 0 [] K (1, tkP B n p2, K3)) → iE K.1 K 2 [] K2 → q < p2 ∧ p2 ≤ n → RLN B n p2 D T S E K2 (updF L.1 (tkV B n q - 6) K.1, updF L.2 (tkV B n q - 6) K2.1) N tqq → jF s tqq → Q none (HP h0 tqq)) : wpM PP d 78 [vR 94] (HP h0 s) Q := by
  have tr := tkR_is (B := B) (n := n) (p := q) hb
  have ts := TKN_s hE.2.1 tr
  refine n_at (m := 78) (q := mr78) (kn := (0, 1)) [some (vR _), none] mb78 rfl rfl (h_rcv sc_94) (Nat.le_of_ble_eq_true rfl) rfl rfl ?_
  refine x_aload rfl ?_
  refine h_getI 16 sc_94 rfl rfl ?_
  refine n_if_ne ⟨by omega, by omega⟩ (fun c1 => ?_) (fun c1 => ?_)
  · refine x_aload rfl ?_
    refine x_ci ?_
    refine n_call [vR _, vI _] [] (by omega) (Nat.le_of_ble_eq_true rfl) rfl rfl (Nat.le_of_ble_eq_true rfl) ?_
    refine r_wrong hE.2.2 hE.2.1.2.1 ?_
    show wp PP _ _ _ [some (vR _), _] [] _ _
    refine x_fall ?_
    have f18 : up (up s 94 18 1) 94 19 ((tkP B n q : Nat) : Int) 94 18 = 1 := by rw [up_i (by decide), up_e]
    refine x_aload rfl ?_
    refine h_getI 17 sc_94 rfl rfl ?_
    refine x_ci ?_
    refine x_isub ?_
    refine n_istore [some (vR _), some (vI _)] (Nat.le_of_ble_eq_true rfl) rfl ?_
    refine x_aload rfl ?_
    refine h_getI 18 sc_94 rfl rfl ?_
    rw [f18]
    refine n_if_ne ⟨by omega, by omega⟩ (fun _ => ?_) (fun c9 => by exfalso; omega)
    refine x_aload rfl ?_
    refine h_getI 18 sc_94 rfl rfl ?_
    rw [f18]
    refine n_if_eq ⟨by omega, by omega⟩ (fun c9 => by exfalso; omega) (fun _ => ?_)
    refine x_ret ?_
    exact kF 1 (Or.inl ⟨rfl, fun zqq => by omega⟩)
  · refine x_aload rfl ?_
    refine h_getI 17 sc_94 rfl rfl ?_
    refine x_ci ?_
    refine n_icmp_lt ⟨by omega, by omega⟩ ⟨by omega, by omega⟩ (fun c2 => ?_) (fun c2 => ?_)
    · refine x_aload rfl ?_
      refine x_ci ?_
      refine n_call [vR _, vI _] [] (by omega) (Nat.le_of_ble_eq_true rfl) rfl rfl (Nat.le_of_ble_eq_true rfl) ?_
      refine r_wrong hE.2.2 hE.2.1.2.1 ?_
      show wp PP _ _ _ [some (vR _), _] [] _ _
      refine x_fall ?_
      have f18 : up (up s 94 18 1) 94 19 ((tkP B n q : Nat) : Int) 94 18 = 1 := by rw [up_i (by decide), up_e]
      refine x_aload rfl ?_
      refine h_getI 17 sc_94 rfl rfl ?_
      refine x_ci ?_
      refine x_isub ?_
      refine n_istore [some (vR _), some (vI _)] (Nat.le_of_ble_eq_true rfl) rfl ?_
      refine x_aload rfl ?_
      refine h_getI 18 sc_94 rfl rfl ?_
      rw [f18]
      refine n_if_ne ⟨by omega, by omega⟩ (fun _ => ?_) (fun c9 => by exfalso; omega)
      refine x_aload rfl ?_
      refine h_getI 18 sc_94 rfl rfl ?_
      rw [f18]
      refine n_if_eq ⟨by omega, by omega⟩ (fun c9 => by exfalso; omega) (fun _ => ?_)
      refine x_ret ?_
      exact kF 1 (Or.inl ⟨rfl, fun zqq => by omega⟩)
    · refine x_aload rfl ?_
      refine h_getI 17 sc_94 rfl rfl ?_
      refine x_ci ?_
      refine n_icmp_le ⟨by omega, by omega⟩ ⟨by omega, by omega⟩ (fun c3 => ?_) (fun c3 => ?_)
      · have c1 : (tkK B n q = 4 ∧ 6 ≤ tkV B n q ∧ tkV B n q ≤ 8) := by omega
        obtain ⟨r, hrv⟩ : ∃ r : Nat, tkV B n q - 6 = r := ⟨(tkV B n q - 6).toNat, by omega⟩
        have hr3 : r < 3 := by omega
        have v17 := (hE.2.1.2.2.2.2.2.2.1 c1.1).2
        obtain ⟨a, hA11, hA⟩ := hT.2.2.2.2.2
        have fs := ft_shr hA.1 (show 16 + r < 19 by omega)
        have fb := hA.2.2.2 r hr3
        have tq := tkE_R (B := B) (n := n) (p := q) hq (by omega) (by omega)
        refine x_aload rfl ?_
        refine h_getI 17 sc_94 rfl rfl ?_
        rw [v17]
        refine x_ci ?_
        refine x_isub ?_
        refine t_I (r : Int) (by omega) ?_
        refine n_istore [some (vR _), some (vI _)] (Nat.le_of_ble_eq_true rfl) rfl ?_
        refine x_aload rfl ?_
        refine h_getI 18 sc_94 rfl rfl ?_
        rw [hE.2.2]
        refine n_if_ne ⟨by omega, by omega⟩ (fun c9 => by exfalso; omega) (fun _ => ?_)
        refine x_aload rfl ?_
        refine h_getI 11 sc_94 rfl rfl ?_
        rw [hA11]
        refine x_ci ?_
        refine x_iload rfl ?_
        refine x_iadd ?_
        refine t_I ((16 + r : Nat) : Int) (by omega) ?_
        refine x_ishr ?_
        refine x_ci ?_
        refine x_iand ?_
        refine x_ci ?_
        refine n_icmp_ne ⟨by omega, by omega⟩ ⟨by omega, by omega⟩ (fun c4 => ?_) (fun c4 => ?_)
        · have c2 : ¬ L.1 (tkV B n q - 6) < L.2 (tkV B n q - 6) := fun zqq => by
            rw [hrv] at zqq
            have := fs.2.2.mpr (fb.mpr zqq)
            omega
          refine x_aload rfl ?_
          refine h_getI 18 sc_94 rfl rfl ?_
          rw [hE.2.2]
          refine n_if_eq ⟨by omega, by omega⟩ (fun _ => ?_) (fun c9 => by exfalso; omega)
          refine x_aload rfl ?_
          refine x_dupR ?_
          refine h_getI 11 sc_94 rfl rfl ?_
          rw [hA11]
          refine x_ci ?_
          refine x_ci ?_
          refine x_iload rfl ?_
          refine x_iadd ?_
          refine t_I ((16 + r : Nat) : Int) (by omega) ?_
          refine x_ishl ?_
          refine x_ior ?_
          rw [(ft_or hA.1 (by omega)).1]
          refine h_putI 11 sc_94 rfl rfl ?_
          refine x_aload rfl ?_
          refine n_call [vR _] [] (by omega) (Nat.le_of_ble_eq_true rfl) rfl rfl (Nat.le_of_ble_eq_true rfl) ?_
          refine r_token (p := tkE B n q) (by omega) (hE.1.of (up_i (by decide)) (fun r => up_a (by decide))) hb ((up_i (by decide)).trans hE.2.1.1) tq.2 (fun uqq u1qq u2qq => ?_)
          have uF : jF s uqq := jF_tr (jF_up jF_rfl (by omega)) u2qq.j
          have u9qq : uqq 96 9 = K.1 := by
            rw [u2qq 96 9 (by omega), up_a (by decide)]
            exact hT.2.2.2.1.1
          show wp PP _ _ _ [some (vR _), some (vI _)] [] _ _
          refine x_aload rfl ?_
          refine h_getR sc_94 rfl (by omega) ?_
          refine x_ci ?_
          refine x_iload rfl ?_
          refine x_iadd ?_
          refine x_aload rfl ?_
          refine x_ci ?_
          refine n_call [vR _, vI _] [vI _, vR _] (by omega) (Nat.le_of_ble_eq_true rfl) rfl rfl (Nat.le_of_ble_eq_true rfl) ?_
          refine r_fresher (by omega) ?_
          show wp PP _ _ _ [some (vR _), some (vI _)] [vI _, vI _, vR _] _ _
          rw [show (5 : Int) + 4 = 9 from rfl, u9qq]
          refine h_iast sc_100 ⟨by omega, by omega⟩ (by decide) ?_
          refine x_aload rfl ?_
          refine n_call [vR _] [] (by omega) (Nat.le_of_ble_eq_true rfl) rfl rfl (Nat.le_of_ble_eq_true rfl) ?_
          have gA : ∀ (b : Nat) (i : Int), ¬ (b = 94 ∧ 14 ≤ i ∧ i ≤ 17) → ¬ (b = 94 ∧ i = 11) → ¬ (b = 100 ∧ i = 3 + (r : Int)) → up uqq 100 (3 + (r : Int)) K.1 b i = s b i := fun b i y1 y2 y3 => by
            rw [up_f (by omega), u2qq b i y1, up_f (by omega)]
          have t0qq : tot [] K = K.1 := by
            unfold tot
            simp only [opn, List.length_nil]
            omega
          have hRE : RE B n (tkE B n q) [] K (up uqq 100 (3 + (r : Int)) K.1) := ⟨(hE.1.of (gA _ _ (by omega) (by omega) (by omega)) (fun i => gA _ _ (by omega) (by omega) (by omega))), by
            have u1qq := u1qq
            unfold TKN at u1qq ⊢
            rw [up_a (by decide), up_a (by decide), up_a (by decide), up_a (by decide)]
            exact u1qq, by rw [gA _ _ (by omega) (by omega) (by omega)]; exact hE.2.2, by rw [gA _ _ (by omega) (by omega) (by omega), t0qq]; exact h23, by rw [gA _ _ (by omega) (by omega) (by omega)]; exact h22, hT.2.2.2.1.of (fun b i y => gA b i (by omega) (by omega) (by omega))⟩
          have dd0 : dD [] K ≤ 128 := by
            unfold dD
            rw [t0qq]
            simp only [opn]
            omega
          refine (RFS_all hb (n - tkE B n q)).2.2.2.2.2 (Nat.le_refl _) (by omega) tq.2 hRE (iE_0 hK64) (by omega) (fun _ => rfl) (fun y => by omega) (fun x U e => by cases e) (fun p2 V K2 tqq e1 e2 e3 e4 e5 e6 e7 => ?_) (fun f pl K2 wqq hf12 e1 f18 f19 wF => ?_)
          · have ee := E_end hb e1 e2 e3 e5
            have kl := iE_law ee.1
            have t9qq : tqq 96 9 = (pps V K2).1 := e4.2.2.2.2.2.1
            have tA : ∀ (b : Nat) (i : Int), ¬ (b = 94 ∧ 14 ≤ i ∧ i ≤ 17) → ¬ (b = 94 ∧ i = 11) → ¬ (b = 100 ∧ i = 3 + (r : Int)) → ¬ (b = 94 ∧ 22 ≤ i ∧ i ≤ 23) → ¬ (b = 96 ∧ i = 9) → ¬ ((b = 102 ∨ b = 103) ∧ 64 ≤ i) → tqq b i = s b i := fun b i y1 y2 y3 y4 y5 y6 => (e7 b i y1 y4 y5 y6).trans (gA b i y1 y2 y3)
            have t2qq : tot [] (pps V K2) = (pps V K2).1 := by
              unfold tot
              simp only [opn, List.length_nil]
              omega
            show wp PP _ _ _ _ [] _ _
            refine x_aload rfl ?_
            refine h_getR sc_94 rfl (by omega) ?_
            refine x_ci ?_
            refine x_iload rfl ?_
            refine x_iadd ?_
            refine x_aload rfl ?_
            refine x_ci ?_
            refine n_call [vR _, vI _] [vI _, vR _] (by omega) (Nat.le_of_ble_eq_true rfl) rfl rfl (Nat.le_of_ble_eq_true rfl) ?_
            refine r_fresher (by omega) ?_
            show wp PP _ _ _ [some (vR _), some (vI _)] [vI _, vI _, vR _] _ _
            rw [show (5 : Int) + 4 = 9 from rfl, t9qq]
            refine h_iast sc_101 ⟨by omega, by omega⟩ (by decide) ?_
            refine x_ret ?_
            refine kS c1 c2 p2 (pps V K2) _ ee.2.1 ee.2.2 ee.1 ⟨by omega, by omega⟩ ⟨⟨e4.1.of (up_a (by decide)) (fun i => up_a (by decide)), ?_, (up_a (by decide)).trans e4.2.2.1⟩, ?_, ?_, ?_, ?_, ?_⟩ (jF_up (jF_tr (jF_up uF (by omega)) e7.j) (by omega))
            · have e42 := e4.2.1
              unfold TKN at e42 ⊢
              rw [up_a (by decide), up_a (by decide), up_a (by decide), up_a (by decide)]
              exact e42
            · rw [hrv]
              exact hT.law hr3 kl (fun b i y => tA b i (by omega) (by omega) (by omega) (by omega) (by omega) (by omega)) (by rw [e7 100 _ (by omega) (by omega) (by omega) (by omega), up_e]) e4.2.2.2.2.2 (by rw [e7 94 11 (by omega) (by omega) (by omega) (by omega), up_a (by decide), u2qq 94 11 (by omega), up_e]) hA rfl
            · rw [up_a (by decide), tA 94 12 (by omega) (by omega) (by omega) (by omega) (by omega) (by omega)]
              exact h12
            · rw [up_a (by decide), e4.2.2.2.2.1]
              rfl
            · rw [up_a (by decide), e4.2.2.2.1, t2qq]
            · rw [up_a (by decide), tA 94 19 (by omega) (by omega) (by omega) (by omega) (by omega) (by omega)]
              exact h19
          · have hf : iR (wqq 94 18) ∧ wqq 94 18 ≠ 0 := by rw [f18]; omega
            show wp PP _ _ _ _ [] _ _
            refine x_aload rfl ?_
            refine h_getR sc_94 rfl (by omega) ?_
            refine x_ci ?_
            refine x_iload rfl ?_
            refine x_iadd ?_
            refine x_aload rfl ?_
            refine x_ci ?_
            refine n_call [vR _, vI _] [vI _, vR _] (by omega) (Nat.le_of_ble_eq_true rfl) rfl rfl (Nat.le_of_ble_eq_true rfl) ?_
            refine r_fresher (by omega) ?_
            show wp PP _ _ _ [some (vR _), some (vI _)] [vI _, vI _, vR _] _ _
            refine h_iast sc_101 ⟨by omega, by omega⟩ (by decide) ?_
            refine x_ret ?_
            refine kE c1 c2 f pl K2 hf12 e1 _ ?_ ?_ (jF_up (jF_tr (jF_up uF (by omega)) wF.j) (by omega))
            · rw [up_a (by decide)]
              exact f18
            · rw [up_a (by decide)]
              exact f19
        · refine x_aload rfl ?_
          refine x_ci ?_
          refine n_call [vR _, vI _] [] (by omega) (Nat.le_of_ble_eq_true rfl) rfl rfl (Nat.le_of_ble_eq_true rfl) ?_
          refine r_wrong hE.2.2 hE.2.1.2.1 ?_
          show wp PP _ _ _ [some (vR _), some (vI _)] [] _ _
          refine x_fall ?_
          have tb := fb.mp (fs.2.2.mp (by omega))
          have f18 : up (up s 94 18 3) 94 19 ((tkP B n q : Nat) : Int) 94 18 = 3 := by rw [up_i (by decide), up_e]
          refine x_aload rfl ?_
          refine h_getI 18 sc_94 rfl rfl ?_
          rw [f18]
          refine n_if_eq ⟨by omega, by omega⟩ (fun c9 => by exfalso; omega) (fun _ => ?_)
          refine x_ret ?_
          exact kF 3 (Or.inr ⟨rfl, c1, by rw [hrv]; exact tb⟩)
      · refine x_fall ?_
        refine x_aload rfl ?_
        refine x_ci ?_
        refine n_call [vR _, vI _] [] (by omega) (Nat.le_of_ble_eq_true rfl) rfl rfl (Nat.le_of_ble_eq_true rfl) ?_
        refine r_wrong hE.2.2 hE.2.1.2.1 ?_
        show wp PP _ _ _ [some (vR _), _] [] _ _
        refine x_fall ?_
        have f18 : up (up s 94 18 1) 94 19 ((tkP B n q : Nat) : Int) 94 18 = 1 := by rw [up_i (by decide), up_e]
        refine x_aload rfl ?_
        refine h_getI 17 sc_94 rfl rfl ?_
        refine x_ci ?_
        refine x_isub ?_
        refine n_istore [some (vR _), some (vI _)] (Nat.le_of_ble_eq_true rfl) rfl ?_
        refine x_aload rfl ?_
        refine h_getI 18 sc_94 rfl rfl ?_
        rw [f18]
        refine n_if_ne ⟨by omega, by omega⟩ (fun _ => ?_) (fun c9 => by exfalso; omega)
        refine x_aload rfl ?_
        refine h_getI 18 sc_94 rfl rfl ?_
        rw [f18]
        refine n_if_eq ⟨by omega, by omega⟩ (fun c9 => by exfalso; omega) (fun _ => ?_)
        refine x_ret ?_
        exact kF 1 (Or.inl ⟨rfl, fun zqq => by omega⟩)
end TXQ
