/-! TEXT: the reference's lines: numbers, names, what is told -/
section TXO
variable {d : Nat} {h0 h : pheap} {s tqq uqq : St} {Q : Option pv → pheap → Prop} {B : Int → Int} {n p q N : Nat} {sz : Int} {k vqq : Int} {D : Nat × (Int → Int)} {T : Nat × (Int → Int) × (Int → Int)} {S E : Int × Int} {K : KS} {L : (Int → Int) × (Int → Int)} {X : TS}
theorem ft_shr {a m : Nat} (ha : a < 524288) (hm : m < 19) : 0 ≤ i_and (i_shr (a : Int) (m : Int)) 1 ∧ i_and (i_shr (a : Int) (m : Int)) 1 ≤ 1 ∧ (i_and (i_shr (a : Int) (m : Int)) 1 = 1 ↔ a.testBit m = true) := by
  rw [ishr_k ⟨by omega, by omega⟩ (by omega)]
  have e : (a : Int) / 2 ^ m = ((a / 2 ^ m : Nat) : Int) := by rw [Int.natCast_ediv]; rfl
  have le : a / 2 ^ m ≤ a := Nat.div_le_self _ _
  rw [e, show (1 : Int) = ((1 : Nat) : Int) from rfl, iand_nn (by omega) (by decide)]
  have e2 : Nat.land (a / 2 ^ m) 1 = a / 2 ^ m % 2 := Nat.and_one_is_mod _
  rw [e2, Nat.testBit_eq_decide_div_mod_eq]
  have := Nat.mod_lt (a / 2 ^ m) (show 0 < 2 by decide)
  refine ⟨by omega, by omega, ?_⟩
  rw [decide_eq_true_eq]
  omega
theorem ft_or {a m : Nat} (ha : a < 524288) (hm : m < 19) : i_or (a : Int) (i_shl 1 (m : Int)) = ((a ||| 2 ^ m : Nat) : Int) ∧ a ||| 2 ^ m < 524288 := by
  have e : i_shl 1 (m : Int) = ((2 ^ m : Nat) : Int) := shl_one_f ⟨m, by omega⟩
  have l : 2 ^ m < 2 ^ 19 := Nat.pow_lt_pow_right (by decide) hm
  rw [e, i_or_nat (by omega) (by omega)]
  exact ⟨rfl, Nat.or_lt_two_pow (n := 19) ha l⟩
theorem ft_bit {a m j : Nat} : (a ||| 2 ^ m).testBit j = true ↔ a.testBit j = true ∨ m = j := by
  rw [Nat.testBit_or, Nat.testBit_two_pow, Bool.or_eq_true, decide_eq_true_eq]
/-- what is told, as bits: slip, seed, laws -/
def TLD (a : Nat) (S E : Int × Int) (L : (Int → Int) × (Int → Int)) : Prop := a < 524288 ∧ (a.testBit 3 = true ↔ S.1 = 1) ∧ (a.testBit 4 = true ↔ E.1 = 1) ∧ ∀ r : Nat, r < 3 → (a.testBit (16 + r) = true ↔ L.1 r < L.2 r)
def TSR (D : Nat × (Int → Int)) (T : Nat × (Int → Int) × (Int → Int)) (S E : Int × Int) (K : KS) (L : (Int → Int) × (Int → Int)) (s : St) : Prop := (s 96 5 = D.1 ∧ ∀ i : Int, 0 ≤ i → i < D.1 → s 97 (6 + i) = D.2 i) ∧ (s 96 6 = T.1 ∧ ∀ i : Int, 0 ≤ i → i < T.1 → s 98 (24 + i) = T.2.1 i ∧ s 99 (24 + i) = T.2.2 i) ∧ (s 96 7 = S.2 ∧ s 96 8 = E.2) ∧ RK K s ∧ (∀ r : Int, 0 ≤ r → r < 3 → s 100 (3 + r) = L.1 r ∧ s 101 (3 + r) = L.2 r) ∧ ∃ a : Nat, s 94 11 = a ∧ TLD a S E L
theorem TSR.of (h : TSR D T S E K L s) (g : ∀ (b : Nat) (r : Int), (b = 94 ∧ r = 11) ∨ (96 ≤ b ∧ b ≤ 103) → tqq b r = s b r) : TSR D T S E K L tqq := by
  obtain ⟨⟨a1, a2⟩, ⟨b1, b2⟩, ⟨c1, c2⟩, d1, e, x, f1, f2⟩ := h
  refine ⟨⟨(g 96 5 (by omega)).trans a1, fun i i0 i1 => (g 97 _ (by omega)).trans (a2 i i0 i1)⟩, ⟨(g 96 6 (by omega)).trans b1, fun i i0 i1 => ⟨(g 98 _ (by omega)).trans (b2 i i0 i1).1, (g 99 _ (by omega)).trans (b2 i i0 i1).2⟩⟩, ⟨(g 96 7 (by omega)).trans c1, (g 96 8 (by omega)).trans c2⟩, d1.of (fun b r q => g b r (by omega)), fun r r0 r1 => ⟨(g 100 _ (by omega)).trans (e r r0 r1).1, (g 101 _ (by omega)).trans (e r r0 r1).2⟩, x, (g 94 11 (by omega)).trans f1, f2⟩
/-- no fault, the token behind p is read -/
def RQ (B : Int → Int) (n p : Nat) (s : St) : Prop := RBR B n s ∧ TKN (tkK B n p) (tkV B n p) (tkP B n p) (tkE B n p) s ∧ s 94 18 = 0
theorem RQ.of (h : RQ B n p s) (g : ∀ (b : Nat) (r : Int), (b = 94 ∧ 13 ≤ r ∧ r ≤ 18) ∨ b = 95 → tqq b r = s b r) : RQ B n p tqq := by
  obtain ⟨h1, h2, h3⟩ := h
  refine ⟨h1.of (g _ _ (by omega)) (fun r => g _ _ (by omega)), ?_, (g _ _ (by omega)).trans h3⟩
  unfold TKN at h2 ⊢
  rw [g 94 14 (by omega), g 94 15 (by omega), g 94 16 (by omega), g 94 17 (by omega)]
  exact h2
theorem RQ.tk (h : RQ B n p s) (h1 : TKN (tkK B n q) (tkV B n q) (tkP B n q) (tkE B n q) tqq) (h2 : rtF s tqq) : RQ B n q tqq := ⟨h.1.f h2, h1, (h2 94 18 (by omega)).trans h.2.2⟩
theorem f_numeral {x y : Int} (hf : iR (s 94 18) ∧ s 94 18 ≠ 0) (k1 : Q (some (vI x)) (HP h0 s)) : wpM PP d 71 [vR 94, vI x, vI y] (HP h0 s) Q := by
  refine n_at (m := 71) (q := mr71) (kn := (0, 3)) [some (vR _), some (vI _), some (vI _), none] mb71 rfl rfl (h_rcv sc_94) (Nat.le_of_ble_eq_true rfl) rfl rfl ?_
  refine x_aload rfl ?_
  refine h_getI 18 sc_94 rfl rfl ?_
  refine n_if_eq ⟨by omega, by omega⟩ (fun c1 => ?_) (fun c1 => ?_)
  · exfalso
    omega
  · refine x_iload rfl ?_
    refine x_iret ?_
    exact k1
theorem f_fresh {x y : Int} (hf : iR (s 94 18) ∧ s 94 18 ≠ 0) (k1 : Q (some (vI 0)) (HP h0 s)) : wpM PP d 73 [vR 94, vR 97, vI x, vI y] (HP h0 s) Q := by
  refine n_at (m := 73) (q := mr73) (kn := (0, 4)) [some (vR _), some (vR _), some (vI _), some (vI _), none] mb73 rfl rfl (h_rcv sc_94) (Nat.le_of_ble_eq_true rfl) rfl rfl ?_
  refine x_aload rfl ?_
  refine h_getI 18 sc_94 rfl rfl ?_
  refine n_if_eq ⟨by omega, by omega⟩ (fun c1 => ?_) (fun c1 => ?_)
  · exfalso
    omega
  · refine x_ci ?_
    refine x_iret ?_
    exact k1
theorem r_numeral {most : Int} (hd : 14 ≤ d) (hb : bOk B n) (hE : RQ B n p s) (hp : tkE B n p ≤ n ∨ tkK B n p ≠ 2) (hm : 0 ≤ most ∧ most < 100000) (kS : tkK B n p = 2 → tkV B n p ≤ most → ∀ tqq, RQ B n (tkE B n p) tqq → rtF s tqq → Q (some (vI (tkV B n p))) (HP h0 tqq)) (kF : ∀ f : Int, (f = 1 ∧ ¬ tkK B n p = 2) ∨ (f = 2 ∧ tkK B n p = 2 ∧ most < tkV B n p) → Q (some (vI 0)) (HP h0 (up (up s 94 18 f) 94 19 ((tkP B n p : Nat) : Int)))) : wpM PP d 71 [vR 94, vI 0, vI most] (HP h0 s) Q := by
  have tr := tkR_is (B := B) (n := n) (p := p) hb
  have ts := TKN_s hE.2.1 tr
  refine n_at (m := 71) (q := mr71) (kn := (0, 3)) [some (vR _), some (vI _), some (vI _), none] mb71 rfl rfl (h_rcv sc_94) (Nat.le_of_ble_eq_true rfl) rfl rfl ?_
  refine x_aload rfl ?_
  refine h_getI 18 sc_94 rfl rfl ?_
  rw [hE.2.2]
  refine n_if_eq ⟨by omega, by omega⟩ (fun c1 => ?_) (fun c1 => ?_)
  · refine x_aload rfl ?_
    refine h_getI 16 sc_94 rfl rfl ?_
    refine x_ci ?_
    refine n_icmp_eq ⟨by omega, by omega⟩ ⟨by omega, by omega⟩ (fun c2 => ?_) (fun c2 => ?_)
    · have k2 : tkK B n p = 2 := by omega
      have nm := (hE.2.1.2.2.2.2.1 k2).2
      have vr := tr.2.2.1 k2
      have nmR : 0 ≤ s 94 17 ∧ s 94 17 ≤ 1000000 ∧ (s 94 17 ≤ most ↔ tkV B n p ≤ most) ∧ (tkV B n p < 100000 → s 94 17 = tkV B n p) := by
        unfold nmOk at nm
        omega
      refine x_aload rfl ?_
      refine h_getI 17 sc_94 rfl rfl ?_
      refine x_iload rfl ?_
      refine n_icmp_lt ⟨by omega, by omega⟩ ⟨by omega, by omega⟩ (fun c3 => ?_) (fun c3 => ?_)
      · refine x_aload rfl ?_
        refine x_ci ?_
        refine n_call [vR _, vI _] [] (by omega) (Nat.le_of_ble_eq_true rfl) rfl rfl (Nat.le_of_ble_eq_true rfl) ?_
        refine r_wrong hE.2.2 hE.2.1.2.1 ?_
        show wp PP _ _ _ [some (vR _), some (vI _), some (vI _), _] [] _ _
        refine x_fall ?_
        have f18 : up (up s 94 18 2) 94 19 ((tkP B n p : Nat) : Int) 94 18 = 2 := by rw [up_i (by decide), up_e]
        refine x_aload rfl ?_
        refine h_getI 18 sc_94 rfl rfl ?_
        rw [f18]
        refine n_if_eq ⟨by omega, by omega⟩ (fun c1 => ?_) (fun c1 => ?_)
        · exfalso
          omega
        · refine x_iload rfl ?_
          refine x_iret ?_
          exact kF 2 (Or.inr ⟨rfl, k2, by omega⟩)
      · refine x_aload rfl ?_
        refine h_getI 17 sc_94 rfl rfl ?_
        refine x_iload rfl ?_
        refine n_icmp_le ⟨by omega, by omega⟩ ⟨by omega, by omega⟩ (fun c4 => ?_) (fun c4 => ?_)
        · refine x_aload rfl ?_
          refine h_getI 18 sc_94 rfl rfl ?_
          rw [hE.2.2]
          refine n_if_eq ⟨by omega, by omega⟩ (fun c1 => ?_) (fun c1 => ?_)
          · refine x_aload rfl ?_
            refine h_getI 17 sc_94 rfl rfl ?_
            rw [nmR.2.2.2 (by omega)]
            refine n_istore [some (vR _), some (vI _), some (vI _), some (vI _)] (Nat.le_of_ble_eq_true rfl) rfl ?_
            refine x_aload rfl ?_
            refine n_call [vR _] [] (by omega) (Nat.le_of_ble_eq_true rfl) rfl rfl (Nat.le_of_ble_eq_true rfl) ?_
            refine r_token (p := tkE B n p) (by omega) hE.1 hb hE.2.1.1 (by omega) (fun uqq u1qq u2qq => ?_)
            show wp PP _ _ _ [some (vR _), some (vI _), some (vI _), some (vI _)] [] _ _
            refine x_iload rfl ?_
            refine x_iret ?_
            first
              | (exfalso; omega)
              | exact kS k2 (by omega) uqq (hE.tk u1qq u2qq) u2qq
          · refine x_iload rfl ?_
            refine x_iret ?_
            first
              | (exfalso; omega)
              | exact kS k2 (by omega) uqq (hE.tk u1qq u2qq) u2qq
        · refine x_fall ?_
          refine x_aload rfl ?_
          refine x_ci ?_
          refine n_call [vR _, vI _] [] (by omega) (Nat.le_of_ble_eq_true rfl) rfl rfl (Nat.le_of_ble_eq_true rfl) ?_
          refine r_wrong hE.2.2 hE.2.1.2.1 ?_
          show wp PP _ _ _ [some (vR _), some (vI _), some (vI _), _] [] _ _
          refine x_fall ?_
          have f18 : up (up s 94 18 2) 94 19 ((tkP B n p : Nat) : Int) 94 18 = 2 := by rw [up_i (by decide), up_e]
          refine x_aload rfl ?_
          refine h_getI 18 sc_94 rfl rfl ?_
          rw [f18]
          refine n_if_eq ⟨by omega, by omega⟩ (fun c1 => ?_) (fun c1 => ?_)
          · exfalso
            omega
          · refine x_iload rfl ?_
            refine x_iret ?_
            exact kF 2 (Or.inr ⟨rfl, k2, by omega⟩)
    · refine x_aload rfl ?_
      refine x_ci ?_
      refine n_call [vR _, vI _] [] (by omega) (Nat.le_of_ble_eq_true rfl) rfl rfl (Nat.le_of_ble_eq_true rfl) ?_
      refine r_wrong hE.2.2 hE.2.1.2.1 ?_
      show wp PP _ _ _ [some (vR _), some (vI _), some (vI _), _] [] _ _
      refine x_goto ?_
      have f18 : up (up s 94 18 1) 94 19 ((tkP B n p : Nat) : Int) 94 18 = 1 := by rw [up_i (by decide), up_e]
      refine x_aload rfl ?_
      refine h_getI 18 sc_94 rfl rfl ?_
      rw [f18]
      refine n_if_eq ⟨by omega, by omega⟩ (fun c1 => ?_) (fun c1 => ?_)
      · exfalso
        omega
      · refine x_iload rfl ?_
        refine x_iret ?_
        exact kF 1 (Or.inl ⟨rfl, fun zqq => by omega⟩)
  · refine x_iload rfl ?_
    refine x_iret ?_
    exfalso
    omega
end TXO
