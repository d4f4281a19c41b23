/-! TEXT: the reference's lines: a new name; what is full; a law -/
section TXP
variable {d : Nat} {h0 h : pheap} {s tqq uqq : St} {Q : Option pv → pheap → Prop} {B : Int → Int} {n p q N : Nat} {sz : Int} {k vqq : Int} {D : Nat × (Int → Int)} {T : Nat × (Int → Int) × (Int → Int)} {S E : Int × Int} {K : KS} {L : (Int → Int) × (Int → Int)} {X : TS}
/-- what a line changes -/
def jF (s tqq : St) : Prop := ∀ (b : Nat) (r : Int), ¬ (b = 94 ∧ 11 ≤ r ∧ r ≤ 12) → ¬ (b = 94 ∧ 14 ≤ r ∧ r ≤ 19) → ¬ (b = 94 ∧ 22 ≤ r ∧ r ≤ 23) → ¬ (b = 96 ∧ 5 ≤ r) → ¬ (b = 97 ∧ 6 ≤ r) → ¬ ((b = 98 ∨ b = 99) ∧ 24 ≤ r) → ¬ ((b = 100 ∨ b = 101) ∧ 3 ≤ r) → ¬ ((b = 102 ∨ b = 103) ∧ 64 ≤ r) → tqq b r = s b r
theorem jF_rfl : jF s s := fun _ _ _ _ _ _ _ _ _ _ => rfl
theorem jF_tr (h : jF s tqq) (g : jF tqq uqq) : jF s uqq := fun b r q1 q2 q3 q4 q5 q6 q7 q8 => (g b r q1 q2 q3 q4 q5 q6 q7 q8).trans (h b r q1 q2 q3 q4 q5 q6 q7 q8)
theorem jF_up {b : Nat} {i x : Int} (h : jF s tqq) (hi : (b = 94 ∧ (11 ≤ i ∧ i ≤ 12 ∨ 14 ≤ i ∧ i ≤ 19 ∨ 22 ≤ i ∧ i ≤ 23)) ∨ (b = 96 ∧ 5 ≤ i) ∨ (b = 97 ∧ 6 ≤ i) ∨ ((b = 98 ∨ b = 99) ∧ 24 ≤ i) ∨ ((b = 100 ∨ b = 101) ∧ 3 ≤ i) ∨ ((b = 102 ∨ b = 103) ∧ 64 ≤ i)) : jF s (up tqq b i x) := fun c r q1 q2 q3 q4 q5 q6 q7 q8 => by
  rw [up_f (by omega)]
  exact h c r q1 q2 q3 q4 q5 q6 q7 q8
theorem rtF.j (h : rtF s tqq) : jF s tqq := fun b r _ q2 _ _ _ _ _ _ => h b r (by omega)
theorem qF.j (h : qF s tqq) : jF s tqq := fun b r _ q2 q3 q4 _ _ _ q8 => h b r (by omega) q3 (by omega) q8
theorem qFw.j (h : qFw s tqq) : jF s tqq := fun b r _ q2 q3 q4 _ _ _ q8 => h b r (by omega) q3 (by omega) q8
/-- the reference reads lines: no fault as yet -/
def RLN (B : Int → Int) (n p : Nat) (D : Nat × (Int → Int)) (T : Nat × (Int → Int) × (Int → Int)) (S E : Int × Int) (K : KS) (L : (Int → Int) × (Int → Int)) (N : Nat) (s : St) : Prop := RQ B n p s ∧ TSR D T S E K L s ∧ s 94 12 = N ∧ s 94 22 = 0 ∧ s 94 23 = K.1 ∧ s 94 19 = -1
theorem iE_0 (hK : K.1 ≤ 64) : iE K.1 K 0 [] K := by
  refine ⟨Nat.le_refl _, fun j hj => rfl, fun j j0 j1 => by omega, ?_, ?_, by decide, fun x hx => by cases hx⟩
  · rw [show K.1 - K.1 = 0 by omega]
    rfl
  · unfold tot
    simp only [opn, List.length_nil]
    omega
theorem ft_ne {P : Prop} {a m j : Nat} (h : a.testBit j = true ↔ P) (hm : m ≠ j) : (a ||| 2 ^ m).testBit j = true ↔ P := by
  rw [ft_bit]
  exact ⟨fun zqq => zqq.elim h.mp (fun y => absurd y hm), fun zqq => Or.inl (h.mpr zqq)⟩
theorem ft_eq {P : Prop} {a m : Nat} (h : P) : (a ||| 2 ^ m).testBit m = true ↔ P := by
  rw [ft_bit]
  exact ⟨fun _ => h, fun _ => Or.inr rfl⟩
theorem TLD_law {a r : Nat} {K2 : KS} (h : TLD a S E L) (hr : r < 3) (hK : K.1 < K2.1) : TLD (a ||| 2 ^ (16 + r)) S E (updF L.1 r K.1, updF L.2 r K2.1) := by
  obtain ⟨h1, h2, h3, h4⟩ := h
  refine ⟨(ft_or h1 (by omega)).2, ft_ne h2 (by omega), ft_ne h3 (by omega), fun i hi => ?_⟩
  show _ ↔ updF L.1 r K.1 i < updF L.2 r K2.1 i
  have := h4 i hi
  unfold updF
  by_cases zqq : (i : Int) = r
  · have z2qq : i = r := by omega
    subst z2qq
    rw [if_pos rfl, if_pos rfl]
    exact ft_eq (by omega)
  · rw [if_neg zqq, if_neg zqq]
    exact ft_ne this (by omega)
theorem TLD_oth {a m : Nat} (h : TLD a S E L) (hm : m ≠ 3 ∧ m ≠ 4 ∧ m < 16) : TLD (a ||| 2 ^ m) S E L := by
  obtain ⟨h1, h2, h3, h4⟩ := h
  exact ⟨(ft_or h1 (by omega)).2, ft_ne h2 (by omega), ft_ne h3 (by omega), fun i hi => ft_ne (h4 i hi) (by omega)⟩
theorem TLD_slip {a : Nat} {x : Int} (h : TLD a S E L) : TLD (a ||| 2 ^ 3) (1, x) E L := by
  obtain ⟨h1, h2, h3, h4⟩ := h
  exact ⟨(ft_or h1 (by omega)).2, ft_eq rfl, ft_ne h3 (by omega), fun i hi => ft_ne (h4 i hi) (by omega)⟩
theorem TLD_seed {a : Nat} {x : Int} (h : TLD a S E L) : TLD (a ||| 2 ^ 4) S (1, x) L := by
  obtain ⟨h1, h2, h3, h4⟩ := h
  exact ⟨(ft_or h1 (by omega)).2, ft_ne h2 (by omega), ft_eq rfl, fun i hi => ft_ne (h4 i hi) (by omega)⟩
theorem r_fresh (hd : 14 ≤ d) (hb : bOk B n) (hE : RQ B n p s) (hp : tkE B n p ≤ n ∨ tkK B n p ≠ 3) (hD : D.1 ≤ 6) (hf : ∀ i : Int, 0 ≤ i → i < D.1 → s 97 (6 + i) = D.2 i) (hfr : ∀ i : Int, 0 ≤ i → i < D.1 → iR (D.2 i)) (kS : tkK B n p = 3 → fndN D.2 (tkV B n p) D.1 = -1 → ∀ tqq, RQ B n (tkE B n p) tqq → rtF s tqq → Q (some (vI (tkV B n p))) (HP h0 tqq)) (kF : ∀ f : Int, (f = 1 ∧ ¬ tkK B n p = 3) ∨ (f = 3 ∧ tkK B n p = 3 ∧ fndN D.2 (tkV B n p) D.1 ≠ -1) → Q (some (vI 0)) (HP h0 (up (up s 94 18 f) 94 19 ((tkP B n p : Nat) : Int)))) : wpM PP d 73 [vR 94, vR 97, vI 6, vI D.1] (HP h0 s) Q := by
  have tr := tkR_is (B := B) (n := n) (p := p) hb
  have ts := TKN_s hE.2.1 tr
  refine n_at (m := 73) (q := mr73) (kn := (0, 4)) [some (vR _), some (vR _), some (vI _), some (vI _), none] mb73 rfl rfl (h_rcv sc_94) (Nat.le_of_ble_eq_true rfl) rfl rfl ?_
  refine x_aload rfl ?_
  refine h_getI 18 sc_94 rfl rfl ?_
  rw [hE.2.2]
  refine n_if_eq ⟨by omega, by omega⟩ (fun c1 => ?_) (fun c1 => ?_)
  · refine x_aload rfl ?_
    refine h_getI 16 sc_94 rfl rfl ?_
    refine x_ci ?_
    refine n_icmp_eq ⟨by omega, by omega⟩ ⟨by omega, by omega⟩ (fun c2 => ?_) (fun c2 => ?_)
    · have k3 : tkK B n p = 3 := by omega
      have v17 := (hE.2.1.2.2.2.2.2.1 k3).2
      have vr := tr.2.2.2.1 k3
      refine x_aload rfl ?_
      refine x_iload rfl ?_
      refine x_iload rfl ?_
      refine x_aload rfl ?_
      refine h_getI 17 sc_94 rfl rfl ?_
      rw [v17]
      refine n_call [vR _, vI _, vI _, vI _] [] (by omega) (Nat.le_of_ble_eq_true rfl) rfl rfl (Nat.le_of_ble_eq_true rfl) ?_
      refine r_found ⟨by omega, by omega⟩ hD hf hfr (by omega) ?_
      have fr := fnd_R (f := D.2) (x := tkV B n p) D.1
      show wp PP _ _ _ [some (vR _), some (vR _), some (vI _), some (vI _), _] [vI _] _ _
      refine x_ci ?_
      refine n_icmp_eq ⟨by omega, by omega⟩ ⟨by omega, by omega⟩ (fun c3 => ?_) (fun c3 => ?_)
      · refine x_aload rfl ?_
        refine h_getI 18 sc_94 rfl rfl ?_
        rw [hE.2.2]
        refine n_if_eq ⟨by omega, by omega⟩ (fun c1 => ?_) (fun c1 => ?_)
        · refine x_aload rfl ?_
          refine h_getI 17 sc_94 rfl rfl ?_
          rw [v17]
          refine n_istore [some (vR _), some (vR _), some (vI _), some (vI _), some (vI _)] (Nat.le_of_ble_eq_true rfl) rfl ?_
          refine x_aload rfl ?_
          refine n_call [vR _] [] (by omega) (Nat.le_of_ble_eq_true rfl) rfl rfl (Nat.le_of_ble_eq_true rfl) ?_
          refine r_token (p := tkE B n p) (by omega) hE.1 hb hE.2.1.1 (by omega) (fun uqq u1qq u2qq => ?_)
          show wp PP _ _ _ [some (vR _), some (vR _), some (vI _), some (vI _), some (vI _)] [] _ _
          refine x_iload rfl ?_
          refine x_iret ?_
          first
            | (exfalso; omega)
            | exact kS k3 (by omega) uqq (hE.tk u1qq u2qq) u2qq
        · refine x_ci ?_
          refine x_iret ?_
          first
            | (exfalso; omega)
            | exact kS k3 (by omega) uqq (hE.tk u1qq u2qq) u2qq
      · refine x_aload rfl ?_
        refine x_ci ?_
        refine n_call [vR _, vI _] [] (by omega) (Nat.le_of_ble_eq_true rfl) rfl rfl (Nat.le_of_ble_eq_true rfl) ?_
        refine r_wrong hE.2.2 hE.2.1.2.1 ?_
        show wp PP _ _ _ [some (vR _), some (vR _), some (vI _), some (vI _), _] [] _ _
        refine x_fall ?_
        have f18 : up (up s 94 18 3) 94 19 ((tkP B n p : Nat) : Int) 94 18 = 3 := by rw [up_i (by decide), up_e]
        refine x_aload rfl ?_
        refine h_getI 18 sc_94 rfl rfl ?_
        rw [f18]
        refine n_if_eq ⟨by omega, by omega⟩ (fun c1 => ?_) (fun c1 => ?_)
        · exfalso
          omega
        · refine x_ci ?_
          refine x_iret ?_
          exact kF 3 (Or.inr ⟨rfl, k3, by omega⟩)
    · refine x_aload rfl ?_
      refine x_ci ?_
      refine n_call [vR _, vI _] [] (by omega) (Nat.le_of_ble_eq_true rfl) rfl rfl (Nat.le_of_ble_eq_true rfl) ?_
      refine r_wrong hE.2.2 hE.2.1.2.1 ?_
      show wp PP _ _ _ [some (vR _), some (vR _), some (vI _), some (vI _), _] [] _ _
      refine x_goto ?_
      have f18 : up (up s 94 18 1) 94 19 ((tkP B n p : Nat) : Int) 94 18 = 1 := by rw [up_i (by decide), up_e]
      refine x_aload rfl ?_
      refine h_getI 18 sc_94 rfl rfl ?_
      rw [f18]
      refine n_if_eq ⟨by omega, by omega⟩ (fun c1 => ?_) (fun c1 => ?_)
      · exfalso
        omega
      · refine x_ci ?_
        refine x_iret ?_
        exact kF 1 (Or.inl ⟨rfl, fun zqq => by omega⟩)
  · refine x_ci ?_
    refine x_iret ?_
    exfalso
    omega
theorem r_isFull {x : Int} (hd : 1 ≤ d) (hx : 0 ≤ x ∧ x ≤ 5) (h5 : s 96 5 = D.1) (h6 : s 96 6 = T.1) (hD : D.1 ≤ 6) (hT : T.1 ≤ 24) (kY : (x = 0 ∧ D.1 = 6) ∨ ((x = 1 ∨ x = 2) ∧ T.1 = 24) → Q (some (vI 1)) (HP h0 s)) (kN : ¬ ((x = 0 ∧ D.1 = 6) ∨ ((x = 1 ∨ x = 2) ∧ T.1 = 24)) → Q (some (vI 0)) (HP h0 s)) : wpM PP d 76 [vR 94, vI x] (HP h0 s) Q := by
  refine n_at (m := 76) (q := mr76) (kn := (0, 2)) [some (vR _), some (vI _)] mb76 rfl rfl (h_rcv sc_94) (Nat.le_of_ble_eq_true rfl) rfl rfl ?_
  refine x_iload rfl ?_
  refine n_if_ne ⟨by omega, by omega⟩ (fun c1 => ?_) (fun c1 => ?_)
  · refine x_iload rfl ?_
    refine x_ci ?_
    refine n_icmp_eq ⟨by omega, by omega⟩ ⟨by omega, by omega⟩ (fun c2 => ?_) (fun c2 => ?_)
    · refine x_aload rfl ?_
      refine x_ci ?_
      refine n_call [vR _, vI _] [] (by omega) (Nat.le_of_ble_eq_true rfl) rfl rfl (Nat.le_of_ble_eq_true rfl) ?_
      refine r_fresher (by omega) ?_
      show wp PP _ _ _ [some (vR _), some (vI _)] [vI _] _ _
      rw [show (5 : Int) + 1 = 6 from rfl, h6]
      refine x_ci ?_
      refine n_icmp_ne ⟨by omega, by omega⟩ ⟨by omega, by omega⟩ (fun c3 => ?_) (fun c3 => ?_)
      · refine x_ci ?_
        refine x_fall ?_
        refine x_zret (by first | exact bI_01 _ | omega) ?_
        first
          | exact kY (by omega)
          | exact kN (by omega)
      · refine x_fall ?_
        refine x_ci ?_
        refine x_goto ?_
        refine x_zret (by first | exact bI_01 _ | omega) ?_
        first
          | exact kY (by omega)
          | exact kN (by omega)
    · refine x_iload rfl ?_
      refine x_ci ?_
      refine n_icmp_ne ⟨by omega, by omega⟩ ⟨by omega, by omega⟩ (fun c3 => ?_) (fun c3 => ?_)
      · refine x_ci ?_
        refine x_fall ?_
        refine x_zret (by first | exact bI_01 _ | omega) ?_
        first
          | exact kY (by omega)
          | exact kN (by omega)
      · refine x_fall ?_
        refine x_aload rfl ?_
        refine x_ci ?_
        refine n_call [vR _, vI _] [] (by omega) (Nat.le_of_ble_eq_true rfl) rfl rfl (Nat.le_of_ble_eq_true rfl) ?_
        refine r_fresher (by omega) ?_
        show wp PP _ _ _ [some (vR _), some (vI _)] [vI _] _ _
        rw [show (5 : Int) + 1 = 6 from rfl, h6]
        refine x_ci ?_
        refine n_icmp_ne ⟨by omega, by omega⟩ ⟨by omega, by omega⟩ (fun c4 => ?_) (fun c4 => ?_)
        · refine x_ci ?_
          refine x_fall ?_
          refine x_zret (by first | exact bI_01 _ | omega) ?_
          first
            | exact kY (by omega)
            | exact kN (by omega)
        · refine x_fall ?_
          refine x_ci ?_
          refine x_goto ?_
          refine x_zret (by first | exact bI_01 _ | omega) ?_
          first
            | exact kY (by omega)
            | exact kN (by omega)
  · refine x_aload rfl ?_
    refine x_ci ?_
    refine n_call [vR _, vI _] [] (by omega) (Nat.le_of_ble_eq_true rfl) rfl rfl (Nat.le_of_ble_eq_true rfl) ?_
    refine r_fresher (by omega) ?_
    show wp PP _ _ _ [some (vR _), some (vI _)] [vI _] _ _
    rw [show (5 : Int) + 0 = 5 from rfl, h5]
    refine x_ci ?_
    refine n_icmp_eq ⟨by omega, by omega⟩ ⟨by omega, by omega⟩ (fun c2 => ?_) (fun c2 => ?_)
    · refine x_ci ?_
      refine x_goto ?_
      refine x_zret (by first | exact bI_01 _ | omega) ?_
      first
        | exact kY (by omega)
        | exact kN (by omega)
    · refine x_fall ?_
      refine x_iload rfl ?_
      refine x_ci ?_
      refine n_icmp_eq ⟨by omega, by omega⟩ ⟨by omega, by omega⟩ (fun c3 => ?_) (fun c3 => ?_)
      · refine x_aload rfl ?_
        refine x_ci ?_
        refine n_call [vR _, vI _] [] (by omega) (Nat.le_of_ble_eq_true rfl) rfl rfl (Nat.le_of_ble_eq_true rfl) ?_
        refine r_fresher (by omega) ?_
        show wp PP _ _ _ [some (vR _), some (vI _)] [vI _] _ _
        rw [show (5 : Int) + 1 = 6 from rfl, h6]
        refine x_ci ?_
        refine n_icmp_ne ⟨by omega, by omega⟩ ⟨by omega, by omega⟩ (fun c4 => ?_) (fun c4 => ?_)
        · refine x_ci ?_
          refine x_fall ?_
          refine x_zret (by first | exact bI_01 _ | omega) ?_
          first
            | exact kY (by omega)
            | exact kN (by omega)
        · refine x_fall ?_
          refine x_ci ?_
          refine x_goto ?_
          refine x_zret (by first | exact bI_01 _ | omega) ?_
          first
            | exact kY (by omega)
            | exact kN (by omega)
      · refine x_iload rfl ?_
        refine x_ci ?_
        refine n_icmp_ne ⟨by omega, by omega⟩ ⟨by omega, by omega⟩ (fun c4 => ?_) (fun c4 => ?_)
        · refine x_ci ?_
          refine x_fall ?_
          refine x_zret (by first | exact bI_01 _ | omega) ?_
          first
            | exact kY (by omega)
            | exact kN (by omega)
        · refine x_fall ?_
          refine x_aload rfl ?_
          refine x_ci ?_
          refine n_call [vR _, vI _] [] (by omega) (Nat.le_of_ble_eq_true rfl) rfl rfl (Nat.le_of_ble_eq_true rfl) ?_
          refine r_fresher (by omega) ?_
          show wp PP _ _ _ [some (vR _), some (vI _)] [vI _] _ _
          rw [show (5 : Int) + 1 = 6 from rfl, h6]
          refine x_ci ?_
          refine n_icmp_ne ⟨by omega, by omega⟩ ⟨by omega, by omega⟩ (fun c5 => ?_) (fun c5 => ?_)
          · refine x_ci ?_
            refine x_fall ?_
            refine x_zret (by first | exact bI_01 _ | omega) ?_
            first
              | exact kY (by omega)
              | exact kN (by omega)
          · refine x_fall ?_
            refine x_ci ?_
            refine x_goto ?_
            refine x_zret (by first | exact bI_01 _ | omega) ?_
            first
              | exact kY (by omega)
              | exact kN (by omega)
end TXP
