/-! TEXT: the reference's tokens: a step -/
section TX7
variable {d : Nat} {h0 h : pheap} {s tqq uqq : St} {Q : Option pv → pheap → Prop} {B : Int → Int} {n q : Nat} {sz k vqq : Int} {pl nx : Nat}
theorem wr_R : wr B n q = -1 ∨ (0 ≤ wr B n q ∧ wr B n q < 19) := by
  unfold wr
  split
  · exact Or.inl rfl
  · exact wix_R _
theorem r_token {p : Nat} (hd : 13 ≤ d) (hR : RBR B n s) (hb : bOk B n) (h14 : s 94 14 = p) (hp : p ≤ n) (k1 : ∀ tqq, TKN (tkK B n p) (tkV B n p) (tkP B n p) (tkE B n p) tqq → rtF s tqq → Q none (HP h0 tqq)) : wpM PP d 63 [vR 94] (HP h0 s) Q := by
  have n700 := hR.2.1
  have hqR := tkP_R (B := B) hp
  unfold tkK tkV tkE at k1
  obtain ⟨q, hqq⟩ : ∃ q, q = tkP B n p := ⟨_, rfl⟩
  rw [← hqq] at k1 hqR
  have L5 : ∀ (x : Int) (tqq : St), q < n → isLe (B q) = true → tqq 94 14 = (spE isLe B n q : Nat) → tqq 94 15 = q → rtF s tqq → wp PP d mb63 (mb63.getD 5 []) [some (vR 94), some (vI x)] [] (HP h0 tqq) Q := by
    intro x tqq hq hl g14 g15 gF
    have tl := tq_le hq hl
    have eR1 := spE_le (f := isLe) (B := B) (n := n) (p := q)
    have eR2 := spE_R (f := isLe) (B := B) (n := n) (p := q) (by omega)
    refine x_aload rfl ?_
    refine x_aload rfl ?_
    refine n_call [vR _] [vR _] (by omega) (Nat.le_of_ble_eq_true rfl) rfl rfl (Nat.le_of_ble_eq_true rfl) ?_
    refine r_word (e := spE isLe B n q) (by omega) (hR.f gF) g15 g14 rfl (by omega) ?_
    have wrR := wr_R (B := B) (n := n) (q := q)
    show wp PP _ _ _ [some (vR _), some (vI _)] [vI _, vR _] _ _
    refine h_putI 17 sc_94 rfl rfl ?_
    refine x_aload rfl ?_
    refine x_aload rfl ?_
    refine h_getI 17 sc_94 rfl rfl ?_
    rw [up_e]
    refine x_ci ?_
    refine n_icmp_eq ⟨by omega, by omega⟩ ⟨by omega, by omega⟩ (fun c1 => ?_) (fun c1 => ?_)
    · refine x_aload rfl ?_
      refine h_getI 14 sc_94 rfl rfl ?_
      rw [up_i (by decide), g14]
      refine x_aload rfl ?_
      refine h_getI 15 sc_94 rfl rfl ?_
      rw [up_i (by decide), g15]
      refine x_isub ?_
      refine x_ci ?_
      refine n_icmp_le ⟨by omega, by omega⟩ ⟨by omega, by omega⟩ (fun c2 => ?_) (fun c2 => ?_)
      · refine x_ci ?_
        refine x_fall ?_
        refine h_putI 16 sc_94 rfl rfl ?_
        refine x_aload rfl ?_
        refine h_getI 16 sc_94 rfl rfl ?_
        rw [up_e]
        refine x_ci ?_
        refine n_icmp_ne ⟨by omega, by omega⟩ ⟨by omega, by omega⟩ (fun c3 => ?_) (fun c3 => ?_)
        · refine x_ret ?_
          first
            | (exfalso; omega)
            | (have e9 : wr B n q = wix (tqW B n q) ∧ tqK B n q = 4 ∧ tqV B n q = wix (tqW B n q) := by
                 have h6 : ¬ 6 < spE isLe B n q - q := fun zqq => c1 (if_pos zqq)
                 have h7 : wr B n q = wix (tqW B n q) := if_neg h6
                 rw [h7] at c1
                 rw [tl.2.1, tl.2.2, if_neg h6, if_neg c1, if_neg c1]
                 exact ⟨h7, rfl, rfl⟩
               refine k1 _ ⟨?_, ?_, fun zqq => by omega, fun zqq => by omega, fun zqq => by omega, fun zqq => by omega, fun _ => ⟨up_e, ?_⟩, fun zqq => by omega⟩ (rtF_up (rtF_up gF (by omega)) (by omega))
               · rw [up_i (by decide), up_i (by decide), g14, tl.1]
               · rw [up_i (by decide), up_i (by decide), g15]
               · rw [up_i (by decide), up_e, e9.1, e9.2.2])
            | (have h6 : 6 < spE isLe B n q - q := by omega
               have e9 : tqK B n q = 1 := by
                 rw [tl.2.1, if_pos h6]
               refine k1 _ ⟨?_, ?_, fun zqq => by omega, fun _ => up_e, fun zqq => by omega, fun zqq => by omega, fun zqq => by omega, fun zqq => by omega⟩ (rtF_up (rtF_up gF (by omega)) (by omega))
               · rw [up_i (by decide), up_i (by decide), g14, tl.1]
               · rw [up_i (by decide), up_i (by decide), g15])
            | (have h6 : ¬ 6 < spE isLe B n q - q := by omega
               have h7 : wr B n q = wix (tqW B n q) := if_neg h6
               rw [h7] at c1
               have e9 : tqK B n q = 3 ∧ tqV B n q = tqW B n q := by
                 rw [tl.2.1, tl.2.2, if_neg h6, if_pos c1, if_pos c1]
                 exact ⟨rfl, rfl⟩
               refine k1 _ ⟨?_, ?_, fun zqq => by omega, fun zqq => by omega, fun zqq => by omega, fun _ => ⟨?_, ?_⟩, fun zqq => by omega, fun zqq => by omega⟩ (rtF_tr (rtF_up (rtF_up gF (by omega)) (by omega)) (fun b r y => u2qq b r (by omega)))
               · rw [u2qq 94 14 (by omega), up_i (by decide), up_i (by decide), g14, tl.1]
               · rw [u2qq 94 15 (by omega), up_i (by decide), up_i (by decide), g15]
               · rw [u2qq 94 16 (by omega), up_e]
               · rw [u1qq, e9.2]
                 unfold tqW
                 rw [show min 6 (spE isLe B n q - q) = spE isLe B n q - q by omega])
        · refine x_aload rfl ?_
          refine n_call [vR _] [] (by omega) (Nat.le_of_ble_eq_true rfl) rfl rfl (Nat.le_of_ble_eq_true rfl) ?_
          refine r_name (e := spE isLe B n q) ((hR.f gF).f (fun b r y => by rw [up_f (by omega), up_f (by omega)])) ((up_i (by decide)).trans ((up_i (by decide)).trans g15)) ((up_i (by decide)).trans ((up_i (by decide)).trans g14)) rfl (by omega) (by omega) (fun uqq u1qq u2qq => ?_)
          show wp PP _ _ _ [some (vR _), some (vI _)] [] _ _
          refine x_goto ?_
          refine x_ret ?_
          first
            | (exfalso; omega)
            | (have e9 : wr B n q = wix (tqW B n q) ∧ tqK B n q = 4 ∧ tqV B n q = wix (tqW B n q) := by
                 have h6 : ¬ 6 < spE isLe B n q - q := fun zqq => c1 (if_pos zqq)
                 have h7 : wr B n q = wix (tqW B n q) := if_neg h6
                 rw [h7] at c1
                 rw [tl.2.1, tl.2.2, if_neg h6, if_neg c1, if_neg c1]
                 exact ⟨h7, rfl, rfl⟩
               refine k1 _ ⟨?_, ?_, fun zqq => by omega, fun zqq => by omega, fun zqq => by omega, fun zqq => by omega, fun _ => ⟨up_e, ?_⟩, fun zqq => by omega⟩ (rtF_up (rtF_up gF (by omega)) (by omega))
               · rw [up_i (by decide), up_i (by decide), g14, tl.1]
               · rw [up_i (by decide), up_i (by decide), g15]
               · rw [up_i (by decide), up_e, e9.1, e9.2.2])
            | (have h6 : 6 < spE isLe B n q - q := by omega
               have e9 : tqK B n q = 1 := by
                 rw [tl.2.1, if_pos h6]
               refine k1 _ ⟨?_, ?_, fun zqq => by omega, fun _ => up_e, fun zqq => by omega, fun zqq => by omega, fun zqq => by omega, fun zqq => by omega⟩ (rtF_up (rtF_up gF (by omega)) (by omega))
               · rw [up_i (by decide), up_i (by decide), g14, tl.1]
               · rw [up_i (by decide), up_i (by decide), g15])
            | (have h6 : ¬ 6 < spE isLe B n q - q := by omega
               have h7 : wr B n q = wix (tqW B n q) := if_neg h6
               rw [h7] at c1
               have e9 : tqK B n q = 3 ∧ tqV B n q = tqW B n q := by
                 rw [tl.2.1, tl.2.2, if_neg h6, if_pos c1, if_pos c1]
                 exact ⟨rfl, rfl⟩
               refine k1 _ ⟨?_, ?_, fun zqq => by omega, fun zqq => by omega, fun zqq => by omega, fun _ => ⟨?_, ?_⟩, fun zqq => by omega, fun zqq => by omega⟩ (rtF_tr (rtF_up (rtF_up gF (by omega)) (by omega)) (fun b r y => u2qq b r (by omega)))
               · rw [u2qq 94 14 (by omega), up_i (by decide), up_i (by decide), g14, tl.1]
               · rw [u2qq 94 15 (by omega), up_i (by decide), up_i (by decide), g15]
               · rw [u2qq 94 16 (by omega), up_e]
               · rw [u1qq, e9.2]
                 unfold tqW
                 rw [show min 6 (spE isLe B n q - q) = spE isLe B n q - q by omega])
      · refine x_ci ?_
        refine x_goto ?_
        refine h_putI 16 sc_94 rfl rfl ?_
        refine x_aload rfl ?_
        refine h_getI 16 sc_94 rfl rfl ?_
        rw [up_e]
        refine x_ci ?_
        refine n_icmp_ne ⟨by omega, by omega⟩ ⟨by omega, by omega⟩ (fun c3 => ?_) (fun c3 => ?_)
        · refine x_ret ?_
          first
            | (exfalso; omega)
            | (have e9 : wr B n q = wix (tqW B n q) ∧ tqK B n q = 4 ∧ tqV B n q = wix (tqW B n q) := by
                 have h6 : ¬ 6 < spE isLe B n q - q := fun zqq => c1 (if_pos zqq)
                 have h7 : wr B n q = wix (tqW B n q) := if_neg h6
                 rw [h7] at c1
                 rw [tl.2.1, tl.2.2, if_neg h6, if_neg c1, if_neg c1]
                 exact ⟨h7, rfl, rfl⟩
               refine k1 _ ⟨?_, ?_, fun zqq => by omega, fun zqq => by omega, fun zqq => by omega, fun zqq => by omega, fun _ => ⟨up_e, ?_⟩, fun zqq => by omega⟩ (rtF_up (rtF_up gF (by omega)) (by omega))
               · rw [up_i (by decide), up_i (by decide), g14, tl.1]
               · rw [up_i (by decide), up_i (by decide), g15]
               · rw [up_i (by decide), up_e, e9.1, e9.2.2])
            | (have h6 : 6 < spE isLe B n q - q := by omega
               have e9 : tqK B n q = 1 := by
                 rw [tl.2.1, if_pos h6]
               refine k1 _ ⟨?_, ?_, fun zqq => by omega, fun _ => up_e, fun zqq => by omega, fun zqq => by omega, fun zqq => by omega, fun zqq => by omega⟩ (rtF_up (rtF_up gF (by omega)) (by omega))
               · rw [up_i (by decide), up_i (by decide), g14, tl.1]
               · rw [up_i (by decide), up_i (by decide), g15])
            | (have h6 : ¬ 6 < spE isLe B n q - q := by omega
               have h7 : wr B n q = wix (tqW B n q) := if_neg h6
               rw [h7] at c1
               have e9 : tqK B n q = 3 ∧ tqV B n q = tqW B n q := by
                 rw [tl.2.1, tl.2.2, if_neg h6, if_pos c1, if_pos c1]
                 exact ⟨rfl, rfl⟩
               refine k1 _ ⟨?_, ?_, fun zqq => by omega, fun zqq => by omega, fun zqq => by omega, fun _ => ⟨?_, ?_⟩, fun zqq => by omega, fun zqq => by omega⟩ (rtF_tr (rtF_up (rtF_up gF (by omega)) (by omega)) (fun b r y => u2qq b r (by omega)))
               · rw [u2qq 94 14 (by omega), up_i (by decide), up_i (by decide), g14, tl.1]
               · rw [u2qq 94 15 (by omega), up_i (by decide), up_i (by decide), g15]
               · rw [u2qq 94 16 (by omega), up_e]
               · rw [u1qq, e9.2]
                 unfold tqW
                 rw [show min 6 (spE isLe B n q - q) = spE isLe B n q - q by omega])
        · refine x_aload rfl ?_
          refine n_call [vR _] [] (by omega) (Nat.le_of_ble_eq_true rfl) rfl rfl (Nat.le_of_ble_eq_true rfl) ?_
          refine r_name (e := spE isLe B n q) ((hR.f gF).f (fun b r y => by rw [up_f (by omega), up_f (by omega)])) ((up_i (by decide)).trans ((up_i (by decide)).trans g15)) ((up_i (by decide)).trans ((up_i (by decide)).trans g14)) rfl (by omega) (by omega) (fun uqq u1qq u2qq => ?_)
          show wp PP _ _ _ [some (vR _), some (vI _)] [] _ _
          refine x_goto ?_
          refine x_ret ?_
          first
            | (exfalso; omega)
            | (have e9 : wr B n q = wix (tqW B n q) ∧ tqK B n q = 4 ∧ tqV B n q = wix (tqW B n q) := by
                 have h6 : ¬ 6 < spE isLe B n q - q := fun zqq => c1 (if_pos zqq)
                 have h7 : wr B n q = wix (tqW B n q) := if_neg h6
                 rw [h7] at c1
                 rw [tl.2.1, tl.2.2, if_neg h6, if_neg c1, if_neg c1]
                 exact ⟨h7, rfl, rfl⟩
               refine k1 _ ⟨?_, ?_, fun zqq => by omega, fun zqq => by omega, fun zqq => by omega, fun zqq => by omega, fun _ => ⟨up_e, ?_⟩, fun zqq => by omega⟩ (rtF_up (rtF_up gF (by omega)) (by omega))
               · rw [up_i (by decide), up_i (by decide), g14, tl.1]
               · rw [up_i (by decide), up_i (by decide), g15]
               · rw [up_i (by decide), up_e, e9.1, e9.2.2])
            | (have h6 : 6 < spE isLe B n q - q := by omega
               have e9 : tqK B n q = 1 := by
                 rw [tl.2.1, if_pos h6]
               refine k1 _ ⟨?_, ?_, fun zqq => by omega, fun _ => up_e, fun zqq => by omega, fun zqq => by omega, fun zqq => by omega, fun zqq => by omega⟩ (rtF_up (rtF_up gF (by omega)) (by omega))
               · rw [up_i (by decide), up_i (by decide), g14, tl.1]
               · rw [up_i (by decide), up_i (by decide), g15])
            | (have h6 : ¬ 6 < spE isLe B n q - q := by omega
               have h7 : wr B n q = wix (tqW B n q) := if_neg h6
               rw [h7] at c1
               have e9 : tqK B n q = 3 ∧ tqV B n q = tqW B n q := by
                 rw [tl.2.1, tl.2.2, if_neg h6, if_pos c1, if_pos c1]
                 exact ⟨rfl, rfl⟩
               refine k1 _ ⟨?_, ?_, fun zqq => by omega, fun zqq => by omega, fun zqq => by omega, fun _ => ⟨?_, ?_⟩, fun zqq => by omega, fun zqq => by omega⟩ (rtF_tr (rtF_up (rtF_up gF (by omega)) (by omega)) (fun b r y => u2qq b r (by omega)))
               · rw [u2qq 94 14 (by omega), up_i (by decide), up_i (by decide), g14, tl.1]
               · rw [u2qq 94 15 (by omega), up_i (by decide), up_i (by decide), g15]
               · rw [u2qq 94 16 (by omega), up_e]
               · rw [u1qq, e9.2]
                 unfold tqW
                 rw [show min 6 (spE isLe B n q - q) = spE isLe B n q - q by omega])
    · refine x_ci ?_
      refine x_goto ?_
      refine h_putI 16 sc_94 rfl rfl ?_
      refine x_aload rfl ?_
      refine h_getI 16 sc_94 rfl rfl ?_
      rw [up_e]
      refine x_ci ?_
      refine n_icmp_ne ⟨by omega, by omega⟩ ⟨by omega, by omega⟩ (fun c2 => ?_) (fun c2 => ?_)
      · refine x_ret ?_
        first
          | (exfalso; omega)
          | (have e9 : wr B n q = wix (tqW B n q) ∧ tqK B n q = 4 ∧ tqV B n q = wix (tqW B n q) := by
               have h6 : ¬ 6 < spE isLe B n q - q := fun zqq => c1 (if_pos zqq)
               have h7 : wr B n q = wix (tqW B n q) := if_neg h6
               rw [h7] at c1
               rw [tl.2.1, tl.2.2, if_neg h6, if_neg c1, if_neg c1]
               exact ⟨h7, rfl, rfl⟩
             refine k1 _ ⟨?_, ?_, fun zqq => by omega, fun zqq => by omega, fun zqq => by omega, fun zqq => by omega, fun _ => ⟨up_e, ?_⟩, fun zqq => by omega⟩ (rtF_up (rtF_up gF (by omega)) (by omega))
             · rw [up_i (by decide), up_i (by decide), g14, tl.1]
             · rw [up_i (by decide), up_i (by decide), g15]
             · rw [up_i (by decide), up_e, e9.1, e9.2.2])
          | (have h6 : 6 < spE isLe B n q - q := by omega
             have e9 : tqK B n q = 1 := by
               rw [tl.2.1, if_pos h6]
             refine k1 _ ⟨?_, ?_, fun zqq => by omega, fun _ => up_e, fun zqq => by omega, fun zqq => by omega, fun zqq => by omega, fun zqq => by omega⟩ (rtF_up (rtF_up gF (by omega)) (by omega))
             · rw [up_i (by decide), up_i (by decide), g14, tl.1]
             · rw [up_i (by decide), up_i (by decide), g15])
          | (have h6 : ¬ 6 < spE isLe B n q - q := by omega
             have h7 : wr B n q = wix (tqW B n q) := if_neg h6
             rw [h7] at c1
             have e9 : tqK B n q = 3 ∧ tqV B n q = tqW B n q := by
               rw [tl.2.1, tl.2.2, if_neg h6, if_pos c1, if_pos c1]
               exact ⟨rfl, rfl⟩
             refine k1 _ ⟨?_, ?_, fun zqq => by omega, fun zqq => by omega, fun zqq => by omega, fun _ => ⟨?_, ?_⟩, fun zqq => by omega, fun zqq => by omega⟩ (rtF_tr (rtF_up (rtF_up gF (by omega)) (by omega)) (fun b r y => u2qq b r (by omega)))
             · rw [u2qq 94 14 (by omega), up_i (by decide), up_i (by decide), g14, tl.1]
             · rw [u2qq 94 15 (by omega), up_i (by decide), up_i (by decide), g15]
             · rw [u2qq 94 16 (by omega), up_e]
             · rw [u1qq, e9.2]
               unfold tqW
               rw [show min 6 (spE isLe B n q - q) = spE isLe B n q - q by omega])
      · refine x_aload rfl ?_
        refine n_call [vR _] [] (by omega) (Nat.le_of_ble_eq_true rfl) rfl rfl (Nat.le_of_ble_eq_true rfl) ?_
        refine r_name (e := spE isLe B n q) ((hR.f gF).f (fun b r y => by rw [up_f (by omega), up_f (by omega)])) ((up_i (by decide)).trans ((up_i (by decide)).trans g15)) ((up_i (by decide)).trans ((up_i (by decide)).trans g14)) rfl (by omega) (by omega) (fun uqq u1qq u2qq => ?_)
        show wp PP _ _ _ [some (vR _), some (vI _)] [] _ _
        refine x_goto ?_
        refine x_ret ?_
        first
          | (exfalso; omega)
          | (have e9 : wr B n q = wix (tqW B n q) ∧ tqK B n q = 4 ∧ tqV B n q = wix (tqW B n q) := by
               have h6 : ¬ 6 < spE isLe B n q - q := fun zqq => c1 (if_pos zqq)
               have h7 : wr B n q = wix (tqW B n q) := if_neg h6
               rw [h7] at c1
               rw [tl.2.1, tl.2.2, if_neg h6, if_neg c1, if_neg c1]
               exact ⟨h7, rfl, rfl⟩
             refine k1 _ ⟨?_, ?_, fun zqq => by omega, fun zqq => by omega, fun zqq => by omega, fun zqq => by omega, fun _ => ⟨up_e, ?_⟩, fun zqq => by omega⟩ (rtF_up (rtF_up gF (by omega)) (by omega))
             · rw [up_i (by decide), up_i (by decide), g14, tl.1]
             · rw [up_i (by decide), up_i (by decide), g15]
             · rw [up_i (by decide), up_e, e9.1, e9.2.2])
          | (have h6 : 6 < spE isLe B n q - q := by omega
             have e9 : tqK B n q = 1 := by
               rw [tl.2.1, if_pos h6]
             refine k1 _ ⟨?_, ?_, fun zqq => by omega, fun _ => up_e, fun zqq => by omega, fun zqq => by omega, fun zqq => by omega, fun zqq => by omega⟩ (rtF_up (rtF_up gF (by omega)) (by omega))
             · rw [up_i (by decide), up_i (by decide), g14, tl.1]
             · rw [up_i (by decide), up_i (by decide), g15])
          | (have h6 : ¬ 6 < spE isLe B n q - q := by omega
             have h7 : wr B n q = wix (tqW B n q) := if_neg h6
             rw [h7] at c1
             have e9 : tqK B n q = 3 ∧ tqV B n q = tqW B n q := by
               rw [tl.2.1, tl.2.2, if_neg h6, if_pos c1, if_pos c1]
               exact ⟨rfl, rfl⟩
             refine k1 _ ⟨?_, ?_, fun zqq => by omega, fun zqq => by omega, fun zqq => by omega, fun _ => ⟨?_, ?_⟩, fun zqq => by omega, fun zqq => by omega⟩ (rtF_tr (rtF_up (rtF_up gF (by omega)) (by omega)) (fun b r y => u2qq b r (by omega)))
             · rw [u2qq 94 14 (by omega), up_i (by decide), up_i (by decide), g14, tl.1]
             · rw [u2qq 94 15 (by omega), up_i (by decide), up_i (by decide), g15]
             · rw [u2qq 94 16 (by omega), up_e]
             · rw [u1qq, e9.2]
               unfold tqW
               rw [show min 6 (spE isLe B n q - q) = spE isLe B n q - q by omega])
  have L4 : ∀ (x : Int) (tqq : St), q < n → isLe (B q) = true → tqq 94 14 = q → tqq 94 15 = q → rtF s tqq → wp PP d mb63 (mb63.getD 4 []) [some (vR 94), some (vI x)] [] (HP h0 tqq) Q := by
    intro x t0qq hq hl g140 g150 gF0
    have eR1 := spE_le (f := isLe) (B := B) (n := n) (p := q)
    have eR2 := spE_R (f := isLe) (B := B) (n := n) (p := q) (by omega)
    have L4a : ∀ N : Nat, ∀ (j : Nat) (tqq : St), (N = n - j ∧ q ≤ j ∧ j ≤ spE isLe B n q) → (tqq 94 14 = j) → (tqq 94 15 = q) → (rtF s tqq) →  wp PP d mb63 (mb63.getD 4 []) [some (vR 94), some (vI x)] [] (HP h0 tqq) Q := by
      refine s_ind (fun N ih => ?_)
      intro j tqq hM g14 g15 gF
      refine x_aload rfl ?_
      refine n_call [vR _] [] (by omega) (Nat.le_of_ble_eq_true rfl) rfl rfl (Nat.le_of_ble_eq_true rfl) ?_
      refine n_here (j := j) (hR.f gF) g14 (by omega) ?_
      have bR := bA_R hb (j : Int)
      show wp PP _ _ _ [some (vR _), some (vI _)] [vI _] _ _
      refine n_call [vI _] [] (by omega) (Nat.le_of_ble_eq_true rfl) rfl rfl (Nat.le_of_ble_eq_true rfl) ?_
      refine r_isSmall ⟨by omega, by omega⟩ ?_
      show wp PP _ _ _ [some (vR _), some (vI _)] [vI _] _ _
      refine z_if_eq (fun c1 => ?_) (fun c1 => ?_)
      · refine L5 x tqq hq hl ?_ g15 gF
        have ej : j = spE isLe B n q := by
          by_cases e9 : j < spE isLe B n q
          · exfalso
            have a := spE_all (f := isLe) (B := B) (n := n) (p := q) (j := j) (by omega) e9
            rw [bA_in a.1] at c1
            exact c1 (isLe_i.mp a.2)
          · omega
        rw [g14, ej]
      · refine x_aload rfl ?_
        refine x_dupR ?_
        refine h_getI 14 sc_94 rfl rfl ?_
        rw [g14]
        refine x_ci ?_
        refine x_iadd ?_
        refine h_putI 14 sc_94 rfl rfl ?_
        refine x_goto ?_
        have jn : j < n := by
          by_cases e9 : j < n
          · exact e9
          · exfalso
            rw [bA_out (by omega)] at c1
            omega
        rw [bA_in jn] at c1
        have hj1 : j + 1 ≤ spE isLe B n q := by
          rw [← spE_m (f := isLe) (B := B) (n := n) (p := q) (j := j) (by omega) (by omega), spE_y jn (isLe_i.mpr c1)]
          exact spE_le
        refine ih (n - (j + 1)) (by omega) (j + 1) _ (by omega) ?_ ?_ (rtF_up gF (by omega))
        · rw [up_e]
          omega
        · rw [up_i (by decide)]
          exact g15
    exact L4a (n - q) q t0qq (by omega) g140 g150 gF0
  have L10 : ∀ (x : Int) (tqq : St), q < n → ¬ isLe (B q) = true → isDg (B q) = true → tqq 94 14 = q → tqq 94 15 = q → tqq 94 16 = 2 → tqq 94 17 = 0 → rtF s tqq → wp PP d mb63 (mb63.getD 10 []) [some (vR 94), some (vI x)] [] (HP h0 tqq) Q := by
    intro x t0qq hq hl hg g140 g150 g160 g170 gF0
    have tl := tq_dg hq hl hg
    have eR1 := spE_le (f := isDg) (B := B) (n := n) (p := q)
    have eR2 := spE_R (f := isDg) (B := B) (n := n) (p := q) (by omega)
    have L10a : ∀ N : Nat, ∀ (j : Nat) (tqq : St), (N = n - j ∧ q ≤ j ∧ j ≤ spE isDg B n q) → (tqq 94 14 = j) → (tqq 94 15 = q) → (tqq 94 16 = 2) → (nmOk (tqq 94 17) (nvN B q (j - q))) → (∀ i : Nat, i < j - q → 48 ≤ B ((q : Int) + i) ∧ B ((q : Int) + i) ≤ 57) → (rtF s tqq) →  wp PP d mb63 (mb63.getD 10 []) [some (vR 94), some (vI x)] [] (HP h0 tqq) Q := by
      refine s_ind (fun N ih => ?_)
      intro j tqq hM g14 g15 g16 g8 gd gF
      refine x_aload rfl ?_
      refine n_call [vR _] [] (by omega) (Nat.le_of_ble_eq_true rfl) rfl rfl (Nat.le_of_ble_eq_true rfl) ?_
      refine n_here (j := j) (hR.f gF) g14 (by omega) ?_
      have bR := bA_R hb (j : Int)
      show wp PP _ _ _ [some (vR _), some (vI _)] [vI _] _ _
      refine n_call [vI _] [] (by omega) (Nat.le_of_ble_eq_true rfl) rfl rfl (Nat.le_of_ble_eq_true rfl) ?_
      refine r_isDigit ⟨by omega, by omega⟩ ?_
      show wp PP _ _ _ [some (vR _), some (vI _)] [vI _] _ _
      refine z_if_eq (fun c1 => ?_) (fun c1 => ?_)
      · refine x_ret ?_
        have ej : j = spE isDg B n q := by
          by_cases e9 : j < spE isDg B n q
          · exfalso
            have a := spE_all (f := isDg) (B := B) (n := n) (p := q) (j := j) (by omega) e9
            rw [bA_in a.1] at c1
            exact c1 (isDg_i.mp a.2)
          · omega
        refine k1 tqq ⟨?_, g15, fun zqq => by omega, fun zqq => by omega, fun _ => ⟨g16, ?_⟩, fun zqq => by omega, fun zqq => by omega, fun zqq => by omega⟩ gF
        · rw [g14, tl.1, ej]
        · rw [tl.2.2, ← ej]
          exact g8
      · refine x_aload rfl ?_
        refine x_aload rfl ?_
        refine h_getI 17 sc_94 rfl rfl ?_
        have jn : j < n := by
          by_cases e9 : j < n
          · exact e9
          · exfalso
            rw [bA_out (by omega)] at c1
            omega
        rw [bA_in jn] at c1
        have nvRR := nvN_R (B := B) (q := (q : Int)) (j - q) gd
        have g8R : 0 ≤ tqq 94 17 ∧ tqq 94 17 ≤ 1000000 := by
          unfold nmOk at g8
          omega
        refine x_ci ?_
        refine n_icmp_le ⟨by omega, by omega⟩ ⟨by omega, by omega⟩ (fun c2 => ?_) (fun c2 => ?_)
        · refine x_ci ?_
          refine x_aload rfl ?_
          refine h_getI 17 sc_94 rfl rfl ?_
          refine x_imul ?_
          refine x_aload rfl ?_
          refine n_call [vR _] [vI _, vR _] (by omega) (Nat.le_of_ble_eq_true rfl) rfl rfl (Nat.le_of_ble_eq_true rfl) ?_
          refine n_here (j := j) (hR.f gF) g14 (by omega) ?_
          rw [bA_in jn]
          show wp PP _ _ _ [some (vR _), some (vI _)] [vI _, vI _, vR _] _ _
          refine x_iadd ?_
          refine x_ci ?_
          refine x_isub ?_
          refine x_fall ?_
          refine h_putI 17 sc_94 rfl rfl ?_
          refine x_aload rfl ?_
          refine x_dupR ?_
          refine h_getI 14 sc_94 rfl rfl ?_
          rw [up_i (by decide), g14]
          refine x_ci ?_
          refine x_iadd ?_
          refine h_putI 14 sc_94 rfl rfl ?_
          refine x_goto ?_
          have hj1 : j + 1 ≤ spE isDg B n q := by
            rw [← spE_m (f := isDg) (B := B) (n := n) (p := q) (j := j) (by omega) (by omega), spE_y jn (isDg_i.mpr c1)]
            exact spE_le
          refine ih (n - (j + 1)) (by omega) (j + 1) _ (by omega) ?_ ?_ ?_ ?_ ?_ (rtF_up (rtF_up gF (by omega)) (by omega))
          · rw [up_e]
            omega
          · rw [up_i (by decide), up_i (by decide)]
            exact g15
          · rw [up_i (by decide), up_i (by decide)]
            exact g16
          · rw [up_i (by decide), up_e, show j + 1 - q = (j - q) + 1 by omega]
            show nmOk _ (min 100000 (10 * nvN B q (j - q) + B ((q : Int) + ((j - q : Nat) : Int)) - 48))
            rw [show (q : Int) + ((j - q : Nat) : Int) = j by omega]
            unfold nmOk at g8 ⊢
            omega
          · intro i hi
            by_cases e : i = j - q
            · rw [e, show (q : Int) + ((j - q : Nat) : Int) = j by omega]
              exact c1
            · exact gd i (by omega)
        · refine x_aload rfl ?_
          refine h_getI 17 sc_94 rfl rfl ?_
          refine x_goto ?_
          refine h_putI 17 sc_94 rfl rfl ?_
          refine x_aload rfl ?_
          refine x_dupR ?_
          refine h_getI 14 sc_94 rfl rfl ?_
          rw [up_i (by decide), g14]
          refine x_ci ?_
          refine x_iadd ?_
          refine h_putI 14 sc_94 rfl rfl ?_
          refine x_goto ?_
          have hj1 : j + 1 ≤ spE isDg B n q := by
            rw [← spE_m (f := isDg) (B := B) (n := n) (p := q) (j := j) (by omega) (by omega), spE_y jn (isDg_i.mpr c1)]
            exact spE_le
          refine ih (n - (j + 1)) (by omega) (j + 1) _ (by omega) ?_ ?_ ?_ ?_ ?_ (rtF_up (rtF_up gF (by omega)) (by omega))
          · rw [up_e]
            omega
          · rw [up_i (by decide), up_i (by decide)]
            exact g15
          · rw [up_i (by decide), up_i (by decide)]
            exact g16
          · rw [up_i (by decide), up_e, show j + 1 - q = (j - q) + 1 by omega]
            show nmOk _ (min 100000 (10 * nvN B q (j - q) + B ((q : Int) + ((j - q : Nat) : Int)) - 48))
            rw [show (q : Int) + ((j - q : Nat) : Int) = j by omega]
            unfold nmOk at g8 ⊢
            omega
          · intro i hi
            by_cases e : i = j - q
            · rw [e, show (q : Int) + ((j - q : Nat) : Int) = j by omega]
              exact c1
            · exact gd i (by omega)
    refine L10a (n - q) q t0qq (by omega) g140 g150 g160 ?_ (fun i hi => by omega) gF0
    rw [g170, show q - q = 0 by omega]
    exact ⟨fun _ => rfl, fun zqq => by have zqq : (0 : Int) = 100000 := zqq; omega⟩
  have L2 : ∀ {o1 : Option pv} (tqq : St), tqq 94 14 = q → rtF s tqq → wp PP d mb63 (mb63.getD 2 []) [some (vR 94), o1] [] (HP h0 tqq) Q := by
    intro o1 tqq g14 gF
    refine x_aload rfl ?_
    refine x_aload rfl ?_
    refine h_getI 14 sc_94 rfl rfl ?_
    rw [g14]
    refine h_putI 15 sc_94 rfl rfl ?_
    refine x_aload rfl ?_
    refine n_call [vR _] [] (by omega) (Nat.le_of_ble_eq_true rfl) rfl rfl (Nat.le_of_ble_eq_true rfl) ?_
    refine n_here (j := q) ((hR.f gF).f (rtF_up rtF_rfl (by omega))) ((up_i (by decide)).trans g14) (by omega) ?_
    have bR := bA_R hb (q : Int)
    show wp PP _ _ _ [some (vR _), _] [vI _] _ _
    refine n_istore [some (vR _), some (vI _)] (Nat.le_of_ble_eq_true rfl) rfl ?_
    refine x_iload rfl ?_
    refine x_ci ?_
    refine n_icmp_ne ⟨by omega, by omega⟩ ⟨by omega, by omega⟩ (fun c1 => ?_) (fun c1 => ?_)
    · refine x_iload rfl ?_
      refine n_call [vI _] [] (by omega) (Nat.le_of_ble_eq_true rfl) rfl rfl (Nat.le_of_ble_eq_true rfl) ?_
      refine r_isSmall ⟨by omega, by omega⟩ ?_
      show wp PP _ _ _ [some (vR _), some (vI _)] [vI _] _ _
      refine z_if_eq (fun c2 => ?_) (fun c2 => ?_)
      · refine x_iload rfl ?_
        refine n_call [vI _] [] (by omega) (Nat.le_of_ble_eq_true rfl) rfl rfl (Nat.le_of_ble_eq_true rfl) ?_
        refine r_isDigit ⟨by omega, by omega⟩ ?_
        show wp PP _ _ _ [some (vR _), some (vI _)] [vI _] _ _
        refine z_if_eq (fun c3 => ?_) (fun c3 => ?_)
        · refine x_aload rfl ?_
          refine x_iload rfl ?_
          refine n_call [vR _, vI _] [] (by omega) (Nat.le_of_ble_eq_true rfl) rfl rfl (Nat.le_of_ble_eq_true rfl) ?_
          have qn : q < n := by
            by_cases e9 : q < n
            · exact e9
            · exfalso
              rw [bA_out (by omega)] at c1
              omega
          rw [bA_in qn] at c2 c3 ⊢
          have tl := tq_sg qn (fun zqq => c2 (isLe_i.mp zqq)) (fun zqq => c3 (isDg_i.mp zqq))
          have sR := sgOf_R (B q) (bA B n ((q : Int) + 1))
          refine r_sign (q := q) (y2 := bA B n ((q : Int) + 1)) (by omega) ((hR.f gF).f (rtF_up rtF_rfl (by omega))) ((up_i (by decide)).trans g14) qn (hb (q : Int) (by omega) (by omega)) rfl (bA_R hb _) (fun uqq u1qq u2qq u3qq u4qq => ?_)
          show wp PP _ _ _ [some (vR _), some (vI _)] [] _ _
          refine x_fall ?_
          refine x_ret ?_
          refine k1 uqq ⟨?_, ?_, fun zqq => ?_, fun zqq => ?_, fun zqq => ?_, fun zqq => ?_, fun zqq => ?_, fun zqq => ?_⟩ (rtF_tr (rtF_up gF (by omega)) (fun b r y => u4qq b r (by omega)))
          · rw [u1qq, tl.1]
          · rw [u4qq 94 15 (by omega), up_e]
          · rw [tl.2.1] at zqq
            split at zqq <;> omega
          · rw [tl.2.1] at zqq
            rw [u2qq]
            split at zqq
            · rename_i e9
              rw [if_pos e9]
            · omega
          · rw [tl.2.1] at zqq
            split at zqq <;> omega
          · rw [tl.2.1] at zqq
            split at zqq <;> omega
          · rw [tl.2.1] at zqq
            split at zqq <;> omega
          · rw [tl.2.1] at zqq
            split at zqq
            · omega
            · rename_i e9
              rw [u2qq, if_neg e9, u3qq e9, tl.2.2]
              exact ⟨rfl, rfl⟩
        · refine x_aload rfl ?_
          refine x_ci ?_
          refine h_putI 16 sc_94 rfl rfl ?_
          refine x_aload rfl ?_
          refine x_ci ?_
          refine h_putI 17 sc_94 rfl rfl ?_
          refine x_fall ?_
          have qn : q < n := by
            by_cases e9 : q < n
            · exact e9
            · exfalso
              rw [bA_out (by omega)] at c1
              omega
          rw [bA_in qn] at c2 c3 ⊢
          exact L10 _ _ qn (fun zqq => c2 (isLe_i.mp zqq)) (isDg_i.mpr c3) (by rw [up_i (by decide), up_i (by decide), up_i (by decide)]; exact g14) (by rw [up_i (by decide), up_i (by decide), up_e]) (by rw [up_i (by decide), up_e]) up_e (rtF_up (rtF_up (rtF_up gF (by omega)) (by omega)) (by omega))
      · refine x_fall ?_
        have qn : q < n := by
          by_cases e9 : q < n
          · exact e9
          · exfalso
            rw [bA_out (by omega)] at c1
            omega
        rw [bA_in qn] at c2 ⊢
        exact L4 _ _ qn (isLe_i.mpr c2) ((up_i (by decide)).trans g14) up_e (rtF_up gF (by omega))
    · refine x_aload rfl ?_
      refine x_ci ?_
      refine h_putI 16 sc_94 rfl rfl ?_
      refine x_goto ?_
      refine x_ret ?_
      have qn : n ≤ q := by
        by_cases e9 : q < n
        · exfalso
          rw [bA_in e9] at c1
          have := hb (q : Int) (by omega) (by omega)
          omega
        · omega
      have k0 := (tqK_0 (B := B)).mpr qn
      refine k1 _ ⟨?_, ?_, fun _ => up_e, fun zqq => by omega, fun zqq => by omega, fun zqq => by omega, fun zqq => by omega, fun zqq => by omega⟩ (rtF_up (rtF_up gF (by omega)) (by omega))
      · rw [up_i (by decide), up_i (by decide), tqE_0 qn]
        exact g14
      · rw [up_i (by decide), up_e]
  have L1 : ∀ N : Nat, ∀ {o1 : Option pv} (j : Nat) (tqq : St), (N = n - j ∧ j ≤ n) → (tqq 94 14 = j) → (spE isBl B n j = q) → (rtF s tqq) →  wp PP d mb63 (mb63.getD 0 []) [some (vR 94), o1] [] (HP h0 tqq) Q := by
    refine s_ind (fun N ih => ?_)
    intro o1 j tqq hM g14 ge gF
    refine x_aload rfl ?_
    refine n_call [vR _] [] (by omega) (Nat.le_of_ble_eq_true rfl) rfl rfl (Nat.le_of_ble_eq_true rfl) ?_
    refine n_here (j := j) (hR.f gF) g14 (by omega) ?_
    have bR := bA_R hb (j : Int)
    show wp PP _ _ _ [some (vR _), _] [vI _] _ _
    refine x_ci ?_
    refine n_icmp_eq ⟨by omega, by omega⟩ ⟨by omega, by omega⟩ (fun c1 => ?_) (fun c1 => ?_)
    · refine x_aload rfl ?_
      refine x_dupR ?_
      refine h_getI 14 sc_94 rfl rfl ?_
      rw [g14]
      refine x_ci ?_
      refine x_iadd ?_
      refine h_putI 14 sc_94 rfl rfl ?_
      refine x_goto ?_
      have jn : j < n := by
        by_cases e9 : j < n
        · exact e9
        · exfalso
          rw [bA_out (by omega)] at c1
          omega
      have cB : B j = 10 ∨ B j = 32 := by
        rw [bA_in jn] at *
        omega
      refine ih (n - (j + 1)) (by omega) (j + 1) _ (by omega) ?_ ?_ (rtF_up gF (by omega))
      · rw [up_e]
        omega
      · rw [← spE_y jn (isBl_i.mpr cB)]
        exact ge
    · refine x_aload rfl ?_
      refine n_call [vR _] [] (by omega) (Nat.le_of_ble_eq_true rfl) rfl rfl (Nat.le_of_ble_eq_true rfl) ?_
      refine n_here (j := j) (hR.f gF) g14 (by omega) ?_
      have bR := bA_R hb (j : Int)
      show wp PP _ _ _ [some (vR _), _] [vI _] _ _
      refine x_ci ?_
      refine n_icmp_ne ⟨by omega, by omega⟩ ⟨by omega, by omega⟩ (fun c2 => ?_) (fun c2 => ?_)
      · refine L2 tqq ?_ gF
        have ej : spE isBl B n j = j := spE_n (fun zqq => by
          have zb := isBl_i.mp zqq.2
          rw [bA_in zqq.1] at c1 c2
          omega)
        rw [g14, ← ge, ej]
      · refine x_fall ?_
        refine x_aload rfl ?_
        refine x_dupR ?_
        refine h_getI 14 sc_94 rfl rfl ?_
        rw [g14]
        refine x_ci ?_
        refine x_iadd ?_
        refine h_putI 14 sc_94 rfl rfl ?_
        refine x_goto ?_
        have jn : j < n := by
          by_cases e9 : j < n
          · exact e9
          · exfalso
            rw [bA_out (by omega)] at c2
            omega
        have cB : B j = 10 ∨ B j = 32 := by
          rw [bA_in jn] at *
          omega
        refine ih (n - (j + 1)) (by omega) (j + 1) _ (by omega) ?_ ?_ (rtF_up gF (by omega))
        · rw [up_e]
          omega
        · rw [← spE_y jn (isBl_i.mpr cB)]
          exact ge
  refine n_at (m := 63) (q := mr63) (kn := (0, 1)) [some (vR _), none] mb63 rfl rfl (h_rcv sc_94) (Nat.le_of_ble_eq_true rfl) rfl rfl ?_
  exact L1 (n - p) p s (by omega) h14 hqq.symm rtF_rfl
end TX7
