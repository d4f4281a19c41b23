/-! CHANCE -/
section PB2
variable {d tp : Nat} {h0 : pheap} {s : St} {Q : Option pv → pheap → Prop} {L : Int} {n zqq K N : Nat} {c c' : Int → Int} {vw rf sl yr la : Int}
abbrev c00 : Int → Int := fun _ => 0
def chX (x : Int) (m : Nat) : Nat → Int
  | 0 => x
  | i + 1 => fsN (chX x m i) m
def chH (L x : Int) (m : Nat) : Nat → Int
  | 0 => 0
  | i + 1 => chH L x m i + bI (tpO (wO L (fsK L (chX x m i) 0 c00) m) (cnt L).toNat (cnt L).toNat = 0)
theorem chX_R {x : Int} {m : Nat} (hx : 0 ≤ x ∧ x < 2147483648) : ∀ i, 0 ≤ chX x m i ∧ chX x m i < 2147483648
  | 0 => hx
  | i + 1 => fsN_R (chX_R hx i) m
theorem chH_R {x : Int} {m : Nat} : ∀ i : Nat, 0 ≤ chH L x m i ∧ chH L x m i ≤ i
  | 0 => by simp [chH]
  | i + 1 => by
    have := chH_R (x := x) (m := m) i
    have := bI_R (tpO (wO L (fsK L (chX x m i) 0 c00) m) (cnt L).toNat (cnt L).toNat = 0)
    simp only [chH]
    omega
abbrev chP (L x m : Int) : Prop := 0 ≤ x ∧ 1 ≤ m ∧ m ≤ 48 ∧ 2 ≤ cnt L
theorem m_chance (hd : 14 ≤ d) (hp : PL 54 L n c s) {x m : Int} (hx : iR x) (hm : iR m) (kY : chP L x m → ∀ tqq, lkC tp s tqq → Q (some (vI (chH L x m.toNat 10))) (HP h0 tqq)) (kN : ¬ chP L x m → Q (some (vI (-1))) (HP h0 s)) : wpM PP d 38 [vR 32, vI x, vI m] (HP h0 s) Q := by
  have hct := cnt_R L
  have LL : ∀ (m : Nat), (hx0 : 0 ≤ x) → (hm1 : 1 ≤ m ∧ m ≤ 48) → (hct2 : 2 ≤ cnt L) → (kL : ∀ tqq, (∀ b : Nat, (b < 64 ∨ 67 < b) → ∀ r, tqq b r = s b r) → Q (some (vI (chH L x m 10))) (HP h0 tqq)) → wp PP d mb38 (mb38.getD 3 []) [some (vR 32), some (vI x), some (vI m), some (vL x), none, some (vI 0), some (vI 0)] [] (HP h0 s) Q := by
    intro m hx0 hm1 hct2 kL
    have L1 : ∀ M : Nat, ∀ (i : Nat) (ii : Int) (y : Int) (o : Int) (tqq : St), (ii = i) → (M = 10 - i ∧ i ≤ 10) → (y = chX x m i) → (o = chH L x m i) → (∀ b : Nat, (b < 64 ∨ 67 < b) → ∀ r, tqq b r = s b r) →  wp PP d mb38 (mb38.getD 3 []) [some (vR 32), some (vI x), some (vI m), some (vL y), none, some (vI o), some (vI ii)] [] (HP h0 tqq) Q := by
      refine s_ind (fun M ih => ?_)
      intro i ii y o tqq hii hM hy ho g1
      subst hy
      have hoR := chH_R (L := L) (x := x) (m := m) i
      refine x_iload rfl ?_
      refine x_ci ?_
      refine n_icmp_ge ⟨by omega, by omega⟩ ⟨by omega, by omega⟩ (fun c1 => ?_) (fun c1 => ?_)
      · refine x_iload rfl ?_
        refine x_iret ?_
        have e : i = 10 := by omega
        rw [ho, e]
        exact kL tqq g1
      · refine x_aload rfl ?_
        refine h_getR sc_32 rfl (by omega) ?_
        refine h_getR sc_63 rfl (by omega) ?_
        refine x_aload rfl ?_
        refine h_getR sc_32 rfl (by omega) ?_
        refine h_getR sc_53 rfl (by omega) ?_
        refine h_getI 3 sc_54 rfl rfl ?_
        rw [(g1 54 (by omega) 3).trans hp.left]
        refine n_call [vR _, vI _] [] (by omega) (Nat.le_of_ble_eq_true rfl) rfl rfl (Nat.le_of_ble_eq_true rfl) ?_
        refine m_begin (c := c00) pl_64 (by omega) hp.hL (fun uqq u1qq u2qq u3qq => ?_)
        show wp PP _ _ _ [some (vR _), some (vI _), some (vI _), some (vL _), _, some (vI _), some (vI _)] [] _ _
        refine x_aload rfl ?_
        refine h_getR sc_32 rfl (by omega) ?_
        refine h_getR sc_63 rfl (by omega) ?_
        refine x_lload rfl ?_
        refine x_iload rfl ?_
        refine n_call [vR _, vL _, vI _] [] (by omega) (Nat.le_of_ble_eq_true rfl) rfl rfl (Nat.le_of_ble_eq_true rfl) ?_
        refine m_danceFeast pl_64 (by omega) u1qq (chX_R ⟨by omega, by omega⟩ i) (m := m) (by omega) (by omega) (fun vqq v1qq v2qq => ?_)
        show wp PP _ _ _ [some (vR _), some (vI _), some (vI _), some (vL _), _, some (vI _), some (vI _)] [vL _] _ _
        refine n_lstore [some (vR _), some (vI _), some (vI _), some (vL _), _, some (vI _), some (vI _)] (Nat.le_of_ble_eq_true rfl) rfl ?_
        refine x_aload rfl ?_
        refine h_getR sc_32 rfl (by omega) ?_
        refine h_getR sc_63 rfl (by omega) ?_
        refine n_call [vR _] [] (by omega) (Nat.le_of_ble_eq_true rfl) rfl rfl (Nat.le_of_ble_eq_true rfl) ?_
        have v1qq : PL 64 L m (fsK L (chX x m i) 0 c00) vqq := by
          rw [Nat.zero_add] at v1qq
          exact v1qq
        have tpq : ((cnt L).toNat : Int) * ((cnt L).toNat : Int) ≤ 36 := by
          have := Nat.mul_le_mul (show (cnt L).toNat ≤ 6 by omega) (show (cnt L).toNat ≤ 6 by omega)
          have e := Int.natCast_mul (cnt L).toNat (cnt L).toNat
          omega
        have tpR := tpO_R (wO L (fsK L (chX x m i) 0 c00) m) (cnt L).toNat (cnt L).toNat
        refine m_turnedPairs pl_64 (by omega) v1qq ?_
        show wp PP _ _ _ [some (vR _), some (vI _), some (vI _), some (vL _), _, some (vI _), some (vI _)] [vI _] _ _
        refine n_if_ne ⟨by omega, by omega⟩ (fun c2 => ?_) (fun c2 => ?_)
        · refine n_iinc [some (vR _), some (vI _), some (vI _), some (vL _), _, some (vI _), some (vI _)] rfl rfl ?_
          refine x_goto ?_
          refine ih (10 - (i + 1)) (by omega) (i + 1) _ _ _ vqq (by omega) (by omega) rfl ?_ (fun b q r => ?_)
          · simp only [chH]
            rw [ho]
            rw [bI_f (by assumption)]
            omega
          · rw [v2qq b (by omega) r, u3qq b (by omega) r]
            exact g1 b q r
        · refine n_iinc [some (vR _), some (vI _), some (vI _), some (vL _), _, some (vI _), some (vI _)] rfl rfl ?_
          refine x_fall ?_
          refine n_iinc [some (vR _), some (vI _), some (vI _), some (vL _), _, some (vI _), some (vI _)] rfl rfl ?_
          refine x_goto ?_
          refine ih (10 - (i + 1)) (by omega) (i + 1) _ _ _ vqq (by omega) (by omega) rfl ?_ (fun b q r => ?_)
          · simp only [chH]
            rw [ho]
            rw [bI_t (by omega)]
          · rw [v2qq b (by omega) r, u3qq b (by omega) r]
            exact g1 b q r
    exact L1 10 0 0 x 0 s rfl (by omega) rfl rfl (fun _ _ _ => rfl)
  refine n_at (m := 38) (q := mr38) (kn := (0, 3)) [some (vR _), some (vI _), some (vI _), none, none, none, none] mb38 rfl rfl (h_rcv sc_32) (Nat.le_of_ble_eq_true rfl) rfl rfl ?_
  refine x_iload rfl ?_
  refine n_if_lt ⟨by omega, by omega⟩ (fun c1 => ?_) (fun c1 => ?_)
  · refine x_ci ?_
    refine x_iret ?_
    exact kN (fun q => by omega)
  · refine x_iload rfl ?_
    refine x_ci ?_
    refine n_icmp_lt ⟨by omega, by omega⟩ ⟨by omega, by omega⟩ (fun c2 => ?_) (fun c2 => ?_)
    · refine x_ci ?_
      refine x_iret ?_
      exact kN (fun q => by omega)
    · refine x_iload rfl ?_
      refine x_ci ?_
      refine n_icmp_gt ⟨by omega, by omega⟩ ⟨by omega, by omega⟩ (fun c3 => ?_) (fun c3 => ?_)
      · refine x_ci ?_
        refine x_iret ?_
        exact kN (fun q => by omega)
      · refine x_aload rfl ?_
        refine h_getR sc_32 rfl (by omega) ?_
        refine h_getR sc_53 rfl (by omega) ?_
        refine h_getI 4 sc_54 rfl rfl ?_
        rw [hp.count]
        refine x_ci ?_
        refine n_icmp_ge ⟨by omega, by omega⟩ ⟨by omega, by omega⟩ (fun c4 => ?_) (fun c4 => ?_)
        · refine x_iload rfl ?_
          refine n_i2l ⟨by omega, by omega⟩ ?_
          refine n_lstore [some (vR _), some (vI _), some (vI _), some (vL _), _, _, _] (Nat.le_of_ble_eq_true rfl) rfl ?_
          refine x_ci ?_
          refine n_istore [some (vR _), some (vI _), some (vI _), some (vL _), _, some (vI _), _] (Nat.le_of_ble_eq_true rfl) rfl ?_
          refine x_ci ?_
          refine n_istore [some (vR _), some (vI _), some (vI _), some (vL _), _, some (vI _), some (vI _)] (Nat.le_of_ble_eq_true rfl) rfl ?_
          refine x_fall ?_
          obtain ⟨mm, hmm⟩ : ∃ mm : Nat, m = mm := ⟨m.toNat, by omega⟩
          subst hmm
          exact LL mm (by omega) (by omega) (by omega) (fun tqq g => kY ⟨by omega, by omega, by omega, by omega⟩ tqq (fun b r q1 q2 q3 q4 => g b (by omega) r))
        · refine x_fall ?_
          refine x_ci ?_
          refine x_iret ?_
          exact kN (fun q => by omega)
end PB2
