/-! FREED -/
section PB9
variable {d tp : Nat} {h0 : pheap} {s : St} {Q : Option pv → pheap → Prop} {L : Int} {n zqq K N : Nat} {c c' : Int → Int}
theorem bd_0 {o : Int} : bd L c n o = 0 ↔ ∀ y : Fin 6, wB L c n (6 * o + ((y : Nat) : Int)) = 0 := by
  have e : bd L c n o = 0 + bI (wB L c n (6 * o + ((0 : Nat) : Int)) ≠ 0) * 1 + bI (wB L c n (6 * o + ((1 : Nat) : Int)) ≠ 0) * 2 + bI (wB L c n (6 * o + ((2 : Nat) : Int)) ≠ 0) * 4 + bI (wB L c n (6 * o + ((3 : Nat) : Int)) ≠ 0) * 8 + bI (wB L c n (6 * o + ((4 : Nat) : Int)) ≠ 0) * 16 + bI (wB L c n (6 * o + ((5 : Nat) : Int)) ≠ 0) * 32 := by
    unfold bd
    simp only [bdN, ite_bI]
    rfl
  have b0 := bI_or (wB L c n (6 * o + ((0 : Nat) : Int)) ≠ 0)
  have b1 := bI_or (wB L c n (6 * o + ((1 : Nat) : Int)) ≠ 0)
  have b2 := bI_or (wB L c n (6 * o + ((2 : Nat) : Int)) ≠ 0)
  have b3 := bI_or (wB L c n (6 * o + ((3 : Nat) : Int)) ≠ 0)
  have b4 := bI_or (wB L c n (6 * o + ((4 : Nat) : Int)) ≠ 0)
  have b5 := bI_or (wB L c n (6 * o + ((5 : Nat) : Int)) ≠ 0)
  constructor
  · intro h y
    have hy : y = 0 ∨ y = 1 ∨ y = 2 ∨ y = 3 ∨ y = 4 ∨ y = 5 := by omega
    rcases hy with rfl | rfl | rfl | rfl | rfl | rfl
    · show wB L c n (6 * o + ((0 : Nat) : Int)) = 0
      omega
    · show wB L c n (6 * o + ((1 : Nat) : Int)) = 0
      omega
    · show wB L c n (6 * o + ((2 : Nat) : Int)) = 0
      omega
    · show wB L c n (6 * o + ((3 : Nat) : Int)) = 0
      omega
    · show wB L c n (6 * o + ((4 : Nat) : Int)) = 0
      omega
    · show wB L c n (6 * o + ((5 : Nat) : Int)) = 0
      omega
  · intro h
    have h0 : wB L c n (6 * o + ((0 : Nat) : Int)) = 0 := h 0
    have h1 : wB L c n (6 * o + ((1 : Nat) : Int)) = 0 := h 1
    have h2 : wB L c n (6 * o + ((2 : Nat) : Int)) = 0 := h 2
    have h3 : wB L c n (6 * o + ((3 : Nat) : Int)) = 0 := h 3
    have h4 : wB L c n (6 * o + ((4 : Nat) : Int)) = 0 := h 4
    have h5 : wB L c n (6 * o + ((5 : Nat) : Int)) = 0 := h 5
    omega
theorem clr_0_f : ∀ l : Fin 64, ∀ x : Fin 6, clr ((l : Nat) : Int) ((x : Nat) : Int) = 0 ↔ ∀ y : Fin 6, y ≠ x → bt ((l : Nat) : Int) ((y : Nat) : Int) = 0 := by decide +kernel
theorem bt_bits_f : ∀ b : Fin 64, ∀ y : Fin 6, bt ((b : Nat) : Int) ((y : Nat) : Int) = (((b : Nat) / 2 ^ (y : Nat) % 2 : Nat) : Int) := by decide +kernel
theorem bd_bt {o : Int} (y : Fin 6) : bt (bd L c n o) ((y : Nat) : Int) = bI (wB L c n (6 * o + ((y : Nat) : Int)) ≠ 0) := by
  have e : bd L c n o = 0 + bI (wB L c n (6 * o + ((0 : Nat) : Int)) ≠ 0) * 1 + bI (wB L c n (6 * o + ((1 : Nat) : Int)) ≠ 0) * 2 + bI (wB L c n (6 * o + ((2 : Nat) : Int)) ≠ 0) * 4 + bI (wB L c n (6 * o + ((3 : Nat) : Int)) ≠ 0) * 8 + bI (wB L c n (6 * o + ((4 : Nat) : Int)) ≠ 0) * 16 + bI (wB L c n (6 * o + ((5 : Nat) : Int)) ≠ 0) * 32 := by
    unfold bd
    simp only [bdN, ite_bI]
    rfl
  rw [e]
  have b0 := bI_R (wB L c n (6 * o + ((0 : Nat) : Int)) ≠ 0)
  have b1 := bI_R (wB L c n (6 * o + ((1 : Nat) : Int)) ≠ 0)
  have b2 := bI_R (wB L c n (6 * o + ((2 : Nat) : Int)) ≠ 0)
  have b3 := bI_R (wB L c n (6 * o + ((3 : Nat) : Int)) ≠ 0)
  have b4 := bI_R (wB L c n (6 * o + ((4 : Nat) : Int)) ≠ 0)
  have b5 := bI_R (wB L c n (6 * o + ((5 : Nat) : Int)) ≠ 0)
  have hy : y = 0 ∨ y = 1 ∨ y = 2 ∨ y = 3 ∨ y = 4 ∨ y = 5 := by omega
  unfold bt
  rcases hy with rfl | rfl | rfl | rfl | rfl | rfl
  · show _ / (1 : Int) % 2 = bI (wB L c n (6 * o + ((0 : Nat) : Int)) ≠ 0)
    omega
  · show _ / (2 : Int) % 2 = bI (wB L c n (6 * o + ((1 : Nat) : Int)) ≠ 0)
    omega
  · show _ / (4 : Int) % 2 = bI (wB L c n (6 * o + ((2 : Nat) : Int)) ≠ 0)
    omega
  · show _ / (8 : Int) % 2 = bI (wB L c n (6 * o + ((3 : Nat) : Int)) ≠ 0)
    omega
  · show _ / (16 : Int) % 2 = bI (wB L c n (6 * o + ((4 : Nat) : Int)) ≠ 0)
    omega
  · show _ / (32 : Int) % 2 = bI (wB L c n (6 * o + ((5 : Nat) : Int)) ≠ 0)
    omega
theorem bd_clr {o x : Int} (hx : 0 ≤ x ∧ x < 6) : clr (bd L c n o) x = 0 ↔ ∀ y : Fin 6, ((y : Nat) : Int) ≠ x → wB L c n (6 * o + ((y : Nat) : Int)) = 0 := by
  have r := bdN_R (L := L) (c := c) (n := n) (x := o) 6
  have r : 0 ≤ bd L c n o ∧ bd L c n o < 64 := r
  have f := clr_0_f ⟨(bd L c n o).toNat, by omega⟩ ⟨x.toNat, by omega⟩
  simp only [Int.toNat_of_nonneg r.1, Int.toNat_of_nonneg hx.1] at f
  rw [f]
  constructor
  · intro h y hy
    have := h y (fun e => hy (by rw [e]; show ((x.toNat : Nat) : Int) = x; omega))
    rw [bd_bt] at this
    have := bI_or (wB L c n (6 * o + ((y : Nat) : Int)) ≠ 0)
    omega
  · intro h y hy
    rw [bd_bt]
    refine bI_f (fun q => q (h y (fun e => hy ?_)))
    refine Fin.ext ?_
    show (y : Nat) = x.toNat
    omega
def frA (L : Int) (n : Nat) (c : Int → Int) (x : Int) : Nat → Int
  | 0 => 0
  | k + 1 => frA L n c x k + (if (k : Int) ≠ x ∧ bt L k = 1 ∧ clr (bd L c n k) x = 0 then 2 ^ k else 0)
theorem frA_R {x : Int} : ∀ k : Nat, 0 ≤ frA L n c x k ∧ frA L n c x k < 2 ^ k
  | 0 => by simp [frA]
  | k + 1 => by
    have := frA_R (x := x) k
    simp only [frA, Int.pow_succ]
    split <;> omega
theorem bt_clr_f : ∀ l : Fin 64, ∀ x y : Fin 6, bt (clr ((l : Nat) : Int) ((x : Nat) : Int)) ((y : Nat) : Int) = if y = x then 0 else bt ((l : Nat) : Int) ((y : Nat) : Int) := by decide +kernel
theorem frA_is {x : Int} (hL : 0 ≤ L ∧ L < 64) (hx : 0 ≤ x ∧ x < 6 ∧ bt L x = 1) (vqq : vC L c n) : ∀ k : Nat, k ≤ 6 → foN (clr L x) (rc L c (cntN L x.toNat) n) (rk L c (cntN L x.toNat) n) k = frA L n c x k
  | 0, _ => rfl
  | k + 1, hk => by
    have ih := frA_is hL hx vqq k (by omega)
    have lg := (lg_all hL hx vqq).2
    simp only [foN, frA]
    rw [ih]
    congr 1
    have f := bt_clr_f ⟨L.toNat, by omega⟩ ⟨x.toNat, by omega⟩ ⟨k, by omega⟩
    simp only [Int.toNat_of_nonneg hL.1, Int.toNat_of_nonneg hx.1] at f
    have e : (bt (clr L x) k = 1 ∧ bd (clr L x) (rc L c (cntN L x.toNat) n) (rk L c (cntN L x.toNat) n) k = 0) ↔ ((k : Int) ≠ x ∧ bt L k = 1 ∧ clr (bd L c n k) x = 0) := by
      rw [f, bd_0, bd_clr ⟨hx.1, hx.2.1⟩]
      by_cases q : (k : Int) = x
      · rw [if_pos (Fin.ext (show k = x.toNat by omega))]
        omega
      · rw [if_neg (fun zqq => q (by have := congrArg Fin.val zqq; have this : k = x.toNat := this; omega))]
        constructor
        · rintro ⟨a, b⟩
          refine ⟨q, a, fun y hy => ?_⟩
          have := b y
          rw [lg _ _ (by omega) (by have := y.2; omega), if_neg (by omega)] at this
          exact this
        · rintro ⟨_, a, b⟩
          refine ⟨a, fun y => ?_⟩
          rw [lg _ _ (by omega) (by have := y.2; omega)]
          by_cases zqq : ((y : Nat) : Int) = x
          · rw [if_pos (Or.inr zqq)]
          · rw [if_neg (by omega)]
            exact b y zqq
    by_cases q : (k : Int) ≠ x ∧ bt L k = 1 ∧ clr (bd L c n k) x = 0
    · rw [if_pos q, if_pos (e.mpr q)]
    · rw [if_neg q, if_neg (fun zqq => q (e.mp zqq))]
abbrev frP (L x : Int) : Prop := 0 ≤ x ∧ x < 6 ∧ bt L x = 1
theorem m_freed (hd : 6 ≤ d) (hp : PL 54 L n c s) {x : Int} (hx : iR x) (kY : frP L x → Q (some (vI (frA L n c x 6))) (HP h0 s)) (kN : ¬ frP L x → Q (some (vI (-1))) (HP h0 s)) : wpM PP d 31 [vR 32, vI x] (HP h0 s) Q := by
  have LL : (hxx : frP L x) → wp PP d mb31 (mb31.getD 2 []) [some (vR 32), some (vI x), some (vI 0), some (vI 0)] [] (HP h0 s) Q := by
    intro hxx
    have L1 : ∀ M : Nat, ∀ (k : Nat) (kk : Int) (wqq : Int), (kk = k) → (M = 6 - k ∧ k ≤ 6) → (wqq = frA L n c x k) →  wp PP d mb31 (mb31.getD 2 []) [some (vR 32), some (vI x), some (vI wqq), some (vI kk)] [] (HP h0 s) Q := by
      refine s_ind (fun M ih => ?_)
      intro k kk wqq hkk hM hw
      subst hkk
      have wR : 0 ≤ frA L n c x k ∧ frA L n c x k < 2 ^ k := frA_R k
      have pc := pow_cap (k := k) (by omega)
      rw [← hw] at wR
      refine x_iload rfl ?_
      refine x_ci ?_
      refine n_icmp_ge ⟨by omega, by omega⟩ ⟨by omega, by omega⟩ (fun c1 => ?_) (fun c1 => ?_)
      · refine x_iload rfl ?_
        refine x_iret ?_
        have e : k = 6 := by omega
        refine cI (kY hxx) ?_
        rw [hw, e]
      · refine x_iload rfl ?_
        refine x_iload rfl ?_
        refine n_icmp_eq ⟨by omega, by omega⟩ ⟨by omega, by omega⟩ (fun c2 => ?_) (fun c2 => ?_)
        · refine n_iinc [some (vR _), some (vI _), some (vI _), some (vI _)] rfl rfl ?_
          refine x_goto ?_
          refine ih (6 - (k + 1)) (by omega) (k + 1) _ _ (by omega) (by omega) ?_
          simp only [frA]
          rw [if_neg (by omega), hw]
          omega
        · refine x_aload rfl ?_
          refine h_getR sc_32 rfl (by omega) ?_
          refine h_getR sc_53 rfl (by omega) ?_
          refine x_iload rfl ?_
          refine x_iload rfl ?_
          refine n_call [vR _, vI _, vI _] [] (by omega) (Nat.le_of_ble_eq_true rfl) rfl rfl (Nat.le_of_ble_eq_true rfl) ?_
          refine m_isFreeBut pl_54 (by omega) hp (x := (k : Int)) (y := x) (by omega) hxx ?_
          show wp PP _ _ _ [some (vR _), some (vI _), some (vI _), some (vI _)] [vI _] _ _
          refine z_if_eq (fun c3 => ?_) (fun c3 => ?_)
          · refine n_iinc [some (vR _), some (vI _), some (vI _), some (vI _)] rfl rfl ?_
            refine x_goto ?_
            refine ih (6 - (k + 1)) (by omega) (k + 1) _ _ (by omega) (by omega) ?_
            simp only [frA]
            rw [if_neg (by omega), hw]
            omega
          · refine x_iload rfl ?_
            refine x_ci ?_
            refine x_iload rfl ?_
            refine x_ishl ?_
            refine x_ior ?_
            rw [or_bit (by omega) (by rw [hw, show ((k : Nat) : Int).toNat = k by omega]; exact frA_R k), show ((k : Nat) : Int).toNat = k by omega]
            refine n_istore [some (vR _), some (vI _), some (vI _), some (vI _)] (Nat.le_of_ble_eq_true rfl) rfl ?_
            refine x_fall ?_
            refine n_iinc [some (vR _), some (vI _), some (vI _), some (vI _)] rfl rfl ?_
            refine x_goto ?_
            refine ih (6 - (k + 1)) (by omega) (k + 1) _ _ (by omega) (by omega) ?_
            simp only [frA]
            rw [if_pos ⟨by omega, by omega, by omega⟩, hw]
    exact L1 6 0 0 0 rfl (by omega) rfl
  refine n_at (m := 31) (q := mr31) (kn := (0, 2)) [some (vR _), some (vI _), none, none] mb31 rfl rfl (h_rcv sc_32) (Nat.le_of_ble_eq_true rfl) rfl rfl ?_
  refine x_aload rfl ?_
  refine h_getR sc_32 rfl (by omega) ?_
  refine h_getR sc_53 rfl (by omega) ?_
  refine x_iload rfl ?_
  refine n_call [vR _, vI _] [] (by omega) (Nat.le_of_ble_eq_true rfl) rfl rfl (Nat.le_of_ble_eq_true rfl) ?_
  refine m_isLeft pl_54 (by rw [hp.left]; exact hp.hL) ⟨by omega, by omega⟩ ?_
  rw [hp.left]
  show wp PP _ _ _ [some (vR _), some (vI _), _, _] [vI _] _ _
  refine z_if_ne (fun c1 => ?_) (fun c1 => ?_)
  · refine x_ci ?_
    refine n_istore [some (vR _), some (vI _), some (vI _), _] (Nat.le_of_ble_eq_true rfl) rfl ?_
    refine x_ci ?_
    refine n_istore [some (vR _), some (vI _), some (vI _), some (vI _)] (Nat.le_of_ble_eq_true rfl) rfl ?_
    refine x_fall ?_
    exact LL (by omega)
  · refine x_ci ?_
    refine x_iret ?_
    exact kN (by omega)
theorem r_freed (hd : 9 ≤ d) (hr0 : RD 0 L n c s) {D : Int} (h1 : s 96 0 = D) (hD6 : 0 ≤ D ∧ D ≤ 6) (hlD : lD L D) {x : Int} (hx : iR x) (kY : frP L x → ∀ tqq, lkN s tqq → Q (some (vI (frA L n c x 6))) (HP h0 tqq)) (kN : ¬ frP L x → Q (some (vI (-1))) (HP h0 (up s 94 0 0))) : wpM PP d 165 [vR 94, vI x] (HP h0 s) Q := by
  obtain ⟨hL, hn, hv, r1, r2, r3⟩ := hr0
  have hr0 : RD 0 L n c s := ⟨hL, hn, hv, r1, r2, r3⟩
  have hct := cnt_R L
  refine n_at (m := 165) (q := mr165) (kn := (0, 2)) [some (vR _), some (vI _)] mb165 rfl rfl (h_rcv sc_94) (Nat.le_of_ble_eq_true rfl) rfl rfl ?_
  refine x_aload rfl ?_
  refine x_ci ?_
  refine h_putI 0 sc_94 rfl rfl ?_
  refine x_aload rfl ?_
  refine x_iload rfl ?_
  refine n_call [vR _, vI _] [] (by omega) (Nat.le_of_ble_eq_true rfl) rfl rfl (Nat.le_of_ble_eq_true rfl) ?_
  refine r_isLeftNow (L := L) (by omega) ((up_a (by decide)).trans h1) hD6 hlD ((up_a (by decide)).trans r1) hL ⟨by omega, by omega⟩ ?_
  show wp PP _ _ _ [some (vR _), some (vI _)] [vI _] _ _
  refine z_if_ne (fun c1 => ?_) (fun c1 => ?_)
  · refine x_aload rfl ?_
    refine x_ci ?_
    refine x_ci ?_
    refine n_call [vR _, vI _, vI _] [] (by omega) (Nat.le_of_ble_eq_true rfl) rfl rfl (Nat.le_of_ble_eq_true rfl) ?_
    refine r_copies (to := 1) (as := 0) (n := n) (by omega) (by omega) (by omega) ((up_a (by decide)).trans r2) hn (fun tqq t1qq => ?_)
    show wp PP _ _ _ [some (vR _), some (vI _)] [] _ _
    refine x_aload rfl ?_
    refine x_ci ?_
    refine x_iload rfl ?_
    refine n_call [vR _, vI _, vI _] [] (by omega) (Nat.le_of_ble_eq_true rfl) rfl rfl (Nat.le_of_ble_eq_true rfl) ?_
    refine r_letsGo2 (f := 1) (by omega) (by omega) (t1qq.rd (RD.up hr0 (by decide))) (x := x) (by omega) (fun uqq u1qq u2qq => ?_)
    show wp PP _ _ _ [some (vR _), some (vI _)] [] _ _
    refine x_aload rfl ?_
    refine x_ci ?_
    refine n_call [vR _, vI _] [] (by omega) (Nat.le_of_ble_eq_true rfl) rfl rfl (Nat.le_of_ble_eq_true rfl) ?_
    refine r_standsAll (f := 1) (by omega) (by omega) u1qq (fun vqq v1qq v2qq => ?_)
    obtain ⟨x1, x2, x3, x4, x5, x6⟩ := u1qq
    have hr1 : RD 1 (clr L x) (rk L c (cntN L x.toNat) n) (rc L c (cntN L x.toNat) n) vqq := ⟨x1, x2, x3, (v2qq 111 (by omega) 1).trans x4, (v2qq 112 (by omega) 1).trans x5, fun i i0 i1 => (v2qq 113 (by omega) _).trans (x6 i i0 i1)⟩
    show wp PP _ _ _ [some (vR _), some (vI _)] [] _ _
    refine x_aload rfl ?_
    refine x_ci ?_
    refine n_call [vR _, vI _] [] (by omega) (Nat.le_of_ble_eq_true rfl) rfl rfl (Nat.le_of_ble_eq_true rfl) ?_
    refine r_freeOnes (f := 1) (by omega) (by omega) hr1 v1qq ?_
    rw [frA_is hL (by omega) hv 6 (by omega)]
    show wp PP _ _ _ [some (vR _), some (vI _)] [vI _] _ _
    refine x_iret ?_
    first
      | exact kN (by omega)
      | exact kY (by omega) vqq (fun b r q1 q2 q3 q4 q5 q6 q7 => by rw [v2qq b (by omega) r, u2qq b r (by omega) (by omega) (by omega), t1qq.1 b r (by omega) (by omega), up_f (by omega)])
  · refine x_ci ?_
    refine x_iret ?_
    first
      | exact kN (by omega)
      | exact kY (by omega) vqq (fun b r q1 q2 q3 q4 q5 q6 q7 => by rw [v2qq b (by omega) r, u2qq b r (by omega) (by omega) (by omega), t1qq.1 b r (by omega) (by omega), up_f (by omega)])
end PB9
