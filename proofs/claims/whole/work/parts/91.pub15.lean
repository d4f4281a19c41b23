/-! SMALL ROWS; COUNT -/
section PA6
variable {d tp : Nat} {h0 : pheap} {s : St} {Q : Option pv → pheap → Prop} {L : Int} {n zqq K N : Nat} {c c' : Int → Int} {Hs : Hst} {vw rf sl yr la slp : Int} {kc lb le ty tc : Int → Int}
theorem cnt_bits {b0 b1 b2 b3 b4 b5 : Int} (h0 : b0 = 0 ∨ b0 = 1) (h1 : b1 = 0 ∨ b1 = 1) (h2 : b2 = 0 ∨ b2 = 1) (h3 : b3 = 0 ∨ b3 = 1) (h4 : b4 = 0 ∨ b4 = 1) (h5 : b5 = 0 ∨ b5 = 1) : cnt (0 + b0 * 1 + b1 * 2 + b2 * 4 + b3 * 8 + b4 * 16 + b5 * 32) = b0 + b1 + b2 + b3 + b4 + b5 := by
  rcases h0 with rfl | rfl
  all_goals
    rcases h1 with rfl | rfl
    all_goals
      rcases h2 with rfl | rfl
      all_goals
        rcases h3 with rfl | rfl
        all_goals
          rcases h4 with rfl | rfl
          all_goals
            rcases h5 with rfl | rfl
            all_goals decide +kernel
theorem ite_bI (p : Prop) [Decidable p] (k : Nat) : (if p then (2 : Int) ^ k else 0) = bI p * 2 ^ k := by
  unfold bI
  split
  · omega
  · omega
theorem fcN_cnt : fcN L c n 6 = cnt (foN L c n 6) := by
  have e : foN L c n 6 = 0 + bI (bt L ((0 : Nat) : Int) = 1 ∧ bd L c n ((0 : Nat) : Int) = 0) * 1 + bI (bt L ((1 : Nat) : Int) = 1 ∧ bd L c n ((1 : Nat) : Int) = 0) * 2 + bI (bt L ((2 : Nat) : Int) = 1 ∧ bd L c n ((2 : Nat) : Int) = 0) * 4 + bI (bt L ((3 : Nat) : Int) = 1 ∧ bd L c n ((3 : Nat) : Int) = 0) * 8 + bI (bt L ((4 : Nat) : Int) = 1 ∧ bd L c n ((4 : Nat) : Int) = 0) * 16 + bI (bt L ((5 : Nat) : Int) = 1 ∧ bd L c n ((5 : Nat) : Int) = 0) * 32 := by
    simp only [foN, ite_bI]
    rfl
  rw [e, cnt_bits (bI_01 _) (bI_01 _) (bI_01 _) (bI_01 _) (bI_01 _) (bI_01 _)]
  simp only [fcN]
  omega
theorem bd_cnt (x : Int) : cnt (bd L c n x) = bI (wB L c n (6 * x + ((0 : Nat) : Int)) ≠ 0) + bI (wB L c n (6 * x + ((1 : Nat) : Int)) ≠ 0) + bI (wB L c n (6 * x + ((2 : Nat) : Int)) ≠ 0) + bI (wB L c n (6 * x + ((3 : Nat) : Int)) ≠ 0) + bI (wB L c n (6 * x + ((4 : Nat) : Int)) ≠ 0) + bI (wB L c n (6 * x + ((5 : Nat) : Int)) ≠ 0) := by
  have e : bd L c n x = 0 + bI (wB L c n (6 * x + ((0 : Nat) : Int)) ≠ 0) * 1 + bI (wB L c n (6 * x + ((1 : Nat) : Int)) ≠ 0) * 2 + bI (wB L c n (6 * x + ((2 : Nat) : Int)) ≠ 0) * 4 + bI (wB L c n (6 * x + ((3 : Nat) : Int)) ≠ 0) * 8 + bI (wB L c n (6 * x + ((4 : Nat) : Int)) ≠ 0) * 16 + bI (wB L c n (6 * x + ((5 : Nat) : Int)) ≠ 0) * 32 := by
    unfold bd
    simp only [bdN, ite_bI]
    rfl
  rw [e]
  exact cnt_bits (bI_01 _) (bI_01 _) (bI_01 _) (bI_01 _) (bI_01 _) (bI_01 _)
/-- a sum along a row -/
def smN (g : Int → Int) : Nat → Int
  | 0 => 0
  | k + 1 => smN g k + g k
theorem smN_up {g : Int → Int} {J vqq : Int} : ∀ k : Nat, smN (fun j => if j = J then vqq else g j) k = smN g k + (if 0 ≤ J ∧ J < k then vqq - g J else 0)
  | 0 => by
    show (0 : Int) = 0 + _
    rw [if_neg (by omega)]
    rfl
  | k + 1 => by
    show smN (fun j => if j = J then vqq else g j) k + (if (k : Int) = J then vqq else g k) = smN g k + g k + _
    rw [smN_up k]
    by_cases q : (k : Int) = J
    · rw [if_pos q, if_neg (by omega), if_pos (by omega), ← q]
      omega
    · rw [if_neg q]
      by_cases q2 : 0 ≤ J ∧ J < k
      · rw [if_pos q2, if_pos (by omega)]
        omega
      · rw [if_neg q2, if_neg (by omega)]
        omega
def nz (vqq : Int) : Int := bI (vqq ≠ 0)
theorem b2N_sm : b2N L c n 6 = smN (fun j => nz (wB L c n j)) 36 := by
  simp only [b2N, bd_cnt, smN, nz]
  simp only [Int.natCast_zero, Int.mul_zero, Int.add_zero, Int.zero_add, Int.mul_one]
  have e : ∀ x y : Nat, (6 : Int) * (x : Int) + (y : Int) = ((6 * x + y : Nat) : Int) := fun x y => by omega
  simp only [e]
  simp
  omega
theorem wC_b2N (hL : 0 ≤ L ∧ L < 64) : ∀ {n : Nat}, vC L c n → 2 * wC L c n = smN (fun j => nz (wB L c n j)) 36
  | 0, _ => by
    have zqq : nz 0 = 0 := bI_f (by decide)
    simp only [smN, wC, wB, zqq]
    rfl
  | n + 1, vqq => by
    have v' := vC_less vqq (Nat.le_succ n)
    have ih := wC_b2N hL v'
    have hc := vqq n (by omega) (by omega)
    have r1 := wO_R hL v' (c n / 2) (by omega) (by omega)
    have r2 := wO_R hL v' (c n / 2 + 1) (by omega) (by omega)
    have hne : wO L c n (c n / 2) ≠ wO L c n (c n / 2 + 1) := fun e => by
      have := wO_inj hL v' _ _ (by omega) (by omega) (by omega) (by omega) e
      omega
    have sy := wB_sym hL v' _ _ ⟨r1.1, r1.2.1⟩ ⟨r2.1, r2.2.1⟩
    obtain ⟨a, ea⟩ : ∃ a, wO L c n (c n / 2) = a := ⟨_, rfl⟩
    obtain ⟨b, eb⟩ : ∃ b, wO L c n (c n / 2 + 1) = b := ⟨_, rfl⟩
    have e : (fun j => nz (wB L c (n + 1) j)) = (fun j => if j = 6 * a + b then nz (wB L c n (6 * a + b) + sgn (c n)) else (fun j => if j = 6 * b + a then nz (wB L c n (6 * b + a) + sgn (c n)) else nz (wB L c n j)) j) := by
      funext j
      have wqq : wB L c (n + 1) j = if j = 6 * a + b ∨ j = 6 * b + a then wB L c n j + sgn (c n) else wB L c n j := by
        rw [← ea, ← eb]
        rfl
      rw [wqq]
      by_cases q : j = 6 * a + b
      · rw [if_pos q, if_pos (Or.inl q), q]
      · rw [if_neg q]
        by_cases q2 : j = 6 * b + a
        · rw [if_pos (Or.inr q2)]
          show _ = if j = 6 * b + a then _ else _
          rw [if_pos q2, q2]
        · rw [if_neg (by omega)]
          show _ = if j = 6 * b + a then _ else _
          rw [if_neg q2]
    rw [e, smN_up, smN_up, ← ih]
    rw [ea, eb] at sy
    rw [ea] at r1
    rw [eb] at r2
    have w2qq : wC L c (n + 1) = wC L c n - nz (wB L c n (6 * a + b)) + nz (wB L c n (6 * a + b) + sgn (c n)) := by
      rw [← ea, ← eb]
      rfl
    rw [w2qq, if_pos (by omega), if_pos (by omega), if_neg (by omega), sy]
    omega
theorem wC_is (hL : 0 ≤ L ∧ L < 64) (hv : vC L c n) : b2N L c n 6 / 2 = wC L c n := by
  have := wC_b2N hL hv
  rw [b2N_sm, ← this]
  omega
def ctA (wqq D cn K kn yr n vw rf sl bp fr rd kd un : Int) : Int := if wqq = 0 then D else if wqq = 1 then cn else if wqq = 2 then K else if wqq = 3 then kn else if wqq = 4 then yr else if wqq = 5 then n else if wqq = 6 then vw else if wqq = 7 then rf else if wqq = 8 then sl else if wqq = 9 then bp else if wqq = 10 then fr else if wqq = 11 then rd else if wqq = 12 then kd else if wqq = 13 then un else -1
theorem m_count (hd : 6 ≤ d) (htp : tp = 37 ∨ tp = 45) (hT : s 32 2 = (tp : Int) + 1) (hD : DA 53 vw rf sl yr la L n c s) (ha : PAs zqq Hs s) {D kn kf wqq : Int} {zr : Nat} (h1 : s tp 1 = D) (h4 : s tp 4 = K) (h11 : s tp 11 = kn) (h6 : s 75 6 = zr) (h7 : s 75 7 = kf) (hkf : -1 ≤ kf ∧ kf ≤ 24) (hw : iR wqq) (k : Q (some (vI (ctA wqq D (cnt L) K kn yr n vw rf sl (wC L c n) (fcN L c n 6) zr (kz zr kf) zqq))) (HP h0 s)) : wpM PP d 43 [vR 32, vI wqq] (HP h0 s) Q := by
  obtain ⟨hS, htq⟩ := isc_tp htp
  clear htp
  obtain ⟨v1qq, v2qq, v3qq, v4qq, v5qq, hp⟩ := hD
  refine n_at (m := 43) (q := mr43) (kn := (0, 2)) [some (vR _), some (vI _)] mb43 rfl rfl (h_rcv sc_32) (Nat.le_of_ble_eq_true rfl) rfl rfl ?_
  refine x_iload rfl ?_
  refine n_tsw 14 rfl ⟨by omega, by omega⟩ (fun c1 => ?_) (And.intro (fun c1 => ?_) (And.intro (fun c1 => ?_) (And.intro (fun c1 => ?_) (And.intro (fun c1 => ?_) (And.intro (fun c1 => ?_) (And.intro (fun c1 => ?_) (And.intro (fun c1 => ?_) (And.intro (fun c1 => ?_) (And.intro (fun c1 => ?_) (And.intro (fun c1 => ?_) (And.intro (fun c1 => ?_) (And.intro (fun c1 => ?_) (And.intro (fun c1 => ?_) (And.intro (fun c1 => ?_) trivial))))))))))))))
  · refine x_ci ?_
    refine x_iret ?_
    refine cI k ?_
    unfold ctA
    repeat rw [if_neg (by omega)]
  · refine x_aload rfl ?_
    refine h_getB 2 sc_32 rfl rfl (by first | exact hT | exact hT2) ?_
    refine h_getI 1 hS.1 rfl rfl ?_
    refine x_iret ?_
    have e : wqq = 0 := by omega
    subst e
    exact cI k h1.symm
  · refine x_aload rfl ?_
    refine h_getR sc_32 rfl (by omega) ?_
    refine h_getR sc_53 rfl (by omega) ?_
    refine h_getI 4 sc_54 rfl rfl ?_
    refine x_iret ?_
    have e : wqq = 1 := by omega
    subst e
    exact cI k hp.count.symm
  · refine x_aload rfl ?_
    refine h_getB 2 sc_32 rfl rfl (by first | exact hT | exact hT2) ?_
    refine h_getI 4 hS.1 rfl rfl ?_
    refine x_iret ?_
    have e : wqq = 2 := by omega
    subst e
    exact cI k h4.symm
  · refine x_aload rfl ?_
    refine h_getB 2 sc_32 rfl rfl (by first | exact hT | exact hT2) ?_
    refine h_getI 11 hS.1 rfl rfl ?_
    refine x_iret ?_
    have e : wqq = 3 := by omega
    subst e
    exact cI k h11.symm
  · refine x_aload rfl ?_
    refine h_getR sc_32 rfl (by omega) ?_
    refine h_getI 4 sc_53 rfl rfl ?_
    refine x_iret ?_
    have e : wqq = 4 := by omega
    subst e
    exact cI k v4qq.symm
  · refine x_aload rfl ?_
    refine h_getR sc_32 rfl (by omega) ?_
    refine h_getR sc_53 rfl (by omega) ?_
    refine h_getI 5 sc_54 rfl rfl ?_
    refine x_iret ?_
    have e : wqq = 5 := by omega
    subst e
    exact cI k hp.size.symm
  · refine x_aload rfl ?_
    refine h_getR sc_32 rfl (by omega) ?_
    refine h_getI 1 sc_53 rfl rfl ?_
    refine x_iret ?_
    have e : wqq = 6 := by omega
    subst e
    exact cI k v1qq.symm
  · refine x_aload rfl ?_
    refine h_getR sc_32 rfl (by omega) ?_
    refine h_getI 2 sc_53 rfl rfl ?_
    refine x_iret ?_
    have e : wqq = 7 := by omega
    subst e
    exact cI k v2qq.symm
  · refine x_aload rfl ?_
    refine h_getR sc_32 rfl (by omega) ?_
    refine h_getI 3 sc_53 rfl rfl ?_
    refine x_iret ?_
    have e : wqq = 8 := by omega
    subst e
    exact cI k v3qq.symm
  · refine x_aload rfl ?_
    refine h_getR sc_32 rfl (by omega) ?_
    refine h_getR sc_53 rfl (by omega) ?_
    refine h_getI 6 sc_54 rfl rfl ?_
    refine x_iret ?_
    have e : wqq = 9 := by omega
    subst e
    exact cI k hp.bound.symm
  · refine x_aload rfl ?_
    refine h_getR sc_32 rfl (by omega) ?_
    refine h_getR sc_53 rfl (by omega) ?_
    refine n_call [vR _] [] (by omega) (Nat.le_of_ble_eq_true rfl) rfl rfl (Nat.le_of_ble_eq_true rfl) ?_
    refine m_freeCount pl_54 (by omega) hp ?_
    show wp PP _ _ _ [some (vR _), some (vI _)] [vI _] _ _
    refine x_iret ?_
    have e : wqq = 10 := by omega
    subst e
    exact cI k rfl
  · refine x_aload rfl ?_
    refine h_getR sc_32 rfl (by omega) ?_
    refine h_getI 6 sc_75 rfl rfl ?_
    refine x_iret ?_
    have e : wqq = 11 := by omega
    subst e
    exact cI k h6.symm
  · refine x_aload rfl ?_
    refine h_getR sc_32 rfl (by omega) ?_
    refine n_call [vR _] [] (by omega) (Nat.le_of_ble_eq_true rfl) rfl rfl (Nat.le_of_ble_eq_true rfl) ?_
    refine m_knownSize h6 h7 hkf ?_
    show wp PP _ _ _ [some (vR _), some (vI _)] [vI _] _ _
    refine x_iret ?_
    have e : wqq = 12 := by omega
    subst e
    exact cI k rfl
  · refine x_aload rfl ?_
    refine h_getR sc_32 rfl (by omega) ?_
    refine h_getI 4 sc_70 rfl rfl ?_
    refine x_iret ?_
    have e : wqq = 13 := by omega
    subst e
    exact cI k ha.2.1.symm
theorem r_count (hd : 6 ≤ d) (hD : DR 0 vw rf sl yr la L n c s) (hu : PUs zqq Hs rf sl yr la s) {D kn kf wqq : Int} {zr : Nat} (h1 : s 96 0 = D) (h4 : s 96 1 = K) (h11 : s 96 4 = kn) (h6 : s 94 50 = zr) (h7 : s 94 51 = kf) (hkf : -1 ≤ kf ∧ kf ≤ 24) (hw : iR wqq) (k : ∀ tqq, lkN s tqq → Q (some (vI (ctA wqq D (cnt L) K kn yr n vw rf sl (wC L c n) (fcN L c n 6) zr (kz zr kf) zqq))) (HP h0 tqq)) : wpM PP d 182 [vR 94, vI wqq] (HP h0 s) Q := by
  obtain ⟨w1qq, w2qq, w3qq, w4qq, w5qq, hr0⟩ := hD
  obtain ⟨hL, hn, hv, r1, r2, r3⟩ := hr0
  have hr0 : RD 0 L n c s := ⟨hL, hn, hv, r1, r2, r3⟩
  refine n_at (m := 182) (q := mr182) (kn := (0, 2)) [some (vR _), some (vI _)] mb182 rfl rfl (h_rcv sc_94) (Nat.le_of_ble_eq_true rfl) rfl rfl ?_
  refine x_aload rfl ?_
  refine x_ci ?_
  refine h_putI 0 sc_94 rfl rfl ?_
  refine x_aload rfl ?_
  refine x_ci ?_
  refine n_call [vR _, vI _] [] (by omega) (Nat.le_of_ble_eq_true rfl) rfl rfl (Nat.le_of_ble_eq_true rfl) ?_
  refine r_standsAll (f := 0) (by omega) (by omega) (RD.up hr0 (by decide)) (fun tqq t1qq t2qq => ?_)
  have g : ∀ (b : Nat) (r : Int), ¬ (114 ≤ b ∧ b ≤ 117) → ¬ (b = 94 ∧ r = 0) → tqq b r = s b r := fun b r q1 q2 => by
    rw [t2qq b (by omega) r, up_f (by omega)]
  have hr1 : RD 0 L n c tqq := ⟨hL, hn, hv, (g 111 0 (by omega) (by omega)).trans r1, (g 112 0 (by omega) (by omega)).trans r2, fun i i0 i1 => (g 113 _ (by omega) (by omega)).trans (r3 i i0 i1)⟩
  show wp PP _ _ _ [some (vR _), some (vI _)] [] _ _
  refine x_iload rfl ?_
  refine n_tsw 14 rfl ⟨by omega, by omega⟩ (fun c1 => ?_) (And.intro (fun c1 => ?_) (And.intro (fun c1 => ?_) (And.intro (fun c1 => ?_) (And.intro (fun c1 => ?_) (And.intro (fun c1 => ?_) (And.intro (fun c1 => ?_) (And.intro (fun c1 => ?_) (And.intro (fun c1 => ?_) (And.intro (fun c1 => ?_) (And.intro (fun c1 => ?_) (And.intro (fun c1 => ?_) (And.intro (fun c1 => ?_) (And.intro (fun c1 => ?_) (And.intro (fun c1 => ?_) trivial))))))))))))))
  · refine x_ci ?_
    refine x_iret ?_
    refine cI (k tqq (fun b r q1 q2 q3 q4 q5 q6 q7 => g b r (by omega) (by omega))) ?_
    unfold ctA
    repeat rw [if_neg (by omega)]
  · refine x_aload rfl ?_
    refine h_getR sc_94 rfl (by omega) ?_
    refine x_ci ?_
    refine h_iald sc_96 ⟨by omega, by omega⟩ (by decide) ?_
    refine x_iret ?_
    have e : wqq = 0 := by omega
    subst e
    exact cI (k tqq (fun b r q1 q2 q3 q4 q5 q6 q7 => g b r (by omega) (by omega))) ((g 96 0 (by omega) (by omega)).trans h1).symm
  · refine x_aload rfl ?_
    refine h_getR sc_94 rfl (by omega) ?_
    refine x_ci ?_
    refine h_iald sc_111 ⟨by omega, by omega⟩ (by decide) ?_
    refine n_call [vI _] [] (by omega) (Nat.le_of_ble_eq_true rfl) rfl rfl (Nat.le_of_ble_eq_true rfl) ?_
    refine t_bits L ((g 111 0 (by omega) (by omega)).trans r1) hL ?_
    show wp PP _ _ _ [some (vR _), some (vI _)] [vI _] _ _
    refine x_iret ?_
    have e : wqq = 1 := by omega
    subst e
    exact cI (k tqq (fun b r q1 q2 q3 q4 q5 q6 q7 => g b r (by omega) (by omega))) rfl
  · refine x_aload rfl ?_
    refine h_getR sc_94 rfl (by omega) ?_
    refine x_ci ?_
    refine h_iald sc_96 ⟨by omega, by omega⟩ (by decide) ?_
    refine x_iret ?_
    have e : wqq = 2 := by omega
    subst e
    exact cI (k tqq (fun b r q1 q2 q3 q4 q5 q6 q7 => g b r (by omega) (by omega))) ((g 96 1 (by omega) (by omega)).trans h4).symm
  · refine x_aload rfl ?_
    refine h_getR sc_94 rfl (by omega) ?_
    refine x_ci ?_
    refine h_iald sc_96 ⟨by omega, by omega⟩ (by decide) ?_
    refine x_iret ?_
    have e : wqq = 3 := by omega
    subst e
    exact cI (k tqq (fun b r q1 q2 q3 q4 q5 q6 q7 => g b r (by omega) (by omega))) ((g 96 4 (by omega) (by omega)).trans h11).symm
  · refine x_aload rfl ?_
    refine h_getR sc_94 rfl (by omega) ?_
    refine x_ci ?_
    refine h_iald sc_106 ⟨by omega, by omega⟩ (by decide) ?_
    refine x_iret ?_
    have e : wqq = 4 := by omega
    subst e
    exact cI (k tqq (fun b r q1 q2 q3 q4 q5 q6 q7 => g b r (by omega) (by omega))) ((g 106 0 (by omega) (by omega)).trans w4qq).symm
  · refine x_aload rfl ?_
    refine h_getR sc_94 rfl (by omega) ?_
    refine x_ci ?_
    refine h_iald sc_112 ⟨by omega, by omega⟩ (by decide) ?_
    refine x_iret ?_
    have e : wqq = 5 := by omega
    subst e
    exact cI (k tqq (fun b r q1 q2 q3 q4 q5 q6 q7 => g b r (by omega) (by omega))) ((g 112 0 (by omega) (by omega)).trans r2).symm
  · refine x_aload rfl ?_
    refine h_getR sc_94 rfl (by omega) ?_
    refine x_ci ?_
    refine h_iald sc_110 ⟨by omega, by omega⟩ (by decide) ?_
    refine x_iret ?_
    have e : wqq = 6 := by omega
    subst e
    exact cI (k tqq (fun b r q1 q2 q3 q4 q5 q6 q7 => g b r (by omega) (by omega))) ((g 110 0 (by omega) (by omega)).trans w1qq).symm
  · refine x_aload rfl ?_
    refine h_getR sc_94 rfl (by omega) ?_
    refine x_ci ?_
    refine h_iald sc_108 ⟨by omega, by omega⟩ (by decide) ?_
    refine x_iret ?_
    have e : wqq = 7 := by omega
    subst e
    exact cI (k tqq (fun b r q1 q2 q3 q4 q5 q6 q7 => g b r (by omega) (by omega))) ((g 108 0 (by omega) (by omega)).trans w2qq).symm
  · refine x_aload rfl ?_
    refine h_getR sc_94 rfl (by omega) ?_
    refine x_ci ?_
    refine h_iald sc_109 ⟨by omega, by omega⟩ (by decide) ?_
    refine x_iret ?_
    have e : wqq = 8 := by omega
    subst e
    exact cI (k tqq (fun b r q1 q2 q3 q4 q5 q6 q7 => g b r (by omega) (by omega))) ((g 109 0 (by omega) (by omega)).trans w3qq).symm
  · refine x_aload rfl ?_
    refine n_call [vR _] [] (by omega) (Nat.le_of_ble_eq_true rfl) rfl rfl (Nat.le_of_ble_eq_true rfl) ?_
    refine r_boundPairs (by omega) (by omega) t1qq ?_
    rw [wC_is hL hv]
    show wp PP _ _ _ [some (vR _), some (vI _)] [vI _] _ _
    refine x_iret ?_
    have e : wqq = 9 := by omega
    subst e
    exact cI (k tqq (fun b r q1 q2 q3 q4 q5 q6 q7 => g b r (by omega) (by omega))) rfl
  · refine x_aload rfl ?_
    refine x_ci ?_
    refine n_call [vR _, vI _] [] (by omega) (Nat.le_of_ble_eq_true rfl) rfl rfl (Nat.le_of_ble_eq_true rfl) ?_
    refine r_freeOnes (f := 0) (by omega) (by omega) hr1 t1qq ?_
    show wp PP _ _ _ [some (vR _), some (vI _)] [vI _] _ _
    refine n_call [vI _] [] (by omega) (Nat.le_of_ble_eq_true rfl) rfl rfl (Nat.le_of_ble_eq_true rfl) ?_
    refine t_bits (foN L c n 6) rfl (foN_R 6) ?_
    show wp PP _ _ _ [some (vR _), some (vI _)] [vI _] _ _
    refine x_iret ?_
    have e : wqq = 10 := by omega
    subst e
    exact cI (k tqq (fun b r q1 q2 q3 q4 q5 q6 q7 => g b r (by omega) (by omega))) fcN_cnt
  · refine x_aload rfl ?_
    refine h_getI 50 sc_94 rfl rfl ?_
    refine x_iret ?_
    have e : wqq = 11 := by omega
    subst e
    exact cI (k tqq (fun b r q1 q2 q3 q4 q5 q6 q7 => g b r (by omega) (by omega))) ((g 94 50 (by omega) (by omega)).trans h6).symm
  · refine x_aload rfl ?_
    refine n_call [vR _] [] (by omega) (Nat.le_of_ble_eq_true rfl) rfl rfl (Nat.le_of_ble_eq_true rfl) ?_
    refine r_knownMany ((g 94 50 (by omega) (by omega)).trans h6) ((g 94 51 (by omega) (by omega)).trans h7) hkf ?_
    show wp PP _ _ _ [some (vR _), some (vI _)] [vI _] _ _
    refine x_iret ?_
    have e : wqq = 12 := by omega
    subst e
    exact cI (k tqq (fun b r q1 q2 q3 q4 q5 q6 q7 => g b r (by omega) (by omega))) rfl
  · refine x_aload rfl ?_
    refine h_getI 36 sc_94 rfl rfl ?_
    refine x_iret ?_
    have e : wqq = 13 := by omega
    subst e
    exact cI (k tqq (fun b r q1 q2 q3 q4 q5 q6 q7 => g b r (by omega) (by omega))) ((g 94 36 (by omega) (by omega)).trans hu.2.1).symm
end PA6
