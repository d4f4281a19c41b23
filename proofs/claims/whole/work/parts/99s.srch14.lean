/-! SEARCH, the reference: makes, make -/
section PR6
variable {d : Nat} {h0 : pheap} {s : St} {Q : Option pv → pheap → Prop} {L pr : Int} {n k N K : Nat} {c c' : Int → Int} {G : Int → Int}
theorem RD.of2 {tqq : St} (hr0 : RD 1 L k c s) (u2qq : ∀ (b : Nat) (r : Int), ¬ (114 ≤ b ∧ b ≤ 117) → ¬ b = 123 → tqq b r = s b r) : RD 1 L k c tqq :=
  ⟨hr0.1, hr0.2.1, hr0.2.2.1, (u2qq 111 1 (by omega) (by omega)).trans hr0.2.2.2.1, (u2qq 112 1 (by omega) (by omega)).trans hr0.2.2.2.2.1, fun i i0 i1 => (u2qq 113 _ (by omega) (by omega)).trans (hr0.2.2.2.2.2 i i0 i1)⟩
theorem r_makes {L pr : Int} {K : Nat} (hpr : 0 ≤ pr ∧ pr < 32768) (hK : K = (2 * cnt L - 2).toNat) : ∀ (r : Nat) {d k : Nat} {c : Int → Int} {h0 : pheap} {s : St} {Q : Option pv → pheap → Prop} {tot : Int}, (htot : tot = k + r) → (hd : 12 + r ≤ d) → (hr0 : RD 1 L k c s) → (hkr : k + r ≤ 4) → (r1 : s 111 0 = L) → (kF : ∀ wqq, sfN (gdM L pr) K r c k = some wqq → ∀ tqq, (∀ i : Nat, i < r → tqq 113 (48 + ((k + i : Nat) : Int)) = ((wqq.getD i 0 : Nat) : Int)) → (∀ q : Int, q < 48 + k → tqq 113 q = s 113 q) → mF s tqq → Q (some (vI 1)) (HP h0 tqq)) → (kN : sfN (gdM L pr) K r c k = none → ∀ tqq, RD 1 L k c tqq → (∀ q : Int, q < 48 + k → tqq 113 q = s 113 q) → mF s tqq → Q (some (vI 0)) (HP h0 tqq)) → wpM PP d 161 [vR 94, vI pr, vI tot] (HP h0 s) Q := by
  have hct := cnt_R L
  intro r
  induction r with
  | zero =>
    intro d k c h0 s Q tot htot hd hr0 hkr r1 kF kN
    refine n_at (m := 161) (q := mr161) (kn := (0, 3)) [some (vR _), some (vI _), some (vI _), none] mb161 rfl rfl (h_rcv sc_94) (Nat.le_of_ble_eq_true rfl) rfl rfl ?_
    refine x_aload rfl ?_
    refine h_getR sc_94 rfl (by omega) ?_
    refine x_ci ?_
    refine h_iald sc_112 ⟨by omega, by omega⟩ (by decide) ?_
    rw [hr0.2.2.2.2.1]
    refine x_iload rfl ?_
    refine n_icmp_ne ⟨by omega, by omega⟩ ⟨by omega, by omega⟩ (fun c1 => ?_) (fun c1 => ?_)
    · exfalso
      omega
    · refine x_aload rfl ?_
      refine n_call [vR _] [] (by omega) (Nat.le_of_ble_eq_true rfl) rfl rfl (Nat.le_of_ble_eq_true rfl) ?_
      refine r_pairsBound (by omega) hr0 (fun uqq u1qq u2qq => ?_)
      obtain ⟨wb, wb2, wb3⟩ := wC_bp hr0.1 hr0.2.2.1
      show wp PP _ _ _ [some (vR _), some (vI _), some (vI _), _] [vI _] _ _
      refine x_iload rfl ?_
      refine n_icmp_ne ⟨by omega, by omega⟩ ⟨by omega, by omega⟩ (fun c2 => ?_) (fun c2 => ?_)
      · refine x_ci ?_
        refine x_fall ?_
        refine x_zret (by first | exact bI_01 _ | omega) ?_
        first
          | (have g : ¬ gdM L pr c k = true := fun y => by
               have := (of_decide_eq_true y).2
               omega
             exact kN (if_neg g) uqq (hr0.of2 u2qq) (fun q _ => u2qq 113 q (by omega) (by omega)) (fun b q q1 q2 q3 q4 => u2qq b q q1 q2))
          | (have g : ¬ gdM L pr c k = true := fun y => c3 ((of_decide_eq_true y).1)
             exact kN (if_neg g) uqq (hr0.of2 u2qq) (fun q _ => u2qq 113 q (by omega) (by omega)) (fun b q q1 q2 q3 q4 => u2qq b q q1 q2))
          | (have g : gdM L pr c k = true := decide_eq_true ⟨c3, by omega⟩
             exact kF [] (if_pos g) uqq (fun i hi => by omega) (fun q _ => u2qq 113 q (by omega) (by omega)) (fun b q q1 q2 q3 q4 => u2qq b q q1 q2))
      · refine x_aload rfl ?_
        refine x_ci ?_
        refine n_call [vR _, vI _] [] (by omega) (Nat.le_of_ble_eq_true rfl) rfl rfl (Nat.le_of_ble_eq_true rfl) ?_
        refine r_areHomeS (f := 1) (by omega) (by omega) hr0.1 hr0.2.2.1 ((u2qq 111 1 (by omega) (by omega)).trans hr0.2.2.2.1) u1qq.sb ?_
        show wp PP _ _ _ [some (vR _), some (vI _), some (vI _), _] [vI _] _ _
        refine z_if_eq (fun c3 => ?_) (fun c3 => ?_)
        · refine x_ci ?_
          refine x_fall ?_
          refine x_zret (by first | exact bI_01 _ | omega) ?_
          first
            | (have g : ¬ gdM L pr c k = true := fun y => by
                 have := (of_decide_eq_true y).2
                 omega
               exact kN (if_neg g) uqq (hr0.of2 u2qq) (fun q _ => u2qq 113 q (by omega) (by omega)) (fun b q q1 q2 q3 q4 => u2qq b q q1 q2))
            | (have g : ¬ gdM L pr c k = true := fun y => c3 ((of_decide_eq_true y).1)
               exact kN (if_neg g) uqq (hr0.of2 u2qq) (fun q _ => u2qq 113 q (by omega) (by omega)) (fun b q q1 q2 q3 q4 => u2qq b q q1 q2))
            | (have g : gdM L pr c k = true := decide_eq_true ⟨c3, by omega⟩
               exact kF [] (if_pos g) uqq (fun i hi => by omega) (fun q _ => u2qq 113 q (by omega) (by omega)) (fun b q q1 q2 q3 q4 => u2qq b q q1 q2))
        · refine x_ci ?_
          refine x_goto ?_
          refine x_zret (by first | exact bI_01 _ | omega) ?_
          first
            | (have g : ¬ gdM L pr c k = true := fun y => by
                 have := (of_decide_eq_true y).2
                 omega
               exact kN (if_neg g) uqq (hr0.of2 u2qq) (fun q _ => u2qq 113 q (by omega) (by omega)) (fun b q q1 q2 q3 q4 => u2qq b q q1 q2))
            | (have g : ¬ gdM L pr c k = true := fun y => c3 ((of_decide_eq_true y).1)
               exact kN (if_neg g) uqq (hr0.of2 u2qq) (fun q _ => u2qq 113 q (by omega) (by omega)) (fun b q q1 q2 q3 q4 => u2qq b q q1 q2))
            | (have g : gdM L pr c k = true := decide_eq_true ⟨c3, by omega⟩
               exact kF [] (if_pos g) uqq (fun i hi => by omega) (fun q _ => u2qq 113 q (by omega) (by omega)) (fun b q q1 q2 q3 q4 => u2qq b q q1 q2))
  | succ r ihr =>
    intro d k c h0 s Q tot htot hd hr0 hkr r1 kF kN
    have L1 : ∀ M : Nat, ∀ (j : Nat) (jj : Int) (tqq : St), (jj = j) → (M = K - j ∧ j ≤ K) → (RD 1 L k c tqq) → (∀ q : Int, q < 48 + k → tqq 113 q = s 113 q) → (mF s tqq) → (sfF (fun i => sfN (gdM L pr) K r (csC c k (i : Int)) (k + 1)) 0 K = sfF (fun i => sfN (gdM L pr) K r (csC c k (i : Int)) (k + 1)) j (K - j)) →  wp PP d mb161 (mb161.getD 4 []) [some (vR 94), some (vI pr), some (vI tot), some (vI jj)] [] (HP h0 tqq) Q := by
      refine s_ind (fun M ih => ?_)
      intro j jj tqq hjj hM g1 g3 g4 g5
      subst hjj
      refine x_iload rfl ?_
      refine x_aload rfl ?_
      refine x_ci ?_
      refine n_call [vR _, vI _] [vI _] (by omega) (Nat.le_of_ble_eq_true rfl) rfl rfl (Nat.le_of_ble_eq_true rfl) ?_
      refine r_codesOf (f := 0) (by omega) (by omega) (by rw [g4 111 0 (by omega) (by omega) (by omega) (by omega), r1]; exact hr0.1) ?_
      rw [g4 111 0 (by omega) (by omega) (by omega) (by omega), r1]
      show wp PP _ _ _ [some (vR _), some (vI _), some (vI _), some (vI _)] [vI _, vI _] _ _
      refine n_icmp_ge ⟨by omega, by omega⟩ ⟨by omega, by omega⟩ (fun c1 => ?_) (fun c1 => ?_)
      · refine x_ci ?_
        refine x_zret (by first | exact bI_01 _ | omega) ?_
        have ej : j = K := by omega
        subst ej
        rw [show j - j = 0 by omega] at g5
        exact kN g5 tqq g1 g3 g4
      · refine x_aload rfl ?_
        refine h_getR sc_94 rfl (by omega) ?_
        refine x_ci ?_
        refine x_aload rfl ?_
        refine h_getR sc_94 rfl (by omega) ?_
        refine x_ci ?_
        refine h_iald sc_112 ⟨by omega, by omega⟩ (by decide) ?_
        rw [g1.2.2.2.2.1]
        refine x_iadd ?_
        refine x_iload rfl ?_
        refine h_iast sc_113 ⟨by omega, by omega⟩ (by decide) ?_
        refine x_aload rfl ?_
        refine h_getR sc_94 rfl (by omega) ?_
        refine x_ci ?_
        refine x_dup2 ?_
        refine h_iald sc_112 ⟨by omega, by omega⟩ (by decide) ?_
        rw [up_a (b := 112) (by decide), g1.2.2.2.2.1]
        refine x_ci ?_
        refine x_iadd ?_
        refine h_iast sc_112 ⟨by omega, by omega⟩ (by decide) ?_
        refine x_aload rfl ?_
        refine x_iload rfl ?_
        refine x_iload rfl ?_
        refine n_call [vR _, vI _, vI _] [] (by omega) (Nat.le_of_ble_eq_true rfl) rfl rfl (Nat.le_of_ble_eq_true rfl) ?_
        have hq1 : 0 ≤ (j : Int) ∧ (j : Int) < 2 * (cnt L - 1) := by omega
        have cg := csC_lt (c := c) (n := k) (q := (j : Int))
        have ra := RDadd (x := (j : Int)) (g1.cg cg) (by omega) csC_n hq1
        rw [show (48 : Int) * 1 + (k : Int) = 48 + k by omega] at ra
        obtain ⟨uqq, hu⟩ : ∃ uqq, uqq = up (up tqq 113 (48 + (k : Int)) (j : Int)) 112 1 ((k : Int) + 1) := ⟨_, rfl⟩
        rw [← hu] at ra ⊢
        have uF : mF tqq uqq := fun b q q1 q2 q3 q4 => by
          rw [hu, up_f (by omega), up_f (by omega)]
        have u113 : ∀ q : Int, uqq 113 q = if q = 48 + (k : Int) then (j : Int) else tqq 113 q := fun q => by
          rw [hu, up_a (by decide)]
          by_cases e : q = 48 + (k : Int)
          · rw [e, up_e, if_pos rfl]
          · rw [up_i e, if_neg e]
        obtain ⟨e, he⟩ : ∃ e, K - j = e + 1 := ⟨K - j - 1, by omega⟩
        rw [he] at g5
        refine ihr (k := k + 1) (c := csC c k (j : Int)) (by omega) (by omega) ra (by omega) ((uF 111 0 (by omega) (by omega) (by omega) (by omega)).trans ((g4 111 0 (by omega) (by omega) (by omega) (by omega)).trans r1)) (fun wqq fw vqq v1qq v3qq v4qq => ?_) (fun fn vqq v1qq v3qq v4qq => ?_)
        · show wp PP _ _ _ _ [vI _] _ _
          refine n_if_eq ⟨by omega, by omega⟩ (fun zqq => by omega) (fun _ => ?_)
          refine x_ci ?_
          refine x_zret (by decide) ?_
          refine kF (j :: wqq) (g5.trans (sfF_y fw)) vqq (fun i hi => ?_) (fun q hq2 => ?_) (mF_tr (mF_tr g4 uF) v4qq)
          · cases i with
            | zero =>
              rw [show 48 + ((k + 0 : Nat) : Int) = 48 + k by omega, v3qq _ (by omega), u113, if_pos rfl]
              rfl
            | succ i =>
              have := v1qq i (by omega)
              rw [show ((k + (i + 1) : Nat) : Int) = ((k + 1 + i : Nat) : Int) by omega, this]
              rfl
          · rw [v3qq q (by omega), u113 q, if_neg (by omega)]
            exact g3 q hq2
        · show wp PP _ _ _ _ [vI _] _ _
          refine n_if_eq ⟨by omega, by omega⟩ (fun _ => ?_) (fun zqq => absurd rfl zqq)
          refine x_aload rfl ?_
          refine h_getR sc_94 rfl (by omega) ?_
          refine x_ci ?_
          refine x_dup2 ?_
          refine h_iald sc_112 ⟨by omega, by omega⟩ (by decide) ?_
          rw [v1qq.2.2.2.2.1]
          refine x_ci ?_
          refine x_isub ?_
          refine h_iast sc_112 ⟨by omega, by omega⟩ (by decide) ?_
          refine n_iinc [some (vR _), some (vI _), some (vI _), some (vI _)] rfl rfl ?_
          refine x_goto ?_
          refine ih e (by omega) (j + 1) _ _ (by omega) (by omega) (((RDupn v1qq).mpr ?_).cg (fun i i0 i1 => (cg i i0 i1).symm)) (fun q hq2 => ?_) (mF_tr (mF_tr (mF_tr g4 uF) v4qq) (fun b q q1 q2 q3 q4 => up_f (by omega))) ?_
          · omega
          · rw [up_a (by decide), v3qq q (by omega), u113 q, if_neg (by omega)]
            exact g3 q hq2
          · rw [show K - (j + 1) = e by omega]
            exact g5.trans (sfF_n fn)
    refine n_at (m := 161) (q := mr161) (kn := (0, 3)) [some (vR _), some (vI _), some (vI _), none] mb161 rfl rfl (h_rcv sc_94) (Nat.le_of_ble_eq_true rfl) rfl rfl ?_
    refine x_aload rfl ?_
    refine h_getR sc_94 rfl (by omega) ?_
    refine x_ci ?_
    refine h_iald sc_112 ⟨by omega, by omega⟩ (by decide) ?_
    rw [hr0.2.2.2.2.1]
    refine x_iload rfl ?_
    refine n_icmp_ne ⟨by omega, by omega⟩ ⟨by omega, by omega⟩ (fun c1 => ?_) (fun c1 => ?_)
    · refine x_ci ?_
      refine n_istore [some (vR _), some (vI _), some (vI _), some (vI _)] (Nat.le_of_ble_eq_true rfl) rfl ?_
      refine x_fall ?_
      exact L1 K 0 0 s rfl (by omega) hr0 (fun q _ => rfl) mF_rfl rfl
    · exfalso
      omega
theorem r_make (hd : 20 ≤ d) (hr0 : RD 0 L n c s) {wqq : Int} (hw : iR wqq) (hpr : iR pr) (kY : mkOk L pr wqq → ∀ tqq, lkN s tqq → Q (some (vI (bkA (shF (mkS L pr) 0 5) wqq))) (HP h0 tqq)) (kN : ¬ mkOk L pr wqq → Q (some (vI (-1))) (HP h0 (up s 94 0 0))) : wpM PP d 162 [vR 94, vI pr, vI wqq] (HP h0 s) Q := by
  have hct := cnt_R L
  have ap := apN_is L
  have pw := pw_pos (apN L)
  have p15 := pw_15 ap.2
  obtain ⟨hL, hn, hv, r1, r2, r3⟩ := hr0
  refine n_at (m := 162) (q := mr162) (kn := (0, 3)) [some (vR _), some (vI _), some (vI _), none, none] mb162 rfl rfl (h_rcv sc_94) (Nat.le_of_ble_eq_true rfl) rfl rfl ?_
  refine x_aload rfl ?_
  refine x_ci ?_
  refine h_putI 0 sc_94 rfl rfl ?_
  refine x_aload rfl ?_
  refine h_getR sc_94 rfl (by omega) ?_
  refine x_ci ?_
  refine h_iald sc_111 ⟨by omega, by omega⟩ (by decide) ?_
  refine n_call [vI _] [] (by omega) (Nat.le_of_ble_eq_true rfl) rfl rfl (Nat.le_of_ble_eq_true rfl) ?_
  rw [up_a (b := 111) (by decide), r1]
  refine r_bitsOf hL ?_
  show wp PP _ _ _ [some (vR _), some (vI _), some (vI _), _, _] [vI _] _ _
  refine n_istore [some (vR _), some (vI _), some (vI _), some (vI _), _] (Nat.le_of_ble_eq_true rfl) rfl ?_
  refine x_iload rfl ?_
  refine n_if_lt ⟨by omega, by omega⟩ (fun c1 => ?_) (fun c1 => ?_)
  · refine x_ci ?_
    refine x_iret ?_
    exact kN (fun q => by have := q.1; have := q.2.1; have := q.2.2; omega)
  · refine x_iload rfl ?_
    refine x_ci ?_
    refine x_iload rfl ?_
    refine x_iload rfl ?_
    refine x_ci ?_
    refine x_isub ?_
    refine x_imul ?_
    refine t_I (2 * (apN L : Int)) ap.1 ?_
    refine x_ci ?_
    refine n_idiv ⟨by omega, by omega⟩ ⟨by omega, by omega⟩ ?_
    refine t_I (apN L : Int) (by omega) ?_
    refine x_ishl ?_
    have sh := shl_one_f ⟨apN L, by omega⟩
    simp only at sh
    rw [sh]
    refine t_I ((2 : Int) ^ apN L) (by simp) ?_
    refine n_icmp_ge ⟨by omega, by omega⟩ ⟨by omega, by omega⟩ (fun c2 => ?_) (fun c2 => ?_)
    · refine x_ci ?_
      refine x_iret ?_
      exact kN (fun q => by have := q.1; have := q.2.1; have := q.2.2; omega)
    · refine x_iload rfl ?_
      refine n_if_lt ⟨by omega, by omega⟩ (fun c3 => ?_) (fun c3 => ?_)
      · refine x_ci ?_
        refine x_iret ?_
        exact kN (fun q => by have := q.1; have := q.2.1; have := q.2.2; omega)
      · refine x_iload rfl ?_
        refine x_ci ?_
        refine n_icmp_le ⟨by omega, by omega⟩ ⟨by omega, by omega⟩ (fun c4 => ?_) (fun c4 => ?_)
        · refine x_ci ?_
          refine n_istore [some (vR _), some (vI _), some (vI _), some (vI _), some (vI _)] (Nat.le_of_ble_eq_true rfl) rfl ?_
          refine x_fall ?_
          have okk : mkOk L pr wqq := ⟨by omega, by omega, by omega, by omega⟩
          have L1 : ∀ M : Nat, ∀ (j : Nat) (jj : Int) (tqq : St), (jj = j) → (M = 5 - j ∧ j ≤ 5) → (tqq 111 0 = L) → (tqq 112 0 = n) → (∀ i : Int, 0 ≤ i → i < n → tqq 113 (48 * 0 + i) = c i) → (lkN s tqq) → (shF (mkS L pr) 0 5 = shF (mkS L pr) j (5 - j)) →  wp PP d mb162 (mb162.getD 3 []) [some (vR 94), some (vI pr), some (vI wqq), some (vI (cnt L)), some (vI jj)] [] (HP h0 tqq) Q := by
            refine s_ind (fun M ih => ?_)
            intro j jj tqq hjj hM g1 g2 g3 g4 g5
            subst hjj
            refine x_iload rfl ?_
            refine x_ci ?_
            refine n_icmp_gt ⟨by omega, by omega⟩ ⟨by omega, by omega⟩ (fun c1 => ?_) (fun c1 => ?_)
            · refine x_ci ?_
              refine x_iret ?_
              have ej : 5 - j = 0 := by omega
              refine cI (kY okk tqq g4) ?_
              rw [g5, ej]
              rfl
            · refine x_aload rfl ?_
              refine x_ci ?_
              refine x_ci ?_
              refine n_call [vR _, vI _, vI _] [] (by omega) (Nat.le_of_ble_eq_true rfl) rfl rfl (Nat.le_of_ble_eq_true rfl) ?_
              refine r_copies (to := 1) (as := 0) (by omega) (by omega) (by omega) g2 (by omega) (fun uqq g => ?_)
              show wp PP _ _ _ [some (vR _), some (vI _), some (vI _), some (vI _), some (vI _)] [] _ _
              refine x_aload rfl ?_
              refine h_getR sc_94 rfl (by omega) ?_
              refine x_ci ?_
              refine x_ci ?_
              refine h_iast sc_112 ⟨by omega, by omega⟩ (by decide) ?_
              refine x_aload rfl ?_
              refine x_iload rfl ?_
              refine x_iload rfl ?_
              refine n_call [vR _, vI _, vI _] [] (by omega) (Nat.le_of_ble_eq_true rfl) rfl rfl (Nat.le_of_ble_eq_true rfl) ?_
              have g1' : RD 0 L n c tqq := ⟨hL, hn, hv, g1, g2, g3⟩
              have r1' := g.rd g1'
              have r0' : RD 1 L 0 c00 (up uqq 112 1 0) := ⟨hL, by omega, fun i i0 i1 => by omega, (up_a (by decide)).trans r1'.2.2.2.1, up_e, fun i i0 i1 => by omega⟩
              have ok2 := okk.2.1
              have fr0 : ∀ vqq, mF (up uqq 112 1 0) vqq → lkN s vqq := fun vqq gv b q q1 q2 q3 q4 q5 q6 q7 => by
                rw [gv b q (by omega) (by omega) (by omega) (by omega), up_f (by omega), g.1 b q (by omega) (by omega)]
                exact g4 b q q1 q2 q3 q4 q5 q6 q7
              refine r_makes (pr := pr) ⟨by omega, by omega⟩ (K := kOf L) rfl j (k := 0) (c := c00) (by omega) (by omega) r0' (by omega) ?_ (fun w2qq fw u2qq u21 u22 u23 => ?_) (fun fn u2qq u21 u22 u23 => ?_)
              · rw [up_i (by decide), g.1 111 0 (by omega) (by omega)]
                exact g1
              · have eb : bkA (shF (mkS L pr) 0 5) wqq = if wqq = 0 then (j : Int) else if 0 < wqq ∧ wqq ≤ j then ((w2qq.getD (wqq.toNat - 1) 0 : Nat) : Int) else -2 := by
                  rw [g5, show 5 - j = (4 - j) + 1 by omega, shF_y (S := mkS L pr) (j := j) fw]
                  rfl
                show wp PP _ _ _ _ [vI _] _ _
                refine n_if_eq ⟨by omega, by omega⟩ (fun zqq => by omega) (fun _ => ?_)
                refine x_iload rfl ?_
                refine n_if_ne ⟨by omega, by omega⟩ (fun c2 => ?_) (fun c2 => ?_)
                · refine x_iload rfl ?_
                  refine x_iload rfl ?_
                  refine n_icmp_gt ⟨by omega, by omega⟩ ⟨by omega, by omega⟩ (fun c3 => ?_) (fun c3 => ?_)
                  · refine x_ci ?_
                    refine x_fall ?_
                    refine x_iret ?_
                    first
                      | (exfalso; omega)
                      | (refine cI (kY okk u2qq (fr0 u2qq u23)) ?_
                         rw [eb, if_pos (by omega)])
                      | (refine cI (kY okk u2qq (fr0 u2qq u23)) ?_
                         rw [eb, if_neg (by omega), if_neg (by omega)])
                      | (refine cI (kY okk u2qq (fr0 u2qq u23)) ?_
                         have := u21 (wqq.toNat - 1) (by omega)
                         rw [show 48 + ((0 + (wqq.toNat - 1) : Nat) : Int) = 48 + wqq - 1 by omega] at this
                         rw [eb, if_neg (by omega), if_pos (by omega), this])
                  · refine x_aload rfl ?_
                    refine h_getR sc_94 rfl (by omega) ?_
                    refine x_ci ?_
                    refine x_iload rfl ?_
                    refine x_iadd ?_
                    refine x_ci ?_
                    refine x_isub ?_
                    refine h_iald sc_113 ⟨by omega, by omega⟩ (by decide) ?_
                    refine x_goto ?_
                    refine x_iret ?_
                    first
                      | (exfalso; omega)
                      | (refine cI (kY okk u2qq (fr0 u2qq u23)) ?_
                         rw [eb, if_pos (by omega)])
                      | (refine cI (kY okk u2qq (fr0 u2qq u23)) ?_
                         rw [eb, if_neg (by omega), if_neg (by omega)])
                      | (refine cI (kY okk u2qq (fr0 u2qq u23)) ?_
                         have := u21 (wqq.toNat - 1) (by omega)
                         rw [show 48 + ((0 + (wqq.toNat - 1) : Nat) : Int) = 48 + wqq - 1 by omega] at this
                         rw [eb, if_neg (by omega), if_pos (by omega), this])
                · refine x_iload rfl ?_
                  refine x_goto ?_
                  refine x_iret ?_
                  first
                    | (exfalso; omega)
                    | (refine cI (kY okk u2qq (fr0 u2qq u23)) ?_
                       rw [eb, if_pos (by omega)])
                    | (refine cI (kY okk u2qq (fr0 u2qq u23)) ?_
                       rw [eb, if_neg (by omega), if_neg (by omega)])
                    | (refine cI (kY okk u2qq (fr0 u2qq u23)) ?_
                       have := u21 (wqq.toNat - 1) (by omega)
                       rw [show 48 + ((0 + (wqq.toNat - 1) : Nat) : Int) = 48 + wqq - 1 by omega] at this
                       rw [eb, if_neg (by omega), if_pos (by omega), this])
              · show wp PP _ _ _ _ [vI _] _ _
                refine n_if_eq ⟨by omega, by omega⟩ (fun _ => ?_) (fun zqq => absurd rfl zqq)
                refine n_iinc [some (vR _), some (vI _), some (vI _), some (vI _), some (vI _)] rfl rfl ?_
                refine x_goto ?_
                refine ih (5 - (j + 1)) (by omega) (j + 1) _ u2qq (by omega) (by omega) ?_ ?_ (fun i i0 i1 => ?_) (fr0 u2qq u23) ?_
                · rw [u23 111 0 (by omega) (by omega) (by omega) (by omega), up_f (by omega), g.1 111 0 (by omega) (by omega)]
                  exact g1
                · rw [u23 112 0 (by omega) (by omega) (by omega) (by omega), up_f (by omega), g.1 112 0 (by omega) (by omega)]
                  exact g2
                · rw [u23 113 _ (by omega) (by omega) (by omega) (by omega), up_f (by omega), g.1 113 _ (by omega) (by omega)]
                  exact g3 i i0 i1
                · rw [g5, show 5 - j = 5 - (j + 1) + 1 by omega]
                  exact shF_n (S := mkS L pr) (j := j) fn
          exact L1 5 0 0 _ rfl (by omega) ((up_a (by decide)).trans r1) ((up_a (by decide)).trans r2) (fun i i0 i1 => (up_a (by decide)).trans (r3 i i0 i1)) up0_k rfl
        · refine x_fall ?_
          refine x_ci ?_
          refine x_iret ?_
          exact kN (fun q => by have := q.1; have := q.2.1; have := q.2.2; omega)
end PR6
