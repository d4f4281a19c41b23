/-! SEARCH, the reference: loosens, looseFrom -/
section PR3
variable {d : Nat} {h0 : pheap} {s : St} {Q : Option pv → pheap → Prop} {L : Int} {n k N : Nat} {c c' : Int → Int}
def lF (s tqq : St) : Prop := ∀ (b : Nat) (r : Int), ¬ (114 ≤ b ∧ b ≤ 117) → ¬ b = 122 → ¬ (b = 118 ∧ r = 1) → ¬ (b = 119 ∧ r = 1) → ¬ (b = 120 ∧ 600 ≤ r ∧ r < 1200) → tqq b r = s b r
theorem lF_rfl : lF s s := fun _ _ _ _ _ _ _ => rfl
theorem lF_tr {tqq uqq : St} (h1 : lF s tqq) (h2 : lF tqq uqq) : lF s uqq := fun b r q1 q2 q3 q4 q5 => (h2 b r q1 q2 q3 q4 q5).trans (h1 b r q1 q2 q3 q4 q5)
theorem ffr_lF {tqq : St} (h : ffr 1 s tqq) : lF s tqq := fun b r _ _ q3 q4 q5 => h b r (by omega) q3 q4
theorem rfr_lF {tqq : St} (h : rfr s tqq) : lF s tqq := fun b r q1 _ _ _ _ => h b (by omega) r
theorem FQ_lF {tqq : St} {q : QF N} (hF : FQ N 0 n q s) (hN : N ≤ 6) (hn : n ≤ 99) (g : lF s tqq) : FQ N 0 n q tqq := by
  have f1 : ffr 1 s (fun b r => if 118 ≤ b ∧ b ≤ 120 then tqq b r else s b r) := fun b r q1 q2 q3 => by
    show (if 118 ≤ b ∧ b ≤ 120 then tqq b r else s b r) = s b r
    split
    · exact g b r (by omega) (by omega) q2 q3 (by omega)
    · rfl
  refine (FQ.out hF (by omega) hn f1 (by omega) (by omega) hN).of (fun b r hb => ?_)
  show tqq b r = (if 118 ≤ b ∧ b ≤ 120 then tqq b r else s b r)
  rw [if_pos (by omega)]
theorem SB.cg {tqq : St} (h : SB L c n tqq) (e : ∀ i : Int, 0 ≤ i → i < n → c i = c' i) : SB L c' n tqq := by
  obtain ⟨a1, a2, _⟩ := w_cg (L := L) e
  exact ⟨fun p p0 p1 => by rw [← a1]; exact h.1 p p0 p1, fun j j0 j1 => by rw [← a2]; exact h.2 j j0 j1⟩
theorem qW_cg (hN : N ≤ 6) (h : ∀ i : Int, 0 ≤ i → i < n → c i = c' i) : qW N hN c n = qW N hN c' n := by
  unfold qW
  rw [wl_cg h]
theorem r_loosens {L : Int} {n N K : Nat} {hN : N ≤ 6} {qq : QF N} (hL : 0 ≤ L ∧ L < 64) (hNL : cnt L = N) (hK : K = (2 * cnt L - 2).toNat) : ∀ (r : Nat) {d dep : Nat} {c : Int → Int} {h0 : pheap} {s : St} {Q : Option pv → pheap → Prop} {tot : Int}, (htot : tot = dep + r) → (hd : 10 + r ≤ d) → (hv : vC L c (n + dep)) → (hn : n + dep + r ≤ 52) → (hdr : dep + r ≤ 4) → (hs : SB L c (n + dep) s) → (hq : qW N hN c n = qq) → (hF : FQ N 0 n qq s) → (h2 : 2 ≤ N ∨ n + dep = 0) → (row : ∀ i : Nat, i < dep → s 122 i = c ((n + i : Nat) : Int)) → (r1 : s 111 0 = L) → (h41 : s 94 41 = N) → (kF : ∀ wqq, sfN (gdB L) K r c (n + dep) = some wqq → ∀ tqq, (∀ i : Nat, i < r → tqq 122 ((dep + i : Nat) : Int) = ((wqq.getD i 0 : Nat) : Int)) → (∀ q : Int, q < dep → tqq 122 q = s 122 q) → lF s tqq → Q (some (vI 1)) (HP h0 tqq)) → (kN : sfN (gdB L) K r c (n + dep) = none → ∀ tqq, SB L c (n + dep) tqq → FQ N 0 n qq tqq → (∀ q : Int, q < dep → tqq 122 q = s 122 q) → lF s tqq → Q (some (vI 0)) (HP h0 tqq)) → wpM PP d 156 [vR 94, vI (dep : Int), vI tot] (HP h0 s) Q := by
  have hct := cnt_R L
  intro r
  induction r with
  | zero =>
    intro d dep c h0 s Q tot htot hd hv hn hdr hs hq hF h2 row r1 h41 kF kN
    refine n_at (m := 156) (q := mr156) (kn := (0, 3)) [some (vR _), some (vI _), some (vI _), none] mb156 rfl rfl (h_rcv sc_94) (Nat.le_of_ble_eq_true rfl) rfl rfl ?_
    refine x_iload rfl ?_
    refine x_iload rfl ?_
    refine n_icmp_ne ⟨by omega, by omega⟩ ⟨by omega, by omega⟩ (fun c1 => ?_) (fun c1 => ?_)
    · exfalso
      omega
    · refine x_aload rfl ?_
      refine x_iload rfl ?_
      refine n_call [vR _, vI _] [] (by omega) (Nat.le_of_ble_eq_true rfl) rfl rfl (Nat.le_of_ble_eq_true rfl) ?_
      rw [show tot = (dep : Int) by omega]
      refine r_looseBy (c := c) (by omega) hL hN hNL h2 (by omega) (by omega) hv r1 h41 hs (by rw [hq]; exact hF) row (fun uqq u1qq => ?_)
      have fb : ∀ (b : Nat) (q : Int), b < 118 ∨ 120 < b → uqq b q = s b q := fun b q hb => u1qq b q (by omega) (by omega) (by omega)
      show wp PP _ _ _ _ [vI _] _ _
      refine x_zret (bI_01 _) ?_
      by_cases g : gdB L c (n + dep) = true
      · refine cI (kF [] (if_pos g) uqq (fun i hi => by omega) (fun q _ => fb 122 q (by omega)) (ffr_lF u1qq)) (bI_t g).symm
      · refine cI (kN (if_neg g) uqq (hs.of (fun q => fb 114 q (by omega)) (fun q => fb 115 q (by omega))) (FQ_lF hF hN (by omega) (ffr_lF u1qq)) (fun q _ => fb 122 q (by omega)) (ffr_lF u1qq)) (bI_f g).symm
  | succ r ihr =>
    intro d dep c h0 s Q tot htot hd hv hn hdr hs hq hF h2 row r1 h41 kF kN
    have L1 : ∀ M : Nat, ∀ (j : Nat) (jj : Int) (tqq : St), (jj = j) → (M = K - j ∧ j ≤ K) → (SB L c (n + dep) tqq) → (FQ N 0 n qq tqq) → (∀ q : Int, q < dep → tqq 122 q = s 122 q) → (lF s tqq) → (sfF (fun i => sfN (gdB L) K r (csC c (n + dep) (i : Int)) (n + dep + 1)) 0 K = sfF (fun i => sfN (gdB L) K r (csC c (n + dep) (i : Int)) (n + dep + 1)) j (K - j)) →  wp PP d mb156 (mb156.getD 2 []) [some (vR 94), some (vI (dep : Int)), some (vI tot), some (vI jj)] [] (HP h0 tqq) Q := by
      refine s_ind (fun M ih => ?_)
      intro j jj tqq hjj hM g1 g2 g3 g4 g5
      subst hjj
      refine x_iload rfl ?_
      refine x_aload rfl ?_
      refine x_ci ?_
      refine n_call [vR _, vI _] [vI _] (by omega) (Nat.le_of_ble_eq_true rfl) rfl rfl (Nat.le_of_ble_eq_true rfl) ?_
      refine r_codesOf (f := 0) (by omega) (by omega) (by rw [g4 111 0 (by omega) (by omega) (by omega) (by omega) (by omega), r1]; exact hL) ?_
      rw [g4 111 0 (by omega) (by omega) (by omega) (by omega) (by omega), r1]
      show wp PP _ _ _ [some (vR _), some (vI _), some (vI _), some (vI _)] [vI _, vI _] _ _
      refine n_icmp_ge ⟨by omega, by omega⟩ ⟨by omega, by omega⟩ (fun c1 => ?_) (fun c1 => ?_)
      · refine x_ci ?_
        refine x_zret (by first | exact bI_01 _ | omega) ?_
        have ej : j = K := by omega
        subst ej
        rw [show j - j = 0 by omega] at g5
        exact kN g5 tqq g1 g2 g3 g4
      · refine x_aload rfl ?_
        refine h_getR sc_94 rfl (by omega) ?_
        refine x_iload rfl ?_
        refine x_iload rfl ?_
        refine h_iast sc_122 ⟨by omega, by omega⟩ (by decide) ?_
        refine x_aload rfl ?_
        refine x_iload rfl ?_
        refine n_call [vR _, vI _] [] (by omega) (Nat.le_of_ble_eq_true rfl) rfl rfl (Nat.le_of_ble_eq_true rfl) ?_
        have hq1 : 0 ≤ (j : Int) ∧ (j : Int) < 2 * (cnt L - 1) := by omega
        have wa := wO_R hL hv ((j : Int) / 2) (by omega) (by omega)
        have wb := wO_R hL hv ((j : Int) / 2 + 1) (by omega) (by omega)
        refine r_crosses (by omega) ((up_a (by decide)).trans (g1.1 ((j : Int) / 2) (by omega) (by omega))) ((up_a (by decide)).trans (g1.1 ((j : Int) / 2 + 1) (by omega) (by omega))) ⟨wa.1, wa.2.1⟩ ⟨wb.1, wb.2.1⟩ (fun y => by
          have := wO_inj hL hv _ _ (by omega) (by omega) (by omega) (by omega) y
          omega) (fun uqq u1qq => ?_)
        have v' := csC_v hv hq1
        have cg := csC_lt (c := c) (n := n + dep) (q := (j : Int))
        have wg := w_cg (L := L) cg
        have u2qq : SB L (csC c (n + dep) (j : Int)) (n + dep + 1) uqq := by
          refine SB.step (s := up tqq 122 dep (j : Int)) ((g1.cg cg).of (fun q => up_a (by decide)) (fun q => up_a (by decide))) ?_
          rw [csC_n, ← wg.1]
          exact u1qq
        have u122 : ∀ q : Int, uqq 122 q = if q = dep then (j : Int) else tqq 122 q := fun q => by
          rw [u1qq.1 122 (by omega) q]
          by_cases e : q = dep
          · rw [e, up_e, if_pos rfl]
          · rw [up_i e, if_neg e]
        have uF : lF tqq uqq := fun b q q1 q2 q3 q4 q5 => by
          rw [u1qq.1 b (by omega) q, up_f (by omega)]
        show wp PP _ _ _ [some (vR _), some (vI _), some (vI _), some (vI _)] [] _ _
        refine x_aload rfl ?_
        refine x_iload rfl ?_
        refine x_ci ?_
        refine x_iadd ?_
        refine x_iload rfl ?_
        refine n_call [vR _, vI _, vI _] [] (by omega) (Nat.le_of_ble_eq_true rfl) rfl rfl (Nat.le_of_ble_eq_true rfl) ?_
        obtain ⟨e, he⟩ : ∃ e, K - j = e + 1 := ⟨K - j - 1, by omega⟩
        rw [he] at g5
        refine ihr (dep := dep + 1) (c := csC c (n + dep) (j : Int)) (by omega) (by omega) v' (by omega) (by omega) u2qq ((qW_cg hN (fun i i0 i1 => (cg i i0 (by omega)).symm)).trans hq) (FQ_lF g2 hN (by omega) uF) (by omega) (fun i hi => ?_) ((uF 111 0 (by omega) (by omega) (by omega) (by omega) (by omega)).trans ((g4 111 0 (by omega) (by omega) (by omega) (by omega) (by omega)).trans r1)) ((uF 94 41 (by omega) (by omega) (by omega) (by omega) (by omega)).trans ((g4 94 41 (by omega) (by omega) (by omega) (by omega) (by omega)).trans h41)) (fun wqq fw vqq v1qq v3qq v4qq => ?_) (fun fn vqq v1qq v2qq v3qq v4qq => ?_)
        · rw [u122]
          by_cases ei : i = dep
          · rw [ei, if_pos rfl]
            exact csC_n.symm
          · rw [if_neg (by omega), g3 i (by omega), row i (by omega)]
            exact cg _ (by omega) (by omega)
        · show wp PP _ _ _ _ [vI _] _ _
          refine n_if_eq ⟨by omega, by omega⟩ (fun zqq => by omega) (fun _ => ?_)
          refine x_ci ?_
          refine x_zret (by decide) ?_
          refine kF (j :: wqq) (g5.trans (sfF_y fw)) vqq (fun i hi => ?_) (fun q hq2 => ?_) (lF_tr (lF_tr g4 uF) v4qq)
          · cases i with
            | zero =>
              rw [show ((dep + 0 : Nat) : Int) = dep by omega, v3qq dep (by omega), u122, if_pos rfl]
              rfl
            | succ i =>
              have := v1qq i (by omega)
              rw [show ((dep + (i + 1) : Nat) : Int) = ((dep + 1 + i : Nat) : Int) by omega, this]
              rfl
          · rw [v3qq q (by omega), u122 q, if_neg (by omega)]
            exact g3 q hq2
        · have VS : SB L (csC c (n + dep) (j : Int)) (n + dep + 1) vqq := v1qq
          show wp PP _ _ _ _ [vI _] _ _
          refine n_if_eq ⟨by omega, by omega⟩ (fun _ => ?_) (fun zqq => absurd rfl zqq)
          refine x_aload rfl ?_
          refine x_iload rfl ?_
          refine x_ci ?_
          refine x_ixor ?_
          refine n_call [vR _, vI _] [] (by omega) (Nat.le_of_ble_eq_true rfl) rfl rfl (Nat.le_of_ble_eq_true rfl) ?_
          have w' := w_cg (L := L) cg
          have e2 : i_xor (j : Int) 1 / 2 = (j : Int) / 2 := by rw [xor1 (by omega) (by omega)]; omega
          have sg : sgn (i_xor (j : Int) 1) = - sgn (csC c (n + dep) (j : Int) ((n + dep : Nat) : Int)) := by
            rw [csC_n, xor1 (by omega) (by omega)]
            unfold sgn
            split <;> split <;> omega
          have o1 : vqq 114 ((j : Int) / 2) = wO L c (n + dep) ((j : Int) / 2 + 1) := by
            rw [VS.1 _ (by omega) (by omega)]
            simp only [wO, csC_n, if_pos]
            rw [← w'.1]
          have o2 : vqq 114 ((j : Int) / 2 + 1) = wO L c (n + dep) ((j : Int) / 2) := by
            rw [VS.1 _ (by omega) (by omega)]
            simp only [wO, csC_n]
            rw [if_neg (by omega), if_pos trivial, ← w'.1]
          refine r_crosses (by rw [xor1 (by omega) (by omega)]; omega) (by rw [e2]; exact o1) (by rw [e2]; exact o2) ⟨wb.1, wb.2.1⟩ ⟨wa.1, wa.2.1⟩ (fun y => by
            have := wO_inj hL hv _ _ (by omega) (by omega) (by omega) (by omega) y
            omega) (fun x x1 => ?_)
          have x2 : SB L c (n + dep) x := by
            refine SB.cg (c := csC c (n + dep) (j : Int)) (SB.back VS (x := i_xor (j : Int) 1) ?_ sg ?_) (fun i i0 i1 => (cg i i0 i1).symm)
            · rw [e2, csC_n]
            · rw [csC_n, ← w'.1]
              exact x1
          have xF : lF vqq x := rfr_lF x1.1
          show wp PP _ _ _ [some (vR _), some (vI _), some (vI _), some (vI _)] [] _ _
          refine n_iinc [some (vR _), some (vI _), some (vI _), some (vI _)] rfl rfl ?_
          refine x_goto ?_
          refine ih e (by omega) (j + 1) _  x (by omega) (by omega) x2 ?_ (fun q hq2 => ?_) (lF_tr (lF_tr (lF_tr g4 uF) v4qq) xF) ?_
          · exact FQ_lF v2qq hN (by omega) xF
          · rw [x1.1 122 (by omega) q, v3qq q (by omega), u122 q, if_neg (by omega)]
            exact g3 q hq2
          · rw [show K - (j + 1) = e by omega]
            exact g5.trans (sfF_n fn)
    refine n_at (m := 156) (q := mr156) (kn := (0, 3)) [some (vR _), some (vI _), some (vI _), none] mb156 rfl rfl (h_rcv sc_94) (Nat.le_of_ble_eq_true rfl) rfl rfl ?_
    refine x_iload rfl ?_
    refine x_iload rfl ?_
    refine n_icmp_ne ⟨by omega, by omega⟩ ⟨by omega, by omega⟩ (fun c1 => ?_) (fun c1 => ?_)
    · refine x_ci ?_
      refine n_istore [some (vR _), some (vI _), some (vI _), some (vI _)] (Nat.le_of_ble_eq_true rfl) rfl ?_
      refine x_fall ?_
      refine L1 K 0 0 s rfl (by omega) hs hF (fun q _ => rfl) lF_rfl ?_
      rfl
    · exfalso
      omega
theorem r_looseFrom {L : Int} {n N K : Nat} {hN : N ≤ 6} {qq : QF N} (hL : 0 ≤ L ∧ L < 64) (hNL : cnt L = N) (hK : K = (2 * cnt L - 2).toNat) : ∀ (r : Nat) {d dep : Nat} {c : Int → Int} {h0 : pheap} {s : St} {Q : Option pv → pheap → Prop} {tot : Int}, (htot : tot = dep + r) → (hd : 10 + r ≤ d) → (hv : vC L c (n + dep)) → (hn : n + dep + r ≤ 52) → (hdr : dep + r ≤ 4) → (hs : SB L c (n + dep) s) → (hq : qW N hN c n = qq) → (hF : FQ N 0 n qq s) → (h2 : 2 ≤ N ∨ n + dep = 0) → (row : ∀ i : Nat, i < dep → s 122 i = c ((n + i : Nat) : Int)) → (r1 : s 111 0 = L) → (h41 : s 94 41 = N) → (kN : ∀ tqq, SB L c (n + dep) tqq → FQ N 0 n qq tqq → (∀ q : Int, q < dep → tqq 122 q = s 122 q) → lF s tqq → Q (some (vI (scN (gdB L) K r c (n + dep)))) (HP h0 tqq)) → wpM PP d 158 [vR 94, vI (dep : Int), vI tot] (HP h0 s) Q := by
  have hct := cnt_R L
  intro r
  induction r with
  | zero =>
    intro d dep c h0 s Q tot htot hd hv hn hdr hs hq hF h2 row r1 h41 kN
    refine n_at (m := 158) (q := mr158) (kn := (0, 3)) [some (vR _), some (vI _), some (vI _), none, none] mb158 rfl rfl (h_rcv sc_94) (Nat.le_of_ble_eq_true rfl) rfl rfl ?_
    refine x_iload rfl ?_
    refine x_iload rfl ?_
    refine n_icmp_ne ⟨by omega, by omega⟩ ⟨by omega, by omega⟩ (fun c1 => ?_) (fun c1 => ?_)
    · exfalso
      omega
    · refine x_aload rfl ?_
      refine x_iload rfl ?_
      refine n_call [vR _, vI _] [] (by omega) (Nat.le_of_ble_eq_true rfl) rfl rfl (Nat.le_of_ble_eq_true rfl) ?_
      rw [show tot = (dep : Int) by omega]
      refine r_looseBy (c := c) (by omega) hL hN hNL h2 (by omega) (by omega) hv r1 h41 hs (by rw [hq]; exact hF) row (fun uqq u1qq => ?_)
      have fb : ∀ (b : Nat) (q : Int), b < 118 ∨ 120 < b → uqq b q = s b q := fun b q hb => u1qq b q (by omega) (by omega) (by omega)
      show wp PP _ _ _ _ [vI _] _ _
      refine z_if_eq (fun g => ?_) (fun g => ?_)
      · refine x_ci ?_
        refine x_fall ?_
        refine x_iret ?_
        exact cI (kN uqq (hs.of (fun q => fb 114 q (by omega)) (fun q => fb 115 q (by omega))) (FQ_lF hF hN (by omega) (ffr_lF u1qq)) (fun q _ => fb 122 q (by omega)) (ffr_lF u1qq)) (if_neg g)
      · refine x_ci ?_
        refine x_goto ?_
        refine x_iret ?_
        exact cI (kN uqq (hs.of (fun q => fb 114 q (by omega)) (fun q => fb 115 q (by omega))) (FQ_lF hF hN (by omega) (ffr_lF u1qq)) (fun q _ => fb 122 q (by omega)) (ffr_lF u1qq)) (if_pos g)
  | succ r ihr =>
    intro d dep c h0 s Q tot htot hd hv hn hdr hs hq hF h2 row r1 h41 kN
    have L1 : ∀ M : Nat, ∀ (j : Nat) (jj : Int) (al : Int) (tqq : St), (jj = j) → (M = K - j ∧ j ≤ K) → (SB L c (n + dep) tqq) → (FQ N 0 n qq tqq) → (∀ q : Int, q < dep → tqq 122 q = s 122 q) → (lF s tqq) → (al + scF (fun i => scN (gdB L) K r (csC c (n + dep) (i : Int)) (n + dep + 1)) j (K - j) = scF (fun i => scN (gdB L) K r (csC c (n + dep) (i : Int)) (n + dep + 1)) 0 K) →  wp PP d mb158 (mb158.getD 4 []) [some (vR 94), some (vI (dep : Int)), some (vI tot), some (vI al), some (vI jj)] [] (HP h0 tqq) Q := by
      refine s_ind (fun M ih => ?_)
      intro j jj al tqq hjj hM g1 g2 g3 g4 g5
      subst hjj
      refine x_iload rfl ?_
      refine x_aload rfl ?_
      refine x_ci ?_
      refine n_call [vR _, vI _] [vI _] (by omega) (Nat.le_of_ble_eq_true rfl) rfl rfl (Nat.le_of_ble_eq_true rfl) ?_
      refine r_codesOf (f := 0) (by omega) (by omega) (by rw [g4 111 0 (by omega) (by omega) (by omega) (by omega) (by omega), r1]; exact hL) ?_
      rw [g4 111 0 (by omega) (by omega) (by omega) (by omega) (by omega), r1]
      show wp PP _ _ _ [some (vR _), some (vI _), some (vI _), some (vI _), some (vI _)] [vI _, vI _] _ _
      refine n_icmp_ge ⟨by omega, by omega⟩ ⟨by omega, by omega⟩ (fun c1 => ?_) (fun c1 => ?_)
      · refine x_iload rfl ?_
        refine x_iret ?_
        have ej : j = K := by omega
        subst ej
        rw [show j - j = 0 by omega] at g5
        refine cI (kN tqq g1 g2 g3 g4) ?_
        have g5 : al + 0 = scN (gdB L) j (r + 1) c (n + dep) := g5
        omega
      · refine x_aload rfl ?_
        refine h_getR sc_94 rfl (by omega) ?_
        refine x_iload rfl ?_
        refine x_iload rfl ?_
        refine h_iast sc_122 ⟨by omega, by omega⟩ (by decide) ?_
        refine x_aload rfl ?_
        refine x_iload rfl ?_
        refine n_call [vR _, vI _] [] (by omega) (Nat.le_of_ble_eq_true rfl) rfl rfl (Nat.le_of_ble_eq_true rfl) ?_
        have hq1 : 0 ≤ (j : Int) ∧ (j : Int) < 2 * (cnt L - 1) := by omega
        have wa := wO_R hL hv ((j : Int) / 2) (by omega) (by omega)
        have wb := wO_R hL hv ((j : Int) / 2 + 1) (by omega) (by omega)
        refine r_crosses (by omega) ((up_a (by decide)).trans (g1.1 ((j : Int) / 2) (by omega) (by omega))) ((up_a (by decide)).trans (g1.1 ((j : Int) / 2 + 1) (by omega) (by omega))) ⟨wa.1, wa.2.1⟩ ⟨wb.1, wb.2.1⟩ (fun y => by
          have := wO_inj hL hv _ _ (by omega) (by omega) (by omega) (by omega) y
          omega) (fun uqq u1qq => ?_)
        have v' := csC_v hv hq1
        have cg := csC_lt (c := c) (n := n + dep) (q := (j : Int))
        have wg := w_cg (L := L) cg
        have u2qq : SB L (csC c (n + dep) (j : Int)) (n + dep + 1) uqq := by
          refine SB.step (s := up tqq 122 dep (j : Int)) ((g1.cg cg).of (fun q => up_a (by decide)) (fun q => up_a (by decide))) ?_
          rw [csC_n, ← wg.1]
          exact u1qq
        have u122 : ∀ q : Int, uqq 122 q = if q = dep then (j : Int) else tqq 122 q := fun q => by
          rw [u1qq.1 122 (by omega) q]
          by_cases e : q = dep
          · rw [e, up_e, if_pos rfl]
          · rw [up_i e, if_neg e]
        have uF : lF tqq uqq := fun b q q1 q2 q3 q4 q5 => by
          rw [u1qq.1 b (by omega) q, up_f (by omega)]
        show wp PP _ _ _ [some (vR _), some (vI _), some (vI _), some (vI _), some (vI _)] [] _ _
        refine x_iload rfl ?_
        refine x_aload rfl ?_
        refine x_iload rfl ?_
        refine x_ci ?_
        refine x_iadd ?_
        refine x_iload rfl ?_
        refine n_call [vR _, vI _, vI _] [vI _] (by omega) (Nat.le_of_ble_eq_true rfl) rfl rfl (Nat.le_of_ble_eq_true rfl) ?_
        obtain ⟨e, he⟩ : ∃ e, K - j = e + 1 := ⟨K - j - 1, by omega⟩
        rw [he] at g5
        refine ihr (dep := dep + 1) (c := csC c (n + dep) (j : Int)) (by omega) (by omega) v' (by omega) (by omega) u2qq ((qW_cg hN (fun i i0 i1 => (cg i i0 (by omega)).symm)).trans hq) (FQ_lF g2 hN (by omega) uF) (by omega) (fun i hi => ?_) ((uF 111 0 (by omega) (by omega) (by omega) (by omega) (by omega)).trans ((g4 111 0 (by omega) (by omega) (by omega) (by omega) (by omega)).trans r1)) ((uF 94 41 (by omega) (by omega) (by omega) (by omega) (by omega)).trans ((g4 94 41 (by omega) (by omega) (by omega) (by omega) (by omega)).trans h41)) (fun vqq v1qq v2qq v3qq v4qq => ?_)
        · rw [u122]
          by_cases ei : i = dep
          · rw [ei, if_pos rfl]
            exact csC_n.symm
          · rw [if_neg (by omega), g3 i (by omega), row i (by omega)]
            exact cg _ (by omega) (by omega)
        have VS : SB L (csC c (n + dep) (j : Int)) (n + dep + 1) vqq := v1qq
        show wp PP _ _ _ _ [vI _, vI _] _ _
        refine x_iadd ?_
        refine n_istore [some (vR _), some (vI _), some (vI _), some (vI _), some (vI _)] (Nat.le_of_ble_eq_true rfl) rfl ?_
        refine x_aload rfl ?_
        refine x_iload rfl ?_
        refine x_ci ?_
        refine x_ixor ?_
        refine n_call [vR _, vI _] [] (by omega) (Nat.le_of_ble_eq_true rfl) rfl rfl (Nat.le_of_ble_eq_true rfl) ?_
        have w' := w_cg (L := L) cg
        have e2 : i_xor (j : Int) 1 / 2 = (j : Int) / 2 := by rw [xor1 (by omega) (by omega)]; omega
        have sg : sgn (i_xor (j : Int) 1) = - sgn (csC c (n + dep) (j : Int) ((n + dep : Nat) : Int)) := by
          rw [csC_n, xor1 (by omega) (by omega)]
          unfold sgn
          split <;> split <;> omega
        have o1 : vqq 114 ((j : Int) / 2) = wO L c (n + dep) ((j : Int) / 2 + 1) := by
          rw [VS.1 _ (by omega) (by omega)]
          simp only [wO, csC_n, if_pos]
          rw [← w'.1]
        have o2 : vqq 114 ((j : Int) / 2 + 1) = wO L c (n + dep) ((j : Int) / 2) := by
          rw [VS.1 _ (by omega) (by omega)]
          simp only [wO, csC_n]
          rw [if_neg (by omega), if_pos trivial, ← w'.1]
        refine r_crosses (by rw [xor1 (by omega) (by omega)]; omega) (by rw [e2]; exact o1) (by rw [e2]; exact o2) ⟨wb.1, wb.2.1⟩ ⟨wa.1, wa.2.1⟩ (fun y => by
          have := wO_inj hL hv _ _ (by omega) (by omega) (by omega) (by omega) y
          omega) (fun x x1 => ?_)
        have x2 : SB L c (n + dep) x := by
          refine SB.cg (c := csC c (n + dep) (j : Int)) (SB.back VS (x := i_xor (j : Int) 1) ?_ sg ?_) (fun i i0 i1 => (cg i i0 i1).symm)
          · rw [e2, csC_n]
          · rw [csC_n, ← w'.1]
            exact x1
        have xF : lF vqq x := rfr_lF x1.1
        show wp PP _ _ _ [some (vR _), some (vI _), some (vI _), some (vI _), some (vI _)] [] _ _
        refine n_iinc [some (vR _), some (vI _), some (vI _), some (vI _), some (vI _)] rfl rfl ?_
        refine x_goto ?_
        refine ih e (by omega) (j + 1) _ _ x (by omega) (by omega) x2 ?_ (fun q hq2 => ?_) (lF_tr (lF_tr (lF_tr g4 uF) v4qq) xF) ?_
        · exact FQ_lF v2qq hN (by omega) xF
        · rw [x1.1 122 (by omega) q, v3qq q (by omega), u122 q, if_neg (by omega)]
          exact g3 q hq2
        · rw [show K - (j + 1) = e by omega, ← g5]
          show _ + scN (gdB L) K r (csC c (n + dep) (j : Int)) (n + dep + 1) + _ = _ + (scN (gdB L) K r (csC c (n + dep) (j : Int)) (n + dep + 1) + _)
          omega
    refine n_at (m := 158) (q := mr158) (kn := (0, 3)) [some (vR _), some (vI _), some (vI _), none, none] mb158 rfl rfl (h_rcv sc_94) (Nat.le_of_ble_eq_true rfl) rfl rfl ?_
    refine x_iload rfl ?_
    refine x_iload rfl ?_
    refine n_icmp_ne ⟨by omega, by omega⟩ ⟨by omega, by omega⟩ (fun c1 => ?_) (fun c1 => ?_)
    · refine x_ci ?_
      refine n_istore [some (vR _), some (vI _), some (vI _), some (vI _), _] (Nat.le_of_ble_eq_true rfl) rfl ?_
      refine x_ci ?_
      refine n_istore [some (vR _), some (vI _), some (vI _), some (vI _), some (vI _)] (Nat.le_of_ble_eq_true rfl) rfl ?_
      refine x_fall ?_
      refine L1 K 0 0 0 s rfl (by omega) hs hF (fun q _ => rfl) lF_rfl ?_
      exact Int.zero_add _
    · exfalso
      omega
end PR3
