/-! TEXT: all lines of the class; text of the class -/
section TXM
variable {d sp tp : Nat} {h0 h : pheap} {s tqq uqq : St} {Q : Option pv → pheap → Prop} {B : Int → Int} {n p q N : Nat} {sz : Int} {k vqq : Int} {D : Nat × (Int → Int)} {T : Nat × (Int → Int) × (Int → Int)} {S E : Int × Int} {K : KS} {L : (Int → Int) × (Int → Int)} {X : TS}
theorem no_f {a b : Int} {x y : Nat × TS} (h : ((a, x) : LNR) = (b, y)) (g : a ≠ b) : False := g (congrArg Prod.fst h)
theorem lEnd_0 {i q : Nat} {Y Y2 : TS2} (h : (0, i, (q, Y2)) = lEnd B n p X Y) : (tkK B n p = 5 ∧ tkV B n p = 15) ∧ q = tkE B n p ∧ Y2 = Y := by
  unfold lEnd at h
  split at h
  · rename_i zqq
    exact ⟨zqq, congrArg (fun r => r.2.2.1) h, congrArg (fun r => r.2.2.2) h⟩
  · exact (no_f h (by decide)).elim
theorem lNum_0 {m : Int} {i : Nat} {Z : TS} {r : LNR} (h : (0, i, Z) = lNum B n p m X r) : tkK B n p = 2 ∧ tkV B n p ≤ m ∧ (0, i, Z) = r := by
  unfold lNum at h
  split at h
  · exact (no_f h (by decide)).elim
  · rename_i zqq
    split at h
    · exact (no_f h (by decide)).elim
    · exact ⟨by omega, by omega, h⟩
theorem lSt_ok {i q N2 : Nat} {D2 : Nat × (Int → Int)} {T2 : Nat × (Int → Int) × (Int → Int)} {S2 E2 : Int × Int} {K2 : KS} {L2 : (Int → Int) × (Int → Int)} (hb : bOk B n) (hp : p ≤ n) (hI : XI D T S E K L) (h : lSt B n (p, D, T, S, E, K, L, N) (0, i, (q, D2, T2, S2, E2, K2, L2, N2))) : XI D2 T2 S2 E2 K2 L2 ∧ p < q ∧ q ≤ n ∧ N2 = N + 1 := by
  simp only [lSt] at h
  by_cases c0 : tkK B n p = 0
  · rw [if_pos c0] at h
    exact (no_f h (by decide)).elim
  rw [if_neg c0] at h
  by_cases c1 : ¬ (tkK B n p = 4 ∧ tkV B n p ≤ 5)
  · rw [if_pos c1] at h
    exact (no_f h (by decide)).elim
  rw [if_neg c1] at h
  have t0qq := tkE_R (B := B) (n := n) (p := p) hp (by omega) (by omega)
  have r1 := tkR_is (B := B) (n := n) (p := tkE B n p) hb
  have r2 := tkR_is (B := B) (n := n) (p := tkE B n (tkE B n p)) hb
  obtain ⟨i1, i2, i3, i4, i5, i6, i7⟩ := hI
  by_cases c2 : tkV B n p = 0
  · rw [if_pos c2] at h
    unfold lDan at h
    split at h
    · exact (no_f h (by decide)).elim
    · split at h
      · exact (no_f h (by decide)).elim
      · split at h
        · exact (no_f h (by decide)).elim
        · rename_i z1qq z2qq z3qq
          have z2qq : tkK B n (tkE B n p) = 3 := by omega
          have t1qq := tkE_R (B := B) (n := n) (p := tkE B n p) (by omega) (by omega) (by omega)
          obtain ⟨e1, e2, e3⟩ := lEnd_0 h
          have t2qq := tkE_R (B := B) (n := n) (p := tkE B n (tkE B n p)) (by omega) (by omega) (by omega)
          simp only [Prod.mk.injEq] at e3
          obtain ⟨rfl, rfl, rfl, rfl, rfl, rfl, rfl⟩ := e3
          refine ⟨⟨⟨by show D.1 + 1 ≤ 6; omega, fun j j0 j1 => ?_⟩, i2, i3, i4, i5, i6, i7⟩, by omega, by omega, rfl⟩
          show 0 ≤ updF D.2 D.1 _ j ∧ updF D.2 D.1 _ j < _
          have j1 : j < ((D.1 + 1 : Nat) : Int) := j1
          unfold updF
          split
          · exact r1.2.2.2.1 z2qq
          · exact i1.2 j j0 (by omega)
  rw [if_neg c2] at h
  by_cases c3 : tkV B n p = 1 ∨ tkV B n p = 2
  · rw [if_pos c3] at h
    unfold lTel at h
    split at h
    · exact (no_f h (by decide)).elim
    · obtain ⟨a1, a2, h⟩ := lNum_0 h
      have t1qq := tkE_R (B := B) (n := n) (p := tkE B n p) (by omega) (by omega) (by omega)
      obtain ⟨b1, b2, h⟩ := lNum_0 h
      have t2qq := tkE_R (B := B) (n := n) (p := tkE B n (tkE B n p)) (by omega) (by omega) (by omega)
      obtain ⟨e1, e2, e3⟩ := lEnd_0 h
      have t3qq := tkE_R (B := B) (n := n) (p := tkE B n (tkE B n (tkE B n p))) (by omega) (by omega) (by omega)
      simp only [Prod.mk.injEq] at e3
      obtain ⟨rfl, rfl, rfl, rfl, rfl, rfl, rfl⟩ := e3
      refine ⟨⟨i1, ⟨by show T.1 + 1 ≤ 24; omega, fun j j0 j1 => ?_⟩, i3, i4, i5, i6, i7⟩, by omega, by omega, rfl⟩
      have j1 : j < ((T.1 + 1 : Nat) : Int) := j1
      have v1qq := r1.2.2.1 a1
      have v2qq := r2.2.2.1 b1
      show 0 ≤ updF T.2.1 T.1 _ j ∧ updF T.2.1 T.1 _ j ≤ 99 ∧ 0 ≤ updF T.2.2 T.1 _ j ∧ updF T.2.2 T.1 _ j < 10
      unfold updF
      by_cases zqq : j = T.1
      · rw [if_pos zqq, if_pos zqq]
        omega
      · rw [if_neg zqq, if_neg zqq]
        exact i2.2 j j0 (by omega)
  rw [if_neg c3] at h
  by_cases c4 : tkV B n p = 3
  · rw [if_pos c4] at h
    unfold lOne at h
    split at h
    · exact (no_f h (by decide)).elim
    · obtain ⟨a1, a2, h⟩ := lNum_0 h
      have t1qq := tkE_R (B := B) (n := n) (p := tkE B n p) (by omega) (by omega) (by omega)
      obtain ⟨e1, e2, e3⟩ := lEnd_0 h
      have t2qq := tkE_R (B := B) (n := n) (p := tkE B n (tkE B n p)) (by omega) (by omega) (by omega)
      simp only [Prod.mk.injEq] at e3
      obtain ⟨rfl, rfl, rfl, rfl, rfl, rfl, rfl⟩ := e3
      have v1qq := r1.2.2.1 a1
      exact ⟨⟨i1, i2, ⟨Or.inr rfl, v1qq.1, a2⟩, i4, i5, i6, i7⟩, by omega, by omega, rfl⟩
  rw [if_neg c4] at h
  by_cases c5 : tkV B n p = 4
  · rw [if_pos c5] at h
    unfold lOne at h
    split at h
    · exact (no_f h (by decide)).elim
    · obtain ⟨a1, a2, h⟩ := lNum_0 h
      have t1qq := tkE_R (B := B) (n := n) (p := tkE B n p) (by omega) (by omega) (by omega)
      obtain ⟨e1, e2, e3⟩ := lEnd_0 h
      have t2qq := tkE_R (B := B) (n := n) (p := tkE B n (tkE B n p)) (by omega) (by omega) (by omega)
      simp only [Prod.mk.injEq] at e3
      obtain ⟨rfl, rfl, rfl, rfl, rfl, rfl, rfl⟩ := e3
      have v1qq := r1.2.2.1 a1
      exact ⟨⟨i1, i2, i3, ⟨Or.inr rfl, v1qq.1, a2⟩, i5, i6, i7⟩, by omega, by omega, rfl⟩
  rw [if_neg c5] at h
  by_cases c6 : ¬ (tkK B n (tkE B n p) = 4 ∧ 6 ≤ tkV B n (tkE B n p) ∧ tkV B n (tkE B n p) ≤ 8)
  · rw [if_pos c6] at h
    exact (no_f h (by decide)).elim
  rw [if_neg c6] at h
  by_cases c7 : L.1 (tkV B n (tkE B n p) - 6) < L.2 (tkV B n (tkE B n p) - 6)
  · rw [if_pos c7] at h
    exact (no_f h (by decide)).elim
  rw [if_neg c7] at h
  obtain ⟨e, h1, h2⟩ := h
  have t1qq := tkE_R (B := B) (n := n) (p := tkE B n p) (by omega) (by omega) (by omega)
  split at h2
  · rename_i zqq
    obtain ⟨f, nx, K3⟩ := e
    simp only at zqq
    subst zqq
    have ok := eEnd_ok hb t1qq.2 i5 h1
    simp only [Prod.mk.injEq] at h2
    obtain ⟨_, rfl, rfl, rfl, rfl, rfl, rfl, rfl, rfl, rfl⟩ := h2
    exact ⟨XI_law ⟨i1, i2, i3, i4, i5, i6, i7⟩ ⟨by omega, by omega⟩ ok.1, by omega, ok.2.2, rfl⟩
  · rename_i zqq
    obtain ⟨j, hj⟩ := h1
    exfalso
    have hf := congrArg Prod.fst h2
    simp only at hf
    have : ∀ {j p m : Nat} {W : List Int} {K : KS} {e : Int × Nat × KS}, eGo B n j p m W K = some e → e.1 ≠ 0 := by
      intro j
      induction j with
      | zero => intro p m W K e hh; cases hh
      | succ j ih =>
        intro p m W K e hh
        simp only [eGo] at hh
        split at hh
        · exact ih hh
        · rename_i y
          have := Option.some.inj hh
          rw [← this]
          exact y
    exact this hj hf.symm
/-- what a text is at first -/
abbrev Y0 : TS2 := ((0, c00), (0, c00, c00), (0, 0), (0, 0), (0, c00), (c00, c00), 0)
theorem XI_0 : XI (0, c00) (0, c00, c00) (0, 0) (0, 0) (0, c00) (c00, c00) := by
  refine ⟨⟨by decide, fun i i0 i1 => ?_⟩, ⟨by decide, fun i i0 i1 => ?_⟩, ⟨Or.inl rfl, by decide, by decide⟩, ⟨Or.inl rfl, by decide, by decide⟩, by decide, fun r r0 r1 => ⟨(show (0 : Int) ≤ 0 by decide), (show (0 : Int) ≤ 0 by decide), (show (0 : Int) ≤ 64 by decide), fun i i0 i1 => ?_, fun zqq => ?_⟩, fun r _ _ => (show (0 : Int) ≤ 0 by decide)⟩
  · have i1 : i < ((0 : Nat) : Int) := i1
    omega
  · have i1 : i < ((0 : Nat) : Int) := i1
    omega
  · have i0 : (0 : Int) ≤ i := i0
    have i1 : i < (0 : Int) := i1
    omega
  · have zqq : (0 : Int) < 0 := zqq
    omega
def zF (sp : Nat) (s tqq : St) : Prop := ∀ (b : Nat) (r : Int), ¬ (b = 33 ∧ 2 ≤ r) → ¬ b = 35 → ¬ b = 36 → ¬ (sp ≤ b ∧ b ≤ sp + 7) → tqq b r = s b r
theorem wF.z (h : wF sp s tqq) : zF sp s tqq := fun b r q0 q1 q2 q3 => h b r (by omega) (by omega) q2 (by omega)
theorem wG.z (h : wG sp s tqq) : zF sp s tqq := fun b r q0 q1 q2 q3 => h b r (by omega) q1 q2 (by omega)
theorem zF_tr (h : zF sp s tqq) (g : zF sp tqq uqq) : zF sp s uqq := fun b r q0 q1 q2 q3 => (g b r q0 q1 q2 q3).trans (h b r q0 q1 q2 q3)
theorem TBC.u9 {x i : Int} (h : TBC B n sz s) (hsp : sp = 37 ∨ sp = 45) : TBC B n sz (up s sp i x) := ⟨(up_a (by omega)).trans h.1, (up_a (by omega)).trans h.2.1, h.2.2.1, h.2.2.2.1, fun j j0 j1 => by
  rw [up_a (by omega)]
  exact h.2.2.2.2 j j0 j1⟩
theorem TSC.up9 {x : Int} (h : TSC sp D T S E K L s) (hsp : sp = 37 ∨ sp = 45) : TSC sp D T S E K L (up s sp 9 x) := by
  obtain ⟨⟨a1, a2⟩, ⟨b1, b2⟩, ⟨c1, c2, c3, c4⟩, ⟨d1, d2⟩, e⟩ := h
  exact ⟨⟨by rw [up_i (by decide)]; exact a1, fun i i0 i1 => by rw [up_a (by omega)]; exact a2 i i0 i1⟩, ⟨by rw [up_i (by decide)]; exact b1, fun i i0 i1 => by rw [up_a (by omega), up_a (by omega)]; exact b2 i i0 i1⟩, ⟨by rw [up_i (by decide)]; exact c1, by rw [up_i (by decide)]; exact c2, by rw [up_i (by decide)]; exact c3, by rw [up_i (by decide)]; exact c4⟩, ⟨by rw [up_i (by decide)]; exact d1, fun i i0 i1 => by rw [up_a (by omega)]; exact d2 i i0 i1⟩, fun r r0 r1 => by rw [up_a (by omega), up_a (by omega)]; exact e r r0 r1⟩
theorem m_reads (hd : 21 ≤ d) (hsp : sp = 37 ∨ sp = 45) (hS : isSc sp) (h1 : s 33 1 = sz) (hnz : (n : Int) ≤ sz) (hz7 : sz ≤ 700) (hB : ∀ i : Int, 0 ≤ i → i < sz → i_and (s 34 i) 255 = B i) (hb : bOk B n) (kD : ∀ (q : Nat) (D : Nat × (Int → Int)) (T : Nat × (Int → Int) × (Int → Int)) (S E : Int × Int) (K : KS) (L : (Int → Int) × (Int → Int)) (N : Nat), tEnd B n (0, Y0) (-1, 0, (q, D, T, S, E, K, L, N)) → XI D T S E K L → ∀ tqq, TSC sp D T S E K L tqq → tqq sp 9 = N → tqq 35 0 = 0 → tqq 35 1 = -1 → zF sp s tqq → Q (some (vI 1)) (HP h0 tqq)) (kF : ∀ (f : Int) (pl : Nat) (X : TS), tEnd B n (0, Y0) (f, pl, X) → f ≠ 0 ∧ f ≠ -1 → ∀ tqq, tqq 35 0 = f → tqq 35 1 = (pl : Int) → zF sp s tqq → Q (some (vI 0)) (HP h0 tqq)) : wpM PP d 265 [vR 35, vI (n : Int), vR sp] (HP h0 s) Q := by
  have L1 : ∀ M : Nat, ∀ (p : Nat) (D : Nat × (Int → Int)) (T : Nat × (Int → Int) × (Int → Int)) (S : Int × Int) (E : Int × Int) (K : KS) (L : (Int → Int) × (Int → Int)) (N : Nat) (i : Int) (tqq : St), (M = n - p ∧ p ≤ n ∧ i ≤ p ∧ 0 ≤ i) → (tqq 33 3 = p) → (TSC sp D T S E K L tqq) → (tqq sp 9 = N) → (tqq 35 0 = 0 ∧ tqq 35 1 = -1) → (XI D T S E K L) → (∀ r, tEnd B n (p, D, T, S, E, K, L, N) r → tEnd B n (0, Y0) r) → (TBC B n sz tqq) → (zF sp s tqq) →  wp PP d mb265 (mb265.getD 1 []) [some (vR 35), some (vI (n : Int)), some (vR sp), some (vI i)] [] (HP h0 tqq) Q := by
    refine s_ind (fun M ih => ?_)
    intro p D T S E K L N i tqq hM g3 gX g9 g0 gI gR gT gF
    refine x_iload rfl ?_
    refine x_ci ?_
    refine n_icmp_gt ⟨by omega, by omega⟩ ⟨by omega, by omega⟩ (fun c1 => ?_) (fun c1 => ?_)
    · refine x_ci ?_
      refine x_zret (by first | exact bI_01 _ | omega) ?_
      first
        | (exfalso; omega)
        | exact kD p D T S E K L N (gR _ (tEnd_stop (lS_0 c2) (show (-1 : Int) ≠ 0 by decide))) gI uqq (gX.tk hsp u2qq) ((u2qq sp 9 (by omega)).trans g9) (by rw [u2qq 35 0 (by omega)]; exact g0.1) (by rw [u2qq 35 1 (by omega)]; exact g0.2) (zF_tr gF u2qq.w.z)
    · refine x_aload rfl ?_
      refine h_getR sc_35 rfl (by omega) ?_
      refine n_call [vR _] [] (by omega) (Nat.le_of_ble_eq_true rfl) rfl rfl (Nat.le_of_ble_eq_true rfl) ?_
      refine m_step (p := p) (by omega) gT hb g3 (by omega) (fun uqq u1qq u2qq => ?_)
      have tr := tkR_is (B := B) (n := n) (p := p) hb
      have tr1 := tr.1
      have tr2 := tr.2.1
      show wp PP _ _ _ [some (vR _), some (vI _), some (vR _), some (vI _)] [] _ _
      refine x_aload rfl ?_
      refine h_getR sc_35 rfl (by omega) ?_
      refine h_getI 5 sc_33 rfl rfl ?_
      rw [u1qq.2.2.1]
      refine n_if_ne ⟨by omega, by omega⟩ (fun c2 => ?_) (fun c2 => ?_)
      · refine x_aload rfl ?_
        refine x_aload rfl ?_
        refine n_call [vR _, vR _] [] (by omega) (Nat.le_of_ble_eq_true rfl) rfl rfl (Nat.le_of_ble_eq_true rfl) ?_
        refine m_readLine (N := N) (by omega) hsp hS (gT.w hsp u2qq.w) hb u1qq (gX.tk hsp u2qq) gI (by omega) c2 (fun q D2 T2 S2 E2 K2 L2 e e1 wqq w1qq w2qq w3qq => ?_) (fun f pl e hf wqq w1qq w2qq w3qq => ?_)
        · have ok := lSt_ok hb (by omega) gI e
          show wp PP _ _ _ _ [vI _] _ _
          refine n_if_ne ⟨by omega, by omega⟩ (fun _ => ?_) (fun c9 => by exfalso; omega)
          refine x_aload rfl ?_
          refine x_dupR ?_
          refine h_getI 9 hS.1 rfl rfl ?_
          rw [w3qq sp 9 (by omega) (by omega) (by omega) (by omega), u2qq sp 9 (by omega), g9]
          refine x_ci ?_
          refine x_iadd ?_
          refine h_putI 9 hS.1 rfl rfl ?_
          refine n_iinc [some (vR _), some (vI _), some (vR _), some (vI _)] rfl rfl ?_
          refine x_goto ?_
          refine ih (n - q) (by omega) q D2 T2 S2 E2 K2 L2 (N + 1) (i + 1) _ (by omega) ?_ (w2qq.up9 hsp) ?_ ?_ ok.1 (fun r y => gR r (tEnd_step e rfl y)) ((gT.w hsp (wF_tr u2qq.w w3qq)).u9 hsp) (zF_tr gF (zF_tr u2qq.w.z (zF_tr w3qq.z (fun b r q0 q1 q2 q3 => up_f (by omega)))))
          · rw [up_a (by omega)]
            exact w1qq
          · rw [up_e]
            omega
          · rw [up_a (by omega), up_a (by omega), w3qq 35 0 (by omega) (by omega) (by omega) (by omega), w3qq 35 1 (by omega) (by omega) (by omega) (by omega), u2qq 35 0 (by omega), u2qq 35 1 (by omega)]
            exact g0
        · show wp PP _ _ _ _ [vI _] _ _
          refine n_if_ne ⟨by omega, by omega⟩ (fun c9 => by exfalso; omega) (fun _ => ?_)
          refine x_ci ?_
          refine x_zret (by first | exact bI_01 _ | omega) ?_
          exact kF f pl _ (gR _ (tEnd_stop e hf.1)) hf wqq w1qq w2qq (zF_tr gF (zF_tr u2qq.w.z w3qq.z))
      · refine x_ci ?_
        refine x_zret (by first | exact bI_01 _ | omega) ?_
        first
          | (exfalso; omega)
          | exact kD p D T S E K L N (gR _ (tEnd_stop (lS_0 c2) (show (-1 : Int) ≠ 0 by decide))) gI uqq (gX.tk hsp u2qq) ((u2qq sp 9 (by omega)).trans g9) (by rw [u2qq 35 0 (by omega)]; exact g0.1) (by rw [u2qq 35 1 (by omega)]; exact g0.2) (zF_tr gF u2qq.w.z)
  refine n_at (m := 265) (q := mr265) (kn := (0, 3)) [some (vR _), some (vI _), some (vR _), none] mb265 rfl rfl (h_rcv sc_35) (Nat.le_of_ble_eq_true rfl) rfl rfl ?_
  refine x_aload rfl ?_
  refine x_ci ?_
  refine h_putI 0 sc_35 rfl rfl ?_
  refine x_aload rfl ?_
  refine x_ci ?_
  refine h_putI 1 sc_35 rfl rfl ?_
  refine x_aload rfl ?_
  refine h_getR sc_35 rfl (by omega) ?_
  refine x_iload rfl ?_
  refine n_call [vR _, vI _] [] (by omega) (Nat.le_of_ble_eq_true rfl) rfl rfl (Nat.le_of_ble_eq_true rfl) ?_
  refine m_tbegin ?_
  show wp PP _ _ _ [some (vR _), some (vI _), some (vR _), _] [] _ _
  refine x_aload rfl ?_
  refine n_call [vR _] [] (by omega) (Nat.le_of_ble_eq_true rfl) rfl rfl (Nat.le_of_ble_eq_true rfl) ?_
  refine m_clear hS (fun tqq t1qq t2qq => ?_)
  show wp PP _ _ _ [some (vR _), some (vI _), some (vR _), _] [] _ _
  refine x_ci ?_
  refine n_istore [some (vR _), some (vI _), some (vR _), some (vI _)] (Nat.le_of_ble_eq_true rfl) rfl ?_
  refine x_fall ?_
  have g : ∀ (b : Nat) (r : Int), ¬ (b = 33 ∧ 2 ≤ r) → ¬ b = 35 → ¬ (sp ≤ b ∧ b ≤ sp + 7) → tqq b r = s b r := fun b r q1 q2 q3 => by
    rw [t2qq b r (by omega) (by omega)]
    rw [up_f (by omega), up_f (by omega), up_f (by omega), up_f (by omega), up_f (by omega), up_f (by omega), up_f (by omega), up_f (by omega), up_f (by omega), up_f (by omega), up_f (by omega), up_f (by omega), up_f (by omega), up_f (by omega)]
  have e33 : ∀ r : Int, tqq 33 r = (up (up (up (up s 33 2 n) 33 3 0) 33 4 0) 33 5 0) 33 r := fun r => by
    rw [t2qq 33 r (by omega) (by omega), up_a (by omega), up_a (by omega), up_a (by omega), up_a (by omega), up_a (by omega), up_a (by omega), up_a (by omega), up_a (by omega)]
    simp [up]
  have e35 : ∀ r : Int, tqq 35 r = (up (up s 35 0 0) 35 1 (-1)) 35 r := fun r => by
    rw [t2qq 35 r (by omega) (by omega), up_a (by omega), up_a (by omega), up_a (by omega), up_a (by omega), up_a (by omega), up_a (by omega), up_a (by omega), up_a (by omega), up_a (by omega), up_a (by omega), up_a (by omega), up_a (by omega)]
  have esp : ∀ r : Int, tqq sp r = (if r = 11 ∨ r = 9 ∨ r = 8 ∨ r = 7 ∨ r = 6 ∨ r = 5 ∨ r = 4 ∨ r = 1 then 0 else s sp r) := fun r => by
    rw [t2qq sp r (by omega) (by omega)]
    have n33 : ¬ sp = 33 := by omega
    have n35 : ¬ sp = 35 := by omega
    simp only [up, n33, n35, false_and, if_false, true_and]
    repeat' split
    all_goals first | rfl | omega
  have i01 : ∀ i : Int, 0 ≤ i → i < ((0 : Nat) : Int) → False := fun i i0 i1 => by omega
  refine L1 n 0 (0, c00) (0, c00, c00) (0, 0) (0, 0) (0, c00) (c00, c00) 0 0 tqq ⟨rfl, by omega, by omega, by omega⟩ ?_ ⟨⟨?_, fun i i0 i1 => (i01 i i0 i1).elim⟩, ⟨?_, fun i i0 i1 => (i01 i i0 i1).elim⟩, ⟨?_, ?_, ?_, ?_⟩, ⟨?_, fun i i0 i1 => (i01 i i0 i1).elim⟩, t1qq⟩ ?_ ⟨?_, ?_⟩ XI_0 (fun r y => y) ⟨?_, ?_, hnz, hz7, fun i i0 i1 => ?_⟩ (fun b r q0 q1 q2 q3 => g b r (by omega) q1 q3)
  · rw [e33]
    simp [up]
  · rw [esp, if_pos (by omega)]
    rfl
  · rw [esp, if_pos (by omega)]
    rfl
  · rw [esp, if_pos (by omega)]
  · rw [esp, if_pos (by omega)]
  · rw [esp, if_pos (by omega)]
  · rw [esp, if_pos (by omega)]
  · rw [esp, if_pos (by omega)]
    rfl
  · rw [esp, if_pos (by omega)]
    rfl
  · rw [e35]
    simp [up]
  · rw [e35]
    simp [up]
  · rw [e33]
    simp [up]
    exact h1
  · rw [e33]
    simp [up]
  · rw [g 34 i (by omega) (by omega) (by omega)]
    exact hB i i0 i1
end TXM
