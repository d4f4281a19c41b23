/-! TEXT: a line of the class; what stays in its bounds -/
section TXL
variable {d sp : Nat} {h0 h : pheap} {s tqq uqq : St} {Q : Option pv → pheap → Prop} {B : Int → Int} {n p q N : Nat} {sz : Int} {k vqq : Int} {D : Nat × (Int → Int)} {T : Nat × (Int → Int) × (Int → Int)} {S E : Int × Int} {K : KS} {L : (Int → Int) × (Int → Int)} {X : TS}
theorem TSC.law (h : TSC sp D T S E K L s) (hsp : sp = 37 ∨ sp = 45) {K2 : KS} {r x : Int} (hr : 0 ≤ r ∧ r < 3) (g : ∀ (b : Nat) (i : Int), sp ≤ b → b ≤ sp + 7 → ¬ (b = sp ∧ i = 11) → ¬ b = sp + 4 → tqq b i = s b i) (hK : KC sp K2 tqq) : TSC sp D T S E K2 (updF L.1 r x, updF L.2 r K2.1) (up (up tqq (sp + 5) r x) (sp + 6) r K2.1) := by
  obtain ⟨⟨a1, a2⟩, ⟨b1, b2⟩, ⟨c1, c2, c3, c4⟩, _, e⟩ := h
  have f : ∀ (b : Nat) (i : Int), ¬ (b = sp + 5) → ¬ (b = sp + 6) → sp ≤ b → b ≤ sp + 7 → ¬ (b = sp ∧ i = 11) → ¬ b = sp + 4 → up (up tqq (sp + 5) r x) (sp + 6) r (K2.1 : Int) b i = s b i := fun b i q1 q2 q3 q4 q5 q6 => by
    rw [up_a q2, up_a q1]
    exact g b i q3 q4 q5 q6
  refine ⟨⟨by rw [f _ _ (by omega) (by omega) (by omega) (by omega) (by omega) (by omega)]; exact a1, fun i i0 i1 => by rw [f _ _ (by omega) (by omega) (by omega) (by omega) (by omega) (by omega)]; exact a2 i i0 i1⟩, ⟨by rw [f _ _ (by omega) (by omega) (by omega) (by omega) (by omega) (by omega)]; exact b1, fun i i0 i1 => by rw [f _ _ (by omega) (by omega) (by omega) (by omega) (by omega) (by omega), f _ _ (by omega) (by omega) (by omega) (by omega) (by omega) (by omega)]; exact b2 i i0 i1⟩, ⟨by rw [f _ _ (by omega) (by omega) (by omega) (by omega) (by omega) (by omega)]; exact c1, by rw [f _ _ (by omega) (by omega) (by omega) (by omega) (by omega) (by omega)]; exact c2, by rw [f _ _ (by omega) (by omega) (by omega) (by omega) (by omega) (by omega)]; exact c3, by rw [f _ _ (by omega) (by omega) (by omega) (by omega) (by omega) (by omega)]; exact c4⟩, ⟨by rw [up_a (by omega), up_a (by omega)]; exact hK.1, fun i i0 i1 => by rw [up_a (by omega), up_a (by omega)]; exact hK.2 i i0 i1⟩, fun i i0 i1 => ?_⟩
  show _ = updF L.1 r x i ∧ _ = updF L.2 r (K2.1 : Int) i
  unfold updF
  by_cases zqq : i = r
  · rw [zqq, if_pos rfl, if_pos rfl, up_a (b := sp + 5) (by omega), up_e, up_e]
    exact ⟨rfl, rfl⟩
  · rw [if_neg zqq, if_neg zqq, up_a (b := sp + 5) (by omega), up_i zqq, up_i zqq, up_a (b := sp + 6) (by omega), g _ _ (by omega) (by omega) (by omega) (by omega), g _ _ (by omega) (by omega) (by omega) (by omega)]
    exact e i i0 i1
theorem eGo_ok {b : Nat} {K0 : KS} (hb : bOk B n) : ∀ {j p m : Nat} {W : List Int} {K K2 : KS} {nx : Nat}, p ≤ n → m ≤ 2 → iE b K0 m W K → eGo B n j p m W K = some (-1, nx, K2) → iE b K0 2 [] K2 ∧ p < nx ∧ nx ≤ n
  | 0, _, _, _, _, _, _, _, _, _, h => by cases h
  | j + 1, p, m, W, K, K2, nx, hp, hm, hI, h => by
    simp only [eGo] at h
    split at h
    · rename_i e0
      have k01 : ¬ (tkK B n p = 0 ∨ tkK B n p = 1) := fun zqq => by
        rw [eStep_k hm zqq] at e0
        cases e0
      have tn := tkE_R (B := B) hp (by omega) (by omega)
      have es : eStep (tkK B n p) (tkV B n p) m W K = (0, (eStep (tkK B n p) (tkV B n p) m W K).2.1, (eStep (tkK B n p) (tkV B n p) m W K).2.2.1, (eStep (tkK B n p) (tkV B n p) m W K).2.2.2) := Prod.ext e0 rfl
      have ok := eStep_ok (tkR_is hb) hm hI es
      have ih := eGo_ok hb tn.2 ok.2 ok.1 h
      exact ⟨ih.1, by omega, ih.2.2⟩
    · rename_i e0
      have h := Option.some.inj h
      have h1 := congrArg Prod.fst h
      have h2 := congrArg (fun zqq => zqq.2.1) h
      have h3 := congrArg (fun zqq => zqq.2.2) h
      simp only at h1 h2 h3
      rw [if_pos h1] at h2
      have k01 : ¬ (tkK B n p = 0 ∨ tkK B n p = 1) := fun zqq => by
        rw [eStep_k hm zqq] at h1
        cases h1
      have tn := tkE_R (B := B) hp (by omega) (by omega)
      have hm2 : m = 2 := by
        by_cases zqq : m < 2
        · exfalso
          unfold eStep at h1
          rw [if_pos zqq] at h1
          repeat' split at h1
          all_goals cases h1
        · omega
      subst hm2
      have ho : opn W = 0 ∧ tkK B n p = 5 ∧ tkV B n p = 15 := by
        by_cases zqq : opn W = 0 ∧ tkK B n p = 5 ∧ tkV B n p = 15
        · exact zqq
        · exfalso
          unfold eStep at h1
          rw [if_neg (by decide), if_neg zqq] at h1
          repeat' split at h1
          all_goals cases h1
      rw [eO_0 ho] at h3
      have sa := stl_all (K := K) ho.1 hI.b.2.2
      have so := stl_ok 0 hI
      rw [sa, h3] at so
      rw [← h2]
      exact ⟨so.1, tn⟩
theorem eEnd_ok {p nx : Nat} {K K2 : KS} (hb : bOk B n) (hp : p ≤ n) (hK : K.1 ≤ 64) (h : eEnd B n p 0 [] K (-1, nx, K2)) : iE K.1 K 2 [] K2 ∧ p < nx ∧ nx ≤ n := by
  obtain ⟨j, hj⟩ := h
  refine eGo_ok hb hp (by omega) ⟨Nat.le_refl _, fun j hj => rfl, fun j j0 j1 => by omega, ?_, ?_, by decide, fun x hx => by cases hx⟩ hj
  · rw [show K.1 - K.1 = 0 by omega]
    rfl
  · unfold tot
    simp only [opn, List.length_nil]
    omega
theorem XI_law {K2 : KS} {r : Int} (hI : XI D T S E K L) (hr : 0 ≤ r ∧ r < 3) (h : iE K.1 K 2 [] K2) : XI D T S E K2 (updF L.1 r K.1, updF L.2 r K2.1) := by
  obtain ⟨i1, i2, i3, i4, i5, i6, i7⟩ := hI
  obtain ⟨h1, h2, h3, h4, h5, _, _⟩ := h
  have k64 : K2.1 ≤ 64 := by
    unfold tot at h5
    simp only [opn, List.length_nil] at h5
    omega
  refine ⟨i1, i2, i3, i4, k64, fun x x0 x1 => ?_, fun x x0 x1 => ?_⟩
  · show lwOk K2.2 (updF L.1 r K.1 x) (updF L.2 r K2.1 x)
    unfold updF
    by_cases zqq : x = r
    · rw [if_pos zqq, if_pos zqq]
      refine ⟨by omega, by omega, by omega, h3, fun y => ?_⟩
      have e : ((K2.1 : Int) - (K.1 : Int)).toNat = K2.1 - K.1 := by omega
      rw [e, h4]
      rfl
    · rw [if_neg zqq, if_neg zqq]
      obtain ⟨l1, l2, l3, l4, l5⟩ := i6 x x0 x1
      have l7 := i7 x x0 x1
      refine ⟨l1, l2, l3, fun i i0 i1 => ?_, fun y => ?_⟩
      · rw [h2 i (by omega)]
        exact l4 i i0 i1
      · rw [dpN_cg (f := K2.2) (g := K.2) (fun i a c => h2 i (by omega))]
        exact l5 y
  · show updF L.2 r K2.1 x ≤ K2.1
    unfold updF
    have l7 := i7 x x0 x1
    split <;> omega
/-- a law that is told has a knot at least -/
theorem iE_law {K2 : KS} (h : iE K.1 K 2 [] K2) : K.1 < K2.1 := by
  by_cases zqq : K.1 < K2.1
  · exact zqq
  · exfalso
    have h4 := h.2.2.2.1
    rw [show K2.1 - K.1 = 0 by omega] at h4
    cases h4
theorem m_readLine (hd : 19 ≤ d) (hsp : sp = 37 ∨ sp = 45) (hS : isSc sp) (hT : TBC B n sz s) (hb : bOk B n) (hk : TKC (tkK B n p) (tkV B n p) (tkP B n p) (tkE B n p) s) (hX : TSC sp D T S E K L s) (hI : XI D T S E K L) (hp : p ≤ n) (hk0 : tkK B n p ≠ 0) (kS : ∀ (q : Nat) (D2 : Nat × (Int → Int)) (T2 : Nat × (Int → Int) × (Int → Int)) (S2 E2 : Int × Int) (K2 : KS) (L2 : (Int → Int) × (Int → Int)), lSt B n (p, D, T, S, E, K, L, N) (0, 0, (q, D2, T2, S2, E2, K2, L2, N + 1)) → q ≤ n → ∀ tqq, tqq 33 3 = (q : Int) → TSC sp D2 T2 S2 E2 K2 L2 tqq → wF sp s tqq → Q (some (vI 1)) (HP h0 tqq)) (kF : ∀ (f : Int) (pl : Nat), lSt B n (p, D, T, S, E, K, L, N) (f, pl, (p, D, T, S, E, K, L, N)) → f ≠ 0 ∧ f ≠ -1 → ∀ tqq, tqq 35 0 = f → tqq 35 1 = (pl : Int) → wG sp s tqq → Q (some (vI 0)) (HP h0 tqq)) : wpM PP d 267 [vR 35, vR sp] (HP h0 s) Q := by
  have tr := tkR_is (B := B) (n := n) (p := p) hb
  have tr1 := tr.1
  have tr2 := tr.2.1
  have hp20 : tkK B n p = 4 → tkE B n p ≤ n := fun zqq => (tkE_R (B := B) (n := n) (p := p) hp (by omega) (by omega)).2
  refine n_at (m := 267) (q := mr267) (kn := (0, 2)) [some (vR _), some (vR _), none, none, none] mb267 rfl rfl (h_rcv sc_35) (Nat.le_of_ble_eq_true rfl) rfl rfl ?_
  refine x_aload rfl ?_
  refine h_getR sc_35 rfl (by omega) ?_
  refine x_ci ?_
  refine n_call [vR _, vI _] [] (by omega) (Nat.le_of_ble_eq_true rfl) rfl rfl (Nat.le_of_ble_eq_true rfl) ?_
  refine m_isWord hk tr (by omega) ?_
  show wp PP _ _ _ [some (vR _), some (vR _), _, _, _] [vI _] _ _
  refine z_if_ne (fun c1 => ?_) (fun c1 => ?_)
  · have kd := kd_is tr c1.1
    have hvv : tkV B n p = 0 ∨ tkV B n p = 1 ∨ tkV B n p = 2 ∨ tkV B n p = 3 ∨ tkV B n p = 4 ∨ tkV B n p = 5 := by
      have := tr.2.2.2.2.1 c1.1
      omega
    have w6qq := hk.2.2.2.2.2.1 c1.1
    rcases hvv with hv | hv | hv | hv | hv | hv
    · have hv : tkK B n p = 4 ∧ tkV B n p = 0 := ⟨c1.1, hv⟩
      refine x_aload rfl ?_
      refine h_getR sc_35 rfl (by omega) ?_
      refine h_getB 6 sc_33 rfl rfl (show s 33 6 = ((1 : Nat) : Int) + 1 by omega) ?_
      refine n_astore [some (vR _), some (vR _), some (vR _), _, _] (Nat.le_of_ble_eq_true rfl) rfl ?_
      refine x_aload rfl ?_
      refine x_80 (by decide) ?_
      refine n_acmp_ne rfl rfl (fun c9 => absurd rfl c9) (fun _ => ?_)
      refine x_aload rfl ?_
      refine x_aload rfl ?_
      refine n_call [vR _, vR _] [] (by omega) (Nat.le_of_ble_eq_true rfl) rfl rfl (Nat.le_of_ble_eq_true rfl) ?_
      refine m_readDancer (X := (p, D, T, S, E, K, L, N)) (Y := (fun D2 => (D2, T, S, E, K, L, N + 1))) (by omega) hsp hS hT hb hk hX hI (hp20 hv.1) (fun q Z2 e e1 tqq t1qq t2qq t3qq => ?_) (fun f pl e e1 tqq t1qq t2qq t3qq => ?_)
      · show wp PP _ _ _ _ [vI _] _ _
        refine x_zret (by omega) ?_
        refine kS q Z2 T S E K L (by rw [← e]; exact lS_dan hv.1 hv.2) e1 tqq t1qq t2qq t3qq
      · show wp PP _ _ _ _ [vI _] _ _
        refine x_zret (by omega) ?_
        refine kF f pl (by rw [← e]; exact lS_dan hv.1 hv.2) (by omega) tqq t1qq t2qq t3qq
    · have hv : tkK B n p = 4 ∧ tkV B n p = 1 := ⟨c1.1, hv⟩
      refine x_aload rfl ?_
      refine h_getR sc_35 rfl (by omega) ?_
      refine h_getB 6 sc_33 rfl rfl (show s 33 6 = ((2 : Nat) : Int) + 1 by omega) ?_
      refine n_astore [some (vR _), some (vR _), some (vR _), _, _] (Nat.le_of_ble_eq_true rfl) rfl ?_
      refine x_aload rfl ?_
      refine x_80 (by decide) ?_
      refine n_acmp_ne rfl rfl (fun _ => ?_) (fun c9 => absurd c9 (by decide))
      refine x_aload rfl ?_
      refine x_80 (by decide) ?_
      refine n_acmp_eq rfl rfl (fun _ => ?_) (fun c9 => absurd rfl c9)
      refine x_aload rfl ?_
      refine x_aload rfl ?_
      refine x_aload rfl ?_
      refine x_80 (by decide) ?_
      refine n_acmp_ne rfl rfl (fun c9 => absurd rfl c9) (fun _ => ?_)
      refine x_ci ?_
      refine x_goto ?_
      refine n_call [vR _, vR _, vI _] [] (by omega) (Nat.le_of_ble_eq_true rfl) rfl rfl (Nat.le_of_ble_eq_true rfl) ?_
      refine m_readTelling (X := (p, D, T, S, E, K, L, N)) (Y := (fun T2 => (D, T2, S, E, K, L, N + 1))) (ov := 1) (by omega) (by omega) (by omega) hsp hS hT hb hk hX hI (hp20 hv.1) (fun q Z2 e e1 tqq t1qq t2qq t3qq => ?_) (fun f pl e e1 tqq t1qq t2qq t3qq => ?_)
      · show wp PP _ _ _ _ [vI _] _ _
        refine x_zret (by omega) ?_
        refine kS q D Z2 S E K L (by rw [← e]; exact lS_tel hv.1 (by omega)) e1 tqq t1qq t2qq t3qq
      · show wp PP _ _ _ _ [vI _] _ _
        refine x_zret (by omega) ?_
        refine kF f pl (by rw [← e]; exact lS_tel hv.1 (by omega)) (by omega) tqq t1qq t2qq t3qq
    · have hv : tkK B n p = 4 ∧ tkV B n p = 2 := ⟨c1.1, hv⟩
      refine x_aload rfl ?_
      refine h_getR sc_35 rfl (by omega) ?_
      refine h_getB 6 sc_33 rfl rfl (show s 33 6 = ((3 : Nat) : Int) + 1 by omega) ?_
      refine n_astore [some (vR _), some (vR _), some (vR _), _, _] (Nat.le_of_ble_eq_true rfl) rfl ?_
      refine x_aload rfl ?_
      refine x_80 (by decide) ?_
      refine n_acmp_ne rfl rfl (fun _ => ?_) (fun c9 => absurd c9 (by decide))
      refine x_aload rfl ?_
      refine x_80 (by decide) ?_
      refine n_acmp_eq rfl rfl (fun c9 => absurd c9 (by decide)) (fun _ => ?_)
      refine x_aload rfl ?_
      refine x_80 (by decide) ?_
      refine n_acmp_ne rfl rfl (fun c9 => absurd rfl c9) (fun _ => ?_)
      refine x_fall ?_
      refine x_aload rfl ?_
      refine x_aload rfl ?_
      refine x_aload rfl ?_
      refine x_80 (by decide) ?_
      refine n_acmp_ne rfl rfl (fun _ => ?_) (fun c9 => absurd c9 (by decide))
      refine x_ci ?_
      refine x_fall ?_
      refine n_call [vR _, vR _, vI _] [] (by omega) (Nat.le_of_ble_eq_true rfl) rfl rfl (Nat.le_of_ble_eq_true rfl) ?_
      refine m_readTelling (X := (p, D, T, S, E, K, L, N)) (Y := (fun T2 => (D, T2, S, E, K, L, N + 1))) (ov := 0) (by omega) (by omega) (by omega) hsp hS hT hb hk hX hI (hp20 hv.1) (fun q Z2 e e1 tqq t1qq t2qq t3qq => ?_) (fun f pl e e1 tqq t1qq t2qq t3qq => ?_)
      · show wp PP _ _ _ _ [vI _] _ _
        refine x_zret (by omega) ?_
        refine kS q D Z2 S E K L (by rw [← e]; exact lS_tel hv.1 (by omega)) e1 tqq t1qq t2qq t3qq
      · show wp PP _ _ _ _ [vI _] _ _
        refine x_zret (by omega) ?_
        refine kF f pl (by rw [← e]; exact lS_tel hv.1 (by omega)) (by omega) tqq t1qq t2qq t3qq
    · have hv : tkK B n p = 4 ∧ tkV B n p = 3 := ⟨c1.1, hv⟩
      refine x_aload rfl ?_
      refine h_getR sc_35 rfl (by omega) ?_
      refine h_getB 6 sc_33 rfl rfl (show s 33 6 = ((4 : Nat) : Int) + 1 by omega) ?_
      refine n_astore [some (vR _), some (vR _), some (vR _), _, _] (Nat.le_of_ble_eq_true rfl) rfl ?_
      refine x_aload rfl ?_
      refine x_80 (by decide) ?_
      refine n_acmp_ne rfl rfl (fun _ => ?_) (fun c9 => absurd c9 (by decide))
      refine x_aload rfl ?_
      refine x_80 (by decide) ?_
      refine n_acmp_eq rfl rfl (fun c9 => absurd c9 (by decide)) (fun _ => ?_)
      refine x_aload rfl ?_
      refine x_80 (by decide) ?_
      refine n_acmp_ne rfl rfl (fun _ => ?_) (fun c9 => absurd c9 (by decide))
      refine x_aload rfl ?_
      refine x_80 (by decide) ?_
      refine n_acmp_ne rfl rfl (fun c9 => absurd rfl c9) (fun _ => ?_)
      refine x_aload rfl ?_
      refine x_aload rfl ?_
      refine n_call [vR _, vR _] [] (by omega) (Nat.le_of_ble_eq_true rfl) rfl rfl (Nat.le_of_ble_eq_true rfl) ?_
      refine m_readSlip (X := (p, D, T, S, E, K, L, N)) (Y := (fun S2 => (D, T, S2, E, K, L, N + 1))) (by omega) hsp hS hT hb hk hX hI (hp20 hv.1) (fun q Z2 e e1 tqq t1qq t2qq t3qq => ?_) (fun f pl e e1 tqq t1qq t2qq t3qq => ?_)
      · show wp PP _ _ _ _ [vI _] _ _
        refine x_zret (by omega) ?_
        refine kS q D T Z2 E K L (by rw [← e]; exact lS_slip hv.1 hv.2) e1 tqq t1qq t2qq t3qq
      · show wp PP _ _ _ _ [vI _] _ _
        refine x_zret (by omega) ?_
        refine kF f pl (by rw [← e]; exact lS_slip hv.1 hv.2) (by omega) tqq t1qq t2qq t3qq
    · have hv : tkK B n p = 4 ∧ tkV B n p = 4 := ⟨c1.1, hv⟩
      refine x_aload rfl ?_
      refine h_getR sc_35 rfl (by omega) ?_
      refine h_getB 6 sc_33 rfl rfl (show s 33 6 = ((5 : Nat) : Int) + 1 by omega) ?_
      refine n_astore [some (vR _), some (vR _), some (vR _), _, _] (Nat.le_of_ble_eq_true rfl) rfl ?_
      refine x_aload rfl ?_
      refine x_80 (by decide) ?_
      refine n_acmp_ne rfl rfl (fun _ => ?_) (fun c9 => absurd c9 (by decide))
      refine x_aload rfl ?_
      refine x_80 (by decide) ?_
      refine n_acmp_eq rfl rfl (fun c9 => absurd c9 (by decide)) (fun _ => ?_)
      refine x_aload rfl ?_
      refine x_80 (by decide) ?_
      refine n_acmp_ne rfl rfl (fun _ => ?_) (fun c9 => absurd c9 (by decide))
      refine x_aload rfl ?_
      refine x_80 (by decide) ?_
      refine n_acmp_ne rfl rfl (fun _ => ?_) (fun c9 => absurd c9 (by decide))
      refine x_aload rfl ?_
      refine x_80 (by decide) ?_
      refine n_acmp_ne rfl rfl (fun c9 => absurd rfl c9) (fun _ => ?_)
      refine x_aload rfl ?_
      refine x_aload rfl ?_
      refine n_call [vR _, vR _] [] (by omega) (Nat.le_of_ble_eq_true rfl) rfl rfl (Nat.le_of_ble_eq_true rfl) ?_
      refine m_readSeed (X := (p, D, T, S, E, K, L, N)) (Y := (fun E2 => (D, T, S, E2, K, L, N + 1))) (by omega) hsp hS hT hb hk hX hI (hp20 hv.1) (fun q Z2 e e1 tqq t1qq t2qq t3qq => ?_) (fun f pl e e1 tqq t1qq t2qq t3qq => ?_)
      · show wp PP _ _ _ _ [vI _] _ _
        refine x_zret (by omega) ?_
        refine kS q D T S Z2 K L (by rw [← e]; exact lS_seed hv.1 hv.2) e1 tqq t1qq t2qq t3qq
      · show wp PP _ _ _ _ [vI _] _ _
        refine x_zret (by omega) ?_
        refine kF f pl (by rw [← e]; exact lS_seed hv.1 hv.2) (by omega) tqq t1qq t2qq t3qq
    · have hv : tkK B n p = 4 ∧ tkV B n p = 5 := ⟨c1.1, hv⟩
      refine x_aload rfl ?_
      refine h_getR sc_35 rfl (by omega) ?_
      refine h_getB 6 sc_33 rfl rfl (show s 33 6 = ((6 : Nat) : Int) + 1 by omega) ?_
      refine n_astore [some (vR _), some (vR _), some (vR _), _, _] (Nat.le_of_ble_eq_true rfl) rfl ?_
      refine x_aload rfl ?_
      refine x_80 (by decide) ?_
      refine n_acmp_ne rfl rfl (fun _ => ?_) (fun c9 => absurd c9 (by decide))
      refine x_aload rfl ?_
      refine x_80 (by decide) ?_
      refine n_acmp_eq rfl rfl (fun c9 => absurd c9 (by decide)) (fun _ => ?_)
      refine x_aload rfl ?_
      refine x_80 (by decide) ?_
      refine n_acmp_ne rfl rfl (fun _ => ?_) (fun c9 => absurd c9 (by decide))
      refine x_aload rfl ?_
      refine x_80 (by decide) ?_
      refine n_acmp_ne rfl rfl (fun _ => ?_) (fun c9 => absurd c9 (by decide))
      refine x_aload rfl ?_
      refine x_80 (by decide) ?_
      refine n_acmp_ne rfl rfl (fun _ => ?_) (fun c9 => absurd c9 (by decide))
      refine x_aload rfl ?_
      refine x_aload rfl ?_
      refine n_call [vR _, vR _] [] (by omega) (Nat.le_of_ble_eq_true rfl) rfl rfl (Nat.le_of_ble_eq_true rfl) ?_
      refine m_readRule (by omega) hsp hS hT hb hk hX hI (hp20 hv.1) (fun y1 y2 y3 tqq t1qq t2qq => ?_) (fun f hf tqq t1qq t2qq t3qq => ?_)
      · show wp PP _ _ _ _ [vI _] _ _
        refine n_istore [some (vR _), some (vR _), some (vR _), some (vI _), _] (Nat.le_of_ble_eq_true rfl) rfl ?_
        refine x_aload rfl ?_
        refine h_getI 11 hS.1 rfl rfl ?_
        rw [(hX.tk hsp t2qq).2.2.2.1.1]
        refine n_istore [some (vR _), some (vR _), some (vR _), some (vI _), some (vI _)] (Nat.le_of_ble_eq_true rfl) rfl ?_
        refine x_iload rfl ?_
        refine x_ci ?_
        refine n_icmp_eq ⟨by omega, by omega⟩ ⟨by omega, by omega⟩ (fun c2 => ?_) (fun c2 => ?_)
        · exfalso
          omega
        · refine x_aload rfl ?_
          refine x_aload rfl ?_
          refine n_call [vR _, vR _] [] (by omega) (Nat.le_of_ble_eq_true rfl) rfl rfl (Nat.le_of_ble_eq_true rfl) ?_
          have hXt := hX.tk hsp t2qq
          have tn2 := tkE_R (B := B) (n := n) (p := tkE B n p) (hp20 hv.1) (by omega) (by omega)
          refine m_readExpression (p0 := tkE B n (tkE B n p)) (by omega) hsp hS (hT.w hsp t2qq.w) hb t1qq tn2.2 hXt.2.2.2.1 hI.2.2.2.2.1 (fun nx K2 e e1 wqq w1qq w2qq w3qq w4qq => ?_) (fun f pl K2 f0 f1 e wqq w1qq w2qq w3qq => ?_)
          · show wp PP _ _ _ _ [vI _] _ _
            refine n_if_ne ⟨by omega, by omega⟩ (fun _ => ?_) (fun c9 => by exfalso; omega)
            refine x_aload rfl ?_
            refine x_iload rfl ?_
            refine x_iload rfl ?_
            refine n_call [vR _, vI _, vI _] [] (by omega) (Nat.le_of_ble_eq_true rfl) rfl rfl (Nat.le_of_ble_eq_true rfl) ?_
            refine m_setLaw hS w2qq.1 ⟨by omega, by omega⟩ ?_
            show wp PP _ _ _ [some (vR _), some (vR _), some (vR _), some (vI _), some (vI _)] [] _ _
            refine x_ci ?_
            refine x_zret (by first | exact bI_01 _ | omega) ?_
            have hl := lS_law (D := D) (T := T) (S := S) (E := E) (K := K) (L := L) (N := N) hv.1 hv.2 ⟨y1, y2⟩ y3 e
            rw [if_pos rfl] at hl
            exact kS nx D T S E K2 _ hl e1.2 _ (by rw [up_a (by omega), up_a (by omega)]; exact w1qq) (hXt.law hsp ⟨by omega, by omega⟩ (fun b i q1 q2 q3 q4 => w4qq b i (by omega) (by omega) (by omega) q3 q4) w2qq) (wF_tr t2qq.w (wF_tr w4qq.w (fun b r q0 q1 q2 q3 => by rw [up_f (by omega), up_f (by omega)])))
          · show wp PP _ _ _ _ [vI _] _ _
            refine n_if_ne ⟨by omega, by omega⟩ (fun c9 => by exfalso; omega) (fun _ => ?_)
            refine x_fall ?_
            refine x_ci ?_
            refine x_zret (by first | exact bI_01 _ | omega) ?_
            have hl := lS_law (D := D) (T := T) (S := S) (E := E) (K := K) (L := L) (N := N) hv.1 hv.2 ⟨y1, y2⟩ y3 e
            rw [if_neg (show ¬ f = -1 by omega)] at hl
            exact kF f pl hl ⟨f0, f1⟩ wqq w1qq w2qq (wG_tr t2qq.w w3qq.w)
      · show wp PP _ _ _ _ [vI _] _ _
        refine n_istore [some (vR _), some (vR _), some (vR _), some (vI _), _] (Nat.le_of_ble_eq_true rfl) rfl ?_
        refine x_aload rfl ?_
        refine h_getI 11 hS.1 rfl rfl ?_
        skip
        refine n_istore [some (vR _), some (vR _), some (vR _), some (vI _), some (vI _)] (Nat.le_of_ble_eq_true rfl) rfl ?_
        refine x_iload rfl ?_
        refine x_ci ?_
        refine n_icmp_eq ⟨by omega, by omega⟩ ⟨by omega, by omega⟩ (fun c2 => ?_) (fun c2 => ?_)
        · refine x_ci ?_
          refine x_zret (by first | exact bI_01 _ | omega) ?_
          rcases hf with hf | hf
          · exact kF f _ (by rw [hf.1]; exact lS_rule hv.1 hv.2 hf.2) (by omega) tqq t1qq t2qq t3qq
          · exact kF f _ (by rw [hf.1]; exact lS_told hv.1 hv.2 ⟨hf.2.1, hf.2.2.1⟩ hf.2.2.2) (by omega) tqq t1qq t2qq t3qq
        · exfalso
          omega
  · refine x_aload rfl ?_
    refine x_ci ?_
    refine n_call [vR _, vI _] [] (by omega) (Nat.le_of_ble_eq_true rfl) rfl rfl (Nat.le_of_ble_eq_true rfl) ?_
    refine m_fail hk.2.1 ?_
    show wp PP _ _ _ [some (vR _), some (vR _), _, _, _] [vI _] _ _
    refine x_zret (by first | exact bI_01 _ | omega) ?_
    exact kF 1 _ (lS_1 (by omega) (fun y => c1 ⟨y.1, by have kd := kd_is tr y.1; omega⟩)) (by omega) _ (by rw [up_i (by decide), up_e]) up_e (wF_fail wF_rfl)
end TXL
