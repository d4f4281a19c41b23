/-! THE LAW's loop, in its own frame -/
section LOOPQ
variable {pJ : Program} {lJ : Launch} {eJ : Env} {sJ : State} {mJ : MethodId} {bJ : List Frame} {tJ : Method} {cJ : Code} {bb : Nat} {QJ : State → Prop} {aJ : Array Value}
variable {sa : Nat → Nat} {base L : Nat} {xs : Nat → Int} {ca : Nat → ClassId} {D : va_G} {h0 : pheap} {s t u : St}
theorem d_cases2 {d : Nat} (hI : INV s) (hd : 200 ≤ d) {x y : Int} (hx : iR x) (hy : iR y) : ∃ (tp : Nat) (D ll : Int) (n : Nat) (c : Int → Int), (PL 54 ll n c s ∧ isSc tp ∧ s 32 2 = (tp : Int) + 1 ∧ s tp 1 = D ∧ 0 ≤ D ∧ D ≤ 6) ∧ ∀ s1 : St, (∀ (b : Nat) (r : Int), b ≠ 130 → s1 b r = s b r) →
    (¬ (0 ≤ x ∧ x < D) → wpM PP d 131 [vR 94, vI x, vI y] (HP h0 s1) (fun v h' => ∃ u, h' = HP h0 u ∧ INV u ∧ v = some (vI 0) ∧ u 94 0 = 1 ∧ u 130 0 = s1 130 0)) ∧ (0 ≤ x ∧ x < D → ¬ (0 ≤ y ∧ y ≤ 5) → wpM PP d 131 [vR 94, vI x, vI y] (HP h0 s1) (fun v h' => ∃ u, h' = HP h0 u ∧ INV u ∧ v = some (vI 0) ∧ u 94 0 = 2 ∧ u 130 0 = s1 130 0)) ∧ (0 ≤ x ∧ x < D → 0 ≤ y ∧ y ≤ 5 → wpM PP d 131 [vR 94, vI x, vI y] (HP h0 s1) (fun v h' => ∃ u, h' = HP h0 u ∧ INV u ∧ v = some (vI (dnA ll n c x y)) ∧ u 94 0 = 0 ∧ u 130 0 = s1 130 0)) := by
  obtain ⟨tp, hI⟩ := hI
  have tt := hI.told.1
  have hS := hI.told.2.1
  have hT := hI.told.2.2
  obtain ⟨sp, D, T, S, E, K, L, sz, vw, rf, sl, yr, la, ll, n, c, zqq, Hs, ia, zr, kf, kd, on, ot, mu, ab, h1, h2, h3, h4, h5, h6, h7⟩ := id hI
  refine ⟨tp, D.1, ll, n, c, ⟨h4.pl, hS, hT, h3.dc, h3.dr2.1, h3.dr2.2⟩, fun s1 g => ?_⟩
  have hI1 : INVt tp s1 := hI.of (fun b r q => g b r (by unfold rdI at q; omega))
  have g3 := h3.of (tqq := s1) (fun b r q => g b r (by omega))
  have g4 := h4.of (tqq := s1) (fun b r q => g b r (by omega))
  refine ⟨fun q => ?_, fun q1 q2 => ?_, fun q1 q2 => ?_⟩
  · exact r_dancer (by omega) g4.rd0 g3.dn g3.dr2 hx hy (fun _ w e lk => ⟨w, rfl, ⟨tp, hI1.of (lk.rs tt)⟩, rfl, e, lk 130 0 (by omega) (by omega) (by omega) (by omega) (by omega) (by omega) (by omega)⟩) (fun a => absurd a q) (fun a => absurd a q)
  · exact r_dancer (by omega) g4.rd0 g3.dn g3.dr2 hx hy (fun a => absurd q1 a) (fun _ _ w e lk => ⟨w, rfl, ⟨tp, hI1.of (lk.rs tt)⟩, rfl, e, lk 130 0 (by omega) (by omega) (by omega) (by omega) (by omega) (by omega) (by omega)⟩) (fun _ a => absurd a q2)
  · exact r_dancer (by omega) g4.rd0 g3.dn g3.dr2 hx hy (fun a => absurd q1 a) (fun _ a => absurd q2 a) (fun _ _ w e lk => ⟨w, rfl, ⟨tp, hI1.of (lk.rs tt)⟩, rfl, e, lk 130 0 (by omega) (by omega) (by omega) (by omega) (by omega) (by omega) (by omega)⟩)
theorem y_tail (C : CX pJ sJ mJ #[Value.ref bb] cJ sa base L xs ca D 13 7 code) (hN : L < 2147483648) (hc : h0.2.2 0 = .inl (0, L, xs)) (h01 : h0.1 = 0) {i : Int} {n2 : Nat} (hi : 0 ≤ i ∧ i + 6 ≤ L) {k bv : Int} {s1 : St} (hk : k = 0 ∨ k = 1 ∨ k = 2) (hw : wpM PP 2000 131 [vR 94, vI (xs (i + 1).toNat), vI (xs (i + 2).toNat)] (HP h0 s1) (fun v h' => ∃ u, h' = HP h0 u ∧ INV u ∧ v = some (vI bv) ∧ u 94 0 = k ∧ u 130 0 = s1 130 0)) (h130 : k = 0 → s1 130 0 = w32 bv) (hn2 : 6 * n2 ≤ i.toNat + 6)
    (h54 : ∀ (s2 : St) (n2 : Nat), INV s2 → 6 * n2 ≤ i.toNat + 6 → ∀ {o5 o6 : Option pv}, wlw pJ lJ eJ sJ mJ #[Value.ref bb] bJ tJ cJ (lw_Z bJ #[Value.ref bb] sJ) sa base ca D L xs (lawB.getD 54 []) [some (vR 0), some (vR 32), some (vR 94), some (vR 130), some (vI i), o5, o6] [] (HP h0 s2) n2) {o5 o6 : Option pv} : wlw pJ lJ eJ sJ mJ #[Value.ref bb] bJ tJ cJ (lw_Z bJ #[Value.ref bb] sJ) sa base ca D L xs [(6, [5], 0), (5, [2], 0), (5, [0], 0), (3, [4], 0), (0, [], 1), (20, [], 0), (83, [0], 0), (5, [0], 0), (3, [4], 0), (0, [], 2), (20, [], 0), (83, [0], 0), (120, [131, 3], 0), (6, [6], 0), (5, [2], 0), (120, [58, 1], 0), (3, [5], 0), (102, [0, 7], 0), (0, [], 0), (111, [1], 0)] [some (vR 0), some (vR 32), some (vR 94), some (vR 130), some (vI i), o5, o6] [vI k] (HP h0 s1) n2 := by
  refine y_istore C [_, _, _, _, some (vI _), some (vI _), _] (Nat.le_of_ble_eq_true rfl) rfl ?_
  refine y_aload C rfl ?_
  refine y_aload C rfl ?_
  refine y_iload C rfl ?_
  refine y_ci C ?_
  refine y_iadd C ?_
  refine y_83_0 C (hp0 hc) hN ⟨by omega, by omega⟩ ?_
  refine y_aload C rfl ?_
  refine y_iload C rfl ?_
  refine y_ci C ?_
  refine y_iadd C ?_
  refine y_83_0 C (hp0 hc) hN ⟨by omega, by omega⟩ ?_
  refine y_call C [vR _, vI _, vI _] [] (by omega) (Nat.le_of_ble_eq_true rfl) rfl rfl (Nat.le_of_ble_eq_true rfl) ?_
  refine wpM_mono hw (fun v h2 e => ?_)
  obtain ⟨u, rfl, hI2, rfl, e1, e2⟩ := e
  refine ⟨⟨rfl, rfl, rfl⟩, ?_⟩
  show wlw _ _ _ _ _ _ _ _ _ _ _ _ _ _ _ _ _ [some (vR _), some (vR _), some (vR _), some (vR _), some (vI _), some (vI _), _] [vI _] _ _
  refine y_istore C [_, _, _, _, some (vI _), some (vI _), some (vI _)] (Nat.le_of_ble_eq_true rfl) rfl ?_
  refine y_aload C rfl ?_
  refine y_call C [vR _] [] (by omega) (Nat.le_of_ble_eq_true rfl) rfl rfl (Nat.le_of_ble_eq_true rfl) ?_
  refine r_thrown ?_
  refine ⟨⟨rfl, rfl, rfl⟩, ?_⟩
  show wlw _ _ _ _ _ _ _ _ _ _ _ _ _ _ _ _ _ [some (vR _), some (vR _), some (vR _), some (vR _), some (vI _), some (vI _), some (vI _)] [vI _] _ _
  refine y_iload C rfl ?_
  refine y_icmp_eq C (fun _ => ?_) (fun c9 => absurd (by rw [e1]) c9)
  refine y_iload C rfl ?_
  refine y_if_ne C ⟨by omega, by omega⟩ (fun c1 => ?_) (fun c1 => ?_)
  · refine y_goto C ?_
    exact h54 _ _ hI2 hn2
  · refine y_aload C rfl ?_
    refine y_ci C ?_
    refine y_lald C (n := 1) (f := fun j => u 130 j) ⟨by decide, by show 130 < 32 + (99 + h0.1); omega, rfl⟩ (by decide) (by decide) (by decide) ?_
    refine y_iload C rfl ?_
    refine y_i2l C ?_
    refine y_lcmp C ?_
    refine ty_I 0 (by show l_cmp (u 130 0) (w32 bv) = 0; rw [e2, h130 c1]; exact lc_same _) ?_
    refine y_if_eq C ⟨by omega, by omega⟩ (fun _ => ?_) (fun c9 => absurd rfl c9)
    refine y_goto C ?_
    exact h54 _ _ hI2 hn2
theorem y_block6 (C : CX pJ sJ mJ #[Value.ref bb] cJ sa base L xs ca D 13 7 code) (hN : L < 2147483648) (hc : h0.2.2 0 = .inl (0, L, xs)) (h01 : h0.1 = 0) (hX : XS base sJ) (hlf : lJ.stackTraces = false) (h02 : h0.2.1 ≤ 1000000) (hxs : ∀ j, iR (xs j)) (hI : INV s) {i : Int} {nx : Nat} (hi : 0 ≤ i ∧ i + 6 ≤ L) (hL : 6 * nx ≤ i.toNat) (hL4 : L ≤ 384)
    (h54 : ∀ (s2 : St) (n2 : Nat), INV s2 → 6 * n2 ≤ i.toNat + 6 → ∀ {o5 o6 : Option pv}, wlw pJ lJ eJ sJ mJ #[Value.ref bb] bJ tJ cJ (lw_Z bJ #[Value.ref bb] sJ) sa base ca D L xs (lawB.getD 54 []) [some (vR 0), some (vR 32), some (vR 94), some (vR 130), some (vI i), o5, o6] [] (HP h0 s2) n2) {o5 o6 : Option pv} : wlw pJ lJ eJ sJ mJ #[Value.ref bb] bJ tJ cJ (lw_Z bJ #[Value.ref bb] sJ) sa base ca D L xs (lawB.getD 6 []) [some (vR 0), some (vR 32), some (vR 94), some (vR 130), some (vI i), o5, o6] [] (HP h0 s) nx := by
  obtain ⟨tp, Dn, ll, n, c, ⟨hp, hS, hT, hD1, hD2, hD3⟩, kk⟩ := d_cases2 (d := 2000) (h0 := h0) hI (by omega) (hxs (i + 1).toNat) (hxs (i + 2).toNat)
  refine y_aload C rfl ?_
  refine y_aload C rfl ?_
  refine y_iload C rfl ?_
  refine y_ci C ?_
  refine y_iadd C ?_
  refine y_83_0 C (hp0 hc) hN ⟨by omega, by omega⟩ ?_
  refine y_aload C rfl ?_
  refine y_iload C rfl ?_
  refine y_ci C ?_
  refine y_iadd C ?_
  refine y_83_0 C (hp0 hc) hN ⟨by omega, by omega⟩ ?_
  refine y_aload C rfl ?_
  have hhp : 98 < (HP h0 s).1 := by show 98 < 99 + h0.1; omega
  have hsc : (HP h0 s).2.2 0 = .inl (0, L, xs) := hp0 hc
  have h32 : (HP h0 s).2.2 32 = _ := HP_cell (c := .inr (10, [33, 35, 3, 3, 0, 0, 53, 58, 1, 63, 68, 70, 75, 82, 90, 92])) ⟨by decide, by decide, rfl⟩
  have hrm : ∀ (s2 : St) (n2 : Nat), n2 ≤ nx + 1 → HO L xs (HP h0 s2) n2 := by
    intro s2 n2 q
    refine ⟨hp0 hc, ?_, ?_⟩
    · show 99 + h0.1 + n2 ≤ 600128
      omega
    · show h0.2.1 + 6 * n2 ≤ 7301098
      omega
  have hxR := hxs (i + 1).toNat
  have hyR := hxs (i + 2).toNat
  have hb := m_isDancer (d := 1000) (h0 := h0) (Q := fun v h1 => v = some (vI (bI (0 ≤ xs (i + 1).toNat ∧ xs (i + 1).toNat < Dn))) ∧ h1 = HP h0 s) hS hT hD1 ⟨hD2, hD3⟩ hxR ⟨rfl, rfl⟩
  by_cases q1 : 0 ≤ xs (i + 1).toNat ∧ xs (i + 1).toNat < Dn
  · by_cases q2 : 0 ≤ xs (i + 2).toNat ∧ xs (i + 2).toNat ≤ 5
    · obtain ⟨fu, v, h', ex, rfl, rfl⟩ := w_dancer (d := 1000) (h0 := h0) (s := s) (Q := fun v h' => v = some (vI (dnA ll n c (xs (i + 1).toNat) (xs (i + 2).toNat))) ∧ h' = HP h0 s) (by omega) hp hS hT hD1 ⟨hD2, hD3⟩ q1 q2 ⟨rfl, rfl⟩
      have M := ldN (l := lJ) (sa := sa) (base := base) (ca := ca) (D := D) (d := 1000) (f := fun j => s 130 j) hsc h32 rfl hhp ex
      have e9 := HP_arr (h0 := h0) (s := s) (a := 130) (t := 3) (n := 1) (i := 0) (v := w32 (dnA ll n c (xs (i + 1).toNat) (xs (i + 2).toNat))) ⟨by decide, by decide, rfl⟩ (by decide)
      rw [show hput (HP h0 s) 130 (.inl (3, 1, updI (fun j => s 130 j) 0 (w32 (dnA ll n c (xs (i + 1).toNat) (xs (i + 2).toNat))))) = HP h0 (up s 130 0 (w32 (dnA ll n c (xs (i + 1).toNat) (xs (i + 2).toNat)))) from e9] at M
      refine y_dan C hX (k := 0) (mc := 0) M (by decide) rfl rfl rfl (hrm _ _ (by omega)) ?_
      exact y_tail C hN hc h01 hi (Or.inl rfl) ((kk (up s 130 0 _) (fun b r q => up_a q)).2.2 q1 q2) (fun _ => up_e) (by omega) h54
    · have M := ldX1 (l := lJ) (sa := sa) (base := base) (xs := xs) (ca := ca) (D := D) (d := 1000) (y := xs (i + 2).toNat) hlf (by omega) hsc h32 hhp hb (by rw [bI_t q1]; decide) (by omega) hyR
      refine y_dan C hX (k := 2) (mc := 1) M (by decide) rfl rfl rfl (hrm _ _ (by omega)) ?_
      exact y_tail C hN hc h01 hi (Or.inr (Or.inr rfl)) ((kk s (fun _ _ _ => rfl)).2.1 q1 q2) (fun q => absurd q (by decide)) (by omega) h54
  · have M := ldX0 (l := lJ) (sa := sa) (base := base) (xs := xs) (ca := ca) (D := D) (d := 1000) (y := xs (i + 2).toNat) hlf (by omega) hsc h32 hhp hb (by rw [show bI (0 ≤ xs (i + 1).toNat ∧ xs (i + 1).toNat < Dn) = 0 from if_neg q1]; decide)
    refine y_dan C hX (k := 1) (mc := 1) M (by decide) rfl rfl rfl (hrm _ _ (by omega)) ?_
    exact y_tail C hN hc h01 hi (Or.inr (Or.inl rfl)) ((kk s (fun _ _ _ => rfl)).1 q1) (fun q => absurd q (by decide)) (by omega) h54
theorem y_law (C : CX pJ sJ mJ #[Value.ref bb] cJ sa base L xs ca D 13 7 code) (hN : L < 2147483648) (hc : h0.2.2 0 = .inl (0, L, xs)) (h01 : h0.1 = 0) (hX : XS base sJ) (hlf : lJ.stackTraces = false) (hB : sJ.heap.size ≤ base) (hr : tJ.sig.returnType = ret) (hlocks : tJ.locks = false) (h02 : h0.2.1 ≤ 1000000) (hL4 : L ≤ 384) (hxs : ∀ j, iR (xs j)) (hI : INV s) {o5 o6 : Option pv} : wlw pJ lJ eJ sJ mJ #[Value.ref bb] bJ tJ cJ (lw_Z bJ #[Value.ref bb] sJ) sa base ca D L xs (lawB.getD 1 []) [some (vR 0), some (vR 32), some (vR 94), some (vR 130), some (vI 0), o5, o6] [] (HP h0 s) 0 := by
  have L1 : ∀ M : Nat, ∀ {o5 o6 : Option pv} (i : Int) (s : St) (nx : Nat), (M = L - i.toNat ∧ 0 ≤ i ∧ i ≤ L ∧ 6 * nx ≤ i.toNat) → (INV s) →  wlw pJ lJ eJ sJ mJ #[Value.ref bb] bJ tJ cJ (lw_Z bJ #[Value.ref bb] sJ) sa base ca D L xs (lawB.getD 1 []) [some (vR 0), some (vR 32), some (vR 94), some (vR 130), some (vI i), o5, o6] [] (HP h0 s) nx := by
    refine s_ind (fun M ih => ?_)
    intro o5 o6 i s nx hM hI
    refine y_iload C rfl ?_
    refine y_aload C rfl ?_
    refine y_84_0 C (hp0 hc) ?_
    refine y_ci C ?_
    refine y_isub C ?_
    refine y_icmp_gt C ⟨by omega, by omega⟩ ⟨by omega, by omega⟩ (fun c1 => ?_) (fun c1 => ?_)
    · refine y_ci C ?_
      exact y_ret1 C hB hr hlocks
    · have h54 : ∀ (s2 : St) (n2 : Nat), INV s2 → 6 * n2 ≤ i.toNat + 6 → ∀ {o5 o6 : Option pv}, wlw pJ lJ eJ sJ mJ #[Value.ref bb] bJ tJ cJ (lw_Z bJ #[Value.ref bb] sJ) sa base ca D L xs (lawB.getD 54 []) [some (vR 0), some (vR 32), some (vR 94), some (vR 130), some (vI i), o5, o6] [] (HP h0 s2) n2 := by
        intro s2 n2 a1 a2 o5 o6
        refine y_iinc C [_, _, _, _, some (vI _), _, _] rfl rfl ?_
        refine y_goto C ?_
        exact ih (L - (i.toNat + 6)) (by omega) (i + 6) s2 n2 (by omega) a1
      refine y_aload C rfl ?_
      refine y_iload C rfl ?_
      refine y_83_0 C (hp0 hc) hN ⟨by omega, by omega⟩ ?_
      refine y_ci C ?_
      refine y_iand C ?_
      have i63 := iand_63 (xs i.toNat)
      refine y_tsw C 38 rfl ⟨by omega, by omega⟩ (fun c2 => ?_) (And.intro (fun c2 => ?_) (And.intro (fun c2 => ?_) (And.intro (fun c2 => ?_) (And.intro (fun c2 => ?_) (And.intro (fun c2 => ?_) (And.intro (fun c2 => ?_) (And.intro (fun c2 => ?_) (And.intro (fun c2 => ?_) (And.intro (fun c2 => ?_) (And.intro (fun c2 => ?_) (And.intro (fun c2 => ?_) (And.intro (fun c2 => ?_) (And.intro (fun c2 => ?_) (And.intro (fun c2 => ?_) (And.intro (fun c2 => ?_) (And.intro (fun c2 => ?_) (And.intro (fun c2 => ?_) (And.intro (fun c2 => ?_) (And.intro (fun c2 => ?_) (And.intro (fun c2 => ?_) (And.intro (fun c2 => ?_) (And.intro (fun c2 => ?_) (And.intro (fun c2 => ?_) (And.intro (fun c2 => ?_) (And.intro (fun c2 => ?_) (And.intro (fun c2 => ?_) (And.intro (fun c2 => ?_) (And.intro (fun c2 => ?_) (And.intro (fun c2 => ?_) (And.intro (fun c2 => ?_) (And.intro (fun c2 => ?_) (And.intro (fun c2 => ?_) (And.intro (fun c2 => ?_) (And.intro (fun c2 => ?_) (And.intro (fun c2 => ?_) (And.intro (fun c2 => ?_) (And.intro (fun c2 => ?_) (And.intro (fun c2 => ?_) trivial))))))))))))))))))))))))))))))))))))))
      · exact h54 _ _ hI (by omega)
      · refine y_aload C rfl ?_
        refine y_aload C rfl ?_
        refine y_iload C rfl ?_
        refine y_ci C ?_
        refine y_iadd C ?_
        refine y_83_0 C (hp0 hc) hN ⟨by omega, by omega⟩ ?_
        refine y_aload C rfl ?_
        refine y_iload C rfl ?_
        refine y_ci C ?_
        refine y_iadd C ?_
        refine y_83_0 C (hp0 hc) hN ⟨by omega, by omega⟩ ?_
        refine y_aload C rfl ?_
        refine y_iload C rfl ?_
        refine y_ci C ?_
        refine y_iadd C ?_
        refine y_83_0 C (hp0 hc) hN ⟨by omega, by omega⟩ ?_
        refine y_aload C rfl ?_
        refine y_iload C rfl ?_
        refine y_ci C ?_
        refine y_iadd C ?_
        refine y_83_0 C (hp0 hc) hN ⟨by omega, by omega⟩ ?_
        refine y_aload C rfl ?_
        refine y_iload C rfl ?_
        refine y_ci C ?_
        refine y_iadd C ?_
        refine y_83_0 C (hp0 hc) hN ⟨by omega, by omega⟩ ?_
        refine y_call C [vR _, vI _, vI _, vI _, vI _, vI _] [] (by omega) (Nat.le_of_ble_eq_true rfl) rfl rfl (Nat.le_of_ble_eq_true rfl) ?_
        refine wpM_mono (p_feed hI (by omega) (hxs _) (hxs _) (hxs _) (hxs _) (hxs _)) (fun v h2 e => ?_)
        obtain ⟨⟨r, rfl⟩, t, rfl, e2⟩ := e
        refine ⟨⟨rfl, rfl, rfl⟩, ?_⟩
        show wlw _ _ _ _ _ _ _ _ _ _ _ _ _ _ _ _ _ [some (vR _), some (vR _), some (vR _), some (vR _), some (vI _), _, _] [vI _] _ _
        refine y_aload C rfl ?_
        refine y_aload C rfl ?_
        refine y_iload C rfl ?_
        refine y_ci C ?_
        refine y_iadd C ?_
        refine y_83_0 C (hp0 hc) hN ⟨by omega, by omega⟩ ?_
        refine y_aload C rfl ?_
        refine y_iload C rfl ?_
        refine y_ci C ?_
        refine y_iadd C ?_
        refine y_83_0 C (hp0 hc) hN ⟨by omega, by omega⟩ ?_
        refine y_aload C rfl ?_
        refine y_iload C rfl ?_
        refine y_ci C ?_
        refine y_iadd C ?_
        refine y_83_0 C (hp0 hc) hN ⟨by omega, by omega⟩ ?_
        refine y_aload C rfl ?_
        refine y_iload C rfl ?_
        refine y_ci C ?_
        refine y_iadd C ?_
        refine y_83_0 C (hp0 hc) hN ⟨by omega, by omega⟩ ?_
        refine y_aload C rfl ?_
        refine y_iload C rfl ?_
        refine y_ci C ?_
        refine y_iadd C ?_
        refine y_83_0 C (hp0 hc) hN ⟨by omega, by omega⟩ ?_
        refine y_call C [vR _, vI _, vI _, vI _, vI _, vI _] [vI _] (by omega) (Nat.le_of_ble_eq_true rfl) rfl rfl (Nat.le_of_ble_eq_true rfl) ?_
        refine wpM_mono e2 (fun v h2 e => ?_)
        obtain ⟨u, rfl, hI2, rfl⟩ := e
        refine ⟨⟨rfl, rfl, rfl⟩, ?_⟩
        show wlw _ _ _ _ _ _ _ _ _ _ _ _ _ _ _ _ _ [some (vR _), some (vR _), some (vR _), some (vR _), some (vI _), _, _] [vI _, vI _] _ _
        refine y_icmp_eq C (fun _ => ?_) (fun c9 => absurd rfl c9)
        exact h54 _ _ hI2 (by omega)
      · refine y_aload C rfl ?_
        refine y_aload C rfl ?_
        refine y_iload C rfl ?_
        refine y_ci C ?_
        refine y_iadd C ?_
        refine y_83_0 C (hp0 hc) hN ⟨by omega, by omega⟩ ?_
        refine y_call C [vR _, vI _] [] (by omega) (Nat.le_of_ble_eq_true rfl) rfl rfl (Nat.le_of_ble_eq_true rfl) ?_
        refine wpM_mono (p_text hI (by omega) (hxs _)) (fun v h2 e => ?_)
        obtain ⟨⟨r, rfl⟩, t, rfl, e2⟩ := e
        refine ⟨⟨rfl, rfl, rfl⟩, ?_⟩
        show wlw _ _ _ _ _ _ _ _ _ _ _ _ _ _ _ _ _ [some (vR _), some (vR _), some (vR _), some (vR _), some (vI _), _, _] [vI _] _ _
        refine y_aload C rfl ?_
        refine y_aload C rfl ?_
        refine y_iload C rfl ?_
        refine y_ci C ?_
        refine y_iadd C ?_
        refine y_83_0 C (hp0 hc) hN ⟨by omega, by omega⟩ ?_
        refine y_call C [vR _, vI _] [vI _] (by omega) (Nat.le_of_ble_eq_true rfl) rfl rfl (Nat.le_of_ble_eq_true rfl) ?_
        refine wpM_mono e2 (fun v h2 e => ?_)
        obtain ⟨u, rfl, hI2, rfl⟩ := e
        refine ⟨⟨rfl, rfl, rfl⟩, ?_⟩
        show wlw _ _ _ _ _ _ _ _ _ _ _ _ _ _ _ _ _ [some (vR _), some (vR _), some (vR _), some (vR _), some (vI _), _, _] [vI _, vI _] _ _
        refine y_icmp_eq C (fun _ => ?_) (fun c9 => absurd rfl c9)
        exact h54 _ _ hI2 (by omega)
      · refine y_aload C rfl ?_
        refine y_aload C rfl ?_
        refine y_iload C rfl ?_
        refine y_ci C ?_
        refine y_iadd C ?_
        refine y_83_0 C (hp0 hc) hN ⟨by omega, by omega⟩ ?_
        refine y_call C [vR _, vI _] [] (by omega) (Nat.le_of_ble_eq_true rfl) rfl rfl (Nat.le_of_ble_eq_true rfl) ?_
        refine wpM_mono (p_fault hI (by omega) (hxs _)) (fun v h2 e => ?_)
        obtain ⟨⟨r, rfl⟩, t, rfl, e2⟩ := e
        refine ⟨⟨rfl, rfl, rfl⟩, ?_⟩
        show wlw _ _ _ _ _ _ _ _ _ _ _ _ _ _ _ _ _ [some (vR _), some (vR _), some (vR _), some (vR _), some (vI _), _, _] [vI _] _ _
        refine y_aload C rfl ?_
        refine y_aload C rfl ?_
        refine y_iload C rfl ?_
        refine y_ci C ?_
        refine y_iadd C ?_
        refine y_83_0 C (hp0 hc) hN ⟨by omega, by omega⟩ ?_
        refine y_call C [vR _, vI _] [vI _] (by omega) (Nat.le_of_ble_eq_true rfl) rfl rfl (Nat.le_of_ble_eq_true rfl) ?_
        refine wpM_mono e2 (fun v h2 e => ?_)
        obtain ⟨u, rfl, hI2, rfl⟩ := e
        refine ⟨⟨rfl, rfl, rfl⟩, ?_⟩
        show wlw _ _ _ _ _ _ _ _ _ _ _ _ _ _ _ _ _ [some (vR _), some (vR _), some (vR _), some (vR _), some (vI _), _, _] [vI _, vI _] _ _
        refine y_icmp_eq C (fun _ => ?_) (fun c9 => absurd rfl c9)
        exact h54 _ _ hI2 (by omega)
      · refine y_aload C rfl ?_
        refine y_aload C rfl ?_
        refine y_iload C rfl ?_
        refine y_ci C ?_
        refine y_iadd C ?_
        refine y_83_0 C (hp0 hc) hN ⟨by omega, by omega⟩ ?_
        refine y_call C [vR _, vI _] [] (by omega) (Nat.le_of_ble_eq_true rfl) rfl rfl (Nat.le_of_ble_eq_true rfl) ?_
        refine wpM_mono (p_named hI (by omega) (hxs _)) (fun v h2 e => ?_)
        obtain ⟨⟨r, rfl⟩, t, rfl, e2⟩ := e
        refine ⟨⟨rfl, rfl, rfl⟩, ?_⟩
        show wlw _ _ _ _ _ _ _ _ _ _ _ _ _ _ _ _ _ [some (vR _), some (vR _), some (vR _), some (vR _), some (vI _), _, _] [vI _] _ _
        refine y_aload C rfl ?_
        refine y_aload C rfl ?_
        refine y_iload C rfl ?_
        refine y_ci C ?_
        refine y_iadd C ?_
        refine y_83_0 C (hp0 hc) hN ⟨by omega, by omega⟩ ?_
        refine y_call C [vR _, vI _] [vI _] (by omega) (Nat.le_of_ble_eq_true rfl) rfl rfl (Nat.le_of_ble_eq_true rfl) ?_
        refine wpM_mono e2 (fun v h2 e => ?_)
        obtain ⟨u, rfl, hI2, rfl⟩ := e
        refine ⟨⟨rfl, rfl, rfl⟩, ?_⟩
        show wlw _ _ _ _ _ _ _ _ _ _ _ _ _ _ _ _ _ [some (vR _), some (vR _), some (vR _), some (vR _), some (vI _), _, _] [vI _, vI _] _ _
        refine y_icmp_eq C (fun _ => ?_) (fun c9 => absurd rfl c9)
        exact h54 _ _ hI2 (by omega)
      · exact y_block6 C hN hc h01 hX hlf h02 hxs hI ⟨by omega, by omega⟩ (by omega) hL4 h54
      · refine y_aload C rfl ?_
        refine y_aload C rfl ?_
        refine y_iload C rfl ?_
        refine y_ci C ?_
        refine y_iadd C ?_
        refine y_83_0 C (hp0 hc) hN ⟨by omega, by omega⟩ ?_
        refine y_aload C rfl ?_
        refine y_iload C rfl ?_
        refine y_ci C ?_
        refine y_iadd C ?_
        refine y_83_0 C (hp0 hc) hN ⟨by omega, by omega⟩ ?_
        refine y_call C [vR _, vI _, vI _] [] (by omega) (Nat.le_of_ble_eq_true rfl) rfl rfl (Nat.le_of_ble_eq_true rfl) ?_
        refine wpM_mono (p_crossing hI (by omega) (hxs _) (hxs _)) (fun v h2 e => ?_)
        obtain ⟨⟨r, rfl⟩, t, rfl, e2⟩ := e
        refine ⟨⟨rfl, rfl, rfl⟩, ?_⟩
        show wlw _ _ _ _ _ _ _ _ _ _ _ _ _ _ _ _ _ [some (vR _), some (vR _), some (vR _), some (vR _), some (vI _), _, _] [vI _] _ _
        refine y_aload C rfl ?_
        refine y_aload C rfl ?_
        refine y_iload C rfl ?_
        refine y_ci C ?_
        refine y_iadd C ?_
        refine y_83_0 C (hp0 hc) hN ⟨by omega, by omega⟩ ?_
        refine y_aload C rfl ?_
        refine y_iload C rfl ?_
        refine y_ci C ?_
        refine y_iadd C ?_
        refine y_83_0 C (hp0 hc) hN ⟨by omega, by omega⟩ ?_
        refine y_call C [vR _, vI _, vI _] [vI _] (by omega) (Nat.le_of_ble_eq_true rfl) rfl rfl (Nat.le_of_ble_eq_true rfl) ?_
        refine wpM_mono e2 (fun v h2 e => ?_)
        obtain ⟨u, rfl, hI2, rfl⟩ := e
        refine ⟨⟨rfl, rfl, rfl⟩, ?_⟩
        show wlw _ _ _ _ _ _ _ _ _ _ _ _ _ _ _ _ _ [some (vR _), some (vR _), some (vR _), some (vR _), some (vI _), _, _] [vI _, vI _] _ _
        refine y_icmp_eq C (fun _ => ?_) (fun c9 => absurd rfl c9)
        exact h54 _ _ hI2 (by omega)
      · refine y_aload C rfl ?_
        refine y_aload C rfl ?_
        refine y_iload C rfl ?_
        refine y_ci C ?_
        refine y_iadd C ?_
        refine y_83_0 C (hp0 hc) hN ⟨by omega, by omega⟩ ?_
        refine y_aload C rfl ?_
        refine y_iload C rfl ?_
        refine y_ci C ?_
        refine y_iadd C ?_
        refine y_83_0 C (hp0 hc) hN ⟨by omega, by omega⟩ ?_
        refine y_call C [vR _, vI _, vI _] [] (by omega) (Nat.le_of_ble_eq_true rfl) rfl rfl (Nat.le_of_ble_eq_true rfl) ?_
        refine wpM_mono (p_bond hI (by omega) (hxs _) (hxs _)) (fun v h2 e => ?_)
        obtain ⟨⟨r, rfl⟩, t, rfl, e2⟩ := e
        refine ⟨⟨rfl, rfl, rfl⟩, ?_⟩
        show wlw _ _ _ _ _ _ _ _ _ _ _ _ _ _ _ _ _ [some (vR _), some (vR _), some (vR _), some (vR _), some (vI _), _, _] [vI _] _ _
        refine y_aload C rfl ?_
        refine y_aload C rfl ?_
        refine y_iload C rfl ?_
        refine y_ci C ?_
        refine y_iadd C ?_
        refine y_83_0 C (hp0 hc) hN ⟨by omega, by omega⟩ ?_
        refine y_aload C rfl ?_
        refine y_iload C rfl ?_
        refine y_ci C ?_
        refine y_iadd C ?_
        refine y_83_0 C (hp0 hc) hN ⟨by omega, by omega⟩ ?_
        refine y_call C [vR _, vI _, vI _] [vI _] (by omega) (Nat.le_of_ble_eq_true rfl) rfl rfl (Nat.le_of_ble_eq_true rfl) ?_
        refine wpM_mono e2 (fun v h2 e => ?_)
        obtain ⟨u, rfl, hI2, rfl⟩ := e
        refine ⟨⟨rfl, rfl, rfl⟩, ?_⟩
        show wlw _ _ _ _ _ _ _ _ _ _ _ _ _ _ _ _ _ [some (vR _), some (vR _), some (vR _), some (vR _), some (vI _), _, _] [vI _, vI _] _ _
        refine y_icmp_eq C (fun _ => ?_) (fun c9 => absurd rfl c9)
        exact h54 _ _ hI2 (by omega)
      · refine y_aload C rfl ?_
        refine y_aload C rfl ?_
        refine y_iload C rfl ?_
        refine y_ci C ?_
        refine y_iadd C ?_
        refine y_83_0 C (hp0 hc) hN ⟨by omega, by omega⟩ ?_
        refine y_aload C rfl ?_
        refine y_iload C rfl ?_
        refine y_ci C ?_
        refine y_iadd C ?_
        refine y_83_0 C (hp0 hc) hN ⟨by omega, by omega⟩ ?_
        refine y_call C [vR _, vI _, vI _] [] (by omega) (Nat.le_of_ble_eq_true rfl) rfl rfl (Nat.le_of_ble_eq_true rfl) ?_
        refine wpM_mono (p_at hI (by omega) (hxs _) (hxs _)) (fun v h2 e => ?_)
        obtain ⟨⟨r, rfl⟩, t, rfl, e2⟩ := e
        refine ⟨⟨rfl, rfl, rfl⟩, ?_⟩
        show wlw _ _ _ _ _ _ _ _ _ _ _ _ _ _ _ _ _ [some (vR _), some (vR _), some (vR _), some (vR _), some (vI _), _, _] [vI _] _ _
        refine y_aload C rfl ?_
        refine y_aload C rfl ?_
        refine y_iload C rfl ?_
        refine y_ci C ?_
        refine y_iadd C ?_
        refine y_83_0 C (hp0 hc) hN ⟨by omega, by omega⟩ ?_
        refine y_aload C rfl ?_
        refine y_iload C rfl ?_
        refine y_ci C ?_
        refine y_iadd C ?_
        refine y_83_0 C (hp0 hc) hN ⟨by omega, by omega⟩ ?_
        refine y_call C [vR _, vI _, vI _] [vI _] (by omega) (Nat.le_of_ble_eq_true rfl) rfl rfl (Nat.le_of_ble_eq_true rfl) ?_
        refine wpM_mono e2 (fun v h2 e => ?_)
        obtain ⟨u, rfl, hI2, rfl⟩ := e
        refine ⟨⟨rfl, rfl, rfl⟩, ?_⟩
        show wlw _ _ _ _ _ _ _ _ _ _ _ _ _ _ _ _ _ [some (vR _), some (vR _), some (vR _), some (vR _), some (vI _), _, _] [vI _, vI _] _ _
        refine y_icmp_eq C (fun _ => ?_) (fun c9 => absurd rfl c9)
        exact h54 _ _ hI2 (by omega)
      · refine y_aload C rfl ?_
        refine y_call C [vR _] [] (by omega) (Nat.le_of_ble_eq_true rfl) rfl rfl (Nat.le_of_ble_eq_true rfl) ?_
        refine wpM_mono (p_isHome hI (by omega) ) (fun v h2 e => ?_)
        obtain ⟨⟨r, rfl⟩, t, rfl, e2⟩ := e
        refine ⟨⟨rfl, rfl, rfl⟩, ?_⟩
        show wlw _ _ _ _ _ _ _ _ _ _ _ _ _ _ _ _ _ [some (vR _), some (vR _), some (vR _), some (vR _), some (vI _), _, _] [vI _] _ _
        refine y_aload C rfl ?_
        refine y_call C [vR _] [vI _] (by omega) (Nat.le_of_ble_eq_true rfl) rfl rfl (Nat.le_of_ble_eq_true rfl) ?_
        refine wpM_mono e2 (fun v h2 e => ?_)
        obtain ⟨u, rfl, hI2, rfl⟩ := e
        refine ⟨⟨rfl, rfl, rfl⟩, ?_⟩
        show wlw _ _ _ _ _ _ _ _ _ _ _ _ _ _ _ _ _ [some (vR _), some (vR _), some (vR _), some (vR _), some (vI _), _, _] [vI _, vI _] _ _
        refine y_icmp_eq C (fun _ => ?_) (fun c9 => absurd rfl c9)
        exact h54 _ _ hI2 (by omega)
      · refine y_aload C rfl ?_
        refine y_call C [vR _] [] (by omega) (Nat.le_of_ble_eq_true rfl) rfl rfl (Nat.le_of_ble_eq_true rfl) ?_
        refine wpM_mono (p_isLoose hI (by omega) ) (fun v h2 e => ?_)
        obtain ⟨⟨r, rfl⟩, t, rfl, e2⟩ := e
        refine ⟨⟨rfl, rfl, rfl⟩, ?_⟩
        show wlw _ _ _ _ _ _ _ _ _ _ _ _ _ _ _ _ _ [some (vR _), some (vR _), some (vR _), some (vR _), some (vI _), _, _] [vI _] _ _
        refine y_aload C rfl ?_
        refine y_call C [vR _] [vI _] (by omega) (Nat.le_of_ble_eq_true rfl) rfl rfl (Nat.le_of_ble_eq_true rfl) ?_
        refine wpM_mono e2 (fun v h2 e => ?_)
        obtain ⟨u, rfl, hI2, rfl⟩ := e
        refine ⟨⟨rfl, rfl, rfl⟩, ?_⟩
        show wlw _ _ _ _ _ _ _ _ _ _ _ _ _ _ _ _ _ [some (vR _), some (vR _), some (vR _), some (vR _), some (vI _), _, _] [vI _, vI _] _ _
        refine y_icmp_eq C (fun _ => ?_) (fun c9 => absurd rfl c9)
        exact h54 _ _ hI2 (by omega)
      · refine y_aload C rfl ?_
        refine y_call C [vR _] [] (by omega) (Nat.le_of_ble_eq_true rfl) rfl rfl (Nat.le_of_ble_eq_true rfl) ?_
        refine wpM_mono (p_alike hI (by omega) ) (fun v h2 e => ?_)
        obtain ⟨⟨r, rfl⟩, t, rfl, e2⟩ := e
        refine ⟨⟨rfl, rfl, rfl⟩, ?_⟩
        show wlw _ _ _ _ _ _ _ _ _ _ _ _ _ _ _ _ _ [some (vR _), some (vR _), some (vR _), some (vR _), some (vI _), _, _] [vI _] _ _
        refine y_aload C rfl ?_
        refine y_call C [vR _] [vI _] (by omega) (Nat.le_of_ble_eq_true rfl) rfl rfl (Nat.le_of_ble_eq_true rfl) ?_
        refine wpM_mono e2 (fun v h2 e => ?_)
        obtain ⟨u, rfl, hI2, rfl⟩ := e
        refine ⟨⟨rfl, rfl, rfl⟩, ?_⟩
        show wlw _ _ _ _ _ _ _ _ _ _ _ _ _ _ _ _ _ [some (vR _), some (vR _), some (vR _), some (vR _), some (vI _), _, _] [vI _, vI _] _ _
        refine y_icmp_eq C (fun _ => ?_) (fun c9 => absurd rfl c9)
        exact h54 _ _ hI2 (by omega)
      · refine y_aload C rfl ?_
        refine y_aload C rfl ?_
        refine y_iload C rfl ?_
        refine y_ci C ?_
        refine y_iadd C ?_
        refine y_83_0 C (hp0 hc) hN ⟨by omega, by omega⟩ ?_
        refine y_aload C rfl ?_
        refine y_iload C rfl ?_
        refine y_ci C ?_
        refine y_iadd C ?_
        refine y_83_0 C (hp0 hc) hN ⟨by omega, by omega⟩ ?_
        refine y_call C [vR _, vI _, vI _] [] (by omega) (Nat.le_of_ble_eq_true rfl) rfl rfl (Nat.le_of_ble_eq_true rfl) ?_
        refine wpM_mono (p_law hI (by omega) (hxs _) (hxs _)) (fun v h2 e => ?_)
        obtain ⟨⟨r, rfl⟩, t, rfl, e2⟩ := e
        refine ⟨⟨rfl, rfl, rfl⟩, ?_⟩
        show wlw _ _ _ _ _ _ _ _ _ _ _ _ _ _ _ _ _ [some (vR _), some (vR _), some (vR _), some (vR _), some (vI _), _, _] [vL _] _ _
        refine y_aload C rfl ?_
        refine y_aload C rfl ?_
        refine y_iload C rfl ?_
        refine y_ci C ?_
        refine y_iadd C ?_
        refine y_83_0 C (hp0 hc) hN ⟨by omega, by omega⟩ ?_
        refine y_aload C rfl ?_
        refine y_iload C rfl ?_
        refine y_ci C ?_
        refine y_iadd C ?_
        refine y_83_0 C (hp0 hc) hN ⟨by omega, by omega⟩ ?_
        refine y_call C [vR _, vI _, vI _] [vL _] (by omega) (Nat.le_of_ble_eq_true rfl) rfl rfl (Nat.le_of_ble_eq_true rfl) ?_
        refine wpM_mono e2 (fun v h2 e => ?_)
        obtain ⟨u, rfl, hI2, rfl⟩ := e
        refine ⟨⟨rfl, rfl, rfl⟩, ?_⟩
        show wlw _ _ _ _ _ _ _ _ _ _ _ _ _ _ _ _ _ [some (vR _), some (vR _), some (vR _), some (vR _), some (vI _), _, _] [vL _, vL _] _ _
        refine y_lcmp C ?_
        refine ty_I 0 (lc_same r) ?_
        refine y_if_eq C ⟨by omega, by omega⟩ (fun _ => ?_) (fun c9 => absurd rfl c9)
        exact h54 _ _ hI2 (by omega)
      · refine y_aload C rfl ?_
        refine y_aload C rfl ?_
        refine y_iload C rfl ?_
        refine y_ci C ?_
        refine y_iadd C ?_
        refine y_83_0 C (hp0 hc) hN ⟨by omega, by omega⟩ ?_
        refine y_aload C rfl ?_
        refine y_iload C rfl ?_
        refine y_ci C ?_
        refine y_iadd C ?_
        refine y_83_0 C (hp0 hc) hN ⟨by omega, by omega⟩ ?_
        have f2 := hxs (i + 2).toNat
        have f4 := hxs (i + 4).toNat
        refine y_if_eq C ⟨by omega, by omega⟩ (fun c3 => ?_) (fun c3 => ?_)
        · refine y_ci C ?_
          refine y_fall C ?_
          refine y_call C [vR _, vI _, vI _] [] (by omega) (Nat.le_of_ble_eq_true rfl) rfl rfl (Nat.le_of_ble_eq_true rfl) ?_
          refine wpM_mono (p_cross hI (by omega) (hxs _) (by omega)) (fun v h2 e => ?_)
          obtain ⟨⟨r, rfl⟩, t, rfl, e2⟩ := e
          refine ⟨⟨rfl, rfl, rfl⟩, ?_⟩
          show wlw _ _ _ _ _ _ _ _ _ _ _ _ _ _ _ _ _ [some (vR _), some (vR _), some (vR _), some (vR _), some (vI _), _, _] [vI _] _ _
          refine y_aload C rfl ?_
          refine y_aload C rfl ?_
          refine y_iload C rfl ?_
          refine y_ci C ?_
          refine y_iadd C ?_
          refine y_83_0 C (hp0 hc) hN ⟨by omega, by omega⟩ ?_
          refine y_aload C rfl ?_
          refine y_iload C rfl ?_
          refine y_ci C ?_
          refine y_iadd C ?_
          refine y_83_0 C (hp0 hc) hN ⟨by omega, by omega⟩ ?_
          have f2 := hxs (i + 2).toNat
          have f4 := hxs (i + 4).toNat
          refine y_if_eq C ⟨by omega, by omega⟩ (fun _ => ?_) (fun c9 => by exfalso; omega)
          refine y_ci C ?_
          refine y_fall C ?_
          refine y_call C [vR _, vI _, vI _] [vI _] (by omega) (Nat.le_of_ble_eq_true rfl) rfl rfl (Nat.le_of_ble_eq_true rfl) ?_
          refine wpM_mono e2 (fun v h2 e => ?_)
          obtain ⟨u, rfl, hI2, rfl⟩ := e
          refine ⟨⟨rfl, rfl, rfl⟩, ?_⟩
          show wlw _ _ _ _ _ _ _ _ _ _ _ _ _ _ _ _ _ [some (vR _), some (vR _), some (vR _), some (vR _), some (vI _), _, _] [vI _, vI _] _ _
          refine y_icmp_eq C (fun _ => ?_) (fun c9 => absurd rfl c9)
          exact h54 _ _ hI2 (by omega)
        · refine y_ci C ?_
          refine y_goto C ?_
          refine y_call C [vR _, vI _, vI _] [] (by omega) (Nat.le_of_ble_eq_true rfl) rfl rfl (Nat.le_of_ble_eq_true rfl) ?_
          refine wpM_mono (p_cross hI (by omega) (hxs _) (by omega)) (fun v h2 e => ?_)
          obtain ⟨⟨r, rfl⟩, t, rfl, e2⟩ := e
          refine ⟨⟨rfl, rfl, rfl⟩, ?_⟩
          show wlw _ _ _ _ _ _ _ _ _ _ _ _ _ _ _ _ _ [some (vR _), some (vR _), some (vR _), some (vR _), some (vI _), _, _] [vI _] _ _
          refine y_aload C rfl ?_
          refine y_aload C rfl ?_
          refine y_iload C rfl ?_
          refine y_ci C ?_
          refine y_iadd C ?_
          refine y_83_0 C (hp0 hc) hN ⟨by omega, by omega⟩ ?_
          refine y_aload C rfl ?_
          refine y_iload C rfl ?_
          refine y_ci C ?_
          refine y_iadd C ?_
          refine y_83_0 C (hp0 hc) hN ⟨by omega, by omega⟩ ?_
          have f2 := hxs (i + 2).toNat
          have f4 := hxs (i + 4).toNat
          refine y_if_eq C ⟨by omega, by omega⟩ (fun c9 => by exfalso; omega) (fun _ => ?_)
          refine y_ci C ?_
          refine y_goto C ?_
          refine y_call C [vR _, vI _, vI _] [vI _] (by omega) (Nat.le_of_ble_eq_true rfl) rfl rfl (Nat.le_of_ble_eq_true rfl) ?_
          refine wpM_mono e2 (fun v h2 e => ?_)
          obtain ⟨u, rfl, hI2, rfl⟩ := e
          refine ⟨⟨rfl, rfl, rfl⟩, ?_⟩
          show wlw _ _ _ _ _ _ _ _ _ _ _ _ _ _ _ _ _ [some (vR _), some (vR _), some (vR _), some (vR _), some (vI _), _, _] [vI _, vI _] _ _
          refine y_icmp_eq C (fun _ => ?_) (fun c9 => absurd rfl c9)
          exact h54 _ _ hI2 (by omega)
      · refine y_aload C rfl ?_
        refine y_aload C rfl ?_
        refine y_iload C rfl ?_
        refine y_ci C ?_
        refine y_iadd C ?_
        refine y_83_0 C (hp0 hc) hN ⟨by omega, by omega⟩ ?_
        refine y_call C [vR _, vI _] [] (by omega) (Nat.le_of_ble_eq_true rfl) rfl rfl (Nat.le_of_ble_eq_true rfl) ?_
        refine wpM_mono (p_letGo hI (by omega) (hxs _)) (fun v h2 e => ?_)
        obtain ⟨⟨r, rfl⟩, t, rfl, e2⟩ := e
        refine ⟨⟨rfl, rfl, rfl⟩, ?_⟩
        show wlw _ _ _ _ _ _ _ _ _ _ _ _ _ _ _ _ _ [some (vR _), some (vR _), some (vR _), some (vR _), some (vI _), _, _] [vI _] _ _
        refine y_aload C rfl ?_
        refine y_aload C rfl ?_
        refine y_iload C rfl ?_
        refine y_ci C ?_
        refine y_iadd C ?_
        refine y_83_0 C (hp0 hc) hN ⟨by omega, by omega⟩ ?_
        refine y_call C [vR _, vI _] [vI _] (by omega) (Nat.le_of_ble_eq_true rfl) rfl rfl (Nat.le_of_ble_eq_true rfl) ?_
        refine wpM_mono e2 (fun v h2 e => ?_)
        obtain ⟨u, rfl, hI2, rfl⟩ := e
        refine ⟨⟨rfl, rfl, rfl⟩, ?_⟩
        show wlw _ _ _ _ _ _ _ _ _ _ _ _ _ _ _ _ _ [some (vR _), some (vR _), some (vR _), some (vR _), some (vI _), _, _] [vI _, vI _] _ _
        refine y_icmp_eq C (fun _ => ?_) (fun c9 => absurd rfl c9)
        exact h54 _ _ hI2 (by omega)
      · refine y_aload C rfl ?_
        refine y_aload C rfl ?_
        refine y_iload C rfl ?_
        refine y_ci C ?_
        refine y_iadd C ?_
        refine y_83_0 C (hp0 hc) hN ⟨by omega, by omega⟩ ?_
        refine y_call C [vR _, vI _] [] (by omega) (Nat.le_of_ble_eq_true rfl) rfl rfl (Nat.le_of_ble_eq_true rfl) ?_
        refine wpM_mono (p_swap hI (by omega) (hxs _)) (fun v h2 e => ?_)
        obtain ⟨⟨r, rfl⟩, t, rfl, e2⟩ := e
        refine ⟨⟨rfl, rfl, rfl⟩, ?_⟩
        show wlw _ _ _ _ _ _ _ _ _ _ _ _ _ _ _ _ _ [some (vR _), some (vR _), some (vR _), some (vR _), some (vI _), _, _] [vI _] _ _
        refine y_aload C rfl ?_
        refine y_aload C rfl ?_
        refine y_iload C rfl ?_
        refine y_ci C ?_
        refine y_iadd C ?_
        refine y_83_0 C (hp0 hc) hN ⟨by omega, by omega⟩ ?_
        refine y_call C [vR _, vI _] [vI _] (by omega) (Nat.le_of_ble_eq_true rfl) rfl rfl (Nat.le_of_ble_eq_true rfl) ?_
        refine wpM_mono e2 (fun v h2 e => ?_)
        obtain ⟨u, rfl, hI2, rfl⟩ := e
        refine ⟨⟨rfl, rfl, rfl⟩, ?_⟩
        show wlw _ _ _ _ _ _ _ _ _ _ _ _ _ _ _ _ _ [some (vR _), some (vR _), some (vR _), some (vR _), some (vI _), _, _] [vI _, vI _] _ _
        refine y_icmp_eq C (fun _ => ?_) (fun c9 => absurd rfl c9)
        exact h54 _ _ hI2 (by omega)
      · refine y_aload C rfl ?_
        refine y_aload C rfl ?_
        refine y_iload C rfl ?_
        refine y_ci C ?_
        refine y_iadd C ?_
        refine y_83_0 C (hp0 hc) hN ⟨by omega, by omega⟩ ?_
        refine y_call C [vR _, vI _] [] (by omega) (Nat.le_of_ble_eq_true rfl) rfl rfl (Nat.le_of_ble_eq_true rfl) ?_
        refine wpM_mono (p_cancel hI (by omega) (hxs _)) (fun v h2 e => ?_)
        obtain ⟨⟨r, rfl⟩, t, rfl, e2⟩ := e
        refine ⟨⟨rfl, rfl, rfl⟩, ?_⟩
        show wlw _ _ _ _ _ _ _ _ _ _ _ _ _ _ _ _ _ [some (vR _), some (vR _), some (vR _), some (vR _), some (vI _), _, _] [vI _] _ _
        refine y_aload C rfl ?_
        refine y_aload C rfl ?_
        refine y_iload C rfl ?_
        refine y_ci C ?_
        refine y_iadd C ?_
        refine y_83_0 C (hp0 hc) hN ⟨by omega, by omega⟩ ?_
        refine y_call C [vR _, vI _] [vI _] (by omega) (Nat.le_of_ble_eq_true rfl) rfl rfl (Nat.le_of_ble_eq_true rfl) ?_
        refine wpM_mono e2 (fun v h2 e => ?_)
        obtain ⟨u, rfl, hI2, rfl⟩ := e
        refine ⟨⟨rfl, rfl, rfl⟩, ?_⟩
        show wlw _ _ _ _ _ _ _ _ _ _ _ _ _ _ _ _ _ [some (vR _), some (vR _), some (vR _), some (vR _), some (vI _), _, _] [vI _, vI _] _ _
        refine y_icmp_eq C (fun _ => ?_) (fun c9 => absurd rfl c9)
        exact h54 _ _ hI2 (by omega)
      · refine y_aload C rfl ?_
        refine y_aload C rfl ?_
        refine y_iload C rfl ?_
        refine y_ci C ?_
        refine y_iadd C ?_
        refine y_83_0 C (hp0 hc) hN ⟨by omega, by omega⟩ ?_
        refine y_call C [vR _, vI _] [] (by omega) (Nat.le_of_ble_eq_true rfl) rfl rfl (Nat.le_of_ble_eq_true rfl) ?_
        refine wpM_mono (p_slide hI (by omega) (hxs _)) (fun v h2 e => ?_)
        obtain ⟨⟨r, rfl⟩, t, rfl, e2⟩ := e
        refine ⟨⟨rfl, rfl, rfl⟩, ?_⟩
        show wlw _ _ _ _ _ _ _ _ _ _ _ _ _ _ _ _ _ [some (vR _), some (vR _), some (vR _), some (vR _), some (vI _), _, _] [vI _] _ _
        refine y_aload C rfl ?_
        refine y_aload C rfl ?_
        refine y_iload C rfl ?_
        refine y_ci C ?_
        refine y_iadd C ?_
        refine y_83_0 C (hp0 hc) hN ⟨by omega, by omega⟩ ?_
        refine y_call C [vR _, vI _] [vI _] (by omega) (Nat.le_of_ble_eq_true rfl) rfl rfl (Nat.le_of_ble_eq_true rfl) ?_
        refine wpM_mono e2 (fun v h2 e => ?_)
        obtain ⟨u, rfl, hI2, rfl⟩ := e
        refine ⟨⟨rfl, rfl, rfl⟩, ?_⟩
        show wlw _ _ _ _ _ _ _ _ _ _ _ _ _ _ _ _ _ [some (vR _), some (vR _), some (vR _), some (vR _), some (vI _), _, _] [vI _, vI _] _ _
        refine y_icmp_eq C (fun _ => ?_) (fun c9 => absurd rfl c9)
        exact h54 _ _ hI2 (by omega)
      · refine y_aload C rfl ?_
        refine y_aload C rfl ?_
        refine y_iload C rfl ?_
        refine y_ci C ?_
        refine y_iadd C ?_
        refine y_83_0 C (hp0 hc) hN ⟨by omega, by omega⟩ ?_
        refine y_aload C rfl ?_
        refine y_iload C rfl ?_
        refine y_ci C ?_
        refine y_iadd C ?_
        refine y_83_0 C (hp0 hc) hN ⟨by omega, by omega⟩ ?_
        refine y_call C [vR _, vI _, vI _] [] (by omega) (Nat.le_of_ble_eq_true rfl) rfl rfl (Nat.le_of_ble_eq_true rfl) ?_
        refine wpM_mono (p_feast hI (by omega) (hxs _) (hxs _)) (fun v h2 e => ?_)
        obtain ⟨⟨r, rfl⟩, t, rfl, e2⟩ := e
        refine ⟨⟨rfl, rfl, rfl⟩, ?_⟩
        show wlw _ _ _ _ _ _ _ _ _ _ _ _ _ _ _ _ _ [some (vR _), some (vR _), some (vR _), some (vR _), some (vI _), _, _] [vI _] _ _
        refine y_aload C rfl ?_
        refine y_aload C rfl ?_
        refine y_iload C rfl ?_
        refine y_ci C ?_
        refine y_iadd C ?_
        refine y_83_0 C (hp0 hc) hN ⟨by omega, by omega⟩ ?_
        refine y_aload C rfl ?_
        refine y_iload C rfl ?_
        refine y_ci C ?_
        refine y_iadd C ?_
        refine y_83_0 C (hp0 hc) hN ⟨by omega, by omega⟩ ?_
        refine y_call C [vR _, vI _, vI _] [vI _] (by omega) (Nat.le_of_ble_eq_true rfl) rfl rfl (Nat.le_of_ble_eq_true rfl) ?_
        refine wpM_mono e2 (fun v h2 e => ?_)
        obtain ⟨u, rfl, hI2, rfl⟩ := e
        refine ⟨⟨rfl, rfl, rfl⟩, ?_⟩
        show wlw _ _ _ _ _ _ _ _ _ _ _ _ _ _ _ _ _ [some (vR _), some (vR _), some (vR _), some (vR _), some (vI _), _, _] [vI _, vI _] _ _
        refine y_icmp_eq C (fun _ => ?_) (fun c9 => absurd rfl c9)
        exact h54 _ _ hI2 (by omega)
      · refine y_aload C rfl ?_
        refine y_aload C rfl ?_
        refine y_iload C rfl ?_
        refine y_ci C ?_
        refine y_iadd C ?_
        refine y_83_0 C (hp0 hc) hN ⟨by omega, by omega⟩ ?_
        refine y_call C [vR _, vI _] [] (by omega) (Nat.le_of_ble_eq_true rfl) rfl rfl (Nat.le_of_ble_eq_true rfl) ?_
        refine wpM_mono (p_go hI (by omega) (hxs _)) (fun v h2 e => ?_)
        obtain ⟨⟨r, rfl⟩, t, rfl, e2⟩ := e
        refine ⟨⟨rfl, rfl, rfl⟩, ?_⟩
        show wlw _ _ _ _ _ _ _ _ _ _ _ _ _ _ _ _ _ [some (vR _), some (vR _), some (vR _), some (vR _), some (vI _), _, _] [vI _] _ _
        refine y_aload C rfl ?_
        refine y_aload C rfl ?_
        refine y_iload C rfl ?_
        refine y_ci C ?_
        refine y_iadd C ?_
        refine y_83_0 C (hp0 hc) hN ⟨by omega, by omega⟩ ?_
        refine y_call C [vR _, vI _] [vI _] (by omega) (Nat.le_of_ble_eq_true rfl) rfl rfl (Nat.le_of_ble_eq_true rfl) ?_
        refine wpM_mono e2 (fun v h2 e => ?_)
        obtain ⟨u, rfl, hI2, rfl⟩ := e
        refine ⟨⟨rfl, rfl, rfl⟩, ?_⟩
        show wlw _ _ _ _ _ _ _ _ _ _ _ _ _ _ _ _ _ [some (vR _), some (vR _), some (vR _), some (vR _), some (vI _), _, _] [vI _, vI _] _ _
        refine y_icmp_eq C (fun _ => ?_) (fun c9 => absurd rfl c9)
        exact h54 _ _ hI2 (by omega)
      · refine y_aload C rfl ?_
        refine y_aload C rfl ?_
        refine y_iload C rfl ?_
        refine y_ci C ?_
        refine y_iadd C ?_
        refine y_83_0 C (hp0 hc) hN ⟨by omega, by omega⟩ ?_
        refine y_aload C rfl ?_
        refine y_iload C rfl ?_
        refine y_ci C ?_
        refine y_iadd C ?_
        refine y_83_0 C (hp0 hc) hN ⟨by omega, by omega⟩ ?_
        refine y_call C [vR _, vI _, vI _] [] (by omega) (Nat.le_of_ble_eq_true rfl) rfl rfl (Nat.le_of_ble_eq_true rfl) ?_
        refine wpM_mono (p_ahead hI (by omega) (hxs _) (hxs _)) (fun v h2 e => ?_)
        obtain ⟨⟨r, rfl⟩, t, rfl, e2⟩ := e
        refine ⟨⟨rfl, rfl, rfl⟩, ?_⟩
        show wlw _ _ _ _ _ _ _ _ _ _ _ _ _ _ _ _ _ [some (vR _), some (vR _), some (vR _), some (vR _), some (vI _), _, _] [vI _] _ _
        refine y_aload C rfl ?_
        refine y_aload C rfl ?_
        refine y_iload C rfl ?_
        refine y_ci C ?_
        refine y_iadd C ?_
        refine y_83_0 C (hp0 hc) hN ⟨by omega, by omega⟩ ?_
        refine y_aload C rfl ?_
        refine y_iload C rfl ?_
        refine y_ci C ?_
        refine y_iadd C ?_
        refine y_83_0 C (hp0 hc) hN ⟨by omega, by omega⟩ ?_
        refine y_call C [vR _, vI _, vI _] [vI _] (by omega) (Nat.le_of_ble_eq_true rfl) rfl rfl (Nat.le_of_ble_eq_true rfl) ?_
        refine wpM_mono e2 (fun v h2 e => ?_)
        obtain ⟨u, rfl, hI2, rfl⟩ := e
        refine ⟨⟨rfl, rfl, rfl⟩, ?_⟩
        show wlw _ _ _ _ _ _ _ _ _ _ _ _ _ _ _ _ _ [some (vR _), some (vR _), some (vR _), some (vR _), some (vI _), _, _] [vI _, vI _] _ _
        refine y_icmp_eq C (fun _ => ?_) (fun c9 => absurd rfl c9)
        exact h54 _ _ hI2 (by omega)
      · refine y_aload C rfl ?_
        refine y_call C [vR _] [] (by omega) (Nat.le_of_ble_eq_true rfl) rfl rfl (Nat.le_of_ble_eq_true rfl) ?_
        refine wpM_mono (p_lean hI (by omega) ) (fun v h2 e => ?_)
        obtain ⟨⟨r, rfl⟩, t, rfl, e2⟩ := e
        refine ⟨⟨rfl, rfl, rfl⟩, ?_⟩
        show wlw _ _ _ _ _ _ _ _ _ _ _ _ _ _ _ _ _ [some (vR _), some (vR _), some (vR _), some (vR _), some (vI _), _, _] [vI _] _ _
        refine y_aload C rfl ?_
        refine y_call C [vR _] [vI _] (by omega) (Nat.le_of_ble_eq_true rfl) rfl rfl (Nat.le_of_ble_eq_true rfl) ?_
        refine wpM_mono e2 (fun v h2 e => ?_)
        obtain ⟨u, rfl, hI2, rfl⟩ := e
        refine ⟨⟨rfl, rfl, rfl⟩, ?_⟩
        show wlw _ _ _ _ _ _ _ _ _ _ _ _ _ _ _ _ _ [some (vR _), some (vR _), some (vR _), some (vR _), some (vI _), _, _] [vI _, vI _] _ _
        refine y_icmp_eq C (fun _ => ?_) (fun c9 => absurd rfl c9)
        exact h54 _ _ hI2 (by omega)
      · refine y_aload C rfl ?_
        refine y_aload C rfl ?_
        refine y_iload C rfl ?_
        refine y_ci C ?_
        refine y_iadd C ?_
        refine y_83_0 C (hp0 hc) hN ⟨by omega, by omega⟩ ?_
        refine y_call C [vR _, vI _] [] (by omega) (Nat.le_of_ble_eq_true rfl) rfl rfl (Nat.le_of_ble_eq_true rfl) ?_
        refine wpM_mono (p_danceBack hI (by omega) (hxs _)) (fun v h2 e => ?_)
        obtain ⟨⟨r, rfl⟩, t, rfl, e2⟩ := e
        refine ⟨⟨rfl, rfl, rfl⟩, ?_⟩
        show wlw _ _ _ _ _ _ _ _ _ _ _ _ _ _ _ _ _ [some (vR _), some (vR _), some (vR _), some (vR _), some (vI _), _, _] [vI _] _ _
        refine y_aload C rfl ?_
        refine y_aload C rfl ?_
        refine y_iload C rfl ?_
        refine y_ci C ?_
        refine y_iadd C ?_
        refine y_83_0 C (hp0 hc) hN ⟨by omega, by omega⟩ ?_
        refine y_call C [vR _, vI _] [vI _] (by omega) (Nat.le_of_ble_eq_true rfl) rfl rfl (Nat.le_of_ble_eq_true rfl) ?_
        refine wpM_mono e2 (fun v h2 e => ?_)
        obtain ⟨u, rfl, hI2, rfl⟩ := e
        refine ⟨⟨rfl, rfl, rfl⟩, ?_⟩
        show wlw _ _ _ _ _ _ _ _ _ _ _ _ _ _ _ _ _ [some (vR _), some (vR _), some (vR _), some (vR _), some (vI _), _, _] [vI _, vI _] _ _
        refine y_icmp_eq C (fun _ => ?_) (fun c9 => absurd rfl c9)
        exact h54 _ _ hI2 (by omega)
      · refine y_aload C rfl ?_
        refine y_aload C rfl ?_
        refine y_iload C rfl ?_
        refine y_ci C ?_
        refine y_iadd C ?_
        refine y_83_0 C (hp0 hc) hN ⟨by omega, by omega⟩ ?_
        refine y_aload C rfl ?_
        refine y_iload C rfl ?_
        refine y_ci C ?_
        refine y_iadd C ?_
        refine y_83_0 C (hp0 hc) hN ⟨by omega, by omega⟩ ?_
        refine y_call C [vR _, vI _, vI _] [] (by omega) (Nat.le_of_ble_eq_true rfl) rfl rfl (Nat.le_of_ble_eq_true rfl) ?_
        refine wpM_mono (p_make hI (by omega) (hxs _) (hxs _)) (fun v h2 e => ?_)
        obtain ⟨⟨r, rfl⟩, t, rfl, e2⟩ := e
        refine ⟨⟨rfl, rfl, rfl⟩, ?_⟩
        show wlw _ _ _ _ _ _ _ _ _ _ _ _ _ _ _ _ _ [some (vR _), some (vR _), some (vR _), some (vR _), some (vI _), _, _] [vI _] _ _
        refine y_aload C rfl ?_
        refine y_aload C rfl ?_
        refine y_iload C rfl ?_
        refine y_ci C ?_
        refine y_iadd C ?_
        refine y_83_0 C (hp0 hc) hN ⟨by omega, by omega⟩ ?_
        refine y_aload C rfl ?_
        refine y_iload C rfl ?_
        refine y_ci C ?_
        refine y_iadd C ?_
        refine y_83_0 C (hp0 hc) hN ⟨by omega, by omega⟩ ?_
        refine y_call C [vR _, vI _, vI _] [vI _] (by omega) (Nat.le_of_ble_eq_true rfl) rfl rfl (Nat.le_of_ble_eq_true rfl) ?_
        refine wpM_mono e2 (fun v h2 e => ?_)
        obtain ⟨u, rfl, hI2, rfl⟩ := e
        refine ⟨⟨rfl, rfl, rfl⟩, ?_⟩
        show wlw _ _ _ _ _ _ _ _ _ _ _ _ _ _ _ _ _ [some (vR _), some (vR _), some (vR _), some (vR _), some (vI _), _, _] [vI _, vI _] _ _
        refine y_icmp_eq C (fun _ => ?_) (fun c9 => absurd rfl c9)
        exact h54 _ _ hI2 (by omega)
      · refine y_aload C rfl ?_
        refine y_aload C rfl ?_
        refine y_iload C rfl ?_
        refine y_ci C ?_
        refine y_iadd C ?_
        refine y_83_0 C (hp0 hc) hN ⟨by omega, by omega⟩ ?_
        refine y_call C [vR _, vI _] [] (by omega) (Nat.le_of_ble_eq_true rfl) rfl rfl (Nat.le_of_ble_eq_true rfl) ?_
        refine wpM_mono (p_looseRows hI (by omega) (hxs _)) (fun v h2 e => ?_)
        obtain ⟨⟨r, rfl⟩, t, rfl, e2⟩ := e
        refine ⟨⟨rfl, rfl, rfl⟩, ?_⟩
        show wlw _ _ _ _ _ _ _ _ _ _ _ _ _ _ _ _ _ [some (vR _), some (vR _), some (vR _), some (vR _), some (vI _), _, _] [vI _] _ _
        refine y_aload C rfl ?_
        refine y_aload C rfl ?_
        refine y_iload C rfl ?_
        refine y_ci C ?_
        refine y_iadd C ?_
        refine y_83_0 C (hp0 hc) hN ⟨by omega, by omega⟩ ?_
        refine y_call C [vR _, vI _] [vI _] (by omega) (Nat.le_of_ble_eq_true rfl) rfl rfl (Nat.le_of_ble_eq_true rfl) ?_
        refine wpM_mono e2 (fun v h2 e => ?_)
        obtain ⟨u, rfl, hI2, rfl⟩ := e
        refine ⟨⟨rfl, rfl, rfl⟩, ?_⟩
        show wlw _ _ _ _ _ _ _ _ _ _ _ _ _ _ _ _ _ [some (vR _), some (vR _), some (vR _), some (vR _), some (vI _), _, _] [vI _, vI _] _ _
        refine y_icmp_eq C (fun _ => ?_) (fun c9 => absurd rfl c9)
        exact h54 _ _ hI2 (by omega)
      · refine y_aload C rfl ?_
        refine y_aload C rfl ?_
        refine y_iload C rfl ?_
        refine y_ci C ?_
        refine y_iadd C ?_
        refine y_83_0 C (hp0 hc) hN ⟨by omega, by omega⟩ ?_
        refine y_aload C rfl ?_
        refine y_iload C rfl ?_
        refine y_ci C ?_
        refine y_iadd C ?_
        refine y_83_0 C (hp0 hc) hN ⟨by omega, by omega⟩ ?_
        refine y_aload C rfl ?_
        refine y_iload C rfl ?_
        refine y_ci C ?_
        refine y_iadd C ?_
        refine y_83_0 C (hp0 hc) hN ⟨by omega, by omega⟩ ?_
        refine y_call C [vR _, vI _, vI _, vI _] [] (by omega) (Nat.le_of_ble_eq_true rfl) rfl rfl (Nat.le_of_ble_eq_true rfl) ?_
        refine wpM_mono (p_tied hI (by omega) (hxs _) (hxs _) (hxs _)) (fun v h2 e => ?_)
        obtain ⟨⟨r, rfl⟩, t, rfl, e2⟩ := e
        refine ⟨⟨rfl, rfl, rfl⟩, ?_⟩
        show wlw _ _ _ _ _ _ _ _ _ _ _ _ _ _ _ _ _ [some (vR _), some (vR _), some (vR _), some (vR _), some (vI _), _, _] [vI _] _ _
        refine y_aload C rfl ?_
        refine y_aload C rfl ?_
        refine y_iload C rfl ?_
        refine y_ci C ?_
        refine y_iadd C ?_
        refine y_83_0 C (hp0 hc) hN ⟨by omega, by omega⟩ ?_
        refine y_aload C rfl ?_
        refine y_iload C rfl ?_
        refine y_ci C ?_
        refine y_iadd C ?_
        refine y_83_0 C (hp0 hc) hN ⟨by omega, by omega⟩ ?_
        refine y_aload C rfl ?_
        refine y_iload C rfl ?_
        refine y_ci C ?_
        refine y_iadd C ?_
        refine y_83_0 C (hp0 hc) hN ⟨by omega, by omega⟩ ?_
        refine y_call C [vR _, vI _, vI _, vI _] [vI _] (by omega) (Nat.le_of_ble_eq_true rfl) rfl rfl (Nat.le_of_ble_eq_true rfl) ?_
        refine wpM_mono e2 (fun v h2 e => ?_)
        obtain ⟨u, rfl, hI2, rfl⟩ := e
        refine ⟨⟨rfl, rfl, rfl⟩, ?_⟩
        show wlw _ _ _ _ _ _ _ _ _ _ _ _ _ _ _ _ _ [some (vR _), some (vR _), some (vR _), some (vR _), some (vI _), _, _] [vI _, vI _] _ _
        refine y_icmp_eq C (fun _ => ?_) (fun c9 => absurd rfl c9)
        exact h54 _ _ hI2 (by omega)
      · refine y_aload C rfl ?_
        refine y_aload C rfl ?_
        refine y_iload C rfl ?_
        refine y_ci C ?_
        refine y_iadd C ?_
        refine y_83_0 C (hp0 hc) hN ⟨by omega, by omega⟩ ?_
        refine y_call C [vR _, vI _] [] (by omega) (Nat.le_of_ble_eq_true rfl) rfl rfl (Nat.le_of_ble_eq_true rfl) ?_
        refine wpM_mono (p_freed hI (by omega) (hxs _)) (fun v h2 e => ?_)
        obtain ⟨⟨r, rfl⟩, t, rfl, e2⟩ := e
        refine ⟨⟨rfl, rfl, rfl⟩, ?_⟩
        show wlw _ _ _ _ _ _ _ _ _ _ _ _ _ _ _ _ _ [some (vR _), some (vR _), some (vR _), some (vR _), some (vI _), _, _] [vI _] _ _
        refine y_aload C rfl ?_
        refine y_aload C rfl ?_
        refine y_iload C rfl ?_
        refine y_ci C ?_
        refine y_iadd C ?_
        refine y_83_0 C (hp0 hc) hN ⟨by omega, by omega⟩ ?_
        refine y_call C [vR _, vI _] [vI _] (by omega) (Nat.le_of_ble_eq_true rfl) rfl rfl (Nat.le_of_ble_eq_true rfl) ?_
        refine wpM_mono e2 (fun v h2 e => ?_)
        obtain ⟨u, rfl, hI2, rfl⟩ := e
        refine ⟨⟨rfl, rfl, rfl⟩, ?_⟩
        show wlw _ _ _ _ _ _ _ _ _ _ _ _ _ _ _ _ _ [some (vR _), some (vR _), some (vR _), some (vR _), some (vI _), _, _] [vI _, vI _] _ _
        refine y_icmp_eq C (fun _ => ?_) (fun c9 => absurd rfl c9)
        exact h54 _ _ hI2 (by omega)
      · refine y_aload C rfl ?_
        refine y_aload C rfl ?_
        refine y_iload C rfl ?_
        refine y_ci C ?_
        refine y_iadd C ?_
        refine y_83_0 C (hp0 hc) hN ⟨by omega, by omega⟩ ?_
        refine y_aload C rfl ?_
        refine y_iload C rfl ?_
        refine y_ci C ?_
        refine y_iadd C ?_
        refine y_83_0 C (hp0 hc) hN ⟨by omega, by omega⟩ ?_
        refine y_call C [vR _, vI _, vI _] [] (by omega) (Nat.le_of_ble_eq_true rfl) rfl rfl (Nat.le_of_ble_eq_true rfl) ?_
        refine wpM_mono (p_holds hI (by omega) (hxs _) (hxs _)) (fun v h2 e => ?_)
        obtain ⟨⟨r, rfl⟩, t, rfl, e2⟩ := e
        refine ⟨⟨rfl, rfl, rfl⟩, ?_⟩
        show wlw _ _ _ _ _ _ _ _ _ _ _ _ _ _ _ _ _ [some (vR _), some (vR _), some (vR _), some (vR _), some (vI _), _, _] [vL _] _ _
        refine y_aload C rfl ?_
        refine y_aload C rfl ?_
        refine y_iload C rfl ?_
        refine y_ci C ?_
        refine y_iadd C ?_
        refine y_83_0 C (hp0 hc) hN ⟨by omega, by omega⟩ ?_
        refine y_aload C rfl ?_
        refine y_iload C rfl ?_
        refine y_ci C ?_
        refine y_iadd C ?_
        refine y_83_0 C (hp0 hc) hN ⟨by omega, by omega⟩ ?_
        refine y_call C [vR _, vI _, vI _] [vL _] (by omega) (Nat.le_of_ble_eq_true rfl) rfl rfl (Nat.le_of_ble_eq_true rfl) ?_
        refine wpM_mono e2 (fun v h2 e => ?_)
        obtain ⟨u, rfl, hI2, rfl⟩ := e
        refine ⟨⟨rfl, rfl, rfl⟩, ?_⟩
        show wlw _ _ _ _ _ _ _ _ _ _ _ _ _ _ _ _ _ [some (vR _), some (vR _), some (vR _), some (vR _), some (vI _), _, _] [vL _, vL _] _ _
        refine y_lcmp C ?_
        refine ty_I 0 (lc_same r) ?_
        refine y_if_eq C ⟨by omega, by omega⟩ (fun _ => ?_) (fun c9 => absurd rfl c9)
        exact h54 _ _ hI2 (by omega)
      · refine y_aload C rfl ?_
        refine y_aload C rfl ?_
        refine y_iload C rfl ?_
        refine y_ci C ?_
        refine y_iadd C ?_
        refine y_83_0 C (hp0 hc) hN ⟨by omega, by omega⟩ ?_
        refine y_aload C rfl ?_
        refine y_iload C rfl ?_
        refine y_ci C ?_
        refine y_iadd C ?_
        refine y_83_0 C (hp0 hc) hN ⟨by omega, by omega⟩ ?_
        refine y_aload C rfl ?_
        refine y_iload C rfl ?_
        refine y_ci C ?_
        refine y_iadd C ?_
        refine y_83_0 C (hp0 hc) hN ⟨by omega, by omega⟩ ?_
        refine y_aload C rfl ?_
        refine y_iload C rfl ?_
        refine y_ci C ?_
        refine y_iadd C ?_
        refine y_83_0 C (hp0 hc) hN ⟨by omega, by omega⟩ ?_
        have f2 := hxs (i + 2).toNat
        have f4 := hxs (i + 4).toNat
        refine y_if_eq C ⟨by omega, by omega⟩ (fun c3 => ?_) (fun c3 => ?_)
        · refine y_ci C ?_
          refine y_fall C ?_
          refine y_call C [vR _, vI _, vI _, vI _, vI _] [] (by omega) (Nat.le_of_ble_eq_true rfl) rfl rfl (Nat.le_of_ble_eq_true rfl) ?_
          refine wpM_mono (p_read hI (by omega) (hxs _) (hxs _) (hxs _) (by omega)) (fun v h2 e => ?_)
          obtain ⟨⟨r, rfl⟩, t, rfl, e2⟩ := e
          refine ⟨⟨rfl, rfl, rfl⟩, ?_⟩
          show wlw _ _ _ _ _ _ _ _ _ _ _ _ _ _ _ _ _ [some (vR _), some (vR _), some (vR _), some (vR _), some (vI _), _, _] [vI _] _ _
          refine y_aload C rfl ?_
          refine y_aload C rfl ?_
          refine y_iload C rfl ?_
          refine y_ci C ?_
          refine y_iadd C ?_
          refine y_83_0 C (hp0 hc) hN ⟨by omega, by omega⟩ ?_
          refine y_aload C rfl ?_
          refine y_iload C rfl ?_
          refine y_ci C ?_
          refine y_iadd C ?_
          refine y_83_0 C (hp0 hc) hN ⟨by omega, by omega⟩ ?_
          refine y_aload C rfl ?_
          refine y_iload C rfl ?_
          refine y_ci C ?_
          refine y_iadd C ?_
          refine y_83_0 C (hp0 hc) hN ⟨by omega, by omega⟩ ?_
          refine y_aload C rfl ?_
          refine y_iload C rfl ?_
          refine y_ci C ?_
          refine y_iadd C ?_
          refine y_83_0 C (hp0 hc) hN ⟨by omega, by omega⟩ ?_
          have f2 := hxs (i + 2).toNat
          have f4 := hxs (i + 4).toNat
          refine y_if_eq C ⟨by omega, by omega⟩ (fun _ => ?_) (fun c9 => by exfalso; omega)
          refine y_ci C ?_
          refine y_fall C ?_
          refine y_call C [vR _, vI _, vI _, vI _, vI _] [vI _] (by omega) (Nat.le_of_ble_eq_true rfl) rfl rfl (Nat.le_of_ble_eq_true rfl) ?_
          refine wpM_mono e2 (fun v h2 e => ?_)
          obtain ⟨u, rfl, hI2, rfl⟩ := e
          refine ⟨⟨rfl, rfl, rfl⟩, ?_⟩
          show wlw _ _ _ _ _ _ _ _ _ _ _ _ _ _ _ _ _ [some (vR _), some (vR _), some (vR _), some (vR _), some (vI _), _, _] [vI _, vI _] _ _
          refine y_icmp_eq C (fun _ => ?_) (fun c9 => absurd rfl c9)
          exact h54 _ _ hI2 (by omega)
        · refine y_ci C ?_
          refine y_goto C ?_
          refine y_call C [vR _, vI _, vI _, vI _, vI _] [] (by omega) (Nat.le_of_ble_eq_true rfl) rfl rfl (Nat.le_of_ble_eq_true rfl) ?_
          refine wpM_mono (p_read hI (by omega) (hxs _) (hxs _) (hxs _) (by omega)) (fun v h2 e => ?_)
          obtain ⟨⟨r, rfl⟩, t, rfl, e2⟩ := e
          refine ⟨⟨rfl, rfl, rfl⟩, ?_⟩
          show wlw _ _ _ _ _ _ _ _ _ _ _ _ _ _ _ _ _ [some (vR _), some (vR _), some (vR _), some (vR _), some (vI _), _, _] [vI _] _ _
          refine y_aload C rfl ?_
          refine y_aload C rfl ?_
          refine y_iload C rfl ?_
          refine y_ci C ?_
          refine y_iadd C ?_
          refine y_83_0 C (hp0 hc) hN ⟨by omega, by omega⟩ ?_
          refine y_aload C rfl ?_
          refine y_iload C rfl ?_
          refine y_ci C ?_
          refine y_iadd C ?_
          refine y_83_0 C (hp0 hc) hN ⟨by omega, by omega⟩ ?_
          refine y_aload C rfl ?_
          refine y_iload C rfl ?_
          refine y_ci C ?_
          refine y_iadd C ?_
          refine y_83_0 C (hp0 hc) hN ⟨by omega, by omega⟩ ?_
          refine y_aload C rfl ?_
          refine y_iload C rfl ?_
          refine y_ci C ?_
          refine y_iadd C ?_
          refine y_83_0 C (hp0 hc) hN ⟨by omega, by omega⟩ ?_
          have f2 := hxs (i + 2).toNat
          have f4 := hxs (i + 4).toNat
          refine y_if_eq C ⟨by omega, by omega⟩ (fun c9 => by exfalso; omega) (fun _ => ?_)
          refine y_ci C ?_
          refine y_goto C ?_
          refine y_call C [vR _, vI _, vI _, vI _, vI _] [vI _] (by omega) (Nat.le_of_ble_eq_true rfl) rfl rfl (Nat.le_of_ble_eq_true rfl) ?_
          refine wpM_mono e2 (fun v h2 e => ?_)
          obtain ⟨u, rfl, hI2, rfl⟩ := e
          refine ⟨⟨rfl, rfl, rfl⟩, ?_⟩
          show wlw _ _ _ _ _ _ _ _ _ _ _ _ _ _ _ _ _ [some (vR _), some (vR _), some (vR _), some (vR _), some (vI _), _, _] [vI _, vI _] _ _
          refine y_icmp_eq C (fun _ => ?_) (fun c9 => absurd rfl c9)
          exact h54 _ _ hI2 (by omega)
      · refine y_aload C rfl ?_
        refine y_aload C rfl ?_
        refine y_iload C rfl ?_
        refine y_ci C ?_
        refine y_iadd C ?_
        refine y_83_0 C (hp0 hc) hN ⟨by omega, by omega⟩ ?_
        refine y_aload C rfl ?_
        refine y_iload C rfl ?_
        refine y_ci C ?_
        refine y_iadd C ?_
        refine y_83_0 C (hp0 hc) hN ⟨by omega, by omega⟩ ?_
        refine y_aload C rfl ?_
        refine y_iload C rfl ?_
        refine y_ci C ?_
        refine y_iadd C ?_
        refine y_83_0 C (hp0 hc) hN ⟨by omega, by omega⟩ ?_
        refine y_aload C rfl ?_
        refine y_iload C rfl ?_
        refine y_ci C ?_
        refine y_iadd C ?_
        refine y_83_0 C (hp0 hc) hN ⟨by omega, by omega⟩ ?_
        have f2 := hxs (i + 2).toNat
        have f4 := hxs (i + 4).toNat
        refine y_if_eq C ⟨by omega, by omega⟩ (fun c3 => ?_) (fun c3 => ?_)
        · refine y_ci C ?_
          refine y_fall C ?_
          refine y_call C [vR _, vI _, vI _, vI _, vI _] [] (by omega) (Nat.le_of_ble_eq_true rfl) rfl rfl (Nat.le_of_ble_eq_true rfl) ?_
          refine wpM_mono (p_readBond hI (by omega) (hxs _) (hxs _) (hxs _) (by omega)) (fun v h2 e => ?_)
          obtain ⟨⟨r, rfl⟩, t, rfl, e2⟩ := e
          refine ⟨⟨rfl, rfl, rfl⟩, ?_⟩
          show wlw _ _ _ _ _ _ _ _ _ _ _ _ _ _ _ _ _ [some (vR _), some (vR _), some (vR _), some (vR _), some (vI _), _, _] [vI _] _ _
          refine y_aload C rfl ?_
          refine y_aload C rfl ?_
          refine y_iload C rfl ?_
          refine y_ci C ?_
          refine y_iadd C ?_
          refine y_83_0 C (hp0 hc) hN ⟨by omega, by omega⟩ ?_
          refine y_aload C rfl ?_
          refine y_iload C rfl ?_
          refine y_ci C ?_
          refine y_iadd C ?_
          refine y_83_0 C (hp0 hc) hN ⟨by omega, by omega⟩ ?_
          refine y_aload C rfl ?_
          refine y_iload C rfl ?_
          refine y_ci C ?_
          refine y_iadd C ?_
          refine y_83_0 C (hp0 hc) hN ⟨by omega, by omega⟩ ?_
          refine y_aload C rfl ?_
          refine y_iload C rfl ?_
          refine y_ci C ?_
          refine y_iadd C ?_
          refine y_83_0 C (hp0 hc) hN ⟨by omega, by omega⟩ ?_
          have f2 := hxs (i + 2).toNat
          have f4 := hxs (i + 4).toNat
          refine y_if_eq C ⟨by omega, by omega⟩ (fun _ => ?_) (fun c9 => by exfalso; omega)
          refine y_ci C ?_
          refine y_fall C ?_
          refine y_call C [vR _, vI _, vI _, vI _, vI _] [vI _] (by omega) (Nat.le_of_ble_eq_true rfl) rfl rfl (Nat.le_of_ble_eq_true rfl) ?_
          refine wpM_mono e2 (fun v h2 e => ?_)
          obtain ⟨u, rfl, hI2, rfl⟩ := e
          refine ⟨⟨rfl, rfl, rfl⟩, ?_⟩
          show wlw _ _ _ _ _ _ _ _ _ _ _ _ _ _ _ _ _ [some (vR _), some (vR _), some (vR _), some (vR _), some (vI _), _, _] [vI _, vI _] _ _
          refine y_icmp_eq C (fun _ => ?_) (fun c9 => absurd rfl c9)
          exact h54 _ _ hI2 (by omega)
        · refine y_ci C ?_
          refine y_goto C ?_
          refine y_call C [vR _, vI _, vI _, vI _, vI _] [] (by omega) (Nat.le_of_ble_eq_true rfl) rfl rfl (Nat.le_of_ble_eq_true rfl) ?_
          refine wpM_mono (p_readBond hI (by omega) (hxs _) (hxs _) (hxs _) (by omega)) (fun v h2 e => ?_)
          obtain ⟨⟨r, rfl⟩, t, rfl, e2⟩ := e
          refine ⟨⟨rfl, rfl, rfl⟩, ?_⟩
          show wlw _ _ _ _ _ _ _ _ _ _ _ _ _ _ _ _ _ [some (vR _), some (vR _), some (vR _), some (vR _), some (vI _), _, _] [vI _] _ _
          refine y_aload C rfl ?_
          refine y_aload C rfl ?_
          refine y_iload C rfl ?_
          refine y_ci C ?_
          refine y_iadd C ?_
          refine y_83_0 C (hp0 hc) hN ⟨by omega, by omega⟩ ?_
          refine y_aload C rfl ?_
          refine y_iload C rfl ?_
          refine y_ci C ?_
          refine y_iadd C ?_
          refine y_83_0 C (hp0 hc) hN ⟨by omega, by omega⟩ ?_
          refine y_aload C rfl ?_
          refine y_iload C rfl ?_
          refine y_ci C ?_
          refine y_iadd C ?_
          refine y_83_0 C (hp0 hc) hN ⟨by omega, by omega⟩ ?_
          refine y_aload C rfl ?_
          refine y_iload C rfl ?_
          refine y_ci C ?_
          refine y_iadd C ?_
          refine y_83_0 C (hp0 hc) hN ⟨by omega, by omega⟩ ?_
          have f2 := hxs (i + 2).toNat
          have f4 := hxs (i + 4).toNat
          refine y_if_eq C ⟨by omega, by omega⟩ (fun c9 => by exfalso; omega) (fun _ => ?_)
          refine y_ci C ?_
          refine y_goto C ?_
          refine y_call C [vR _, vI _, vI _, vI _, vI _] [vI _] (by omega) (Nat.le_of_ble_eq_true rfl) rfl rfl (Nat.le_of_ble_eq_true rfl) ?_
          refine wpM_mono e2 (fun v h2 e => ?_)
          obtain ⟨u, rfl, hI2, rfl⟩ := e
          refine ⟨⟨rfl, rfl, rfl⟩, ?_⟩
          show wlw _ _ _ _ _ _ _ _ _ _ _ _ _ _ _ _ _ [some (vR _), some (vR _), some (vR _), some (vR _), some (vI _), _, _] [vI _, vI _] _ _
          refine y_icmp_eq C (fun _ => ?_) (fun c9 => absurd rfl c9)
          exact h54 _ _ hI2 (by omega)
      · refine y_aload C rfl ?_
        refine y_aload C rfl ?_
        refine y_iload C rfl ?_
        refine y_ci C ?_
        refine y_iadd C ?_
        refine y_83_0 C (hp0 hc) hN ⟨by omega, by omega⟩ ?_
        refine y_call C [vR _, vI _] [] (by omega) (Nat.le_of_ble_eq_true rfl) rfl rfl (Nat.le_of_ble_eq_true rfl) ?_
        refine wpM_mono (p_strike hI (by omega) (hxs _)) (fun v h2 e => ?_)
        obtain ⟨⟨r, rfl⟩, t, rfl, e2⟩ := e
        refine ⟨⟨rfl, rfl, rfl⟩, ?_⟩
        show wlw _ _ _ _ _ _ _ _ _ _ _ _ _ _ _ _ _ [some (vR _), some (vR _), some (vR _), some (vR _), some (vI _), _, _] [vI _] _ _
        refine y_aload C rfl ?_
        refine y_aload C rfl ?_
        refine y_iload C rfl ?_
        refine y_ci C ?_
        refine y_iadd C ?_
        refine y_83_0 C (hp0 hc) hN ⟨by omega, by omega⟩ ?_
        refine y_call C [vR _, vI _] [vI _] (by omega) (Nat.le_of_ble_eq_true rfl) rfl rfl (Nat.le_of_ble_eq_true rfl) ?_
        refine wpM_mono e2 (fun v h2 e => ?_)
        obtain ⟨u, rfl, hI2, rfl⟩ := e
        refine ⟨⟨rfl, rfl, rfl⟩, ?_⟩
        show wlw _ _ _ _ _ _ _ _ _ _ _ _ _ _ _ _ _ [some (vR _), some (vR _), some (vR _), some (vR _), some (vI _), _, _] [vI _, vI _] _ _
        refine y_icmp_eq C (fun _ => ?_) (fun c9 => absurd rfl c9)
        exact h54 _ _ hI2 (by omega)
      · refine y_aload C rfl ?_
        refine y_aload C rfl ?_
        refine y_iload C rfl ?_
        refine y_ci C ?_
        refine y_iadd C ?_
        refine y_83_0 C (hp0 hc) hN ⟨by omega, by omega⟩ ?_
        refine y_call C [vR _, vI _] [] (by omega) (Nat.le_of_ble_eq_true rfl) rfl rfl (Nat.le_of_ble_eq_true rfl) ?_
        refine wpM_mono (p_known hI (by omega) (hxs _)) (fun v h2 e => ?_)
        obtain ⟨⟨r, rfl⟩, t, rfl, e2⟩ := e
        refine ⟨⟨rfl, rfl, rfl⟩, ?_⟩
        show wlw _ _ _ _ _ _ _ _ _ _ _ _ _ _ _ _ _ [some (vR _), some (vR _), some (vR _), some (vR _), some (vI _), _, _] [vI _] _ _
        refine y_aload C rfl ?_
        refine y_aload C rfl ?_
        refine y_iload C rfl ?_
        refine y_ci C ?_
        refine y_iadd C ?_
        refine y_83_0 C (hp0 hc) hN ⟨by omega, by omega⟩ ?_
        refine y_call C [vR _, vI _] [vI _] (by omega) (Nat.le_of_ble_eq_true rfl) rfl rfl (Nat.le_of_ble_eq_true rfl) ?_
        refine wpM_mono e2 (fun v h2 e => ?_)
        obtain ⟨u, rfl, hI2, rfl⟩ := e
        refine ⟨⟨rfl, rfl, rfl⟩, ?_⟩
        show wlw _ _ _ _ _ _ _ _ _ _ _ _ _ _ _ _ _ [some (vR _), some (vR _), some (vR _), some (vR _), some (vI _), _, _] [vI _, vI _] _ _
        refine y_icmp_eq C (fun _ => ?_) (fun c9 => absurd rfl c9)
        exact h54 _ _ hI2 (by omega)
      · refine y_aload C rfl ?_
        refine y_aload C rfl ?_
        refine y_iload C rfl ?_
        refine y_ci C ?_
        refine y_iadd C ?_
        refine y_83_0 C (hp0 hc) hN ⟨by omega, by omega⟩ ?_
        refine y_call C [vR _, vI _] [] (by omega) (Nat.le_of_ble_eq_true rfl) rfl rfl (Nat.le_of_ble_eq_true rfl) ?_
        refine wpM_mono (p_fits hI (by omega) (hxs _)) (fun v h2 e => ?_)
        obtain ⟨⟨r, rfl⟩, t, rfl, e2⟩ := e
        refine ⟨⟨rfl, rfl, rfl⟩, ?_⟩
        show wlw _ _ _ _ _ _ _ _ _ _ _ _ _ _ _ _ _ [some (vR _), some (vR _), some (vR _), some (vR _), some (vI _), _, _] [vI _] _ _
        refine y_aload C rfl ?_
        refine y_aload C rfl ?_
        refine y_iload C rfl ?_
        refine y_ci C ?_
        refine y_iadd C ?_
        refine y_83_0 C (hp0 hc) hN ⟨by omega, by omega⟩ ?_
        refine y_call C [vR _, vI _] [vI _] (by omega) (Nat.le_of_ble_eq_true rfl) rfl rfl (Nat.le_of_ble_eq_true rfl) ?_
        refine wpM_mono e2 (fun v h2 e => ?_)
        obtain ⟨u, rfl, hI2, rfl⟩ := e
        refine ⟨⟨rfl, rfl, rfl⟩, ?_⟩
        show wlw _ _ _ _ _ _ _ _ _ _ _ _ _ _ _ _ _ [some (vR _), some (vR _), some (vR _), some (vR _), some (vI _), _, _] [vI _, vI _] _ _
        refine y_icmp_eq C (fun _ => ?_) (fun c9 => absurd rfl c9)
        exact h54 _ _ hI2 (by omega)
      · refine y_aload C rfl ?_
        refine y_aload C rfl ?_
        refine y_iload C rfl ?_
        refine y_ci C ?_
        refine y_iadd C ?_
        refine y_83_0 C (hp0 hc) hN ⟨by omega, by omega⟩ ?_
        refine y_aload C rfl ?_
        refine y_iload C rfl ?_
        refine y_ci C ?_
        refine y_iadd C ?_
        refine y_83_0 C (hp0 hc) hN ⟨by omega, by omega⟩ ?_
        refine y_call C [vR _, vI _, vI _] [] (by omega) (Nat.le_of_ble_eq_true rfl) rfl rfl (Nat.le_of_ble_eq_true rfl) ?_
        refine wpM_mono (p_chance hI (by omega) (hxs _) (hxs _)) (fun v h2 e => ?_)
        obtain ⟨⟨r, rfl⟩, t, rfl, e2⟩ := e
        refine ⟨⟨rfl, rfl, rfl⟩, ?_⟩
        show wlw _ _ _ _ _ _ _ _ _ _ _ _ _ _ _ _ _ [some (vR _), some (vR _), some (vR _), some (vR _), some (vI _), _, _] [vI _] _ _
        refine y_aload C rfl ?_
        refine y_aload C rfl ?_
        refine y_iload C rfl ?_
        refine y_ci C ?_
        refine y_iadd C ?_
        refine y_83_0 C (hp0 hc) hN ⟨by omega, by omega⟩ ?_
        refine y_aload C rfl ?_
        refine y_iload C rfl ?_
        refine y_ci C ?_
        refine y_iadd C ?_
        refine y_83_0 C (hp0 hc) hN ⟨by omega, by omega⟩ ?_
        refine y_call C [vR _, vI _, vI _] [vI _] (by omega) (Nat.le_of_ble_eq_true rfl) rfl rfl (Nat.le_of_ble_eq_true rfl) ?_
        refine wpM_mono e2 (fun v h2 e => ?_)
        obtain ⟨u, rfl, hI2, rfl⟩ := e
        refine ⟨⟨rfl, rfl, rfl⟩, ?_⟩
        show wlw _ _ _ _ _ _ _ _ _ _ _ _ _ _ _ _ _ [some (vR _), some (vR _), some (vR _), some (vR _), some (vI _), _, _] [vI _, vI _] _ _
        refine y_icmp_eq C (fun _ => ?_) (fun c9 => absurd rfl c9)
        exact h54 _ _ hI2 (by omega)
      · refine y_aload C rfl ?_
        refine y_aload C rfl ?_
        refine y_iload C rfl ?_
        refine y_ci C ?_
        refine y_iadd C ?_
        refine y_83_0 C (hp0 hc) hN ⟨by omega, by omega⟩ ?_
        refine y_aload C rfl ?_
        refine y_iload C rfl ?_
        refine y_ci C ?_
        refine y_iadd C ?_
        refine y_83_0 C (hp0 hc) hN ⟨by omega, by omega⟩ ?_
        refine y_aload C rfl ?_
        refine y_iload C rfl ?_
        refine y_ci C ?_
        refine y_iadd C ?_
        refine y_83_0 C (hp0 hc) hN ⟨by omega, by omega⟩ ?_
        refine y_call C [vR _, vI _, vI _, vI _] [] (by omega) (Nat.le_of_ble_eq_true rfl) rfl rfl (Nat.le_of_ble_eq_true rfl) ?_
        refine wpM_mono (p_tried hI (by omega) (hxs _) (hxs _) (hxs _)) (fun v h2 e => ?_)
        obtain ⟨⟨r, rfl⟩, t, rfl, e2⟩ := e
        refine ⟨⟨rfl, rfl, rfl⟩, ?_⟩
        show wlw _ _ _ _ _ _ _ _ _ _ _ _ _ _ _ _ _ [some (vR _), some (vR _), some (vR _), some (vR _), some (vI _), _, _] [vI _] _ _
        refine y_aload C rfl ?_
        refine y_aload C rfl ?_
        refine y_iload C rfl ?_
        refine y_ci C ?_
        refine y_iadd C ?_
        refine y_83_0 C (hp0 hc) hN ⟨by omega, by omega⟩ ?_
        refine y_aload C rfl ?_
        refine y_iload C rfl ?_
        refine y_ci C ?_
        refine y_iadd C ?_
        refine y_83_0 C (hp0 hc) hN ⟨by omega, by omega⟩ ?_
        refine y_aload C rfl ?_
        refine y_iload C rfl ?_
        refine y_ci C ?_
        refine y_iadd C ?_
        refine y_83_0 C (hp0 hc) hN ⟨by omega, by omega⟩ ?_
        refine y_call C [vR _, vI _, vI _, vI _] [vI _] (by omega) (Nat.le_of_ble_eq_true rfl) rfl rfl (Nat.le_of_ble_eq_true rfl) ?_
        refine wpM_mono e2 (fun v h2 e => ?_)
        obtain ⟨u, rfl, hI2, rfl⟩ := e
        refine ⟨⟨rfl, rfl, rfl⟩, ?_⟩
        show wlw _ _ _ _ _ _ _ _ _ _ _ _ _ _ _ _ _ [some (vR _), some (vR _), some (vR _), some (vR _), some (vI _), _, _] [vI _, vI _] _ _
        refine y_icmp_eq C (fun _ => ?_) (fun c9 => absurd rfl c9)
        exact h54 _ _ hI2 (by omega)
      · refine y_aload C rfl ?_
        refine y_call C [vR _] [] (by omega) (Nat.le_of_ble_eq_true rfl) rfl rfl (Nat.le_of_ble_eq_true rfl) ?_
        refine wpM_mono (p_undo hI (by omega) ) (fun v h2 e => ?_)
        obtain ⟨⟨r, rfl⟩, t, rfl, e2⟩ := e
        refine ⟨⟨rfl, rfl, rfl⟩, ?_⟩
        show wlw _ _ _ _ _ _ _ _ _ _ _ _ _ _ _ _ _ [some (vR _), some (vR _), some (vR _), some (vR _), some (vI _), _, _] [vI _] _ _
        refine y_aload C rfl ?_
        refine y_call C [vR _] [vI _] (by omega) (Nat.le_of_ble_eq_true rfl) rfl rfl (Nat.le_of_ble_eq_true rfl) ?_
        refine wpM_mono e2 (fun v h2 e => ?_)
        obtain ⟨u, rfl, hI2, rfl⟩ := e
        refine ⟨⟨rfl, rfl, rfl⟩, ?_⟩
        show wlw _ _ _ _ _ _ _ _ _ _ _ _ _ _ _ _ _ [some (vR _), some (vR _), some (vR _), some (vR _), some (vI _), _, _] [vI _, vI _] _ _
        refine y_icmp_eq C (fun _ => ?_) (fun c9 => absurd rfl c9)
        exact h54 _ _ hI2 (by omega)
      · refine y_aload C rfl ?_
        refine y_call C [vR _] [] (by omega) (Nat.le_of_ble_eq_true rfl) rfl rfl (Nat.le_of_ble_eq_true rfl) ?_
        refine wpM_mono (p_keep hI (by omega) ) (fun v h2 e => ?_)
        obtain ⟨⟨r, rfl⟩, t, rfl, e2⟩ := e
        refine ⟨⟨rfl, rfl, rfl⟩, ?_⟩
        show wlw _ _ _ _ _ _ _ _ _ _ _ _ _ _ _ _ _ [some (vR _), some (vR _), some (vR _), some (vR _), some (vI _), _, _] [vI _] _ _
        refine y_aload C rfl ?_
        refine y_call C [vR _] [vI _] (by omega) (Nat.le_of_ble_eq_true rfl) rfl rfl (Nat.le_of_ble_eq_true rfl) ?_
        refine wpM_mono e2 (fun v h2 e => ?_)
        obtain ⟨u, rfl, hI2, rfl⟩ := e
        refine ⟨⟨rfl, rfl, rfl⟩, ?_⟩
        show wlw _ _ _ _ _ _ _ _ _ _ _ _ _ _ _ _ _ [some (vR _), some (vR _), some (vR _), some (vR _), some (vI _), _, _] [vI _, vI _] _ _
        refine y_icmp_eq C (fun _ => ?_) (fun c9 => absurd rfl c9)
        exact h54 _ _ hI2 (by omega)
      · refine y_aload C rfl ?_
        refine y_call C [vR _] [] (by omega) (Nat.le_of_ble_eq_true rfl) rfl rfl (Nat.le_of_ble_eq_true rfl) ?_
        refine wpM_mono (p_back hI (by omega) ) (fun v h2 e => ?_)
        obtain ⟨⟨r, rfl⟩, t, rfl, e2⟩ := e
        refine ⟨⟨rfl, rfl, rfl⟩, ?_⟩
        show wlw _ _ _ _ _ _ _ _ _ _ _ _ _ _ _ _ _ [some (vR _), some (vR _), some (vR _), some (vR _), some (vI _), _, _] [vI _] _ _
        refine y_aload C rfl ?_
        refine y_call C [vR _] [vI _] (by omega) (Nat.le_of_ble_eq_true rfl) rfl rfl (Nat.le_of_ble_eq_true rfl) ?_
        refine wpM_mono e2 (fun v h2 e => ?_)
        obtain ⟨u, rfl, hI2, rfl⟩ := e
        refine ⟨⟨rfl, rfl, rfl⟩, ?_⟩
        show wlw _ _ _ _ _ _ _ _ _ _ _ _ _ _ _ _ _ [some (vR _), some (vR _), some (vR _), some (vR _), some (vI _), _, _] [vI _, vI _] _ _
        refine y_icmp_eq C (fun _ => ?_) (fun c9 => absurd rfl c9)
        exact h54 _ _ hI2 (by omega)
      · refine y_aload C rfl ?_
        refine y_aload C rfl ?_
        refine y_iload C rfl ?_
        refine y_ci C ?_
        refine y_iadd C ?_
        refine y_83_0 C (hp0 hc) hN ⟨by omega, by omega⟩ ?_
        refine y_call C [vR _, vI _] [] (by omega) (Nat.le_of_ble_eq_true rfl) rfl rfl (Nat.le_of_ble_eq_true rfl) ?_
        refine wpM_mono (p_count hI (by omega) (hxs _)) (fun v h2 e => ?_)
        obtain ⟨⟨r, rfl⟩, t, rfl, e2⟩ := e
        refine ⟨⟨rfl, rfl, rfl⟩, ?_⟩
        show wlw _ _ _ _ _ _ _ _ _ _ _ _ _ _ _ _ _ [some (vR _), some (vR _), some (vR _), some (vR _), some (vI _), _, _] [vI _] _ _
        refine y_aload C rfl ?_
        refine y_aload C rfl ?_
        refine y_iload C rfl ?_
        refine y_ci C ?_
        refine y_iadd C ?_
        refine y_83_0 C (hp0 hc) hN ⟨by omega, by omega⟩ ?_
        refine y_call C [vR _, vI _] [vI _] (by omega) (Nat.le_of_ble_eq_true rfl) rfl rfl (Nat.le_of_ble_eq_true rfl) ?_
        refine wpM_mono e2 (fun v h2 e => ?_)
        obtain ⟨u, rfl, hI2, rfl⟩ := e
        refine ⟨⟨rfl, rfl, rfl⟩, ?_⟩
        show wlw _ _ _ _ _ _ _ _ _ _ _ _ _ _ _ _ _ [some (vR _), some (vR _), some (vR _), some (vR _), some (vI _), _, _] [vI _, vI _] _ _
        refine y_icmp_eq C (fun _ => ?_) (fun c9 => absurd rfl c9)
        exact h54 _ _ hI2 (by omega)
  exact L1 L 0 s 0 (by omega) hI
end LOOPQ
