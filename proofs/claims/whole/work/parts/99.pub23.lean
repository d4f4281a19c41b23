/-! FITS of the reference -/
section PB5
variable {d tp : Nat} {h0 : pheap} {s : St} {Q : Option pv → pheap → Prop} {L : Int} {n zqq K N : Nat} {c c' : Int → Int} {kf : Int} {kd on ot mu ia : Int → Int}
theorem r_fits (hd : 14 ≤ d) (hr0 : RD 0 L n c s) (hr : RN zqq kf kd on ot mu ia s) (ho : okR zqq kf kd on ot mu ia) {x : Int} (hx : iR x) (kY : 0 ≤ x ∧ x < n → ∀ tqq, lkN s tqq → Q (some (vI (ftA L n c x zqq kf kd on ot mu ia (2 * cnt L - 2).toNat))) (HP h0 tqq)) (kN : ¬ (0 ≤ x ∧ x < n) → Q (some (vI (-1))) (HP h0 (up s 94 0 0))) : wpM PP d 176 [vR 94, vI x] (HP h0 s) Q := by
  have hct := cnt_R L
  have kzR := kz_R ho
  have hkf : -1 ≤ kf ∧ kf ≤ 24 := by
    have := ho.1
    have := ho.2.1
    have := ho.2.2.1
    omega
  obtain ⟨hL, hn, hv, r1, r2, r3⟩ := hr0
  have hr0 : RD 0 L n c s := ⟨hL, hn, hv, r1, r2, r3⟩
  have LL7 : (hxn : 0 ≤ x ∧ x < n) → ∀ uqq : St, RD 1 L n c uqq → (∀ (b : Nat) (r : Int), ¬ (114 ≤ b ∧ b ≤ 117) → ¬ b = 129 → ¬ (b = 94 ∧ r = 0) → ¬ (106 ≤ b ∧ b ≤ 112 ∧ r = 1) → ¬ (b = 113 ∧ 48 ≤ r ∧ r < 96) → uqq b r = s b r) → (∀ r : Int, 0 ≤ r → r < kz zqq kf → uqq 129 r = ftX kd on zqq kf r) → wp PP d mb176 (mb176.getD 7 []) [some (vR 94), some (vI x), some (vI 0), some (vI 0)] [] (HP h0 uqq) Q := by
    intro hxn u0qq h1 h2 h3
    have L7 : ∀ M : Nat, ∀ (k : Nat) (kk : Int) (wqq : Int) (cc : Int → Int) (tqq : St), (kk = k) → (M = 10 - k ∧ k ≤ 10 ∧ (k : Int) ≤ max 0 (2 * cnt L - 2)) → (wqq = ftA L n c x zqq kf kd on ot mu ia k) → (RD 1 L n cc tqq) → (∀ q : Int, q ≠ x → 0 ≤ q → q < n → cc q = c q) → ((∀ (b : Nat) (r : Int), ¬ (114 ≤ b ∧ b ≤ 117) → ¬ b = 129 → ¬ (b = 94 ∧ r = 0) → ¬ (106 ≤ b ∧ b ≤ 112 ∧ r = 1) → ¬ (b = 113 ∧ 48 ≤ r ∧ r < 96) → tqq b r = s b r)) → (∀ r : Int, 0 ≤ r → r < kz zqq kf → tqq 129 r = ftX kd on zqq kf r) →  wp PP d mb176 (mb176.getD 7 []) [some (vR 94), some (vI x), some (vI wqq), some (vI kk)] [] (HP h0 tqq) Q := by
      refine s_ind (fun M ih => ?_)
      intro k kk wqq cc tqq hkk hM hw g1 g2 g3 g81
      subst hkk
      have wR : 0 ≤ ftA L n c x zqq kf kd on ot mu ia k ∧ ftA L n c x zqq kf kd on ot mu ia k < 2 ^ k := ftA_R k
      have pc := pow_cap (k := k) (by omega)
      rw [← hw] at wR
      refine x_iload rfl ?_
      refine x_aload rfl ?_
      refine x_ci ?_
      refine n_call [vR _, vI _] [vI _] (by omega) (Nat.le_of_ble_eq_true rfl) rfl rfl (Nat.le_of_ble_eq_true rfl) ?_
      refine r_codesOf (f := 0) (by omega) (by omega) (by rw [g3 111 0 (by omega) (by omega) (by omega) (by omega) (by omega), r1]; exact hL) ?_
      rw [g3 111 0 (by omega) (by omega) (by omega) (by omega) (by omega), r1]
      show wp PP _ _ _ [some (vR _), some (vI _), some (vI _), some (vI _)] [vI _, vI _] _ _
      refine n_icmp_ge ⟨by omega, by omega⟩ ⟨by omega, by omega⟩ (fun c1 => ?_) (fun c1 => ?_)
      · refine x_iload rfl ?_
        refine x_iret ?_
        have e : k = (2 * cnt L - 2).toNat := by omega
        refine cI (kY hxn tqq (fun b r q1 q2 q3 q4 q5 q6 q7 => g3 b r (by omega) (by omega) (by omega) (by omega) (by omega))) ?_
        rw [hw, e]
      · refine x_aload rfl ?_
        refine h_getR sc_94 rfl (by omega) ?_
        refine x_ci ?_
        refine x_iload rfl ?_
        refine x_iadd ?_
        refine x_iload rfl ?_
        refine h_iast sc_113 ⟨by omega, by omega⟩ (by decide) ?_
        refine x_iload rfl ?_
        refine x_aload rfl ?_
        refine x_ci ?_
        refine n_call [vR _, vI _] [vI _] (by omega) (Nat.le_of_ble_eq_true rfl) rfl rfl (Nat.le_of_ble_eq_true rfl) ?_
        obtain ⟨y1, y2, y3, y4, y5, y6⟩ := g1
        have hru : RN zqq kf kd on ot mu ia (up tqq 113 (48 + x) k) := ⟨(up_a (by decide)).trans ((g3 94 50 (by omega) (by omega) (by omega) (by omega) (by omega)).trans hr.1), (up_a (by decide)).trans ((g3 94 51 (by omega) (by omega) (by omega) (by omega) (by omega)).trans hr.2.1), fun i i0 i1 => by
          have := hr.2.2 i i0 i1
          rw [up_a (by decide), up_a (by decide), up_a (by decide), up_a (by decide), up_a (by decide), g3 124 i (by omega) (by omega) (by omega) (by omega) (by omega), g3 125 i (by omega) (by omega) (by omega) (by omega) (by omega), g3 126 i (by omega) (by omega) (by omega) (by omega) (by omega), g3 127 i (by omega) (by omega) (by omega) (by omega) (by omega), g3 128 i (by omega) (by omega) (by omega) (by omega) (by omega)]
          exact this⟩
        have hru2 : RD 1 L n (ftC c x k) (up tqq 113 (48 + x) k) := ⟨hL, hn, ftC_v hv (by omega), (up_a (by decide)).trans y4, (up_a (by decide)).trans y5, fun i i0 i1 => by
          unfold ftC
          by_cases e : i = x
          · rw [e, show (48 : Int) * 1 + x = 48 + x by omega, up_e, if_pos rfl]
          · rw [up_i (by omega), if_neg e, y6 i i0 i1]
            exact g2 i e i0 i1⟩
        refine r_areSo (f := 1) (X := ftX kd on zqq kf) (by omega) (by omega) hru2 hru ho (fun r q0 q1 => (up_a (by decide)).trans (g81 r q0 q1)) (fun r => stF_R _ _) (fun uqq u1qq => ?_)
        have fu : ∀ (b : Nat) (r : Int), ¬ (114 ≤ b ∧ b ≤ 117) → ¬ (b = 113 ∧ r = 48 + x) → uqq b r = tqq b r := fun b r q1 q2 => by
          rw [u1qq b (by omega) r, up_f q2]
        show wp PP _ _ _ [some (vR _), some (vI _), some (vI _), some (vI _)] [vI _, vI _] _ _
        refine z_if_eq (fun c2 => ?_) (fun c2 => ?_)
        · refine x_ci ?_
          refine x_fall ?_
          refine x_ior ?_
          first
            | rw [or_bit (by omega) (by rw [hw, show ((k : Nat) : Int).toNat = k by omega]; exact ftA_R k), show ((k : Nat) : Int).toNat = k by omega]
            | rw [or_zero (by omega) (by omega)]
          refine n_istore [some (vR _), some (vI _), some (vI _), some (vI _)] (Nat.le_of_ble_eq_true rfl) rfl ?_
          refine n_iinc [some (vR _), some (vI _), some (vI _), some (vI _)] rfl rfl ?_
          refine x_goto ?_
          refine ih (10 - (k + 1)) (by omega) (k + 1) _ _ (ftC c x k) uqq (by omega) (by omega) ?_ ⟨hL, hn, ftC_v hv (by omega), (fu 111 1 (by omega) (by omega)).trans y4, (fu 112 1 (by omega) (by omega)).trans y5, fun i i0 i1 => (u1qq 113 (by omega) _).trans (hru2.2.2.2.2.2 i i0 i1)⟩ (fun q e q0 q1 => if_neg e) (fun b r q1 q2 q3 q4 q5 => ?_) (fun r q0 q1 => (fu 129 r (by omega) (by omega)).trans (g81 r q0 q1))
          · simp only [ftA]
            rw [if_neg (by assumption), hw]
            omega
          · rw [fu b r q1 (by omega)]
            exact g3 b r q1 q2 q3 q4 q5
        · refine x_ci ?_
          refine x_iload rfl ?_
          refine x_ishl ?_
          refine x_goto ?_
          refine x_ior ?_
          first
            | rw [or_bit (by omega) (by rw [hw, show ((k : Nat) : Int).toNat = k by omega]; exact ftA_R k), show ((k : Nat) : Int).toNat = k by omega]
            | rw [or_zero (by omega) (by omega)]
          refine n_istore [some (vR _), some (vI _), some (vI _), some (vI _)] (Nat.le_of_ble_eq_true rfl) rfl ?_
          refine n_iinc [some (vR _), some (vI _), some (vI _), some (vI _)] rfl rfl ?_
          refine x_goto ?_
          refine ih (10 - (k + 1)) (by omega) (k + 1) _ _ (ftC c x k) uqq (by omega) (by omega) ?_ ⟨hL, hn, ftC_v hv (by omega), (fu 111 1 (by omega) (by omega)).trans y4, (fu 112 1 (by omega) (by omega)).trans y5, fun i i0 i1 => (u1qq 113 (by omega) _).trans (hru2.2.2.2.2.2 i i0 i1)⟩ (fun q e q0 q1 => if_neg e) (fun b r q1 q2 q3 q4 q5 => ?_) (fun r q0 q1 => (fu 129 r (by omega) (by omega)).trans (g81 r q0 q1))
          · simp only [ftA]
            rw [if_pos (by assumption), hw]
          · rw [fu b r q1 (by omega)]
            exact g3 b r q1 q2 q3 q4 q5
    exact L7 10 0 0 0 c u0qq rfl (by omega) rfl h1 (fun _ _ _ _ => rfl) h2 h3
  have LL4 : (hxn : 0 ≤ x ∧ x < n) → ∀ (uqq : St) (oo : Option pv), (∀ (b : Nat) (r : Int), ¬ b = 129 → ¬ (b = 94 ∧ r = 0) → uqq b r = s b r) → (∀ r : Int, 0 ≤ r → r < kz zqq kf → uqq 129 r = 0) → wp PP d mb176 (mb176.getD 4 []) [some (vR 94), some (vI x), some (vI (kz zqq kf - 1)), oo] [] (HP h0 uqq) Q := by
    intro hxn u0qq oo h2 h3
    have L4 : ∀ M : Nat, ∀ {o3 : Option pv} (k : Nat) (kk : Int) (tqq : St), (kk = (k : Int) - 1) → (M = k ∧ (k : Int) ≤ kz zqq kf) → (∀ r : Int, 0 ≤ r → r < kz zqq kf → tqq 129 r = stF kd on (kz zqq kf) (kz zqq kf - (k : Int)).toNat r) → ((∀ (b : Nat) (r : Int), ¬ b = 129 → ¬ (b = 94 ∧ r = 0) → tqq b r = s b r)) →  wp PP d mb176 (mb176.getD 4 []) [some (vR 94), some (vI x), some (vI kk), o3] [] (HP h0 tqq) Q := by
      refine s_ind (fun M ih => ?_)
      intro o3 k kk tqq hkk hM g1 g2
      refine x_iload rfl ?_
      refine n_if_lt ⟨by omega, by omega⟩ (fun c1 => ?_) (fun c1 => ?_)
      · refine x_aload rfl ?_
        refine x_ci ?_
        refine x_ci ?_
        refine n_call [vR _, vI _, vI _] [] (by omega) (Nat.le_of_ble_eq_true rfl) rfl rfl (Nat.le_of_ble_eq_true rfl) ?_
        refine r_copies (to := 1) (as := 0) (n := n) (by omega) (by omega) (by omega) ((g2 112 0 (by omega) (by omega)).trans r2) hn (fun uqq u1qq => ?_)
        have hrt : RD 0 L n c tqq := ⟨hL, hn, hv, (g2 111 0 (by omega) (by omega)).trans r1, (g2 112 0 (by omega) (by omega)).trans r2, fun i i0 i1 => (g2 113 _ (by omega) (by omega)).trans (r3 i i0 i1)⟩
        show wp PP _ _ _ [some (vR _), some (vI _), some (vI _), _] [] _ _
        refine x_ci ?_
        refine n_istore [some (vR _), some (vI _), some (vI _), _] (Nat.le_of_ble_eq_true rfl) rfl ?_
        refine x_ci ?_
        refine n_istore [some (vR _), some (vI _), some (vI _), some (vI _)] (Nat.le_of_ble_eq_true rfl) rfl ?_
        refine x_fall ?_
        refine LL7 hxn uqq (u1qq.rd hrt) (fun b r q1 q2 q3 q4 q5 => ?_) (fun r q0 q1 => ?_)
        · rw [u1qq.1 b r q4 (by omega)]
          exact g2 b r q2 q3
        · rw [u1qq.1 129 r (by omega) (by omega), g1 r q0 q1]
          unfold ftX
          congr 1
          omega
      · obtain ⟨j, hj⟩ : ∃ j : Nat, k = j + 1 := ⟨k - 1, by omega⟩
        subst hj
        obtain ⟨rj1, rj2, rj3⟩ := hr.2.2 j (by omega) (by omega)
        have oj := ho.2.2.2 j (by omega) (by omega)
        refine x_aload rfl ?_
        refine h_getR sc_94 rfl (by omega) ?_
        refine x_iload rfl ?_
        refine h_bald2 sc_129 ⟨by omega, by omega⟩ (by decide) ?_
        have st01 := stF_R (kd := kd) (on := on) (K := kz zqq kf) (kz zqq kf - ((j + 1 : Nat) : Int)).toNat (j : Int)
        rw [show kk = (j : Int) by omega, g1 j (by omega) (by omega)]
        refine n_if_ne ⟨by omega, by omega⟩ (fun c2 => ?_) (fun c2 => ?_)
        · refine n_iinc [some (vR _), some (vI _), some (vI _), _] rfl rfl ?_
          refine x_goto ?_
          have gj := g1 j (by omega) (by omega)
          refine ih j (by omega) j _ tqq (by omega) (by omega) (fun r q0 q1 => ?_) g2
          rw [show (kz zqq kf - (j : Int)).toNat = (kz zqq kf - ((j + 1 : Nat) : Int)).toNat + 1 by omega]
          simp only [stF]
          rw [show kz zqq kf - 1 - (((kz zqq kf - ((j + 1 : Nat) : Int)).toNat : Nat) : Int) = j by omega]
          rw [if_neg (by omega)]
          exact g1 r q0 q1
        · refine x_aload rfl ?_
          refine h_getR sc_94 rfl (by omega) ?_
          refine x_iload rfl ?_
          refine h_iald sc_124 ⟨by omega, by omega⟩ (by decide) ?_
          rw [g2 124 j (by omega) (by omega), rj1]
          refine x_ci ?_
          refine n_icmp_ne ⟨by omega, by omega⟩ ⟨by omega, by omega⟩ (fun c3 => ?_) (fun c3 => ?_)
          · refine n_iinc [some (vR _), some (vI _), some (vI _), _] rfl rfl ?_
            refine x_goto ?_
            have gj := g1 j (by omega) (by omega)
            refine ih j (by omega) j _ tqq (by omega) (by omega) (fun r q0 q1 => ?_) g2
            rw [show (kz zqq kf - (j : Int)).toNat = (kz zqq kf - ((j + 1 : Nat) : Int)).toNat + 1 by omega]
            simp only [stF]
            rw [show kz zqq kf - 1 - (((kz zqq kf - ((j + 1 : Nat) : Int)).toNat : Nat) : Int) = j by omega]
            rw [if_neg (by omega)]
            exact g1 r q0 q1
          · refine x_aload rfl ?_
            refine h_getR sc_94 rfl (by omega) ?_
            refine x_aload rfl ?_
            refine h_getR sc_94 rfl (by omega) ?_
            refine x_iload rfl ?_
            refine h_iald sc_125 ⟨by omega, by omega⟩ (by decide) ?_
            rw [g2 125 j (by omega) (by omega), rj2]
            refine x_ci ?_
            refine h_bast2 sc_129 ⟨by omega, by omega⟩ (by decide) ?_
            refine x_fall ?_
            refine n_iinc [some (vR _), some (vI _), some (vI _), _] rfl rfl ?_
            refine x_goto ?_
            have gj := g1 j (by omega) (by omega)
            refine ih j (by omega) j _ _ (by omega) (by omega) (fun r q0 q1 => ?_) (fun b r q1 q2 => (up_a (by omega)).trans (g2 b r q1 q2))
            rw [show (kz zqq kf - (j : Int)).toNat = (kz zqq kf - ((j + 1 : Nat) : Int)).toNat + 1 by omega]
            simp only [stF]
            rw [show kz zqq kf - 1 - (((kz zqq kf - ((j + 1 : Nat) : Int)).toNat : Nat) : Int) = j by omega]
            rw [if_pos ⟨by omega, by omega⟩]
            by_cases e : r = on j
            · rw [e, up_e, if_pos rfl]
              rfl
            · rw [up_i e, if_neg e]
              exact g1 r q0 q1
    refine L4 (kz zqq kf).toNat (kz zqq kf).toNat (kz zqq kf - 1) u0qq (by omega) (by omega) (fun r q0 q1 => ?_) h2
    rw [show (kz zqq kf - (((kz zqq kf).toNat : Nat) : Int)).toNat = 0 by omega]
    exact h3 r q0 q1
  have LL2 : (hxn : 0 ≤ x ∧ x < n) → ∀ (uqq : St) (oo : Option pv), (∀ (b : Nat) (r : Int), ¬ b = 129 → ¬ (b = 94 ∧ r = 0) → uqq b r = s b r) → wp PP d mb176 (mb176.getD 2 []) [some (vR 94), some (vI x), some (vI 0), oo] [] (HP h0 uqq) Q := by
    intro hxn u0qq oo h2
    have L2 : ∀ M : Nat, ∀ {o3 : Option pv} (k : Nat) (kk : Int) (tqq : St), (kk = k) → (M = 24 - k ∧ (k : Int) ≤ kz zqq kf) → (∀ r : Int, 0 ≤ r → r < k → tqq 129 r = 0) → ((∀ (b : Nat) (r : Int), ¬ b = 129 → ¬ (b = 94 ∧ r = 0) → tqq b r = s b r)) →  wp PP d mb176 (mb176.getD 2 []) [some (vR 94), some (vI x), some (vI kk), o3] [] (HP h0 tqq) Q := by
      refine s_ind (fun M ih => ?_)
      intro o3 k kk tqq hkk hM g1 g2
      subst hkk
      refine x_iload rfl ?_
      refine x_aload rfl ?_
      refine n_call [vR _] [vI _] (by omega) (Nat.le_of_ble_eq_true rfl) rfl rfl (Nat.le_of_ble_eq_true rfl) ?_
      refine r_knownMany ((g2 94 50 (by omega) (by omega)).trans hr.1) ((g2 94 51 (by omega) (by omega)).trans hr.2.1) hkf ?_
      show wp PP _ _ _ [some (vR _), some (vI _), some (vI _), _] [vI _, vI _] _ _
      refine n_icmp_ge ⟨by omega, by omega⟩ ⟨by omega, by omega⟩ (fun c1 => ?_) (fun c1 => ?_)
      · refine x_aload rfl ?_
        refine n_call [vR _] [] (by omega) (Nat.le_of_ble_eq_true rfl) rfl rfl (Nat.le_of_ble_eq_true rfl) ?_
        refine r_knownMany ((g2 94 50 (by omega) (by omega)).trans hr.1) ((g2 94 51 (by omega) (by omega)).trans hr.2.1) hkf ?_
        show wp PP _ _ _ [some (vR _), some (vI _), some (vI _), _] [vI _] _ _
        refine x_ci ?_
        refine x_isub ?_
        refine n_istore [some (vR _), some (vI _), some (vI _), _] (Nat.le_of_ble_eq_true rfl) rfl ?_
        refine x_fall ?_
        exact LL4 hxn tqq _ g2 (fun r q0 q1 => g1 r q0 (by omega))
      · refine x_aload rfl ?_
        refine h_getR sc_94 rfl (by omega) ?_
        refine x_iload rfl ?_
        refine x_ci ?_
        refine h_bast2 sc_129 ⟨by omega, by omega⟩ (by decide) ?_
        refine n_iinc [some (vR _), some (vI _), some (vI _), _] rfl rfl ?_
        refine x_goto ?_
        refine ih (24 - (k + 1)) (by omega) (k + 1) _ _ (by omega) (by omega) (fun r q0 q1 => ?_) (fun b r q1 q2 => (up_a (by omega)).trans (g2 b r q1 q2))
        by_cases e : r = k
        · rw [e, up_e]
          first | rfl | decide
        · rw [up_i e]
          exact g1 r q0 (by omega)
    exact L2 24 0 0 u0qq rfl (by omega) (fun r q0 q1 => by omega) h2
  refine n_at (m := 176) (q := mr176) (kn := (0, 2)) [some (vR _), some (vI _), none, none] mb176 rfl rfl (h_rcv sc_94) (Nat.le_of_ble_eq_true rfl) rfl rfl ?_
  refine x_aload rfl ?_
  refine x_ci ?_
  refine h_putI 0 sc_94 rfl rfl ?_
  refine x_aload rfl ?_
  refine x_iload rfl ?_
  refine n_call [vR _, vI _] [] (by omega) (Nat.le_of_ble_eq_true rfl) rfl rfl (Nat.le_of_ble_eq_true rfl) ?_
  refine r_isCrossing (by rw [up_a (by decide), r2]; omega) ⟨by omega, by omega⟩ ?_
  rw [up_a (b := 112) (by decide), r2]
  show wp PP _ _ _ [some (vR _), some (vI _), _, _] [vI _] _ _
  refine z_if_ne (fun c1 => ?_) (fun c1 => ?_)
  · refine x_ci ?_
    refine n_istore [some (vR _), some (vI _), some (vI _), _] (Nat.le_of_ble_eq_true rfl) rfl ?_
    refine x_fall ?_
    exact LL2 (by omega) _ _ (fun b r q1 q2 => up_f (by omega))
  · refine x_ci ?_
    refine x_iret ?_
    exact kN (by omega)
end PB5
