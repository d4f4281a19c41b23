/-! SEARCH: make of the class -/
section PC8
variable {d tp : Nat} {h0 : pheap} {s : St} {Q : Option pv → pheap → Prop} {L pr : Int} {n zqq K N : Nat} {c c' : Int → Int}
theorem smod_f : ∀ m : Fin 31, ((Int32.ofInt ((m : Nat) : Int) &&& 31).toBitVec.smod 32) = BitVec.ofNat 32 (m : Nat) := by decide +kernel
theorem ishr_k {x : Int} {m : Nat} (h : 0 ≤ x ∧ x < 2147483648) (hm : m < 31) : i_shr x (m : Int) = x / 2 ^ m := by
  unfold i_shr
  have e : (Int32.ofInt x).toInt = x := Int32.toInt_ofInt_of_le (by omega) (by omega)
  rw [← Int32.toInt_toBitVec, Int32.toBitVec_shiftRight]
  have e3 := smod_f ⟨m, hm⟩
  rw [e3]
  show ((Int32.ofInt x).toBitVec.sshiftRight' (BitVec.ofNat 32 m)).toInt = _
  rw [BitVec.sshiftRight', BitVec.toInt_sshiftRight, Int32.toInt_toBitVec, e]
  rw [Int.shiftRight_eq_div_pow, BitVec.toNat_ofNat, Nat.mod_eq_of_lt (by omega)]
  simp
abbrev gdM (L pr : Int) : (Int → Int) → Nat → Bool := fun c n => decide (tpW L c n = 0 ∧ (bpO L c n 6).1 = pr)
theorem gdM_home : homeG L (gdM L pr) := fun c n h => (of_decide_eq_true h).1
theorem m_suitsM (hd : 13 ≤ d) (hp : PL 83 L n c s) (h4 : s 82 4 = pr) (hpr : 0 ≤ pr ∧ pr < 32768) (k : Q (some (vI (bI ((bpO L c n 6).1 = pr)))) (HP h0 s)) : wpM PP d 263 [vR 82] (HP h0 s) Q := by
  have wr := wC_R (L := L) (c := c) n
  have hn := hp.2.1
  obtain ⟨wb, wb2, wb3⟩ := wC_bp hp.hL hp.v
  have bR : 0 ≤ BC pr ∧ BC pr ≤ 15 := by
    rw [BC_PC hpr]
    exact PC_R 15 pr
  refine n_at (m := 263) (q := mr263) (kn := (0, 1)) [some (vR _)] mb263 rfl rfl (h_rcv sc_82) (Nat.le_of_ble_eq_true rfl) rfl rfl ?_
  refine x_aload rfl ?_
  refine h_getI 4 sc_82 rfl rfl ?_
  rw [h4]
  refine x_ci ?_
  refine n_icmp_eq ⟨by omega, by omega⟩ ⟨by omega, by omega⟩ (fun c1 => ?_) (fun c1 => ?_)
  · exfalso
    omega
  · refine x_aload rfl ?_
    refine h_getR sc_82 rfl (by omega) ?_
    refine h_getI 6 sc_83 rfl rfl ?_
    rw [hp.bound]
    refine x_aload rfl ?_
    refine h_getI 4 sc_82 rfl rfl ?_
    rw [h4]
    refine n_call [vI _] [vI _] (by omega) (Nat.le_of_ble_eq_true rfl) rfl rfl (Nat.le_of_ble_eq_true rfl) ?_
    refine m_bitCount ?_
    show wp PP _ _ _ [some (vR _)] [vI _, vI _] _ _
    refine n_icmp_ne ⟨by omega, by omega⟩ ⟨by omega, by omega⟩ (fun c2 => ?_) (fun c2 => ?_)
    · refine x_ci ?_
      refine x_fall ?_
      refine x_zret (by first | exact bI_01 _ | omega) ?_
      first
        | exact cI k (bI_t (by omega))
        | exact cI k (bI_f (fun y => by rw [y] at wb; omega))
        | exact cI k (bI_f (fun y => by omega))
    · refine x_aload rfl ?_
      refine h_getR sc_82 rfl (by omega) ?_
      refine n_call [vR _] [] (by omega) (Nat.le_of_ble_eq_true rfl) rfl rfl (Nat.le_of_ble_eq_true rfl) ?_
      refine m_boundPairs pl_83 (by omega) hp ?_
      show wp PP _ _ _ [some (vR _)] [vI _] _ _
      refine x_aload rfl ?_
      refine h_getI 4 sc_82 rfl rfl ?_
      rw [h4]
      refine n_icmp_ne ⟨by omega, by omega⟩ ⟨by omega, by omega⟩ (fun c3 => ?_) (fun c3 => ?_)
      · refine x_ci ?_
        refine x_fall ?_
        refine x_zret (by first | exact bI_01 _ | omega) ?_
        first
          | exact cI k (bI_t (by omega))
          | exact cI k (bI_f (fun y => by rw [y] at wb; omega))
          | exact cI k (bI_f (fun y => by omega))
      · refine x_ci ?_
        refine x_goto ?_
        refine x_zret (by first | exact bI_01 _ | omega) ?_
        first
          | exact cI k (bI_t (by omega))
          | exact cI k (bI_f (fun y => by rw [y] at wb; omega))
          | exact cI k (bI_f (fun y => by omega))
theorem m_seekM {L pr : Int} {K : Nat} (hpr : 0 ≤ pr ∧ pr < 32768) (hK : K = (2 * cnt L - 2).toNat) : ∀ (r : Nat) {d n : Nat} {c : Int → Int} {h0 : pheap} {s : St} {Q : Option pv → pheap → Prop} {dep : Int}, (hd : 14 + 2 * r ≤ d) → (hp : PL 83 L n c s) → (hn : n + r ≤ 52) → (h3 : s 82 3 = dep + r) → (hdep : 0 ≤ dep ∧ dep + r ≤ 4) → (h4 : s 82 4 = pr) → (kF : ∀ wqq, sfN (gdM L pr) K r c n = some wqq → ∀ tqq, (∀ i : Nat, i < r → tqq 89 (dep + i) = ((wqq.getD i 0 : Nat) : Int)) → (∀ q : Int, q < dep → tqq 89 q = s 89 q) → skF s tqq → Q (some (vI 1)) (HP h0 tqq)) → (kN : sfN (gdM L pr) K r c n = none → ∀ tqq, PL 83 L n c tqq → (∀ q : Int, q < dep → tqq 89 q = s 89 q) → skF s tqq → Q (some (vI 0)) (HP h0 tqq)) → wpM PP d 262 [vR 82, vI dep, vI (tpW L c n)] (HP h0 s) Q := by
  have hct := cnt_R L
  intro r
  induction r with
  | zero =>
    intro d n c h0 s Q dep hd hp hn h3 hdep h4 kF kN
    have tR := tpW_R (L := L) (c := c) (n := n)
    refine n_at (m := 262) (q := mr262) (kn := (0, 3)) [some (vR _), some (vI _), some (vI _), none, none, none, none] mb262 rfl rfl (h_rcv sc_82) (Nat.le_of_ble_eq_true rfl) rfl rfl ?_
    refine x_iload rfl ?_
    refine x_aload rfl ?_
    refine h_getI 3 sc_82 rfl rfl ?_
    rw [h3]
    refine n_icmp_ge ⟨by omega, by omega⟩ ⟨by omega, by omega⟩ (fun c1 => ?_) (fun c1 => ?_)
    · refine x_iload rfl ?_
      refine n_if_ne ⟨by omega, by omega⟩ (fun c2 => ?_) (fun c2 => ?_)
      · refine x_ci ?_
        refine x_fall ?_
        refine x_zret (by first | exact bI_01 _ | omega) ?_
        have g : ¬ gdM L pr c n = true := fun zqq => by
          have := (of_decide_eq_true zqq).1
          omega
        exact kN (if_neg g) s hp (fun q hq => rfl) (fun b r q1 q2 q3 q4 => rfl)
      · refine x_aload rfl ?_
        refine n_call [vR _] [] (by omega) (Nat.le_of_ble_eq_true rfl) rfl rfl (Nat.le_of_ble_eq_true rfl) ?_
        refine m_suitsM (by omega) hp h4 hpr ?_
        show wp PP _ _ _ _ [vI _] _ _
        by_cases y : (bpO L c n 6).1 = pr
        · have g : gdM L pr c n = true := decide_eq_true ⟨by omega, y⟩
          rw [bI_t y]
          refine n_if_eq ⟨by omega, by omega⟩ (fun zqq => by omega) (fun _ => ?_)
          refine x_ci ?_
          refine x_goto ?_
          refine x_zret (by decide) ?_
          exact kF [] (if_pos g) s (fun i hi => by omega) (fun q hq => rfl) (fun b r q1 q2 q3 q4 => rfl)
        · have g : ¬ gdM L pr c n = true := fun zqq => y ((of_decide_eq_true zqq).2)
          rw [bI_f y]
          refine n_if_eq ⟨by omega, by omega⟩ (fun _ => ?_) (fun zqq => absurd rfl zqq)
          refine x_ci ?_
          refine x_fall ?_
          refine x_zret (by decide) ?_
          exact kN (if_neg g) s hp (fun q hq => rfl) (fun b r q1 q2 q3 q4 => rfl)
    · refine x_iload rfl ?_
      refine x_aload rfl ?_
      refine h_getR sc_82 rfl (by omega) ?_
      refine h_alen 4 sc_89 (by decide) rfl ?_
      refine n_icmp_lt ⟨by omega, by omega⟩ ⟨by omega, by omega⟩ (fun c2 => ?_) (fun c2 => ?_)
      · exfalso
        omega
      · refine x_fall ?_
        refine x_iload rfl ?_
        refine n_if_ne ⟨by omega, by omega⟩ (fun c3 => ?_) (fun c3 => ?_)
        · refine x_ci ?_
          refine x_fall ?_
          refine x_zret (by first | exact bI_01 _ | omega) ?_
          have g : ¬ gdM L pr c n = true := fun zqq => by
            have := (of_decide_eq_true zqq).1
            omega
          exact kN (if_neg g) s hp (fun q hq => rfl) (fun b r q1 q2 q3 q4 => rfl)
        · refine x_aload rfl ?_
          refine n_call [vR _] [] (by omega) (Nat.le_of_ble_eq_true rfl) rfl rfl (Nat.le_of_ble_eq_true rfl) ?_
          refine m_suitsM (by omega) hp h4 hpr ?_
          show wp PP _ _ _ _ [vI _] _ _
          by_cases y : (bpO L c n 6).1 = pr
          · have g : gdM L pr c n = true := decide_eq_true ⟨by omega, y⟩
            rw [bI_t y]
            refine n_if_eq ⟨by omega, by omega⟩ (fun zqq => by omega) (fun _ => ?_)
            refine x_ci ?_
            refine x_goto ?_
            refine x_zret (by decide) ?_
            exact kF [] (if_pos g) s (fun i hi => by omega) (fun q hq => rfl) (fun b r q1 q2 q3 q4 => rfl)
          · have g : ¬ gdM L pr c n = true := fun zqq => y ((of_decide_eq_true zqq).2)
            rw [bI_f y]
            refine n_if_eq ⟨by omega, by omega⟩ (fun _ => ?_) (fun zqq => absurd rfl zqq)
            refine x_ci ?_
            refine x_fall ?_
            refine x_zret (by decide) ?_
            exact kN (if_neg g) s hp (fun q hq => rfl) (fun b r q1 q2 q3 q4 => rfl)
  | succ r ihr =>
    intro d n c h0 s Q dep hd hp hn h3 hdep h4 kF kN
    have tR := tpW_R (L := L) (c := c) (n := n)
    have L1 : ∀ M : Nat, ∀ {o5 o6 : Option pv} (j : Nat) (jj : Int) (tqq : St), (jj = j) → (M = K - j ∧ j ≤ K) → (PL 83 L n c tqq) → (∀ q : Int, q < dep → tqq 89 q = s 89 q) → (skF s tqq) → (sfF (fun i => sfN (gdM L pr) K r (csC c n (i : Int)) (n + 1)) 0 K = sfF (fun i => sfN (gdM L pr) K r (csC c n (i : Int)) (n + 1)) j (K - j)) →  wp PP d mb262 (mb262.getD 5 []) [some (vR 82), some (vI dep), some (vI (tpW L c n)), some (vI (K : Int)), some (vI jj), o5, o6] [] (HP h0 tqq) Q := by
      refine s_ind (fun M ih => ?_)
      intro o5 o6 j jj tqq hjj hM g1 g2 g4 g5
      subst hjj
      refine x_iload rfl ?_
      refine x_iload rfl ?_
      refine n_icmp_ge ⟨by omega, by omega⟩ ⟨by omega, by omega⟩ (fun c1 => ?_) (fun c1 => ?_)
      · refine x_ci ?_
        refine x_zret (by first | exact bI_01 _ | omega) ?_
        have ej : j = K := by omega
        subst ej
        rw [show j - j = 0 by omega] at g5
        exact kN g5 tqq g1 g2 g4
      · refine x_iload rfl ?_
        refine n_call [vI _] [] (by omega) (Nat.le_of_ble_eq_true rfl) rfl rfl (Nat.le_of_ble_eq_true rfl) ?_
        have hq : 0 ≤ (j : Int) ∧ (j : Int) < 2 * (cnt L - 1) := by omega
        refine m_placeOfCode ⟨by omega, by omega⟩ ?_
        show wp PP _ _ _ [some (vR _), some (vI _), some (vI _), some (vI _), some (vI _), _, _] [vI _] _ _
        refine n_istore [some (vR _), some (vI _), some (vI _), some (vI _), some (vI _), some (vI _), _] (Nat.le_of_ble_eq_true rfl) rfl ?_
        refine x_iload rfl ?_
        refine x_aload rfl ?_
        refine h_getR sc_82 rfl (by omega) ?_
        refine x_iload rfl ?_
        refine n_call [vR _, vI _] [vI _] (by omega) (Nat.le_of_ble_eq_true rfl) rfl rfl (Nat.le_of_ble_eq_true rfl) ?_
        have wa := wO_R hp.hL hp.v ((j : Int) / 2) (by omega) (by omega)
        refine m_standsAt pl_83 (by rw [g1.count]; omega) (by rw [g1.count]; omega) ?_
        rw [g1.order (by omega) (by omega)]
        show wp PP _ _ _ [some (vR _), some (vI _), some (vI _), some (vI _), some (vI _), some (vI _), _] [vI _, vI _] _ _
        refine x_aload rfl ?_
        refine h_getR sc_82 rfl (by omega) ?_
        refine x_iload rfl ?_
        refine x_ci ?_
        refine x_iadd ?_
        refine n_call [vR _, vI _] [vI _, vI _] (by omega) (Nat.le_of_ble_eq_true rfl) rfl rfl (Nat.le_of_ble_eq_true rfl) ?_
        have wb := wO_R hp.hL hp.v ((j : Int) / 2 + 1) (by omega) (by omega)
        refine m_standsAt pl_83 (by rw [g1.count]; omega) (by rw [g1.count]; omega) ?_
        rw [g1.order (by omega) (by omega)]
        show wp PP _ _ _ [some (vR _), some (vI _), some (vI _), some (vI _), some (vI _), some (vI _), _] [vI _, vI _, vI _] _ _
        refine n_icmp_ge ⟨by omega, by omega⟩ ⟨by omega, by omega⟩ (fun c2 => ?_) (fun c2 => ?_)
        · refine x_ci ?_
          refine x_fall ?_
          refine x_iadd ?_
          refine t_I (tpW L (csC c n (j : Int)) (n + 1)) (by
            rw [tpW_cs hp.hL hp.v hq]
            first
              | (rw [if_pos (by omega)])
              | (rw [if_neg (by omega)]
                 try omega)) ?_
          have tR := tpW_R (L := L) (c := csC c n (j : Int)) (n := n + 1)
          refine n_istore [some (vR _), some (vI _), some (vI _), some (vI _), some (vI _), some (vI _), some (vI _)] (Nat.le_of_ble_eq_true rfl) rfl ?_
          refine x_iload rfl ?_
          refine x_aload rfl ?_
          refine h_getI 3 sc_82 rfl rfl ?_
          rw [g4 82 3 (by omega) (by omega) (by omega) (by omega), h3]
          refine x_iload rfl ?_
          refine x_isub ?_
          refine x_ci ?_
          refine x_isub ?_
          refine n_icmp_gt ⟨by omega, by omega⟩ ⟨by omega, by omega⟩ (fun c3 => ?_) (fun c3 => ?_)
          · refine n_iinc [some (vR _), some (vI _), some (vI _), some (vI _), some (vI _), some (vI _), some (vI _)] rfl rfl ?_
            refine x_goto ?_
            obtain ⟨e, he⟩ : ∃ e, K - j = e + 1 := ⟨K - j - 1, by omega⟩
            have pr2 := prune (G := gdM L pr) hp.hL gdM_home hK r (csC_v hp.v hq) (show (r : Int) < tpW L (csC c n (j : Int)) (n + 1) by omega)
            rw [he] at g5
            refine ih e (by omega) (j + 1) _ tqq (by omega) (by omega) g1 g2 g4 ?_
            rw [show K - (j + 1) = e by omega]
            exact g5.trans (sfF_n pr2.1)
          · refine x_aload rfl ?_
            refine h_getR sc_82 rfl (by omega) ?_
            refine x_iload rfl ?_
            refine x_iload rfl ?_
            refine h_iast sc_89 ⟨by omega, by omega⟩ (by decide) ?_
            refine x_aload rfl ?_
            refine h_getR sc_82 rfl (by omega) ?_
            refine x_iload rfl ?_
            refine n_call [vR _, vI _] [] (by omega) (Nat.le_of_ble_eq_true rfl) rfl rfl (Nat.le_of_ble_eq_true rfl) ?_
            refine m_add (c := csC c n (j : Int)) pl_83 (by omega) ((g1.cg csC_lt).up (by omega)) (by omega) csC_n hq (fun uqq u1qq u2qq u3qq => ?_)
            show wp PP _ _ _ [some (vR _), some (vI _), some (vI _), some (vI _), some (vI _), some (vI _), some (vI _)] [] _ _
            refine x_aload rfl ?_
            refine x_iload rfl ?_
            refine x_ci ?_
            refine x_iadd ?_
            refine x_iload rfl ?_
            refine n_call [vR _, vI _, vI _] [] (by omega) (Nat.le_of_ble_eq_true rfl) rfl rfl (Nat.le_of_ble_eq_true rfl) ?_
            have fu : ∀ (b : Nat) (q : Int), ¬ (83 ≤ b ∧ b ≤ 86) → ¬ (b = 89 ∧ q = dep) → uqq b q = tqq b q := fun b q q1 q2 => by
              rw [u2qq b (by omega) q, up_f q2]
            have u89 : uqq 89 dep = (j : Int) := by rw [u2qq 89 (by omega) dep, up_e]
            obtain ⟨e, he⟩ : ∃ e, K - j = e + 1 := ⟨K - j - 1, by omega⟩
            rw [he] at g5
            refine ihr (by omega) u1qq (by omega) ((fu 82 3 (by omega) (by omega)).trans (by rw [g4 82 3 (by omega) (by omega) (by omega) (by omega), h3]; omega)) ⟨by omega, by omega⟩ ((fu 82 4 (by omega) (by omega)).trans ((g4 82 4 (by omega) (by omega) (by omega) (by omega)).trans h4)) (fun wqq fw vqq v1qq v2qq v3qq => ?_) (fun fn vqq v1qq v2qq v4qq => ?_)
            · show wp PP _ _ _ _ [vI _] _ _
              refine n_if_eq ⟨by omega, by omega⟩ (fun zqq => by omega) (fun _ => ?_)
              refine x_ci ?_
              refine x_zret (by decide) ?_
              refine kF (j :: wqq) ?_ vqq (fun i hi => ?_) (fun q hq2 => ?_) (fun b q q1 q2 q3 q4 => ?_)
              · show sfF (fun i => sfN (gdM L pr) K r (csC c n (i : Int)) (n + 1)) 0 K = _
                rw [g5]
                exact sfF_y fw
              · cases i with
                | zero =>
                  rw [show dep + ((0 : Nat) : Int) = dep by omega, v2qq dep (by omega), u89]
                  rfl
                | succ i =>
                  have := v1qq i (by omega)
                  rw [show dep + ((i + 1 : Nat) : Int) = dep + 1 + (i : Int) by omega, this]
                  rfl
              · rw [v2qq q (by omega), fu 89 q (by omega) (by omega)]
                exact g2 q hq2
              · rw [v3qq b q q1 q2 q3 q4, fu b q (by omega) (by omega)]
                exact g4 b q q1 q2 q3 q4
            · show wp PP _ _ _ _ [vI _] _ _
              refine n_if_eq ⟨by omega, by omega⟩ (fun _ => ?_) (fun zqq => absurd rfl zqq)
              refine x_aload rfl ?_
              refine h_getR sc_82 rfl (by omega) ?_
              refine n_call [vR _] [] (by omega) (Nat.le_of_ble_eq_true rfl) rfl rfl (Nat.le_of_ble_eq_true rfl) ?_
              refine m_dropLast pl_83 (by omega) v1qq (fun x y1 y2 y3 => ?_)
              show wp PP _ _ _ [some (vR _), some (vI _), some (vI _), some (vI _), some (vI _), some (vI _), some (vI _)] [] _ _
              refine x_fall ?_
              refine n_iinc [some (vR _), some (vI _), some (vI _), some (vI _), some (vI _), some (vI _), some (vI _)] rfl rfl ?_
              refine x_goto ?_
              refine ih e (by omega) (j + 1) _ x (by omega) (by omega) (y1.cg (fun i i0 i1 => (csC_lt i i0 i1).symm)) (fun q hq2 => ?_) (fun b q q1 q2 q3 q4 => ?_) ?_
              · rw [y2 89 (by omega) q, v2qq q (by omega), fu 89 q (by omega) (by omega)]
                exact g2 q hq2
              · rw [y2 b (by omega) q, v4qq b q q1 q2 q3 q4, fu b q (by omega) (by omega)]
                exact g4 b q q1 q2 q3 q4
              · rw [show K - (j + 1) = e by omega]
                exact g5.trans (sfF_n fn)
        · refine x_ci ?_
          refine x_goto ?_
          refine x_iadd ?_
          refine t_I (tpW L (csC c n (j : Int)) (n + 1)) (by
            rw [tpW_cs hp.hL hp.v hq]
            first
              | (rw [if_pos (by omega)])
              | (rw [if_neg (by omega)]
                 try omega)) ?_
          have tR := tpW_R (L := L) (c := csC c n (j : Int)) (n := n + 1)
          refine n_istore [some (vR _), some (vI _), some (vI _), some (vI _), some (vI _), some (vI _), some (vI _)] (Nat.le_of_ble_eq_true rfl) rfl ?_
          refine x_iload rfl ?_
          refine x_aload rfl ?_
          refine h_getI 3 sc_82 rfl rfl ?_
          rw [g4 82 3 (by omega) (by omega) (by omega) (by omega), h3]
          refine x_iload rfl ?_
          refine x_isub ?_
          refine x_ci ?_
          refine x_isub ?_
          refine n_icmp_gt ⟨by omega, by omega⟩ ⟨by omega, by omega⟩ (fun c3 => ?_) (fun c3 => ?_)
          · refine n_iinc [some (vR _), some (vI _), some (vI _), some (vI _), some (vI _), some (vI _), some (vI _)] rfl rfl ?_
            refine x_goto ?_
            obtain ⟨e, he⟩ : ∃ e, K - j = e + 1 := ⟨K - j - 1, by omega⟩
            have pr2 := prune (G := gdM L pr) hp.hL gdM_home hK r (csC_v hp.v hq) (show (r : Int) < tpW L (csC c n (j : Int)) (n + 1) by omega)
            rw [he] at g5
            refine ih e (by omega) (j + 1) _ tqq (by omega) (by omega) g1 g2 g4 ?_
            rw [show K - (j + 1) = e by omega]
            exact g5.trans (sfF_n pr2.1)
          · refine x_aload rfl ?_
            refine h_getR sc_82 rfl (by omega) ?_
            refine x_iload rfl ?_
            refine x_iload rfl ?_
            refine h_iast sc_89 ⟨by omega, by omega⟩ (by decide) ?_
            refine x_aload rfl ?_
            refine h_getR sc_82 rfl (by omega) ?_
            refine x_iload rfl ?_
            refine n_call [vR _, vI _] [] (by omega) (Nat.le_of_ble_eq_true rfl) rfl rfl (Nat.le_of_ble_eq_true rfl) ?_
            refine m_add (c := csC c n (j : Int)) pl_83 (by omega) ((g1.cg csC_lt).up (by omega)) (by omega) csC_n hq (fun uqq u1qq u2qq u3qq => ?_)
            show wp PP _ _ _ [some (vR _), some (vI _), some (vI _), some (vI _), some (vI _), some (vI _), some (vI _)] [] _ _
            refine x_aload rfl ?_
            refine x_iload rfl ?_
            refine x_ci ?_
            refine x_iadd ?_
            refine x_iload rfl ?_
            refine n_call [vR _, vI _, vI _] [] (by omega) (Nat.le_of_ble_eq_true rfl) rfl rfl (Nat.le_of_ble_eq_true rfl) ?_
            have fu : ∀ (b : Nat) (q : Int), ¬ (83 ≤ b ∧ b ≤ 86) → ¬ (b = 89 ∧ q = dep) → uqq b q = tqq b q := fun b q q1 q2 => by
              rw [u2qq b (by omega) q, up_f q2]
            have u89 : uqq 89 dep = (j : Int) := by rw [u2qq 89 (by omega) dep, up_e]
            obtain ⟨e, he⟩ : ∃ e, K - j = e + 1 := ⟨K - j - 1, by omega⟩
            rw [he] at g5
            refine ihr (by omega) u1qq (by omega) ((fu 82 3 (by omega) (by omega)).trans (by rw [g4 82 3 (by omega) (by omega) (by omega) (by omega), h3]; omega)) ⟨by omega, by omega⟩ ((fu 82 4 (by omega) (by omega)).trans ((g4 82 4 (by omega) (by omega) (by omega) (by omega)).trans h4)) (fun wqq fw vqq v1qq v2qq v3qq => ?_) (fun fn vqq v1qq v2qq v4qq => ?_)
            · show wp PP _ _ _ _ [vI _] _ _
              refine n_if_eq ⟨by omega, by omega⟩ (fun zqq => by omega) (fun _ => ?_)
              refine x_ci ?_
              refine x_zret (by decide) ?_
              refine kF (j :: wqq) ?_ vqq (fun i hi => ?_) (fun q hq2 => ?_) (fun b q q1 q2 q3 q4 => ?_)
              · show sfF (fun i => sfN (gdM L pr) K r (csC c n (i : Int)) (n + 1)) 0 K = _
                rw [g5]
                exact sfF_y fw
              · cases i with
                | zero =>
                  rw [show dep + ((0 : Nat) : Int) = dep by omega, v2qq dep (by omega), u89]
                  rfl
                | succ i =>
                  have := v1qq i (by omega)
                  rw [show dep + ((i + 1 : Nat) : Int) = dep + 1 + (i : Int) by omega, this]
                  rfl
              · rw [v2qq q (by omega), fu 89 q (by omega) (by omega)]
                exact g2 q hq2
              · rw [v3qq b q q1 q2 q3 q4, fu b q (by omega) (by omega)]
                exact g4 b q q1 q2 q3 q4
            · show wp PP _ _ _ _ [vI _] _ _
              refine n_if_eq ⟨by omega, by omega⟩ (fun _ => ?_) (fun zqq => absurd rfl zqq)
              refine x_aload rfl ?_
              refine h_getR sc_82 rfl (by omega) ?_
              refine n_call [vR _] [] (by omega) (Nat.le_of_ble_eq_true rfl) rfl rfl (Nat.le_of_ble_eq_true rfl) ?_
              refine m_dropLast pl_83 (by omega) v1qq (fun x y1 y2 y3 => ?_)
              show wp PP _ _ _ [some (vR _), some (vI _), some (vI _), some (vI _), some (vI _), some (vI _), some (vI _)] [] _ _
              refine x_fall ?_
              refine n_iinc [some (vR _), some (vI _), some (vI _), some (vI _), some (vI _), some (vI _), some (vI _)] rfl rfl ?_
              refine x_goto ?_
              refine ih e (by omega) (j + 1) _ x (by omega) (by omega) (y1.cg (fun i i0 i1 => (csC_lt i i0 i1).symm)) (fun q hq2 => ?_) (fun b q q1 q2 q3 q4 => ?_) ?_
              · rw [y2 89 (by omega) q, v2qq q (by omega), fu 89 q (by omega) (by omega)]
                exact g2 q hq2
              · rw [y2 b (by omega) q, v4qq b q q1 q2 q3 q4, fu b q (by omega) (by omega)]
                exact g4 b q q1 q2 q3 q4
              · rw [show K - (j + 1) = e by omega]
                exact g5.trans (sfF_n fn)
    refine n_at (m := 262) (q := mr262) (kn := (0, 3)) [some (vR _), some (vI _), some (vI _), none, none, none, none] mb262 rfl rfl (h_rcv sc_82) (Nat.le_of_ble_eq_true rfl) rfl rfl ?_
    refine x_iload rfl ?_
    refine x_aload rfl ?_
    refine h_getI 3 sc_82 rfl rfl ?_
    rw [h3]
    refine n_icmp_ge ⟨by omega, by omega⟩ ⟨by omega, by omega⟩ (fun c1 => ?_) (fun c1 => ?_)
    · exfalso
      omega
    · refine x_iload rfl ?_
      refine x_aload rfl ?_
      refine h_getR sc_82 rfl (by omega) ?_
      refine h_alen 4 sc_89 (by decide) rfl ?_
      refine n_icmp_lt ⟨by omega, by omega⟩ ⟨by omega, by omega⟩ (fun c2 => ?_) (fun c2 => ?_)
      · refine x_aload rfl ?_
        refine h_getR sc_82 rfl (by omega) ?_
        refine n_call [vR _] [] (by omega) (Nat.le_of_ble_eq_true rfl) rfl rfl (Nat.le_of_ble_eq_true rfl) ?_
        refine m_codeCount pl_83 (by omega) (by rw [hp.count]; omega) ?_
        rw [hp.count]
        refine t_I (K : Int) (by omega) ?_
        show wp PP _ _ _ [some (vR _), some (vI _), some (vI _), _, _, _, _] [vI _] _ _
        refine n_istore [some (vR _), some (vI _), some (vI _), some (vI _), _, _, _] (Nat.le_of_ble_eq_true rfl) rfl ?_
        refine x_ci ?_
        refine n_istore [some (vR _), some (vI _), some (vI _), some (vI _), some (vI _), _, _] (Nat.le_of_ble_eq_true rfl) rfl ?_
        refine x_fall ?_
        exact L1 K 0 0 s rfl (by omega) hp (fun q _ => rfl) (fun b r q1 q2 q3 q4 => rfl) rfl
      · refine x_fall ?_
        exfalso
        omega
theorem m_shortestM (hd : 26 ≤ d) (hp : PL 83 L n c s) {lg : Nat} (hlg : lg ≤ 4) (hn : n + lg ≤ 52) (hpr : 0 ≤ pr ∧ pr < 32768) (h4 : s 82 4 = pr) (kF : ∀ (r : Nat) (wqq : List Nat), shF (fun r => sfN (gdM L pr) (kOf L) r c n) 0 (lg + 1) = some (r, wqq) → r ≤ lg → ∀ tqq, (∀ i : Nat, i < r → tqq 89 i = ((wqq.getD i 0 : Nat) : Int)) → sFr s tqq → Q (some (vI (r : Int))) (HP h0 tqq)) (kN : shF (fun r => sfN (gdM L pr) (kOf L) r c n) 0 (lg + 1) = none → ∀ tqq, sFr s tqq → Q (some (vI (-2))) (HP h0 tqq)) : wpM PP d 259 [vR 82, vI (lg : Int)] (HP h0 s) Q := by
  have L1 : ∀ M : Nat, ∀ (j : Nat) (jj : Int) (tqq : St), (jj = j) → (M = lg + 1 - j ∧ j ≤ lg + 1) → (PL 83 L n c tqq) → (tqq 82 4 = pr) → (sFr s tqq) → (shF (fun r => sfN (gdM L pr) (kOf L) r c n) 0 (lg + 1) = shF (fun r => sfN (gdM L pr) (kOf L) r c n) j (lg + 1 - j)) →  wp PP d mb259 (mb259.getD 1 []) [some (vR 82), some (vI (lg : Int)), some (vI jj)] [] (HP h0 tqq) Q := by
    refine s_ind (fun M ih => ?_)
    intro j jj tqq hjj hM g1 g4 gF g2
    subst hjj
    refine x_iload rfl ?_
    refine x_iload rfl ?_
    refine n_icmp_gt ⟨by omega, by omega⟩ ⟨by omega, by omega⟩ (fun c1 => ?_) (fun c1 => ?_)
    · refine x_ci ?_
      refine x_iret ?_
      have ej : lg + 1 - j = 0 := by omega
      refine kN ?_ tqq gF
      rw [g2, ej]
      rfl
    · refine x_aload rfl ?_
      refine x_iload rfl ?_
      refine h_putI 3 sc_82 rfl rfl ?_
      refine x_aload rfl ?_
      refine x_ci ?_
      refine x_aload rfl ?_
      refine h_getR sc_82 rfl (by omega) ?_
      refine n_call [vR _] [vI _, vR _] (by omega) (Nat.le_of_ble_eq_true rfl) rfl rfl (Nat.le_of_ble_eq_true rfl) ?_
      refine m_turnedPairs pl_83 (by omega) (PL.up g1 (by omega)) ?_
      show wp PP _ _ _ [some (vR _), some (vI _), some (vI _)] [vI _, vI _, vR _] _ _
      refine n_call [vR _, vI _, vI _] [] (by omega) (Nat.le_of_ble_eq_true rfl) rfl rfl (Nat.le_of_ble_eq_true rfl) ?_
      have hn := g1.2.1
      refine m_seekM (pr := pr) hpr (K := kOf L) rfl j (dep := 0) (by omega) (g1.up (by omega)) (by omega) (by rw [up_e]; omega) (by omega) (by rw [up_i (by decide)]; exact g4) (fun wqq fw uqq u1qq u2qq u3qq => ?_) (fun fn uqq u1qq u2qq u4qq => ?_)
      · show wp PP _ _ _ _ [vI _] _ _
        refine n_if_eq ⟨by omega, by omega⟩ (fun zqq => by omega) (fun _ => ?_)
        refine x_iload rfl ?_
        refine x_iret ?_
        refine kF j wqq ?_ (by omega) uqq (fun i hi => ?_) (fun b q q1 q2 q3 => ?_)
        · rw [g2, show lg + 1 - j = (lg - j) + 1 by omega]
          exact shF_y fw
        · have := u1qq i hi
          rw [show (0 : Int) + (i : Int) = i by omega] at this
          exact this
        · rw [u3qq b q q1 (by omega) (by omega) (by omega), up_f (by omega)]
          exact gF b q q1 q2 q3
      · show wp PP _ _ _ _ [vI _] _ _
        refine n_if_eq ⟨by omega, by omega⟩ (fun _ => ?_) (fun zqq => absurd rfl zqq)
        refine n_iinc [_, _, _] rfl rfl ?_
        refine x_goto ?_
        refine ih (lg + 1 - (j + 1)) (by omega) (j + 1) _ uqq (by omega) (by omega) u1qq ?_ (fun b q q1 q2 q3 => ?_) ?_
        · rw [u4qq 82 4 (by omega) (by omega) (by omega) (by omega), up_i (by decide)]
          exact g4
        · rw [u4qq b q q1 (by omega) (by omega) (by omega), up_f (by omega)]
          exact gF b q q1 q2 q3
        · rw [g2, show lg + 1 - j = (lg + 1 - (j + 1)) + 1 by omega]
          exact shF_n fn
  refine n_at (m := 259) (q := mr259) (kn := (0, 2)) [some (vR _), some (vI _), none] mb259 rfl rfl (h_rcv sc_82) (Nat.le_of_ble_eq_true rfl) rfl rfl ?_
  refine x_aload rfl ?_
  refine x_ci ?_
  refine h_putZ 5 sc_82 rfl rfl (by first | exact bI_01 _ | omega) ?_
  refine x_ci ?_
  refine n_istore [some (vR _), some (vI _), some (vI _)] (Nat.le_of_ble_eq_true rfl) rfl ?_
  refine x_fall ?_
  refine L1 (lg + 1) 0 0 _ rfl (by omega) (hp.up (by omega)) ((up_i (by decide)).trans h4) (fun b q q1 q2 q3 => up_f (by omega)) rfl
/-- how many pairs there are -/
def apN (L : Int) : Nat := (cnt L * (cnt L - 1) / 2).toNat
theorem apN_is (L : Int) : cnt L * (cnt L - 1) = 2 * (apN L : Int) ∧ apN L ≤ 15 := by
  have h := cnt_R L
  have e : cnt L = 0 ∨ cnt L = 1 ∨ cnt L = 2 ∨ cnt L = 3 ∨ cnt L = 4 ∨ cnt L = 5 ∨ cnt L = 6 := by omega
  unfold apN
  rcases e with e | e | e | e | e | e | e <;> rw [e] <;> decide
abbrev mkS (L pr : Int) : Nat → Option (List Nat) := fun r => sfN (gdM L pr) (kOf L) r c00 0
abbrev mkOk (L pr wqq : Int) : Prop := 0 ≤ pr ∧ pr < 2 ^ apN L ∧ 0 ≤ wqq ∧ wqq ≤ 4
theorem pw_15 {k : Nat} (h : k ≤ 15) : (2 : Int) ^ k ≤ 32768 := by
  obtain ⟨i, hi⟩ : ∃ i, 15 = k + i := ⟨15 - k, by omega⟩
  have := pw_le k i
  rw [← hi] at this
  exact this
theorem m_make (hd : 30 ≤ d) (hp : PL 54 L n c s) {wqq : Int} (hw : iR wqq) (hpr : iR pr) (kY : mkOk L pr wqq → ∀ tqq, lkC tp s tqq → Q (some (vI (bkA (shF (mkS L pr) 0 5) wqq))) (HP h0 tqq)) (kN : ¬ mkOk L pr wqq → Q (some (vI (-1))) (HP h0 s)) : wpM PP d 28 [vR 32, vI pr, vI wqq] (HP h0 s) Q := by
  have hct := cnt_R L
  have ap := apN_is L
  have pw := pw_pos (apN L)
  have p15 := pw_15 ap.2
  refine n_at (m := 28) (q := mr28) (kn := (0, 3)) [some (vR _), some (vI _), some (vI _), none, none] mb28 rfl rfl (h_rcv sc_32) (Nat.le_of_ble_eq_true rfl) rfl rfl ?_
  refine x_aload rfl ?_
  refine h_getR sc_32 rfl (by omega) ?_
  refine h_getR sc_53 rfl (by omega) ?_
  refine h_getI 4 sc_54 rfl rfl ?_
  rw [hp.count]
  refine n_istore [some (vR _), some (vI _), some (vI _), some (vI _), _] (Nat.le_of_ble_eq_true rfl) rfl ?_
  refine x_iload rfl ?_
  refine x_iload rfl ?_
  refine x_ci ?_
  refine x_isub ?_
  refine x_imul ?_
  refine t_I (2 * (apN L : Int)) ap.1 ?_
  refine x_ci ?_
  refine n_idiv ⟨by omega, by omega⟩ ⟨by omega, by omega⟩ ?_
  refine t_I (apN L : Int) (by omega) ?_
  refine n_istore [some (vR _), some (vI _), some (vI _), some (vI _), some (vI _)] (Nat.le_of_ble_eq_true rfl) rfl ?_
  refine x_iload rfl ?_
  refine n_if_lt ⟨by omega, by omega⟩ (fun c1 => ?_) (fun c1 => ?_)
  · refine x_ci ?_
    refine x_iret ?_
    first
      | exact kN (fun q => by have := q.2.1; have := q.2.2; have := q.1; omega)
      | exact kN (fun q => by
          have q1 := q.2.1
          have q2 := q.1
          have := Int.ediv_eq_zero_of_lt q2 q1
          omega)
  · refine x_iload rfl ?_
    refine x_ci ?_
    refine n_icmp_gt ⟨by omega, by omega⟩ ⟨by omega, by omega⟩ (fun c2 => ?_) (fun c2 => ?_)
    · refine x_ci ?_
      refine x_iret ?_
      first
        | exact kN (fun q => by have := q.2.1; have := q.2.2; have := q.1; omega)
        | exact kN (fun q => by
            have q1 := q.2.1
            have q2 := q.1
            have := Int.ediv_eq_zero_of_lt q2 q1
            omega)
    · refine x_iload rfl ?_
      refine n_if_lt ⟨by omega, by omega⟩ (fun c3 => ?_) (fun c3 => ?_)
      · refine x_ci ?_
        refine x_iret ?_
        first
          | exact kN (fun q => by have := q.2.1; have := q.2.2; have := q.1; omega)
          | exact kN (fun q => by
              have q1 := q.2.1
              have q2 := q.1
              have := Int.ediv_eq_zero_of_lt q2 q1
              omega)
      · refine x_iload rfl ?_
        refine x_iload rfl ?_
        refine x_ishr ?_
        rw [ishr_k (by omega) (by omega)]
        have dv := Int.ediv_nonneg (a := pr) (b := 2 ^ apN L) (by omega) (by omega)
        have dv2 := Int.ediv_le_self (a := pr) (2 ^ apN L) (by omega)
        refine n_if_eq ⟨by omega, by omega⟩ (fun c4 => ?_) (fun c4 => ?_)
        · refine x_aload rfl ?_
          refine h_getR sc_32 rfl (by omega) ?_
          refine x_aload rfl ?_
          refine h_getR sc_32 rfl (by omega) ?_
          refine h_getR sc_53 rfl (by omega) ?_
          refine h_getI 3 sc_54 rfl rfl ?_
          rw [hp.left]
          refine x_iload rfl ?_
          refine n_call [vR _, vI _, vI _] [] (by omega) (Nat.le_of_ble_eq_true rfl) rfl rfl (Nat.le_of_ble_eq_true rfl) ?_
          refine m_beginMake (c := c00) (by omega) hp.hL (fun tqq t1qq t2qq t3qq => ?_)
          show wp PP _ _ _ [some (vR _), some (vI _), some (vI _), some (vI _), some (vI _)] [] _ _
          refine x_aload rfl ?_
          refine h_getR sc_32 rfl (by omega) ?_
          refine x_aload rfl ?_
          refine h_getR sc_32 rfl (by omega) ?_
          refine x_ci ?_
          refine n_call [vR _, vI _] [vR _] (by omega) (Nat.le_of_ble_eq_true rfl) rfl rfl (Nat.le_of_ble_eq_true rfl) ?_
          have okk : mkOk L pr wqq := ⟨by omega, by
            by_cases q : pr < 2 ^ apN L
            · exact q
            · exfalso
              have := Int.le_ediv_of_mul_le pw (show 1 * 2 ^ apN L ≤ pr by omega)
              omega, by omega, by omega⟩
          have fr0 : ∀ uqq, sFr tqq uqq → lkC tp s uqq := fun uqq g b q q1 q2 q3 q4 => by
            rw [g b q (by omega) (by omega) (by omega)]
            exact t3qq b q (by omega) (by omega)
          have ok2 := okk.2.1
          refine m_shortestM (lg := 4) (pr := pr) (by omega) t1qq (by omega) (by omega) ⟨by omega, by omega⟩ t2qq (fun r l fl hr uqq u1qq u2qq => ?_) (fun fn uqq u2qq => ?_)
          · show wp PP _ _ _ _ [vI _, vR _] _ _
            refine x_iload rfl ?_
            refine n_call [vR _, vI _, vI _] [] (by omega) (Nat.le_of_ble_eq_true rfl) rfl rfl (Nat.le_of_ble_eq_true rfl) ?_
            have e : bkA (shF (mkS L pr) 0 5) wqq = if wqq = 0 then (r : Int) else if 0 < wqq ∧ wqq ≤ r then ((l.getD (wqq.toNat - 1) 0 : Nat) : Int) else -2 := by
              rw [fl]
              rfl
            refine m_stold (by omega) ⟨by omega, by omega⟩ hw (fun y => ?_) (fun y => ?_) (fun y y2 => ?_)
            · show wp PP _ _ _ _ [vI _] _ _
              refine x_iret ?_
              refine cI (kY okk uqq (fr0 uqq u2qq)) ?_
              rw [e, if_pos y]
            · show wp PP _ _ _ _ [vI _] _ _
              refine x_iret ?_
              refine cI (kY okk uqq (fr0 uqq u2qq)) ?_
              have := u1qq (wqq.toNat - 1) (by omega)
              rw [show ((wqq.toNat - 1 : Nat) : Int) = wqq - 1 by omega] at this
              rw [e, if_neg (by omega), if_pos y, this]
            · show wp PP _ _ _ _ [vI _] _ _
              refine x_iret ?_
              refine cI (kY okk uqq (fr0 uqq u2qq)) ?_
              rw [e, if_neg y, if_neg y2]
          · show wp PP _ _ _ _ [vI _, vR _] _ _
            refine x_iload rfl ?_
            refine n_call [vR _, vI _, vI _] [] (by omega) (Nat.le_of_ble_eq_true rfl) rfl rfl (Nat.le_of_ble_eq_true rfl) ?_
            have e : bkA (shF (mkS L pr) 0 5) wqq = -2 := by
              rw [fn]
              rfl
            refine m_stold (by omega) ⟨by omega, by omega⟩ hw (fun y => ?_) (fun y => ?_) (fun y y2 => ?_)
            · show wp PP _ _ _ _ [vI _] _ _
              refine x_iret ?_
              exact cI (kY okk uqq (fr0 uqq u2qq)) e
            · exfalso
              omega
            · show wp PP _ _ _ _ [vI _] _ _
              refine x_iret ?_
              exact cI (kY okk uqq (fr0 uqq u2qq)) e
        · refine x_fall ?_
          refine x_ci ?_
          refine x_iret ?_
          first
            | exact kN (fun q => by have := q.2.1; have := q.2.2; have := q.1; omega)
            | exact kN (fun q => by
                have q1 := q.2.1
                have q2 := q.1
                have := Int.ediv_eq_zero_of_lt q2 q1
                omega)
end PC8
