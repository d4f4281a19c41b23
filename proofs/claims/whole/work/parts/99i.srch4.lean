/-! SEARCH: seek of the class for LOOSE rows -/
section PC5
theorem sfF_s {F : Nat → Option (List Nat)} {j k : Nat} : sfF F j (k + 1) = match F j with
    | some wqq => some (j :: wqq)
    | none => sfF F (j + 1) k := rfl
theorem sfF_y {F : Nat → Option (List Nat)} {j k : Nat} {wqq : List Nat} (h : F j = some wqq) : sfF F j (k + 1) = some (j :: wqq) := by
  rw [sfF_s, h]
theorem sfF_n {F : Nat → Option (List Nat)} {j k : Nat} (h : F j = none) : sfF F j (k + 1) = sfF F (j + 1) k := by
  rw [sfF_s, h]
theorem tpW_R {L : Int} {c : Int → Int} {n : Nat} : 0 ≤ tpW L c n ∧ tpW L c n ≤ 36 := by
  have hct := cnt_R L
  have r := tpO_R (wO L c n) (cnt L).toNat (cnt L).toNat
  have := Nat.mul_le_mul (show (cnt L).toNat ≤ 6 by omega) (show (cnt L).toNat ≤ 6 by omega)
  have e := Int.natCast_mul (cnt L).toNat (cnt L).toNat
  unfold tpW
  omega
theorem m_seekB {L cf : Int} {K : Nat} (hcf : cf = 0 ∨ cf = 1) (hK : K = (2 * cnt L - 2).toNat) : ∀ (r : Nat) {d n : Nat} {c : Int → Int} {h0 : pheap} {s : St} {Q : Option pv → pheap → Prop} {fo dep : Int}, (hd : 14 + 2 * r ≤ d) → (hp : PL 83 L n c s) → (hn : n + r ≤ 52) → (h3 : s 82 3 = dep + r) → (hdep : 0 ≤ dep ∧ dep + r ≤ 4) → (h4 : s 82 4 = -1) → (h5 : s 82 5 = cf) → (h6 : s 82 6 = fo) → (kF : cf = 0 → ∀ wqq, sfN (gdB L) K r c n = some wqq → ∀ tqq, (∀ i : Nat, i < r → tqq 89 (dep + i) = ((wqq.getD i 0 : Nat) : Int)) → (∀ q : Int, q < dep → tqq 89 q = s 89 q) → skF s tqq → Q (some (vI 1)) (HP h0 tqq)) → (kN : (cf = 1 ∨ sfN (gdB L) K r c n = none) → ∀ tqq, PL 83 L n c tqq → (∀ q : Int, q < dep → tqq 89 q = s 89 q) → tqq 82 6 = fo + (if cf = 1 then scN (gdB L) K r c n else 0) → skF s tqq → Q (some (vI 0)) (HP h0 tqq)) → wpM PP d 262 [vR 82, vI dep, vI (tpW L c n)] (HP h0 s) Q := by
  have hct := cnt_R L
  intro r
  induction r with
  | zero =>
    intro d n c h0 s Q fo dep hd hp hn h3 hdep h4 h5 h6 kF kN
    have tR := tpW_R (L := L) (c := c) (n := n)
    refine n_at (m := 262) (q := mr262) (kn := (0, 3)) [some (vR _), some (vI _), some (vI _), none, none, none, none] mb262 rfl rfl (h_rcv sc_82) (Nat.le_of_ble_eq_true rfl) rfl rfl ?_
    refine x_iload rfl ?_
    refine x_aload rfl ?_
    refine h_getI 3 sc_82 rfl rfl ?_
    rw [h3]
    refine n_icmp_ge ⟨by omega, by omega⟩ ⟨by omega, by omega⟩ (fun c1 => ?_) (fun c1 => ?_)
    · refine x_iload rfl ?_
      refine n_if_ne ⟨by omega, by omega⟩ (fun c2 => ?_) (fun c2 => ?_)
      · refine x_ci ?_
        refine x_fall ?_
        refine x_zret (by first | exact bI_01 _ | omega) ?_
        have g : ¬ gdB L c n = true := fun zqq => by
          have := (of_decide_eq_true zqq).1
          omega
        refine kN (Or.inr (if_neg g)) s hp (fun q hq => rfl) ?_ (fun b r q1 q2 q3 q4 => rfl)
        show s 82 6 = fo + (if cf = 1 then (if gdB L c n = true then 1 else 0) else 0)
        rw [if_neg g, h6]
        split <;> omega
      · refine x_aload rfl ?_
        refine n_call [vR _] [] (by omega) (Nat.le_of_ble_eq_true rfl) rfl rfl (Nat.le_of_ble_eq_true rfl) ?_
        refine m_suitsB (by omega) hp h4 h5 hcf h6 (fun y uqq u1qq u2qq => ?_) (fun y uqq u1qq => ?_)
        · have g : gdB L c n = true := decide_eq_true ⟨by omega, y.1, y.2⟩
          show wp PP _ _ _ _ [vI _] _ _
          refine n_if_eq ⟨by omega, by omega⟩ (fun zqq => ?_) (fun zqq => ?_)
          · refine x_ci ?_
            refine x_fall ?_
            refine x_zret (by decide) ?_
            refine kN (Or.inl (by omega)) uqq (PLout hp (fun b q1 q2 r => u2qq b r (by omega) (by omega))) (fun q hq => u2qq 89 q (by omega) (by omega)) ?_ (fun b r q1 q2 q3 q4 => u2qq b r q2 q4)
            rw [u1qq, if_pos (by omega)]
            show fo + 1 = fo + (if gdB L c n = true then 1 else 0)
            rw [if_pos g]
          · refine x_ci ?_
            refine x_goto ?_
            refine x_zret (by decide) ?_
            exact kF (by omega) [] (if_pos g) uqq (fun i hi => by omega) (fun q hq => u2qq 89 q (by omega) (by omega)) (fun b r q1 q2 q3 q4 => u2qq b r q2 q4)
        · have g : ¬ gdB L c n = true := fun zqq => y ((of_decide_eq_true zqq).2)
          show wp PP _ _ _ _ [vI _] _ _
          refine n_if_eq ⟨by omega, by omega⟩ (fun _ => ?_) (fun zqq => absurd rfl zqq)
          refine x_ci ?_
          refine x_fall ?_
          refine x_zret (by decide) ?_
          refine kN (Or.inr (if_neg g)) uqq (PLout hp (fun b q1 q2 r => u1qq b r (by omega))) (fun q hq => u1qq 89 q (by omega)) ?_ (fun b r q1 q2 q3 q4 => u1qq b r q2)
          rw [u1qq 82 6 (by omega), h6]
          show fo = fo + (if cf = 1 then (if gdB L c n = true then 1 else 0) else 0)
          rw [if_neg g]
          split <;> omega
    · refine x_iload rfl ?_
      refine x_aload rfl ?_
      refine h_getR sc_82 rfl (by omega) ?_
      refine h_alen 4 sc_89 (by decide) rfl ?_
      refine n_icmp_lt ⟨by omega, by omega⟩ ⟨by omega, by omega⟩ (fun c2 => ?_) (fun c2 => ?_)
      · exfalso
        omega
      · refine x_fall ?_
        refine x_iload rfl ?_
        refine n_if_ne ⟨by omega, by omega⟩ (fun c3 => ?_) (fun c3 => ?_)
        · refine x_ci ?_
          refine x_fall ?_
          refine x_zret (by first | exact bI_01 _ | omega) ?_
          have g : ¬ gdB L c n = true := fun zqq => by
            have := (of_decide_eq_true zqq).1
            omega
          refine kN (Or.inr (if_neg g)) s hp (fun q hq => rfl) ?_ (fun b r q1 q2 q3 q4 => rfl)
          show s 82 6 = fo + (if cf = 1 then (if gdB L c n = true then 1 else 0) else 0)
          rw [if_neg g, h6]
          split <;> omega
        · refine x_aload rfl ?_
          refine n_call [vR _] [] (by omega) (Nat.le_of_ble_eq_true rfl) rfl rfl (Nat.le_of_ble_eq_true rfl) ?_
          refine m_suitsB (by omega) hp h4 h5 hcf h6 (fun y uqq u1qq u2qq => ?_) (fun y uqq u1qq => ?_)
          · have g : gdB L c n = true := decide_eq_true ⟨by omega, y.1, y.2⟩
            show wp PP _ _ _ _ [vI _] _ _
            refine n_if_eq ⟨by omega, by omega⟩ (fun zqq => ?_) (fun zqq => ?_)
            · refine x_ci ?_
              refine x_fall ?_
              refine x_zret (by decide) ?_
              refine kN (Or.inl (by omega)) uqq (PLout hp (fun b q1 q2 r => u2qq b r (by omega) (by omega))) (fun q hq => u2qq 89 q (by omega) (by omega)) ?_ (fun b r q1 q2 q3 q4 => u2qq b r q2 q4)
              rw [u1qq, if_pos (by omega)]
              show fo + 1 = fo + (if gdB L c n = true then 1 else 0)
              rw [if_pos g]
            · refine x_ci ?_
              refine x_goto ?_
              refine x_zret (by decide) ?_
              exact kF (by omega) [] (if_pos g) uqq (fun i hi => by omega) (fun q hq => u2qq 89 q (by omega) (by omega)) (fun b r q1 q2 q3 q4 => u2qq b r q2 q4)
          · have g : ¬ gdB L c n = true := fun zqq => y ((of_decide_eq_true zqq).2)
            show wp PP _ _ _ _ [vI _] _ _
            refine n_if_eq ⟨by omega, by omega⟩ (fun _ => ?_) (fun zqq => absurd rfl zqq)
            refine x_ci ?_
            refine x_fall ?_
            refine x_zret (by decide) ?_
            refine kN (Or.inr (if_neg g)) uqq (PLout hp (fun b q1 q2 r => u1qq b r (by omega))) (fun q hq => u1qq 89 q (by omega)) ?_ (fun b r q1 q2 q3 q4 => u1qq b r q2)
            rw [u1qq 82 6 (by omega), h6]
            show fo = fo + (if cf = 1 then (if gdB L c n = true then 1 else 0) else 0)
            rw [if_neg g]
            split <;> omega
  | succ r ihr =>
    intro d n c h0 s Q fo dep hd hp hn h3 hdep h4 h5 h6 kF kN
    have tR := tpW_R (L := L) (c := c) (n := n)
    have L1 : ∀ M : Nat, ∀ {o5 o6 : Option pv} (j : Nat) (jj : Int) (tqq : St), (jj = j) → (M = K - j ∧ j ≤ K) → (PL 83 L n c tqq) → (∀ q : Int, q < dep → tqq 89 q = s 89 q) → (tqq 82 6 + (if cf = 1 then scF (fun i => scN (gdB L) K r (csC c n (i : Int)) (n + 1)) j (K - j) else 0) = fo + (if cf = 1 then scF (fun i => scN (gdB L) K r (csC c n (i : Int)) (n + 1)) 0 K else 0)) → (skF s tqq) → (cf = 1 ∨ sfF (fun i => sfN (gdB L) K r (csC c n (i : Int)) (n + 1)) 0 K = sfF (fun i => sfN (gdB L) K r (csC c n (i : Int)) (n + 1)) j (K - j)) →  wp PP d mb262 (mb262.getD 5 []) [some (vR 82), some (vI dep), some (vI (tpW L c n)), some (vI (K : Int)), some (vI jj), o5, o6] [] (HP h0 tqq) Q := by
      refine s_ind (fun M ih => ?_)
      intro o5 o6 j jj tqq hjj hM g1 g2 g3 g4 g5
      subst hjj
      refine x_iload rfl ?_
      refine x_iload rfl ?_
      refine n_icmp_ge ⟨by omega, by omega⟩ ⟨by omega, by omega⟩ (fun c1 => ?_) (fun c1 => ?_)
      · refine x_ci ?_
        refine x_zret (by first | exact bI_01 _ | omega) ?_
        have ej : j = K := by omega
        subst ej
        rw [show j - j = 0 by omega] at g3 g5
        refine kN ?_ tqq g1 g2 ?_ g4
        · rcases g5 with g5 | g5
          · exact Or.inl g5
          · exact Or.inr g5
        · rw [← (show _ = fo + (if cf = 1 then scN (gdB L) j (r + 1) c n else 0) from g3)]
          show tqq 82 6 = tqq 82 6 + (if cf = 1 then 0 else 0)
          split <;> omega
      · refine x_iload rfl ?_
        refine n_call [vI _] [] (by omega) (Nat.le_of_ble_eq_true rfl) rfl rfl (Nat.le_of_ble_eq_true rfl) ?_
        have hq : 0 ≤ (j : Int) ∧ (j : Int) < 2 * (cnt L - 1) := by omega
        refine m_placeOfCode ⟨by omega, by omega⟩ ?_
        show wp PP _ _ _ [some (vR _), some (vI _), some (vI _), some (vI _), some (vI _), _, _] [vI _] _ _
        refine n_istore [some (vR _), some (vI _), some (vI _), some (vI _), some (vI _), some (vI _), _] (Nat.le_of_ble_eq_true rfl) rfl ?_
        refine x_iload rfl ?_
        refine x_aload rfl ?_
        refine h_getR sc_82 rfl (by omega) ?_
        refine x_iload rfl ?_
        refine n_call [vR _, vI _] [vI _] (by omega) (Nat.le_of_ble_eq_true rfl) rfl rfl (Nat.le_of_ble_eq_true rfl) ?_
        have wa := wO_R hp.hL hp.v ((j : Int) / 2) (by omega) (by omega)
        refine m_standsAt pl_83 (by rw [g1.count]; omega) (by rw [g1.count]; omega) ?_
        rw [g1.order (by omega) (by omega)]
        show wp PP _ _ _ [some (vR _), some (vI _), some (vI _), some (vI _), some (vI _), some (vI _), _] [vI _, vI _] _ _
        refine x_aload rfl ?_
        refine h_getR sc_82 rfl (by omega) ?_
        refine x_iload rfl ?_
        refine x_ci ?_
        refine x_iadd ?_
        refine n_call [vR _, vI _] [vI _, vI _] (by omega) (Nat.le_of_ble_eq_true rfl) rfl rfl (Nat.le_of_ble_eq_true rfl) ?_
        have wb := wO_R hp.hL hp.v ((j : Int) / 2 + 1) (by omega) (by omega)
        refine m_standsAt pl_83 (by rw [g1.count]; omega) (by rw [g1.count]; omega) ?_
        rw [g1.order (by omega) (by omega)]
        show wp PP _ _ _ [some (vR _), some (vI _), some (vI _), some (vI _), some (vI _), some (vI _), _] [vI _, vI _, vI _] _ _
        refine n_icmp_ge ⟨by omega, by omega⟩ ⟨by omega, by omega⟩ (fun c2 => ?_) (fun c2 => ?_)
        · refine x_ci ?_
          refine x_fall ?_
          refine x_iadd ?_
          refine t_I (tpW L (csC c n (j : Int)) (n + 1)) (by
            rw [tpW_cs hp.hL hp.v hq]
            first
              | (rw [if_pos (by omega)])
              | (rw [if_neg (by omega)]
                 try omega)) ?_
          have tR := tpW_R (L := L) (c := csC c n (j : Int)) (n := n + 1)
          refine n_istore [some (vR _), some (vI _), some (vI _), some (vI _), some (vI _), some (vI _), some (vI _)] (Nat.le_of_ble_eq_true rfl) rfl ?_
          refine x_iload rfl ?_
          refine x_aload rfl ?_
          refine h_getI 3 sc_82 rfl rfl ?_
          rw [g4 82 3 (by omega) (by omega) (by omega) (by omega), h3]
          refine x_iload rfl ?_
          refine x_isub ?_
          refine x_ci ?_
          refine x_isub ?_
          refine n_icmp_gt ⟨by omega, by omega⟩ ⟨by omega, by omega⟩ (fun c3 => ?_) (fun c3 => ?_)
          · refine n_iinc [some (vR _), some (vI _), some (vI _), some (vI _), some (vI _), some (vI _), some (vI _)] rfl rfl ?_
            refine x_goto ?_
            obtain ⟨e, he⟩ : ∃ e, K - j = e + 1 := ⟨K - j - 1, by omega⟩
            have pr := prune hp.hL gdB_home hK r (csC_v hp.v hq) (show (r : Int) < tpW L (csC c n (j : Int)) (n + 1) by omega)
            rw [he] at g3 g5
            refine ih e (by omega) (j + 1) _ tqq (by omega) (by omega) g1 g2 ?_ g4 ?_
            · rw [show K - (j + 1) = e by omega, ← g3]
              congr 1
              split
              · show _ = scN (gdB L) K r (csC c n (j : Int)) (n + 1) + _
                rw [pr.2]
                omega
              · rfl
            · rw [show K - (j + 1) = e by omega]
              rcases g5 with g5 | g5
              · exact Or.inl g5
              · exact Or.inr (g5.trans (sfF_n pr.1))
          · refine x_aload rfl ?_
            refine h_getR sc_82 rfl (by omega) ?_
            refine x_iload rfl ?_
            refine x_iload rfl ?_
            refine h_iast sc_89 ⟨by omega, by omega⟩ (by decide) ?_
            refine x_aload rfl ?_
            refine h_getR sc_82 rfl (by omega) ?_
            refine x_iload rfl ?_
            refine n_call [vR _, vI _] [] (by omega) (Nat.le_of_ble_eq_true rfl) rfl rfl (Nat.le_of_ble_eq_true rfl) ?_
            refine m_add (c := csC c n (j : Int)) pl_83 (by omega) ((g1.cg csC_lt).up (by omega)) (by omega) csC_n hq (fun uqq u1qq u2qq u3qq => ?_)
            show wp PP _ _ _ [some (vR _), some (vI _), some (vI _), some (vI _), some (vI _), some (vI _), some (vI _)] [] _ _
            refine x_aload rfl ?_
            refine x_iload rfl ?_
            refine x_ci ?_
            refine x_iadd ?_
            refine x_iload rfl ?_
            refine n_call [vR _, vI _, vI _] [] (by omega) (Nat.le_of_ble_eq_true rfl) rfl rfl (Nat.le_of_ble_eq_true rfl) ?_
            have fu : ∀ (b : Nat) (q : Int), ¬ (83 ≤ b ∧ b ≤ 86) → ¬ (b = 89 ∧ q = dep) → uqq b q = tqq b q := fun b q q1 q2 => by
              rw [u2qq b (by omega) q, up_f q2]
            have u89 : uqq 89 dep = (j : Int) := by rw [u2qq 89 (by omega) dep, up_e]
            obtain ⟨e, he⟩ : ∃ e, K - j = e + 1 := ⟨K - j - 1, by omega⟩
            rw [he] at g3 g5
            refine ihr (by omega) u1qq (by omega) ((fu 82 3 (by omega) (by omega)).trans (by rw [g4 82 3 (by omega) (by omega) (by omega) (by omega), h3]; omega)) ⟨by omega, by omega⟩ ((fu 82 4 (by omega) (by omega)).trans ((g4 82 4 (by omega) (by omega) (by omega) (by omega)).trans h4)) ((fu 82 5 (by omega) (by omega)).trans ((g4 82 5 (by omega) (by omega) (by omega) (by omega)).trans h5)) (fu 82 6 (by omega) (by omega)) (fun f0 wqq fw vqq v1qq v2qq v3qq => ?_) (fun fn vqq v1qq v2qq v3qq v4qq => ?_)
            · show wp PP _ _ _ _ [vI _] _ _
              refine n_if_eq ⟨by omega, by omega⟩ (fun zqq => by omega) (fun _ => ?_)
              refine x_ci ?_
              refine x_zret (by decide) ?_
              refine kF f0 (j :: wqq) ?_ vqq (fun i hi => ?_) (fun q hq2 => ?_) (fun b q q1 q2 q3 q4 => ?_)
              · rcases g5 with g5 | g5
                · omega
                · show sfF (fun i => sfN (gdB L) K r (csC c n (i : Int)) (n + 1)) 0 K = _
                  rw [g5]
                  exact sfF_y fw
              · cases i with
                | zero =>
                  rw [show dep + ((0 : Nat) : Int) = dep by omega, v2qq dep (by omega), u89]
                  rfl
                | succ i =>
                  have := v1qq i (by omega)
                  rw [show dep + ((i + 1 : Nat) : Int) = dep + 1 + (i : Int) by omega, this]
                  rfl
              · rw [v2qq q (by omega), fu 89 q (by omega) (by omega)]
                exact g2 q hq2
              · rw [v3qq b q q1 q2 q3 q4, fu b q (by omega) (by omega)]
                exact g4 b q q1 q2 q3 q4
            · show wp PP _ _ _ _ [vI _] _ _
              refine n_if_eq ⟨by omega, by omega⟩ (fun _ => ?_) (fun zqq => absurd rfl zqq)
              refine x_aload rfl ?_
              refine h_getR sc_82 rfl (by omega) ?_
              refine n_call [vR _] [] (by omega) (Nat.le_of_ble_eq_true rfl) rfl rfl (Nat.le_of_ble_eq_true rfl) ?_
              refine m_dropLast pl_83 (by omega) v1qq (fun x y1 y2 y3 => ?_)
              show wp PP _ _ _ [some (vR _), some (vI _), some (vI _), some (vI _), some (vI _), some (vI _), some (vI _)] [] _ _
              refine x_fall ?_
              refine n_iinc [some (vR _), some (vI _), some (vI _), some (vI _), some (vI _), some (vI _), some (vI _)] rfl rfl ?_
              refine x_goto ?_
              refine ih e (by omega) (j + 1) _ x (by omega) (by omega) (y1.cg (fun i i0 i1 => (csC_lt i i0 i1).symm)) (fun q hq2 => ?_) ?_ (fun b q q1 q2 q3 q4 => ?_) ?_
              · rw [y2 89 (by omega) q, v2qq q (by omega), fu 89 q (by omega) (by omega)]
                exact g2 q hq2
              · rw [show K - (j + 1) = e by omega, y2 82 (by omega) 6, v3qq, ← g3]
                split
                · show _ + scN (gdB L) K r (csC c n (j : Int)) (n + 1) + _ = _ + (scN (gdB L) K r (csC c n (j : Int)) (n + 1) + _)
                  omega
                · omega
              · rw [y2 b (by omega) q, v4qq b q q1 q2 q3 q4, fu b q (by omega) (by omega)]
                exact g4 b q q1 q2 q3 q4
              · rw [show K - (j + 1) = e by omega]
                rcases g5 with g5 | g5
                · exact Or.inl g5
                · rcases fn with fn | fn
                  · exact Or.inl fn
                  · exact Or.inr (g5.trans (sfF_n fn))
        · refine x_ci ?_
          refine x_goto ?_
          refine x_iadd ?_
          refine t_I (tpW L (csC c n (j : Int)) (n + 1)) (by
            rw [tpW_cs hp.hL hp.v hq]
            first
              | (rw [if_pos (by omega)])
              | (rw [if_neg (by omega)]
                 try omega)) ?_
          have tR := tpW_R (L := L) (c := csC c n (j : Int)) (n := n + 1)
          refine n_istore [some (vR _), some (vI _), some (vI _), some (vI _), some (vI _), some (vI _), some (vI _)] (Nat.le_of_ble_eq_true rfl) rfl ?_
          refine x_iload rfl ?_
          refine x_aload rfl ?_
          refine h_getI 3 sc_82 rfl rfl ?_
          rw [g4 82 3 (by omega) (by omega) (by omega) (by omega), h3]
          refine x_iload rfl ?_
          refine x_isub ?_
          refine x_ci ?_
          refine x_isub ?_
          refine n_icmp_gt ⟨by omega, by omega⟩ ⟨by omega, by omega⟩ (fun c3 => ?_) (fun c3 => ?_)
          · refine n_iinc [some (vR _), some (vI _), some (vI _), some (vI _), some (vI _), some (vI _), some (vI _)] rfl rfl ?_
            refine x_goto ?_
            obtain ⟨e, he⟩ : ∃ e, K - j = e + 1 := ⟨K - j - 1, by omega⟩
            have pr := prune hp.hL gdB_home hK r (csC_v hp.v hq) (show (r : Int) < tpW L (csC c n (j : Int)) (n + 1) by omega)
            rw [he] at g3 g5
            refine ih e (by omega) (j + 1) _ tqq (by omega) (by omega) g1 g2 ?_ g4 ?_
            · rw [show K - (j + 1) = e by omega, ← g3]
              congr 1
              split
              · show _ = scN (gdB L) K r (csC c n (j : Int)) (n + 1) + _
                rw [pr.2]
                omega
              · rfl
            · rw [show K - (j + 1) = e by omega]
              rcases g5 with g5 | g5
              · exact Or.inl g5
              · exact Or.inr (g5.trans (sfF_n pr.1))
          · refine x_aload rfl ?_
            refine h_getR sc_82 rfl (by omega) ?_
            refine x_iload rfl ?_
            refine x_iload rfl ?_
            refine h_iast sc_89 ⟨by omega, by omega⟩ (by decide) ?_
            refine x_aload rfl ?_
            refine h_getR sc_82 rfl (by omega) ?_
            refine x_iload rfl ?_
            refine n_call [vR _, vI _] [] (by omega) (Nat.le_of_ble_eq_true rfl) rfl rfl (Nat.le_of_ble_eq_true rfl) ?_
            refine m_add (c := csC c n (j : Int)) pl_83 (by omega) ((g1.cg csC_lt).up (by omega)) (by omega) csC_n hq (fun uqq u1qq u2qq u3qq => ?_)
            show wp PP _ _ _ [some (vR _), some (vI _), some (vI _), some (vI _), some (vI _), some (vI _), some (vI _)] [] _ _
            refine x_aload rfl ?_
            refine x_iload rfl ?_
            refine x_ci ?_
            refine x_iadd ?_
            refine x_iload rfl ?_
            refine n_call [vR _, vI _, vI _] [] (by omega) (Nat.le_of_ble_eq_true rfl) rfl rfl (Nat.le_of_ble_eq_true rfl) ?_
            have fu : ∀ (b : Nat) (q : Int), ¬ (83 ≤ b ∧ b ≤ 86) → ¬ (b = 89 ∧ q = dep) → uqq b q = tqq b q := fun b q q1 q2 => by
              rw [u2qq b (by omega) q, up_f q2]
            have u89 : uqq 89 dep = (j : Int) := by rw [u2qq 89 (by omega) dep, up_e]
            obtain ⟨e, he⟩ : ∃ e, K - j = e + 1 := ⟨K - j - 1, by omega⟩
            rw [he] at g3 g5
            refine ihr (by omega) u1qq (by omega) ((fu 82 3 (by omega) (by omega)).trans (by rw [g4 82 3 (by omega) (by omega) (by omega) (by omega), h3]; omega)) ⟨by omega, by omega⟩ ((fu 82 4 (by omega) (by omega)).trans ((g4 82 4 (by omega) (by omega) (by omega) (by omega)).trans h4)) ((fu 82 5 (by omega) (by omega)).trans ((g4 82 5 (by omega) (by omega) (by omega) (by omega)).trans h5)) (fu 82 6 (by omega) (by omega)) (fun f0 wqq fw vqq v1qq v2qq v3qq => ?_) (fun fn vqq v1qq v2qq v3qq v4qq => ?_)
            · show wp PP _ _ _ _ [vI _] _ _
              refine n_if_eq ⟨by omega, by omega⟩ (fun zqq => by omega) (fun _ => ?_)
              refine x_ci ?_
              refine x_zret (by decide) ?_
              refine kF f0 (j :: wqq) ?_ vqq (fun i hi => ?_) (fun q hq2 => ?_) (fun b q q1 q2 q3 q4 => ?_)
              · rcases g5 with g5 | g5
                · omega
                · show sfF (fun i => sfN (gdB L) K r (csC c n (i : Int)) (n + 1)) 0 K = _
                  rw [g5]
                  exact sfF_y fw
              · cases i with
                | zero =>
                  rw [show dep + ((0 : Nat) : Int) = dep by omega, v2qq dep (by omega), u89]
                  rfl
                | succ i =>
                  have := v1qq i (by omega)
                  rw [show dep + ((i + 1 : Nat) : Int) = dep + 1 + (i : Int) by omega, this]
                  rfl
              · rw [v2qq q (by omega), fu 89 q (by omega) (by omega)]
                exact g2 q hq2
              · rw [v3qq b q q1 q2 q3 q4, fu b q (by omega) (by omega)]
                exact g4 b q q1 q2 q3 q4
            · show wp PP _ _ _ _ [vI _] _ _
              refine n_if_eq ⟨by omega, by omega⟩ (fun _ => ?_) (fun zqq => absurd rfl zqq)
              refine x_aload rfl ?_
              refine h_getR sc_82 rfl (by omega) ?_
              refine n_call [vR _] [] (by omega) (Nat.le_of_ble_eq_true rfl) rfl rfl (Nat.le_of_ble_eq_true rfl) ?_
              refine m_dropLast pl_83 (by omega) v1qq (fun x y1 y2 y3 => ?_)
              show wp PP _ _ _ [some (vR _), some (vI _), some (vI _), some (vI _), some (vI _), some (vI _), some (vI _)] [] _ _
              refine x_fall ?_
              refine n_iinc [some (vR _), some (vI _), some (vI _), some (vI _), some (vI _), some (vI _), some (vI _)] rfl rfl ?_
              refine x_goto ?_
              refine ih e (by omega) (j + 1) _ x (by omega) (by omega) (y1.cg (fun i i0 i1 => (csC_lt i i0 i1).symm)) (fun q hq2 => ?_) ?_ (fun b q q1 q2 q3 q4 => ?_) ?_
              · rw [y2 89 (by omega) q, v2qq q (by omega), fu 89 q (by omega) (by omega)]
                exact g2 q hq2
              · rw [show K - (j + 1) = e by omega, y2 82 (by omega) 6, v3qq, ← g3]
                split
                · show _ + scN (gdB L) K r (csC c n (j : Int)) (n + 1) + _ = _ + (scN (gdB L) K r (csC c n (j : Int)) (n + 1) + _)
                  omega
                · omega
              · rw [y2 b (by omega) q, v4qq b q q1 q2 q3 q4, fu b q (by omega) (by omega)]
                exact g4 b q q1 q2 q3 q4
              · rw [show K - (j + 1) = e by omega]
                rcases g5 with g5 | g5
                · exact Or.inl g5
                · rcases fn with fn | fn
                  · exact Or.inl fn
                  · exact Or.inr (g5.trans (sfF_n fn))
    refine n_at (m := 262) (q := mr262) (kn := (0, 3)) [some (vR _), some (vI _), some (vI _), none, none, none, none] mb262 rfl rfl (h_rcv sc_82) (Nat.le_of_ble_eq_true rfl) rfl rfl ?_
    refine x_iload rfl ?_
    refine x_aload rfl ?_
    refine h_getI 3 sc_82 rfl rfl ?_
    rw [h3]
    refine n_icmp_ge ⟨by omega, by omega⟩ ⟨by omega, by omega⟩ (fun c1 => ?_) (fun c1 => ?_)
    · exfalso
      omega
    · refine x_iload rfl ?_
      refine x_aload rfl ?_
      refine h_getR sc_82 rfl (by omega) ?_
      refine h_alen 4 sc_89 (by decide) rfl ?_
      refine n_icmp_lt ⟨by omega, by omega⟩ ⟨by omega, by omega⟩ (fun c2 => ?_) (fun c2 => ?_)
      · refine x_aload rfl ?_
        refine h_getR sc_82 rfl (by omega) ?_
        refine n_call [vR _] [] (by omega) (Nat.le_of_ble_eq_true rfl) rfl rfl (Nat.le_of_ble_eq_true rfl) ?_
        refine m_codeCount pl_83 (by omega) (by rw [hp.count]; omega) ?_
        rw [hp.count]
        refine t_I (K : Int) (by omega) ?_
        show wp PP _ _ _ [some (vR _), some (vI _), some (vI _), _, _, _, _] [vI _] _ _
        refine n_istore [some (vR _), some (vI _), some (vI _), some (vI _), _, _, _] (Nat.le_of_ble_eq_true rfl) rfl ?_
        refine x_ci ?_
        refine n_istore [some (vR _), some (vI _), some (vI _), some (vI _), some (vI _), _, _] (Nat.le_of_ble_eq_true rfl) rfl ?_
        refine x_fall ?_
        refine L1 K 0 0 s rfl (by omega) hp (fun q _ => rfl) ?_ (fun b r q1 q2 q3 q4 => rfl) (Or.inr rfl)
        rw [h6]
        rfl
      · refine x_fall ?_
        exfalso
        omega
end PC5
