/-! SEARCH, the reference: isLooseBy -/
section PR2
variable {d : Nat} {h0 : pheap} {s : St} {Q : Option pv → pheap → Prop} {L : Int} {n k N : Nat} {c : Int → Int}
theorem r_looseBy (hd : 7 ≤ d) (hL : 0 ≤ L ∧ L < 64) (hN : N ≤ 6) (hNL : cnt L = N) (h2 : 2 ≤ N ∨ n + k = 0) (hn : n + k ≤ 52) (hk4 : k ≤ 4) (hv : vC L c (n + k)) (r1 : s 111 0 = L) (h41 : s 94 41 = N) (hs : SB L c (n + k) s) (hF : FQ N 0 n (qW N hN c n) s) (row : ∀ i : Nat, i < k → s 122 i = c ((n + i : Nat) : Int)) (k9 : ∀ tqq, ffr 1 s tqq → Q (some (vI (bI (gdB L c (n + k) = true)))) (HP h0 tqq)) : wpM PP d 155 [vR 94, vI (k : Int)] (HP h0 s) Q := by
  have L1 : ∀ M : Nat, ∀ (j : Nat) (jj : Int) (tqq : St), (jj = j) → (M = k - j ∧ j ≤ k) → (FQ N 1 (n + j) (qW N hN c (n + j)) tqq) → (ffr 1 s tqq) → (tpW L c (n + k) = 0) → (wC L c (n + k) = 0) →  wp PP d mb155 (mb155.getD 3 []) [some (vR 94), some (vI (k : Int)), some (vI jj)] [] (HP h0 tqq) Q := by
    refine s_ind (fun M ih => ?_)
    intro j jj tqq hkk hM g1 g2 cH cW
    subst hkk
    refine x_iload rfl ?_
    refine x_iload rfl ?_
    refine n_icmp_ge ⟨by omega, by omega⟩ ⟨by omega, by omega⟩ (fun c1 => ?_) (fun c1 => ?_)
    · refine x_aload rfl ?_
      refine x_ci ?_
      refine n_call [vR _, vI _] [] (by omega) (Nat.le_of_ble_eq_true rfl) rfl rfl (Nat.le_of_ble_eq_true rfl) ?_
      have ej : j = k := by omega
      subst ej
      refine r_none (by omega) hN (by omega) h2 g1 (fun e => ?_) (fun e => ?_)
      · show wp PP _ _ _ _ [vI _] _ _
        refine x_zret (by omega) ?_
        exact cB1 (k9 tqq g2) (decide_eq_true ⟨cH, cW, (lsP_iff hN hNL hv).mpr e⟩)
      · show wp PP _ _ _ _ [vI _] _ _
        refine x_zret (by omega) ?_
        exact cB0 (k9 tqq g2) (fun y => e ((lsP_iff hN hNL hv).mp (of_decide_eq_true y).2.2))
    · refine x_aload rfl ?_
      refine x_ci ?_
      refine x_aload rfl ?_
      refine h_getR sc_94 rfl (by omega) ?_
      refine x_iload rfl ?_
      refine h_iald sc_122 ⟨by omega, by omega⟩ (by decide) ?_
      have rw1 := (g2 122 (j : Int) (by omega) (by omega) (by omega)).trans (row j (by omega))
      rw [rw1]
      refine n_call [vR _, vI _, vI _] [] (by omega) (Nat.le_of_ble_eq_true rfl) rfl rfl (Nat.le_of_ble_eq_true rfl) ?_
      have vk := hv ((n + j : Nat) : Int) (by omega) (by omega)
      refine t_app vk.1 ?_
      refine r_append (cd := (c ((n + j : Nat) : Int)).toNat) (by omega) (by omega) hN (by omega) ((g2 94 41 (by omega) (by omega) (by omega)).trans h41) g1 (by omega) (fun vqq v1qq v2qq => ?_)
      show wp PP _ _ _ [some (vR _), some (vI _), some (vI _)] [] _ _
      refine n_iinc [some (vR _), some (vI _), some (vI _)] rfl rfl ?_
      refine x_goto ?_
      refine ih (k - (j + 1)) (by omega) (j + 1) _ _ (by omega) (by omega) ?_ (ffr_tr g2 v2qq) cH cW
      rw [show n + (j + 1) = (n + j) + 1 by omega, qW_s]
      exact v1qq
  refine n_at (m := 155) (q := mr155) (kn := (0, 2)) [some (vR _), some (vI _), none] mb155 rfl rfl (h_rcv sc_94) (Nat.le_of_ble_eq_true rfl) rfl rfl ?_
  refine x_aload rfl ?_
  refine x_ci ?_
  refine n_call [vR _, vI _] [] (by omega) (Nat.le_of_ble_eq_true rfl) rfl rfl (Nat.le_of_ble_eq_true rfl) ?_
  have hb := bI_R (tpO (wO L c (n + k)) (cnt L).toNat (cnt L).toNat = 0)
  refine r_areHomeS (by omega) (by omega) hL hv r1 hs ?_
  show wp PP _ _ _ [some (vR _), some (vI _), _] [vI _] _ _
  refine n_if_eq ⟨by omega, by omega⟩ (fun c1 => ?_) (fun c1 => ?_)
  · refine x_ci ?_
    refine x_zret (by first | exact bI_01 _ | omega) ?_
    refine cI (k9 s ffr_rfl) (bI_f (fun y => ?_))
    have y := of_decide_eq_true y
    have y1 : bI (tpO (wO L c (n + k)) (cnt L).toNat (cnt L).toNat = 0) = 1 := bI_t y.1
    have y2 := y.2.1
    omega
  · refine x_aload rfl ?_
    refine n_call [vR _] [] (by omega) (Nat.le_of_ble_eq_true rfl) rfl rfl (Nat.le_of_ble_eq_true rfl) ?_
    have hw := wC_R (L := L) (c := c) (n + k)
    refine r_boundPairsB (by omega) (by omega) hs ?_
    rw [wC_is hL hv]
    show wp PP _ _ _ [some (vR _), some (vI _), _] [vI _] _ _
    refine n_if_le ⟨by omega, by omega⟩ (fun c2 => ?_) (fun c2 => ?_)
    · refine x_aload rfl ?_
      refine x_ci ?_
      refine x_ci ?_
      refine n_call [vR _, vI _, vI _] [] (by omega) (Nat.le_of_ble_eq_true rfl) rfl rfl (Nat.le_of_ble_eq_true rfl) ?_
      obtain ⟨fh, fE, fe, fa, fb, fo⟩ := hF
      refine r_copiesForm (by omega) (by omega) (by omega) (by omega) hN (by omega) fa (fun uqq u1qq u2qq => ?_)
      show wp PP _ _ _ [some (vR _), some (vI _), _] [] _ _
      refine x_ci ?_
      refine n_istore [some (vR _), some (vI _), some (vI _)] (Nat.le_of_ble_eq_true rfl) rfl ?_
      refine x_fall ?_
      have bN := b2N_R (L := L) (c := c) (n := n + k) 6
      have wI := wC_is hL hv
      have cW : wC L c (n + k) = 0 := by omega
      have cH : tpW L c (n + k) = 0 := by
        by_cases zqq : tpW L c (n + k) = 0
        · exact zqq
        · have z2qq : bI (tpO (wO L c (n + k)) (cnt L).toNat (cnt L).toNat = 0) = 0 := bI_f zqq
          omega
      refine L1 k 0 0 uqq rfl (by omega) ⟨fh, fE, fe, u1qq, fb, fo⟩ u2qq cH cW
    · refine x_fall ?_
      refine x_ci ?_
      refine x_zret (by first | exact bI_01 _ | omega) ?_
      refine cI (k9 s ffr_rfl) (bI_f (fun y => ?_))
      have y := of_decide_eq_true y
      have y1 : bI (tpO (wO L c (n + k)) (cnt L).toNat (cnt L).toNat = 0) = 1 := bI_t y.1
      have y2 := y.2.1
      omega
end PR2
