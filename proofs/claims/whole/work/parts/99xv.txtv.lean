/-! TEXT: the reference's text, whole -/
section TXV
variable {d : Nat} {h0 h : pheap} {s tqq uqq : St} {Q : Option pv → pheap → Prop} {B : Int → Int} {n p q N : Nat} {sz : Int} {k vqq : Int} {D : Nat × (Int → Int)} {T : Nat × (Int → Int) × (Int → Int)} {S E : Int × Int} {K : KS} {L : (Int → Int) × (Int → Int)} {X : TS}
def TRF (f pl : Int) (s uqq : St) : Prop := uqq 94 0 = 0 ∧ uqq 94 2 = 0 ∧ uqq 94 20 = f ∧ uqq 94 21 = pl ∧ ∀ (b : Nat) (r : Int), ¬ (b = 94 ∧ (r = 0 ∨ r = 2 ∨ 11 ≤ r ∧ r ≤ 23)) → ¬ (b = 96 ∧ 5 ≤ r) → ¬ (b = 97 ∧ 6 ≤ r) → ¬ ((b = 98 ∨ b = 99) ∧ 24 ≤ r) → ¬ ((b = 100 ∨ b = 101) ∧ 3 ≤ r) → ¬ ((b = 102 ∨ b = 103) ∧ 64 ≤ r) → uqq b r = s b r
def TRC (D : Nat × (Int → Int)) (T : Nat × (Int → Int) × (Int → Int)) (S E : Int × Int) (K : KS) (L : (Int → Int) × (Int → Int)) (s uqq : St) : Prop := (uqq 94 0 = 0 ∧ uqq 94 2 = 0 ∧ uqq 94 20 = 0 ∧ uqq 94 21 = -1 ∧ uqq 94 35 = 0 ∧ uqq 94 36 = 0 ∧ uqq 94 50 = 0 ∧ uqq 94 51 = -1) ∧ (uqq 96 0 = D.1 ∧ uqq 96 1 = T.1 ∧ uqq 96 2 = S.2 ∧ uqq 96 3 = E.2 ∧ uqq 96 4 = K.1) ∧ (∀ i : Int, 0 ≤ i → i < D.1 → uqq 97 i = D.2 i) ∧ (∀ i : Int, 0 ≤ i → i < T.1 → uqq 98 i = T.2.1 i ∧ uqq 99 i = T.2.2 i) ∧ (∀ r : Int, 0 ≤ r → r < 3 → uqq 100 r = L.1 r ∧ uqq 101 r = L.2 r) ∧ (∀ i : Int, 0 ≤ i → i < K.1 → kR (K.2 i) (uqq 102 i) (uqq 103 i)) ∧ ∀ (b : Nat) (r : Int), ¬ (b = 94 ∧ (r = 0 ∨ r = 2 ∨ (11 ≤ r ∧ r ≤ 23) ∨ r = 35 ∨ r = 36 ∨ r = 50 ∨ r = 51)) → ¬ (96 ≤ b ∧ b ≤ 103) → uqq b r = s b r
def wRF (s tqq : St) : Prop := ∀ (b : Nat) (r : Int), ¬ (b = 94 ∧ (r = 0 ∨ r = 2 ∨ (11 ≤ r ∧ r ≤ 19) ∨ 22 ≤ r ∧ r ≤ 23)) → ¬ (b = 96 ∧ 5 ≤ r) → ¬ (b = 97 ∧ 6 ≤ r) → ¬ ((b = 98 ∨ b = 99) ∧ 24 ≤ r) → ¬ ((b = 100 ∨ b = 101) ∧ 3 ≤ r) → ¬ ((b = 102 ∨ b = 103) ∧ 64 ≤ r) → tqq b r = s b r
theorem wRF_j (h : wRF s tqq) (g : jF tqq uqq) : wRF s uqq := fun b r q1 q2 q3 q4 q5 q6 => (g b r (by omega) (by omega) (by omega) q2 q3 q4 q5 q6).trans (h b r q1 q2 q3 q4 q5 q6)
theorem r_text (hd : 160 ≤ d) (h1 : s 94 2 = sz) (hz : 0 ≤ sz ∧ sz ≤ 700) (hB : ∀ i : Int, 0 ≤ i → i < sz → s 95 i = B i ∧ 0 ≤ B i ∧ B i < 256) {x : Int} (hx : iR x) (kN : x < 0 ∨ sz < x → Q (some (vI (-2))) (HP h0 (up s 94 0 0))) (kF : 0 ≤ x ∧ x ≤ sz → ∀ (f : Int) (pl : Nat) (X : TS), tEnd B x.toNat (0, Y0) (f, pl, X) → 1 ≤ f ∧ f ≤ 3 → ∀ uqq, TRF f pl s uqq → Q (some (vI (-1))) (HP h0 uqq)) (kD : 0 ≤ x ∧ x ≤ sz → ∀ (q : Nat) (D : Nat × (Int → Int)) (T : Nat × (Int → Int) × (Int → Int)) (S E : Int × Int) (K : KS) (L : (Int → Int) × (Int → Int)) (N : Nat), tEnd B x.toNat (0, Y0) (-1, 0, (q, D, T, S, E, K, L, N)) → XI D T S E K L → ∀ uqq, TRC D T S E K L s uqq → Q (some (vI (N : Int))) (HP h0 (strt 0 uqq))) : wpM PP d 88 [vR 94, vI x] (HP h0 s) Q := by
  refine n_at (m := 88) (q := mr88) (kn := (0, 2)) [some (vR _), some (vI _), none] mb88 rfl rfl (h_rcv sc_94) (Nat.le_of_ble_eq_true rfl) rfl rfl ?_
  refine x_aload rfl ?_
  refine x_ci ?_
  refine h_putI 0 sc_94 rfl rfl ?_
  refine x_iload rfl ?_
  refine n_if_lt ⟨by omega, by omega⟩ (fun c1 => ?_) (fun c1 => ?_)
  · refine x_ci ?_
    refine x_iret ?_
    exact kN (by omega)
  · refine x_iload rfl ?_
    refine x_aload rfl ?_
    refine h_getI 2 sc_94 rfl rfl ?_
    rw [up_i (by decide), h1]
    refine n_icmp_le ⟨by omega, by omega⟩ ⟨by omega, by omega⟩ (fun c2 => ?_) (fun c2 => ?_)
    · obtain ⟨n, hn⟩ : ∃ n : Nat, x = n := ⟨x.toNat, by omega⟩
      subst hn
      have hn7 : n ≤ 700 := by omega
      have hb : bOk B n := fun i i0 i1 => (hB i i0 (by omega)).2
      have hx2 : 0 ≤ (n : Int) ∧ (n : Int) ≤ sz := by omega
      replace kF := kF hx2
      replace kD := kD hx2
      rw [show ((n : Int)).toNat = n from Int.toNat_natCast n] at kF kD
      obtain ⟨s2, h2⟩ : ∃ s2, s2 = up (up (up (up (up (up s 94 0 0) 94 13 (n : Int)) 94 2 0) 94 14 0) 94 18 0) 94 19 (-1) := ⟨_, rfl⟩
      have L7 : ∀ M : Nat, ∀ {o2 : Option pv} (p : Nat) (D : Nat × (Int → Int)) (T : Nat × (Int → Int) × (Int → Int)) (S : Int × Int) (E : Int × Int) (K : KS) (L : (Int → Int) × (Int → Int)) (N : Nat) (tqq : St), (M = n - p ∧ p ≤ n) → (RLN B n p D T S E K L N tqq) → (XI D T S E K L) → (∀ r, tEnd B n (p, D, T, S, E, K, L, N) r → tEnd B n (0, Y0) r) → (wRF s tqq) → (tqq 94 0 = 0 ∧ tqq 94 2 = 0) →  wp PP d mb88 (mb88.getD 7 []) [some (vR 94), some (vI (n : Int)), o2] [] (HP h0 tqq) Q := by
        refine s_ind (fun M ih => ?_)
        intro o2 p D T S E K L N tqq hM gR gI gT gF g02
        have tr := tkR_is (B := B) (n := n) (p := p) hb
        have ts := TKN_s gR.1.2.1 tr
        refine x_aload rfl ?_
        refine h_getI 18 sc_94 rfl rfl ?_
        rw [gR.1.2.2]
        refine n_if_ne ⟨by omega, by omega⟩ (fun c9 => by exfalso; omega) (fun _ => ?_)
        refine x_aload rfl ?_
        refine h_getI 16 sc_94 rfl rfl ?_
        refine x_ci ?_
        refine n_icmp_eq ⟨by omega, by omega⟩ ⟨by omega, by omega⟩ (fun c1 => ?_) (fun c1 => ?_)
        · have iD := gI.1.1
          have iT := gI.2.1.1
          have iK := gI.2.2.2.2.1
          refine x_aload rfl ?_
          refine x_aload rfl ?_
          refine h_getI 18 sc_94 rfl rfl ?_
          rw [gR.1.2.2]
          refine h_putI 20 sc_94 rfl rfl ?_
          refine x_aload rfl ?_
          refine x_aload rfl ?_
          refine h_getI 19 sc_94 rfl rfl ?_
          rw [up_i (by decide), gR.2.2.2.2.2]
          refine h_putI 21 sc_94 rfl rfl ?_
          refine x_aload rfl ?_
          refine h_getI 18 sc_94 rfl rfl ?_
          rw [up_i (by decide), up_i (by decide), gR.1.2.2]
          refine n_if_eq ⟨by omega, by omega⟩ (fun _ => ?_) (fun c9 => by exfalso; omega)
          refine x_aload rfl ?_
          refine h_getR sc_94 rfl (by omega) ?_
          refine n_call [vR _] [] (by omega) (Nat.le_of_ble_eq_true rfl) rfl rfl (Nat.le_of_ble_eq_true rfl) ?_
          refine r_half (m := 5) sc_96 rfl (by decide) (fun t1qq h1 g1 => ?_)
          show wp PP _ _ _ [some (vR _), some (vI _), _] [] _ _
          refine x_aload rfl ?_
          refine h_getR sc_94 rfl (by omega) ?_
          refine n_call [vR _] [] (by omega) (Nat.le_of_ble_eq_true rfl) rfl rfl (Nat.le_of_ble_eq_true rfl) ?_
          refine r_half (m := 6) sc_97 rfl (by decide) (fun t2qq h2 g2 => ?_)
          show wp PP _ _ _ [some (vR _), some (vI _), _] [] _ _
          refine x_aload rfl ?_
          refine h_getR sc_94 rfl (by omega) ?_
          refine n_call [vR _] [] (by omega) (Nat.le_of_ble_eq_true rfl) rfl rfl (Nat.le_of_ble_eq_true rfl) ?_
          refine r_half (m := 24) sc_98 rfl (by decide) (fun t3qq h3 g3 => ?_)
          show wp PP _ _ _ [some (vR _), some (vI _), _] [] _ _
          refine x_aload rfl ?_
          refine h_getR sc_94 rfl (by omega) ?_
          refine n_call [vR _] [] (by omega) (Nat.le_of_ble_eq_true rfl) rfl rfl (Nat.le_of_ble_eq_true rfl) ?_
          refine r_half (m := 24) sc_99 rfl (by decide) (fun t4qq h4 g4 => ?_)
          show wp PP _ _ _ [some (vR _), some (vI _), _] [] _ _
          refine x_aload rfl ?_
          refine h_getR sc_94 rfl (by omega) ?_
          refine n_call [vR _] [] (by omega) (Nat.le_of_ble_eq_true rfl) rfl rfl (Nat.le_of_ble_eq_true rfl) ?_
          refine r_half (m := 3) sc_100 rfl (by decide) (fun t5qq h5 g5 => ?_)
          show wp PP _ _ _ [some (vR _), some (vI _), _] [] _ _
          refine x_aload rfl ?_
          refine h_getR sc_94 rfl (by omega) ?_
          refine n_call [vR _] [] (by omega) (Nat.le_of_ble_eq_true rfl) rfl rfl (Nat.le_of_ble_eq_true rfl) ?_
          refine r_half (m := 3) sc_101 rfl (by decide) (fun t6qq h6 g6 => ?_)
          show wp PP _ _ _ [some (vR _), some (vI _), _] [] _ _
          refine x_aload rfl ?_
          refine h_getR sc_94 rfl (by omega) ?_
          refine n_call [vR _] [] (by omega) (Nat.le_of_ble_eq_true rfl) rfl rfl (Nat.le_of_ble_eq_true rfl) ?_
          refine r_half (m := 64) sc_102 rfl (by decide) (fun t7qq h7 g7 => ?_)
          show wp PP _ _ _ [some (vR _), some (vI _), _] [] _ _
          refine x_aload rfl ?_
          refine h_getR sc_94 rfl (by omega) ?_
          refine n_call [vR _] [] (by omega) (Nat.le_of_ble_eq_true rfl) rfl rfl (Nat.le_of_ble_eq_true rfl) ?_
          refine r_half (m := 64) sc_103 rfl (by decide) (fun t8qq h8 g8 => ?_)
          show wp PP _ _ _ [some (vR _), some (vI _), _] [] _ _
          refine x_aload rfl ?_
          refine x_ci ?_
          refine h_putI 50 sc_94 rfl rfl ?_
          refine x_aload rfl ?_
          refine x_ci ?_
          refine h_putI 51 sc_94 rfl rfl ?_
          refine x_aload rfl ?_
          refine x_ci ?_
          refine h_putZ 35 sc_94 rfl rfl (by first | exact bI_01 _ | omega) ?_
          refine x_aload rfl ?_
          refine x_ci ?_
          refine h_putI 36 sc_94 rfl rfl ?_
          refine x_aload rfl ?_
          refine n_call [vR _] [] (by omega) (Nat.le_of_ble_eq_true rfl) rfl rfl (Nat.le_of_ble_eq_true rfl) ?_
          have gg : ∀ (b : Nat) (r : Int), ¬ (96 ≤ b ∧ b ≤ 103) → t8qq b r = (up (up tqq 94 20 0) 94 21 (-1)) b r := fun b r y => (g8 b r (by omega)).trans ((g7 b r (by omega)).trans ((g6 b r (by omega)).trans ((g5 b r (by omega)).trans ((g4 b r (by omega)).trans ((g3 b r (by omega)).trans ((g2 b r (by omega)).trans (g1 b r (by omega))))))))
          have F96 : ∀ i : Int, 0 ≤ i → i < 5 → t8qq 96 i = tqq 96 (5 + i) := fun i i0 i1 => (g8 96 _ (by omega)).trans ((g7 96 _ (by omega)).trans ((g6 96 _ (by omega)).trans ((g5 96 _ (by omega)).trans ((g4 96 _ (by omega)).trans ((g3 96 _ (by omega)).trans ((g2 96 _ (by omega)).trans ((h1 i i0 i1).trans ((up_a (by decide)).trans (up_a (by decide))))))))))
          have F97 : ∀ i : Int, 0 ≤ i → i < 6 → t8qq 97 i = tqq 97 (6 + i) := fun i i0 i1 => (g8 97 _ (by omega)).trans ((g7 97 _ (by omega)).trans ((g6 97 _ (by omega)).trans ((g5 97 _ (by omega)).trans ((g4 97 _ (by omega)).trans ((g3 97 _ (by omega)).trans ((h2 i i0 i1).trans ((g1 97 _ (by omega)).trans ((up_a (by decide)).trans (up_a (by decide))))))))))
          have F98 : ∀ i : Int, 0 ≤ i → i < 24 → t8qq 98 i = tqq 98 (24 + i) := fun i i0 i1 => (g8 98 _ (by omega)).trans ((g7 98 _ (by omega)).trans ((g6 98 _ (by omega)).trans ((g5 98 _ (by omega)).trans ((g4 98 _ (by omega)).trans ((h3 i i0 i1).trans ((g2 98 _ (by omega)).trans ((g1 98 _ (by omega)).trans ((up_a (by decide)).trans (up_a (by decide))))))))))
          have F99 : ∀ i : Int, 0 ≤ i → i < 24 → t8qq 99 i = tqq 99 (24 + i) := fun i i0 i1 => (g8 99 _ (by omega)).trans ((g7 99 _ (by omega)).trans ((g6 99 _ (by omega)).trans ((g5 99 _ (by omega)).trans ((h4 i i0 i1).trans ((g3 99 _ (by omega)).trans ((g2 99 _ (by omega)).trans ((g1 99 _ (by omega)).trans ((up_a (by decide)).trans (up_a (by decide))))))))))
          have F100 : ∀ i : Int, 0 ≤ i → i < 3 → t8qq 100 i = tqq 100 (3 + i) := fun i i0 i1 => (g8 100 _ (by omega)).trans ((g7 100 _ (by omega)).trans ((g6 100 _ (by omega)).trans ((h5 i i0 i1).trans ((g4 100 _ (by omega)).trans ((g3 100 _ (by omega)).trans ((g2 100 _ (by omega)).trans ((g1 100 _ (by omega)).trans ((up_a (by decide)).trans (up_a (by decide))))))))))
          have F101 : ∀ i : Int, 0 ≤ i → i < 3 → t8qq 101 i = tqq 101 (3 + i) := fun i i0 i1 => (g8 101 _ (by omega)).trans ((g7 101 _ (by omega)).trans ((h6 i i0 i1).trans ((g5 101 _ (by omega)).trans ((g4 101 _ (by omega)).trans ((g3 101 _ (by omega)).trans ((g2 101 _ (by omega)).trans ((g1 101 _ (by omega)).trans ((up_a (by decide)).trans (up_a (by decide))))))))))
          have F102 : ∀ i : Int, 0 ≤ i → i < 64 → t8qq 102 i = tqq 102 (64 + i) := fun i i0 i1 => (g8 102 _ (by omega)).trans ((h7 i i0 i1).trans ((g6 102 _ (by omega)).trans ((g5 102 _ (by omega)).trans ((g4 102 _ (by omega)).trans ((g3 102 _ (by omega)).trans ((g2 102 _ (by omega)).trans ((g1 102 _ (by omega)).trans ((up_a (by decide)).trans (up_a (by decide))))))))))
          have F103 : ∀ i : Int, 0 ≤ i → i < 64 → t8qq 103 i = tqq 103 (64 + i) := fun i i0 i1 => (h8 i i0 i1).trans ((g7 103 _ (by omega)).trans ((g6 103 _ (by omega)).trans ((g5 103 _ (by omega)).trans ((g4 103 _ (by omega)).trans ((g3 103 _ (by omega)).trans ((g2 103 _ (by omega)).trans ((g1 103 _ (by omega)).trans ((up_a (by decide)).trans (up_a (by decide))))))))))
          obtain ⟨vqq, hv⟩ : ∃ vqq, vqq = up (up (up (up t8qq 94 50 0) 94 51 (-1)) 94 35 0) 94 36 0 := ⟨_, rfl⟩
          rw [← hv]
          have V94 : ∀ r : Int, r ≠ 50 → r ≠ 51 → r ≠ 35 → r ≠ 36 → vqq 94 r = (up (up tqq 94 20 0) 94 21 (-1)) 94 r := fun r y1 y2 y3 y4 => by
            rw [hv, up_i y4, up_i y3, up_i y2, up_i y1]
            exact gg 94 r (by omega)
          have VO : ∀ (b : Nat) (r : Int), ¬ b = 94 → vqq b r = t8qq b r := fun b r y => by
            rw [hv, up_a y, up_a y, up_a y, up_a y]
          have hT := gR.2.1
          refine r_begins (by omega) ?_
          show wp PP _ _ _ [some (vR _), some (vI _), _] [] _ _
          refine x_aload rfl ?_
          refine h_getI 12 sc_94 rfl rfl ?_
          refine t_I (N : Int) ?_ ?_
          · unfold strt
            rw [up_a (by decide), up_a (by decide), up_a (by decide), up_a (by decide), up_a (by decide), up_a (by decide), up_a (by decide), V94 12 (by decide) (by decide) (by decide) (by decide), up_i (by decide), up_i (by decide)]
            exact gR.2.2.1
          refine x_iret ?_
          refine kD p D T S E K L N (gT _ (tEnd_stop (lS_0 (by omega)) (show (-1 : Int) ≠ 0 by decide))) gI vqq ⟨⟨?_, ?_, ?_, ?_, ?_, ?_, ?_, ?_⟩, ⟨?_, ?_, ?_, ?_, ?_⟩, fun i i0 i1 => ?_, fun i i0 i1 => ⟨?_, ?_⟩, fun i i0 i1 => ⟨?_, ?_⟩, fun i i0 i1 => ?_, fun b r q1 q2 => ?_⟩
          · rw [V94 0 (by decide) (by decide) (by decide) (by decide), up_i (by decide), up_i (by decide)]
            exact g02.1
          · rw [V94 2 (by decide) (by decide) (by decide) (by decide), up_i (by decide), up_i (by decide)]
            exact g02.2
          · rw [V94 20 (by decide) (by decide) (by decide) (by decide), up_i (by decide), up_e]
          · rw [V94 21 (by decide) (by decide) (by decide) (by decide), up_e]
          · rw [hv, up_i (by decide), up_e]
          · rw [hv, up_e]
          · rw [hv, up_i (by decide), up_i (by decide), up_i (by decide), up_e]
          · rw [hv, up_i (by decide), up_i (by decide), up_e]
          · rw [VO 96 0 (by decide), F96 0 (by decide) (by decide)]
            exact hT.1.1
          · rw [VO 96 1 (by decide), F96 1 (by decide) (by decide)]
            exact hT.2.1.1
          · rw [VO 96 2 (by decide), F96 2 (by decide) (by decide)]
            exact hT.2.2.1.1
          · rw [VO 96 3 (by decide), F96 3 (by decide) (by decide)]
            exact hT.2.2.1.2
          · rw [VO 96 4 (by decide), F96 4 (by decide) (by decide)]
            exact hT.2.2.2.1.1
          · rw [VO 97 i (by decide), F97 i i0 (by omega)]
            exact hT.1.2 i i0 i1
          · rw [VO 98 i (by decide), F98 i i0 (by omega)]
            exact (hT.2.1.2 i i0 i1).1
          · rw [VO 99 i (by decide), F99 i i0 (by omega)]
            exact (hT.2.1.2 i i0 i1).2
          · rw [VO 100 i (by decide), F100 i i0 i1]
            exact (hT.2.2.2.2.1 i i0 i1).1
          · rw [VO 101 i (by decide), F101 i i0 i1]
            exact (hT.2.2.2.2.1 i i0 i1).2
          · rw [VO 102 i (by decide), VO 103 i (by decide), F102 i i0 (by omega), F103 i i0 (by omega)]
            exact hT.2.2.2.1.2 i i0 i1
          · rw [hv, up_f (by omega), up_f (by omega), up_f (by omega), up_f (by omega), gg b r q2, up_f (by omega), up_f (by omega)]
            exact gF b r (by omega) (by omega) (by omega) (by omega) (by omega) (by omega)
        · refine x_aload rfl ?_
          refine n_call [vR _] [] (by omega) (Nat.le_of_ble_eq_true rfl) rfl rfl (Nat.le_of_ble_eq_true rfl) ?_
          refine r_line (by omega) hb gR gI hM.2 (by omega) (fun q D2 T2 S2 E2 K2 L2 e e1 wqq w1qq w2qq => ?_) (fun f pl e hf wqq f18 f19 wj => ?_)
          · have ok := lSt_ok hb hM.2 gI e
            show wp PP _ _ _ _ [] _ _
            refine x_goto ?_
            refine ih (n - q) (by omega) q D2 T2 S2 E2 K2 L2 (N + 1) wqq (by omega) w1qq ok.1 (fun r y => gT r (tEnd_step e rfl y)) (wRF_j gF w2qq) ⟨?_, ?_⟩
            · rw [w2qq 94 0 (by omega) (by omega) (by omega) (by omega) (by omega) (by omega) (by omega) (by omega)]
              exact g02.1
            · rw [w2qq 94 2 (by omega) (by omega) (by omega) (by omega) (by omega) (by omega) (by omega) (by omega)]
              exact g02.2
          · have en := gT _ (tEnd_stop e (show f ≠ 0 by omega))
            show wp PP _ _ _ _ [] _ _
            refine x_goto ?_
            refine x_aload rfl ?_
            refine h_getI 18 sc_94 rfl rfl ?_
            rw [f18]
            refine n_if_ne ⟨by omega, by omega⟩ (fun _ => ?_) (fun c9 => by exfalso; omega)
            refine x_aload rfl ?_
            refine x_aload rfl ?_
            refine h_getI 18 sc_94 rfl rfl ?_
            rw [f18]
            refine h_putI 20 sc_94 rfl rfl ?_
            refine x_aload rfl ?_
            refine x_aload rfl ?_
            refine h_getI 19 sc_94 rfl rfl ?_
            rw [up_i (by decide), f19]
            refine h_putI 21 sc_94 rfl rfl ?_
            refine x_aload rfl ?_
            refine h_getI 18 sc_94 rfl rfl ?_
            rw [up_i (by decide), up_i (by decide), f18]
            refine n_if_eq ⟨by omega, by omega⟩ (fun c2 => ?_) (fun c2 => ?_)
            · exfalso
              omega
            · refine x_ci ?_
              refine x_iret ?_
              refine kF f pl _ en hf _ ⟨?_, ?_, ?_, ?_, fun b r q1 q2 q3 q4 q5 q6 => ?_⟩
              · rw [up_i (by decide), up_i (by decide), wj 94 0 (by omega) (by omega) (by omega) (by omega) (by omega) (by omega) (by omega) (by omega)]
                exact g02.1
              · rw [up_i (by decide), up_i (by decide), wj 94 2 (by omega) (by omega) (by omega) (by omega) (by omega) (by omega) (by omega) (by omega)]
                exact g02.2
              · rw [up_i (by decide), up_e]
              · rw [up_e]
              · rw [up_f (by omega), up_f (by omega)]
                exact wRF_j gF wj b r (by omega) q2 q3 q4 q5 q6
      have L5 : ∀ N : Nat, ∀ (i : Int) (tqq : St), (N = 6 - i.toNat ∧ 3 ≤ i ∧ i ≤ 6) → (∀ j : Int, 0 ≤ j → j < 5 → tqq 96 (5 + j) = 0) → (∀ j : Int, 3 ≤ j → j < i → tqq 100 j = 0 ∧ tqq 101 j = 0) → (∀ (b : Nat) (r : Int), ¬ (b = 96 ∧ 5 ≤ r) → ¬ ((b = 100 ∨ b = 101) ∧ 3 ≤ r) → tqq b r = s2 b r) →  wp PP d mb88 (mb88.getD 5 []) [some (vR 94), some (vI (n : Int)), some (vI i)] [] (HP h0 tqq) Q := by
        refine s_ind (fun N ih => ?_)
        intro i tqq hM g0 g1 gF
        refine x_iload rfl ?_
        refine x_ci ?_
        refine n_icmp_ge ⟨by omega, by omega⟩ ⟨by omega, by omega⟩ (fun c1 => ?_) (fun c1 => ?_)
        · refine x_aload rfl ?_
          refine x_ci ?_
          refine h_putI 11 sc_94 rfl rfl ?_
          refine x_aload rfl ?_
          refine x_ci ?_
          refine h_putI 12 sc_94 rfl rfl ?_
          refine x_aload rfl ?_
          refine x_ci ?_
          refine h_putI 22 sc_94 rfl rfl ?_
          refine x_aload rfl ?_
          refine x_ci ?_
          refine h_putI 23 sc_94 rfl rfl ?_
          refine x_aload rfl ?_
          refine n_call [vR _] [] (by omega) (Nat.le_of_ble_eq_true rfl) rfl rfl (Nat.le_of_ble_eq_true rfl) ?_
          have e94 : ∀ r : Int, tqq 94 r = s2 94 r := fun r => gF 94 r (by omega) (by omega)
          have eR : RBR B n (up (up (up (up tqq 94 11 0) 94 12 0) 94 22 0) 94 23 0) := ⟨by
            rw [up_i (by decide), up_i (by decide), up_i (by decide), up_i (by decide), e94, h2, up_i (by decide), up_i (by decide), up_i (by decide), up_i (by decide), up_e], hn7, fun i i0 i1 => by
            rw [up_a (by decide), up_a (by decide), up_a (by decide), up_a (by decide), gF 95 i (by omega) (by omega), h2, up_a (by decide), up_a (by decide), up_a (by decide), up_a (by decide), up_a (by decide), up_a (by decide)]
            exact (hB i i0 (by omega)).1⟩
          refine r_token (p := 0) (by omega) eR hb ?_ (by omega) (fun uqq u1qq u2qq => ?_)
          · rw [up_i (by decide), up_i (by decide), up_i (by decide), up_i (by decide), e94, h2, up_i (by decide), up_i (by decide), up_e]
            rfl
          show wp PP _ _ _ [some (vR _), some (vI _), some (vI _)] [] _ _
          refine x_fall ?_
          have uA : ∀ (b : Nat) (r : Int), ¬ b = 94 → uqq b r = tqq b r := fun b r y => (u2qq b r (by omega)).trans (by rw [up_a y, up_a y, up_a y, up_a y])
          have uB : ∀ r : Int, ¬ (14 ≤ r ∧ r ≤ 17) → ¬ (11 ≤ r ∧ r ≤ 12) → ¬ (22 ≤ r ∧ r ≤ 23) → uqq 94 r = s2 94 r := fun r y1 y2 y3 => (u2qq 94 r (by omega)).trans (by rw [up_i (by omega), up_i (by omega), up_i (by omega), up_i (by omega)]; exact e94 r)
          have i01 : ∀ i : Int, 0 ≤ i → i < ((0 : Nat) : Int) → False := fun i i0 i1 => by omega
          refine L7 n 0 (0, c00) (0, c00, c00) (0, 0) (0, 0) (0, c00) (c00, c00) 0 uqq ⟨rfl, by omega⟩ ⟨⟨eR.f u2qq, u1qq, ?_⟩, ⟨⟨?_, fun i i0 i1 => (i01 i i0 i1).elim⟩, ⟨?_, fun i i0 i1 => (i01 i i0 i1).elim⟩, ⟨?_, ?_⟩, ⟨?_, fun i i0 i1 => (i01 i i0 i1).elim⟩, fun r r0 r1 => ⟨?_, ?_⟩, 0, ?_, ?_⟩, ?_, ?_, ?_, ?_⟩ XI_0 (fun r y => y) (fun b r q1 q2 q3 q4 q5 q6 => ?_) ⟨?_, ?_⟩
          · rw [uB 18 (by omega) (by omega) (by omega), h2, up_i (by decide), up_e]
          · rw [uA 96 5 (by decide)]
            exact g0 0 (by omega) (by omega)
          · rw [uA 96 6 (by decide)]
            exact g0 1 (by omega) (by omega)
          · rw [uA 96 7 (by decide)]
            exact g0 2 (by omega) (by omega)
          · rw [uA 96 8 (by decide)]
            exact g0 3 (by omega) (by omega)
          · rw [uA 96 9 (by decide)]
            exact g0 4 (by omega) (by omega)
          · rw [uA 100 _ (by decide)]
            exact (g1 _ (by omega) (by omega)).1
          · rw [uA 101 _ (by decide)]
            exact (g1 _ (by omega) (by omega)).2
          · rw [u2qq 94 11 (by omega), up_i (by decide), up_i (by decide), up_i (by decide), up_e]
            rfl
          · exact ⟨by decide, by decide, by decide, fun r hr => by
              rw [Nat.zero_testBit]
              exact ⟨fun y => (by cases y), fun y => absurd y (show ¬ (0 : Int) < 0 by decide)⟩⟩
          · rw [u2qq 94 12 (by omega), up_i (by decide), up_i (by decide), up_e]
            rfl
          · rw [u2qq 94 22 (by omega), up_i (by decide), up_e]
          · rw [u2qq 94 23 (by omega), up_e]
            rfl
          · rw [uB 19 (by omega) (by omega) (by omega), h2, up_e]
          · by_cases y : b = 94
            · subst y
              rw [uB r (by omega) (by omega) (by omega), h2, up_i (by omega), up_i (by omega), up_i (by omega), up_i (by omega), up_i (by omega), up_i (by omega)]
            · rw [uA b r y, gF b r (by omega) (by omega), h2, up_a y, up_a y, up_a y, up_a y, up_a y, up_a y]
          · rw [uB 0 (by omega) (by omega) (by omega), h2, up_i (by decide), up_i (by decide), up_i (by decide), up_i (by decide), up_i (by decide), up_e]
          · rw [uB 2 (by omega) (by omega) (by omega), h2, up_i (by decide), up_i (by decide), up_i (by decide), up_e]
        · refine x_aload rfl ?_
          refine h_getR sc_94 rfl (by omega) ?_
          refine x_iload rfl ?_
          refine x_ci ?_
          refine h_iast sc_100 ⟨by omega, by omega⟩ (by decide) ?_
          refine x_aload rfl ?_
          refine h_getR sc_94 rfl (by omega) ?_
          refine x_iload rfl ?_
          refine x_ci ?_
          refine h_iast sc_101 ⟨by omega, by omega⟩ (by decide) ?_
          refine n_iinc [some (vR _), some (vI _), some (vI _)] rfl rfl ?_
          refine x_goto ?_
          refine ih (6 - (i.toNat + 1)) (by omega) (i + 1) _ (by omega) (fun j j0 j1 => ?_) (fun j j0 j1 => ?_) (fun b r q1 q2 => ?_)
          · rw [up_a (by decide), up_a (by decide)]
            exact g0 j j0 j1
          · rw [up_a (b := 100) (by decide)]
            by_cases zqq : j = i
            · rw [zqq, up_e, up_e]
              exact ⟨rfl, rfl⟩
            · rw [up_i zqq, up_i zqq, up_a (by decide)]
              exact g1 j j0 (by omega)
          · rw [up_f (by omega), up_f (by omega)]
            exact gF b r q1 q2
      have L3 : ∀ N : Nat, ∀ (i : Int) (tqq : St), (N = 5 - i.toNat ∧ 0 ≤ i ∧ i ≤ 5) → (∀ j : Int, 0 ≤ j → j < i → tqq 96 (5 + j) = 0) → (∀ (b : Nat) (r : Int), ¬ (b = 96 ∧ 5 ≤ r) → tqq b r = s2 b r) →  wp PP d mb88 (mb88.getD 3 []) [some (vR 94), some (vI (n : Int)), some (vI i)] [] (HP h0 tqq) Q := by
        refine s_ind (fun N ih => ?_)
        intro i tqq hM g0 gF
        refine x_iload rfl ?_
        refine x_ci ?_
        refine n_icmp_ge ⟨by omega, by omega⟩ ⟨by omega, by omega⟩ (fun c1 => ?_) (fun c1 => ?_)
        · refine x_ci ?_
          refine n_istore [some (vR _), some (vI _), some (vI _)] (Nat.le_of_ble_eq_true rfl) rfl ?_
          refine x_fall ?_
          exact L5 3 3 tqq (by omega) (fun j j0 j1 => g0 j j0 (by omega)) (fun j j0 j1 => by omega) (fun b r q1 q2 => gF b r q1)
        · refine x_aload rfl ?_
          refine x_iload rfl ?_
          refine x_ci ?_
          refine n_call [vR _, vI _, vI _] [] (by omega) (Nat.le_of_ble_eq_true rfl) rfl rfl (Nat.le_of_ble_eq_true rfl) ?_
          refine r_reads (by omega) ?_
          show wp PP _ _ _ [some (vR _), some (vI _), some (vI _)] [] _ _
          refine n_iinc [some (vR _), some (vI _), some (vI _)] rfl rfl ?_
          refine x_goto ?_
          refine ih (5 - (i.toNat + 1)) (by omega) (i + 1) _ (by omega) (fun j j0 j1 => ?_) (fun b r q1 => ?_)
          · by_cases zqq : j = i
            · rw [zqq, up_e]
            · rw [up_i (by omega)]
              exact g0 j j0 (by omega)
          · rw [up_f (by omega)]
            exact gF b r q1
      refine x_aload rfl ?_
      refine x_iload rfl ?_
      refine h_putI 13 sc_94 rfl rfl ?_
      refine x_aload rfl ?_
      refine x_ci ?_
      refine h_putI 2 sc_94 rfl rfl ?_
      refine x_aload rfl ?_
      refine x_ci ?_
      refine h_putI 14 sc_94 rfl rfl ?_
      refine x_aload rfl ?_
      refine x_ci ?_
      refine h_putI 18 sc_94 rfl rfl ?_
      refine x_aload rfl ?_
      refine x_ci ?_
      refine h_putI 19 sc_94 rfl rfl ?_
      refine x_ci ?_
      refine n_istore [some (vR _), some (vI _), some (vI _)] (Nat.le_of_ble_eq_true rfl) rfl ?_
      refine x_fall ?_
      rw [← h2]
      exact L3 5 0 s2 (by omega) (fun j j0 j1 => by omega) (fun b r y => rfl)
    · refine x_fall ?_
      refine x_ci ?_
      refine x_iret ?_
      exact kN (by omega)
end TXV
