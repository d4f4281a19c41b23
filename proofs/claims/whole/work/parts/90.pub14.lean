/-! ALIKE of the reference; AHEAD -/
section PA5
variable {d tp : Nat} {h0 : pheap} {s : St} {Q : Option pv → pheap → Prop} {L : Int} {n n' zqq K N : Nat} {c c' : Int → Int} {Hs : Hst} {vw rf sl yr la slp : Int} {kc lb le ty tc : Int → Int} {Y : YS}
theorem t_cd {x f : Int} {m cd : Nat} {s : St} (hx : x = (cd : Int)) (k : wpM PP d m [vR 94, vI f, vI (cd : Int)] (HP h0 s) Q) : wpM PP d m [vR 94, vI f, vI x] (HP h0 s) Q := hx ▸ k
theorem r_alike {L' ia : Int} (hd : 11 ≤ d) (hr0 : RD 0 L n c s) (h35 : s 94 35 = ia) (hia : ia = 0 ∨ ia = 1) (hI : ia = 1 → RD 2 L' n' c' s) (k0 : ia = 0 → Q (some (vI (-2))) (HP h0 (up s 94 0 0))) (k1 : ia = 1 → L ≠ L' → Q (some (vI 0)) (HP h0 (up s 94 0 0))) (k2 : ia = 1 → L = L' → ∀ tqq, lkN s tqq → Q (some (vI (bI (alP c n c' n')))) (HP h0 tqq)) : wpM PP d 140 [vR 94] (HP h0 s) Q := by
  have hct := cnt_R L
  refine n_at (m := 140) (q := mr140) (kn := (0, 1)) [some (vR _), none] mb140 rfl rfl (h_rcv sc_94) (Nat.le_of_ble_eq_true rfl) rfl rfl ?_
  refine x_aload rfl ?_
  refine x_ci ?_
  refine h_putI 0 sc_94 rfl rfl ?_
  refine x_aload rfl ?_
  refine h_getZ 35 sc_94 rfl rfl ?_
  rw [up_i (by decide), h35]
  refine n_if_ne ⟨by omega, by omega⟩ (fun c1 => ?_) (fun c1 => ?_)
  · refine x_aload rfl ?_
    refine h_getR sc_94 rfl (by omega) ?_
    refine x_ci ?_
    refine h_iald sc_111 ⟨by omega, by omega⟩ (by decide) ?_
    rw [up_a (b := 111) (by decide), hr0.2.2.2.1]
    have hL0 := hr0.1
    refine x_aload rfl ?_
    refine h_getR sc_94 rfl (by omega) ?_
    refine x_ci ?_
    refine h_iald sc_111 ⟨by omega, by omega⟩ (by decide) ?_
    have hr2_ := hI (by omega)
    have hL2 := hr2_.1
    rw [up_a (b := 111) (by decide), hr2_.2.2.2.1]
    refine n_icmp_eq ⟨by omega, by omega⟩ ⟨by omega, by omega⟩ (fun c2 => ?_) (fun c2 => ?_)
    · refine x_aload rfl ?_
      refine x_ci ?_
      refine x_ci ?_
      refine n_call [vR _, vI _, vI _] [] (by omega) (Nat.le_of_ble_eq_true rfl) rfl rfl (Nat.le_of_ble_eq_true rfl) ?_
      have hr2 := hI (by omega)
      have hn1 := hr0.2.1
      have hn2 := hr2.2.1
      have eL : L = L' := by omega
      subst eL
      obtain ⟨N, hNL⟩ : ∃ N : Nat, cnt L = N := ⟨(cnt L).toNat, by omega⟩
      have hN : N ≤ 6 := by omega
      refine r_formOf (f := 0) (g := 0) (by omega) (by omega) hN hNL (by omega) (RD.up hr0 (by decide)) (fun tqq g1 g41 g2 => ?_)
      have al := alP_iff hN hNL hr0.2.2.1 hr2.2.2.1
      have gg : ∀ (b : Nat) (r : Int), ¬ (b = 94 ∧ (r = 0 ∨ r = 41)) → ¬ (118 ≤ b ∧ b ≤ 120) → tqq b r = s b r := fun b r q1 q2 => by
        rw [g2 b r (by omega) (by omega) (by omega) (by omega), up_f (by omega)]
      show wp PP _ _ _ [some (vR _), _] [] _ _
      refine x_aload rfl ?_
      refine h_getR sc_94 rfl (by omega) ?_
      refine x_ci ?_
      refine h_iald sc_112 ⟨by omega, by omega⟩ (by decide) ?_
      rw [gg 112 2 (by omega) (by omega), hr2.2.2.2.2.1]
      refine x_ci ?_
      refine x_isub ?_
      refine n_istore [some (vR _), some (vI _)] (Nat.le_of_ble_eq_true rfl) rfl ?_
      refine x_fall ?_
      have L1 : ∀ M : Nat, ∀ (j : Nat) (kk : Int) (q : QF N) (tqq : St), (kk = (j : Int) - 1) → (M = j ∧ j ≤ n') → (n + (n' - j) ≤ 97) → (FQ N 0 (n + (n' - j)) q tqq) → (iqW N hN c' j q = iqW N hN c' n' (qW N hN c n)) → (tqq 94 41 = N) → (∀ (b : Nat) (r : Int), ¬ (b = 94 ∧ (r = 0 ∨ r = 41)) → ¬ (118 ≤ b ∧ b ≤ 120) → tqq b r = s b r) →  wp PP d mb140 (mb140.getD 3 []) [some (vR 94), some (vI kk)] [] (HP h0 tqq) Q := by
        refine s_ind (fun M ih => ?_)
        intro j kk q tqq hk hM hb97 f1 f2 h41t f3
        refine x_iload rfl ?_
        refine n_if_lt ⟨by omega, by omega⟩ (fun c1 => ?_) (fun c1 => ?_)
        · refine x_aload rfl ?_
          refine x_ci ?_
          refine n_call [vR _, vI _] [] (by omega) (Nat.le_of_ble_eq_true rfl) rfl rfl (Nat.le_of_ble_eq_true rfl) ?_
          have e0 : j = 0 := by omega
          subst e0
          have f2 : q = iqW N hN c' n' (qW N hN c n) := f2
          have li := iqW_iff hN (c := c') (m := n') (q := qW N hN c n) (fun i i0 i1 => by have := hr2.2.2.1 i i0 i1; omega)
          rw [← f2] at li
          refine r_none (f := 0) (n := n + (n' - 0)) (by omega) hN (by have := hr0.2.1; have := hr2.2.1; omega) (by
            by_cases q : 2 ≤ N
            · exact Or.inl q
            · have a1 := hr0.2.2.1.none (by omega)
              have a2 := hr2.2.2.1.none (by omega)
              exact Or.inr (by omega)) f1 (fun y => ?_) (fun y => ?_)
          · show wp PP _ _ _ _ [vI _] _ _
            refine n_if_eq ⟨by omega, by omega⟩ (fun wqq => by omega) (fun _ => ?_)
            refine x_ci ?_
            refine x_goto ?_
            refine x_iret ?_
            exact cB1 (k2 (by omega) rfl tqq (fun b r q1 q2 q3 q4 q5 q6 q7 => f3 b r (by omega) (by omega))) (al.mpr (li.mp y))
          · show wp PP _ _ _ _ [vI _] _ _
            refine n_if_eq ⟨by omega, by omega⟩ (fun _ => ?_) (fun wqq => absurd rfl wqq)
            refine x_ci ?_
            refine x_fall ?_
            refine x_iret ?_
            exact cB0 (k2 (by omega) rfl tqq (fun b r q1 q2 q3 q4 q5 q6 q7 => f3 b r (by omega) (by omega))) (fun wqq => y (li.mpr (al.mp wqq)))
        · refine x_aload rfl ?_
          refine x_ci ?_
          refine x_aload rfl ?_
          refine h_getR sc_94 rfl (by omega) ?_
          refine x_ci ?_
          refine x_iload rfl ?_
          refine x_iadd ?_
          refine h_iald sc_113 ⟨by omega, by omega⟩ (by decide) ?_
          have f113 : tqq 113 (96 + kk) = c' kk := by
            rw [f3 113 _ (by omega) (by omega)]
            have := hr2.2.2.2.2.2 kk (by omega) (by omega)
            rw [← this]
            congr 1
          rw [f113]
          have vkk := hr2.2.2.1 kk (by omega) (by omega)
          refine x_ci ?_
          refine x_ixor ?_
          rw [xor1 (by omega) (by omega)]
          refine n_call [vR _, vI _, vI _] [] (by omega) (Nat.le_of_ble_eq_true rfl) rfl rfl (Nat.le_of_ble_eq_true rfl) ?_
          obtain ⟨j0, hj0⟩ : ∃ j0 : Nat, j = j0 + 1 := ⟨j - 1, by omega⟩
          subst hj0
          have vk := hr2.2.2.1 j0 (by omega) (by omega)
          have ek : kk = (j0 : Int) := by omega
          have iv2 := ivc_2 (c' j0).toNat
          refine t_cd (cd := ivc (c' j0).toNat) ?_ ?_
          · rw [ek]
            unfold ivc
            split
            all_goals omega
          refine r_append (by omega) (by omega) hN (by omega) h41t f1 (by omega) (fun vqq v1qq v2qq => ?_)
          show wp PP _ _ _ [some (vR _), some (vI _)] [] _ _
          refine n_iinc [some (vR _), some (vI _)] rfl rfl ?_
          refine x_goto ?_
          refine ih j0 (by omega) j0 _ _ vqq (by omega) (by omega) (show n + (n' - j0) ≤ 97 by have := hr0.2.1; have := hr2.2.1; omega) (v1qq.less (by omega)) ?_ ((v2qq 94 41 (by omega) (by omega) (by omega)).trans h41t) (fun b r q1 q2 => ?_)
          · rw [← f2]
            rfl
          · rw [v2qq b r (by omega) (by omega) (by omega)]
            exact f3 b r q1 q2
      refine L1 n' n' _ (qW N hN c n) tqq rfl (by omega) (by have := hr0.2.1; have := hr2.2.1; omega) (g1.less (by omega)) rfl g41 gg
    · refine x_ci ?_
      refine x_iret ?_
      first
        | exact k0 (by omega)
        | exact k1 (by omega) (by omega)
  · refine x_ci ?_
    refine x_iret ?_
    first
      | exact k0 (by omega)
      | exact k1 (by omega) (by omega)
end PA5
