/-! THE FRAMES OF THE PUBLICS; FEAST, the reference -/
section PA1
variable {d tp : Nat} {h0 h : pheap} {s : St} {Q : Option pv → pheap → Prop} {L : Int} {n z : Nat} {c : Int → Int} {Hs : Hst} {vw rf sl yr la : Int}
/-- what a call may change of the class that only looks; .. that changes the dance too -/
def lkC (tp : Nat) (s t : St) : Prop := ∀ (b : Nat) (r : Int), ¬ (63 ≤ b ∧ b ≤ 69) → ¬ (81 ≤ b ∧ b ≤ 93) → ¬ b = tp + 7 → ¬ (b = tp ∧ r = 15) → t b r = s b r
def nwC (tp : Nat) (s t : St) : Prop := ∀ (b : Nat) (r : Int), ¬ (53 ≤ b ∧ b ≤ 57) → ¬ (63 ≤ b ∧ b ≤ 74) → ¬ (81 ≤ b ∧ b ≤ 93) → ¬ b = tp + 7 → ¬ (b = tp ∧ r = 15) → t b r = s b r
/-- the same of the reference -/
def lkN (s t : St) : Prop := ∀ (b : Nat) (r : Int), ¬ (114 ≤ b ∧ b ≤ 123) → ¬ b = 129 → ¬ b = 104 → ¬ b = 105 → ¬ (b = 94 ∧ (r = 0 ∨ r = 26 ∨ r = 41 ∨ r = 47)) → ¬ (106 ≤ b ∧ b ≤ 112 ∧ r = 1) → ¬ (b = 113 ∧ 48 ≤ r ∧ r < 96) → t b r = s b r
def nwN (s t : St) : Prop := ∀ (b : Nat) (r : Int), ¬ (114 ≤ b ∧ b ≤ 123) → ¬ b = 129 → ¬ b = 104 → ¬ b = 105 → ¬ (b = 94 ∧ (r = 0 ∨ r = 26 ∨ r = 36 ∨ r = 41 ∨ r = 47)) → ¬ (106 ≤ b ∧ b ≤ 112 ∧ ¬ r = 2) → ¬ (b = 113 ∧ ¬ (96 ≤ r ∧ r < 144)) → t b r = s b r
theorem lkC_rfl : lkC tp s s := fun _ _ _ _ _ _ => rfl
theorem lkN_rfl : lkN s s := fun _ _ _ _ _ _ _ _ _ => rfl
theorem lfr.k {t : St} (h : lfr s t) : lkN s t := fun b r h1 h2 h3 h4 h5 h6 h7 => h b (by omega) r (by omega)
theorem nfr.k {t : St} (h : nfr s t) : nwN s t := fun b r h1 h2 h3 h4 h5 h6 h7 => h b r (by omega) (by omega) (by omega) (by omega)
theorem cfr.k {t : St} (h : cfr s t) : nwC tp s t := fun b r h1 h2 h3 h4 h5 => h b (by omega) r
theorem lkC.w {t : St} (h : lkC tp s t) : nwC tp s t := fun b r h1 h2 h3 h4 h5 => h b r (by omega) h3 h4 h5
theorem lkN.w {t : St} (h : lkN s t) : nwN s t := fun b r h1 h2 h3 h4 h5 h6 h7 => h b r h1 h2 h3 h4 (by omega) (by omega) (by omega)
theorem nwN_tr {t u : St} (h1 : nwN s t) (h2 : nwN t u) : nwN s u := fun b r q1 q2 q3 q4 q5 q6 q7 => (h2 b r q1 q2 q3 q4 q5 q6 q7).trans (h1 b r q1 q2 q3 q4 q5 q6 q7)
theorem lkN_tr {t u : St} (h1 : lkN s t) (h2 : lkN t u) : lkN s u := fun b r q1 q2 q3 q4 q5 q6 q7 => (h2 b r q1 q2 q3 q4 q5 q6 q7).trans (h1 b r q1 q2 q3 q4 q5 q6 q7)
theorem RDadd {f : Int} {x : Int} (hr : RD f L n c s) (hn : n < 48) (hx : c n = x) (hv : 0 ≤ x ∧ x < 2 * (cnt L - 1)) : RD f L (n + 1) c (up (up s 113 (48 * f + n) x) 112 f (n + 1)) := by
  obtain ⟨a1, a2, a3, a4, a5, a6⟩ := hr
  refine ⟨a1, by omega, fun i i0 i1 => ?_, ?_, ?_, fun i i0 i1 => ?_⟩
  · by_cases q : i = n
    · rw [q, hx]
      exact hv
    · exact a3 i i0 (by omega)
  · rw [up_a (by decide), up_a (by decide)]
    exact a4
  · rw [up_e]
    omega
  · rw [up_a (by decide)]
    by_cases q : i = n
    · rw [q, up_e, hx]
    · rw [up_i (by omega)]
      exact a6 i i0 (by omega)
theorem DRof {f : Int} {t : St} (h : DR f vw rf sl yr la L n c s) (hf : 0 ≤ f ∧ f < 23) (g : ∀ (b : Nat) (r : Int), 106 ≤ b ∧ b ≤ 112 → r = f → t b r = s b r) (g2 : ∀ r : Int, 48 * f ≤ r → r < 48 * f + 48 → t 113 r = s 113 r) : DR f vw rf sl yr la L n c t := by
  obtain ⟨a1, a2, a3, a4, a5, b1, b2, b3, b4, b5, b6⟩ := h
  exact ⟨(g 110 f (by decide) rfl).trans a1, (g 108 f (by decide) rfl).trans a2, (g 109 f (by decide) rfl).trans a3, (g 106 f (by decide) rfl).trans a4, (g 107 f (by decide) rfl).trans a5, b1, b2, b3, (g 111 f (by decide) rfl).trans b4, (g 112 f (by decide) rfl).trans b5, fun i i0 i1 => (g2 _ (by omega) (by omega)).trans (b6 i i0 i1)⟩
theorem r_feast (hd : 13 ≤ d) (hu : PUs z Hs rf sl yr la s) (hok : hOk z Hs) (hD : DR 0 vw rf sl yr la L n c s) {x m : Int} (hx : iR x) (hm : iR m) (kY : (0 ≤ x ∧ 1 ≤ m ∧ m ≤ 20 ∧ 2 ≤ cnt L ∧ n + m ≤ 48) → ∀ t, DR 0 vw rf sl yr la L (n + m.toNat) (fsK L x n c) t → PUs (min 20 (z + 1)) (hput1 vw L n c Hs) rf sl yr la t → nwN s t → Q (some (vI (n + m))) (HP h0 t)) (kN : ¬ (0 ≤ x ∧ 1 ≤ m ∧ m ≤ 20 ∧ 2 ≤ cnt L ∧ n + m ≤ 48) → Q (some (vI (-1))) (HP h0 (up s 94 0 0))) : wpM PP d 149 [vR 94, vI x, vI m] (HP h0 s) Q := by
  obtain ⟨w1, w2, w3, w4, w5, hr0⟩ := hD
  have hD0 : DR 0 vw rf sl yr la L n c s := ⟨w1, w2, w3, w4, w5, hr0⟩
  obtain ⟨hL, hn, hv, r1, r2, r3⟩ := hr0
  obtain ⟨p1, p2, p3⟩ := hu
  have hu0 : PUs z Hs rf sl yr la (up s 94 0 0) := ⟨p1, (up_i (by decide)).trans p2, fun i hi => (p3 i hi).up (by decide)⟩
  have hct := cnt_R L
  have LL : ∀ (m : Nat) (t0 : St), (hct2 : 2 ≤ cnt L) → (hx : 0 ≤ x ∧ x < 2147483648) → n + m ≤ 48 → RD 0 L n c t0 → t0 94 47 = x → (kL : ∀ t, RD 0 L (n + m) (fsK L x n c) t → (∀ (b : Nat) (r : Int), ¬ (b = 94 ∧ r = 47) → ¬ (b = 112 ∧ r = 0) → ¬ (b = 113 ∧ n ≤ r ∧ r < 48) → True → t b r = t0 b r) → Q (some (vI ((n + m : Nat) : Int))) (HP h0 t)) → wp PP d mb149 (mb149.getD 3 []) [some (vR 94), some (vI x), some (vI m), some (vI 0)] [] (HP h0 t0) Q := by
    intro m t0 hct2 hx hnm g0 g00 kL
    have L1 : ∀ N : Nat, ∀ (j : Nat) (i : Int) (v : Int) (t : St), (i = j) → (N = m - j ∧ j ≤ m) → (v = fsN x j) → (RD 0 L (n + j) (fsK L x n c) t) → (t 94 47 = v) → ((∀ (b : Nat) (r : Int), ¬ (b = 94 ∧ r = 47) → ¬ (b = 112 ∧ r = 0) → ¬ (b = 113 ∧ n ≤ r ∧ r < 48) → True → t b r = t0 b r)) →  wp PP d mb149 (mb149.getD 3 []) [some (vR 94), some (vI x), some (vI m), some (vI i)] [] (HP h0 t) Q := by
      refine s_ind (fun N ih => ?_)
      intro j i v t hj hn2 hv g1 g2 g3
      refine x_iload rfl ?_
      refine x_iload rfl ?_
      refine n_icmp_ge ⟨by omega, by omega⟩ ⟨by omega, by omega⟩ (fun c1 => ?_) (fun c1 => ?_)
      · refine x_aload rfl ?_
        refine h_getR sc_94 rfl (by omega) ?_
        refine x_ci ?_
        refine h_iald sc_112 ⟨by omega, by omega⟩ (by decide) ?_
        refine x_iret ?_
        have e : j = m := by omega
        subst e
        rw [g1.2.2.2.2.1]
        exact kL t g1 g3
      · refine x_aload rfl ?_
        refine h_getR sc_94 rfl (by omega) ?_
        refine x_aload rfl ?_
        refine h_getR sc_94 rfl (by omega) ?_
        refine x_ci ?_
        refine h_iald sc_112 ⟨by omega, by omega⟩ (by decide) ?_
        rw [g1.2.2.2.2.1]
        refine t_I ((n : Int) + j) (by omega) ?_
        refine x_aload rfl ?_
        refine x_ci ?_
        refine n_call [vR _, vI _] [vI _, vR _] (by omega) (Nat.le_of_ble_eq_true rfl) rfl rfl (Nat.le_of_ble_eq_true rfl) ?_
        have fr_ := fsN_R hx j
        refine r_feastCode (f := 0) (by omega) (by omega) hL hct2 g1.2.2.2.1 (g2.trans hv) ?_
        refine t_I (fsC L x j) (by unfold fsC; rfl) ?_
        have fcR := fsC_R (L := L) (x := x) hct2 j
        rw [show nxN (fsN x j) = fsN x (j + 1) from rfl]
        show wp PP _ _ _ [some (vR _), some (vI _), some (vI _), some (vI _)] [vI _, vI _, vR _] _ _
        refine h_iast sc_113 ⟨by omega, by omega⟩ (by decide) ?_
        refine x_aload rfl ?_
        refine h_getR sc_94 rfl (by omega) ?_
        refine x_ci ?_
        refine x_dup2 ?_
        refine h_iald sc_112 ⟨by omega, by omega⟩ (by decide) ?_
        rw [up_a (b := 112) (by decide), up_a (b := 112) (by decide), g1.2.2.2.2.1]
        refine t_I ((n : Int) + j) (by omega) ?_
        refine x_ci ?_
        refine x_iadd ?_
        refine t_I ((n : Int) + j + 1) rfl ?_
        refine h_iast sc_112 ⟨by omega, by omega⟩ (by decide) ?_
        refine n_iinc [some (vR _), some (vI _), some (vI _), some (vI _)] rfl rfl ?_
        refine x_goto ?_
        have hcn : fsK L x n c ((n + j : Nat) : Int) = fsC L x j := by
          unfold fsK
          rw [if_neg (by omega)]
          congr 1
          omega
        refine ih (m - (j + 1)) (by omega) (j + 1) _ (fsN x (j + 1)) _ (by omega) (by omega) rfl ?_ ?_ ?_
        · have := RDadd (x := fsC L x j) (g1.up (b := 94) (i := 47) (x := fsN x (j + 1)) (by decide)) (by omega) hcn fcR
          rw [show (48 : Int) * 0 + ((n + j : Nat) : Int) = (n : Int) + j by omega, show ((n + j : Nat) : Int) + 1 = (n : Int) + j + 1 by omega] at this
          exact this
        · rw [up_a (by decide), up_a (by decide), up_e]
        · intro b r q1 q2 q3 q4
          rw [up_f (by omega), up_f (by omega), up_f (by omega)]
          exact g3 b r q1 q2 q3 q4
    refine L1 m 0 0 x t0 rfl (by omega) rfl (g0.cg (fun i i0 i1 => ?_)) g00 (fun b r _ _ _ _ => rfl)
    unfold fsK
    exact (if_pos i1).symm
  refine n_at (m := 149) (q := mr149) (kn := (0, 3)) [some (vR _), some (vI _), some (vI _), none] mb149 rfl rfl (h_rcv sc_94) (Nat.le_of_ble_eq_true rfl) rfl rfl ?_
  refine x_aload rfl ?_
  refine x_ci ?_
  refine h_putI 0 sc_94 rfl rfl ?_
  refine x_iload rfl ?_
  refine n_if_lt ⟨by omega, by omega⟩ (fun c1 => ?_) (fun c1 => ?_)
  · refine x_ci ?_
    refine x_iret ?_
    exact kN (fun q => by omega)
  · refine x_iload rfl ?_
    refine x_ci ?_
    refine n_icmp_lt ⟨by omega, by omega⟩ ⟨by omega, by omega⟩ (fun c2 => ?_) (fun c2 => ?_)
    · refine x_ci ?_
      refine x_iret ?_
      exact kN (fun q => by omega)
    · refine x_iload rfl ?_
      refine x_ci ?_
      refine n_icmp_gt ⟨by omega, by omega⟩ ⟨by omega, by omega⟩ (fun c3 => ?_) (fun c3 => ?_)
      · refine x_ci ?_
        refine x_iret ?_
        exact kN (fun q => by omega)
      · refine x_aload rfl ?_
        refine h_getR sc_94 rfl (by omega) ?_
        refine x_ci ?_
        refine h_iald sc_111 ⟨by omega, by omega⟩ (by decide) ?_
        refine n_call [vI _] [] (by omega) (Nat.le_of_ble_eq_true rfl) rfl rfl (Nat.le_of_ble_eq_true rfl) ?_
        refine t_bits L ((up_a (by decide)).trans r1) hL ?_
        show wp PP _ _ _ [some (vR _), some (vI _), some (vI _), _] [vI _] _ _
        refine x_ci ?_
        refine n_icmp_lt ⟨by omega, by omega⟩ ⟨by omega, by omega⟩ (fun c4 => ?_) (fun c4 => ?_)
        · refine x_ci ?_
          refine x_iret ?_
          exact kN (fun q => by omega)
        · refine x_aload rfl ?_
          refine h_getR sc_94 rfl (by omega) ?_
          refine x_ci ?_
          refine h_iald sc_112 ⟨by omega, by omega⟩ (by decide) ?_
          rw [up_a (b := 112) (by decide), r2]
          refine x_iload rfl ?_
          refine x_iadd ?_
          refine x_ci ?_
          refine n_icmp_le ⟨by omega, by omega⟩ ⟨by omega, by omega⟩ (fun c5 => ?_) (fun c5 => ?_)
          · refine x_aload rfl ?_
            refine n_call [vR _] [] (by omega) (Nat.le_of_ble_eq_true rfl) rfl rfl (Nat.le_of_ble_eq_true rfl) ?_
            refine r_keepNow (by omega) hu0 hok (hD0.up (by decide)) (fun t t1 t2 t3 => ?_)
            show wp PP _ _ _ [some (vR _), some (vI _), some (vI _), _] [] _ _
            refine x_aload rfl ?_
            refine x_iload rfl ?_
            refine h_putI 47 sc_94 rfl rfl ?_
            refine x_ci ?_
            refine n_istore [some (vR _), some (vI _), some (vI _), some (vI _)] (Nat.le_of_ble_eq_true rfl) rfl ?_
            refine x_fall ?_
            obtain ⟨mm, hmm⟩ : ∃ mm : Nat, m = mm := ⟨m.toNat, by omega⟩
            subst hmm
            refine LL mm _ (by omega) (by omega) (by omega) (RD.up t2.2.2.2.2.2 (by decide)) up_e (fun u u1 u2 => ?_)
            obtain ⟨k1, k2, k3, k4, k5, k6⟩ := t2
            refine cI (kY ⟨by omega, by omega, by omega, by omega, by omega⟩ u ⟨?_, ?_, ?_, ?_, ?_, by simpa using u1⟩ ⟨t1.1, ?_, fun i hi => ?_⟩ (fun b r q1 q2 q3 q4 q5 q6 q7 => ?_)) (by omega)
            · rw [u2 110 0 (by omega) (by omega) (by omega) trivial, up_a (by decide), k1]
            · rw [u2 108 0 (by omega) (by omega) (by omega) trivial, up_a (by decide), k2]
            · rw [u2 109 0 (by omega) (by omega) (by omega) trivial, up_a (by decide), k3]
            · rw [u2 106 0 (by omega) (by omega) (by omega) trivial, up_a (by decide), k4]
            · rw [u2 107 0 (by omega) (by omega) (by omega) trivial, up_a (by decide), k5]
            · rw [u2 94 36 (by omega) (by omega) (by omega) trivial, up_i (by decide)]
              exact t1.2.1
            · have hz := t1.1
              have g := t1.2.2 i hi
              refine DRof g (by omega) (fun b r q1 q2 => ?_) (fun r q1 q2 => ?_)
              · rw [u2 b r (by omega) (by omega) (by omega) trivial, up_f (by omega)]
              · rw [u2 113 r (by omega) (by omega) (by omega) trivial, up_f (by omega)]
            · rw [u2 b r (by omega) (by omega) (by omega) trivial, up_f (by omega), t3 b r (by omega) (by omega) (by omega), up_f (by omega)]
          · refine x_fall ?_
            refine x_ci ?_
            refine x_iret ?_
            exact kN (fun q => by omega)
end PA1
