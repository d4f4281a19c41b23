/-! THE REFERENCE: copies, starts, letting go -/
section R5
variable {d : Nat} {h0 h : pheap} {s : St} {Q : Option pv → pheap → Prop} {L f : Int} {n : Nat} {c c' : Int → Int}
def cpd (to as : Int) (n : Nat) (s t : St) : Prop := (∀ (b : Nat) (j : Int), ¬ (106 ≤ b ∧ b ≤ 112 ∧ j = to) → ¬ (b = 113 ∧ 48 * to ≤ j ∧ j < 48 * to + n) → t b j = s b j) ∧ (∀ b : Nat, 106 ≤ b → b ≤ 112 → t b to = s b as) ∧ (∀ i : Int, 0 ≤ i → i < n → t 113 (48 * to + i) = s 113 (48 * as + i))
/-- all but a dance f and what is danced aside -/
def dfr (f : Int) (s t : St) : Prop := ∀ (b : Nat) (j : Int), ¬ (114 ≤ b ∧ b ≤ 117) → ¬ (106 ≤ b ∧ b ≤ 112 ∧ j = f) → ¬ (b = 113 ∧ 48 * f ≤ j ∧ j < 48 * f + 48) → t b j = s b j
theorem r_copies {to as : Int} (h1 : 0 ≤ to ∧ to < 23) (h2 : 0 ≤ as ∧ as < 23) (h3 : to ≠ as) (hn : s 112 as = n) (hn2 : n ≤ 48) (k : ∀ t, cpd to as n s t → Q none (HP h0 t)) : wpM PP d 97 [vR 94, vI to, vI as] (HP h0 s) Q := by
  have L1 : ∀ N : Nat, ∀ (j : Nat) (i : Int) (t : St), (i = j) → (N = n - j ∧ j ≤ n) → (cpd to as j s t) →  wp PP d mb97 (mb97.getD 1 []) [some (vR 94), some (vI to), some (vI as), some (vI i)] [] (HP h0 t) Q := by
    refine s_ind (fun N ih => ?_)
    intro j i t hj hn2 g
    have q1 : t 112 as = n := (g.1 112 as (by omega) (by omega)).trans hn
    have q2 : j < n → t 113 (48 * as + i) = s 113 (48 * as + i) := fun z => g.1 113 _ (by omega) (by omega)
    refine x_iload rfl ?_
    refine x_aload rfl ?_
    refine h_getR sc_94 rfl (by omega) ?_
    refine x_iload rfl ?_
    refine h_iald sc_112 ⟨by omega, by omega⟩ (by decide) ?_
    rw [q1]
    refine n_icmp_ge ⟨by omega, by omega⟩ ⟨by omega, by omega⟩ (fun c1 => ?_) (fun c1 => ?_)
    · refine x_ret ?_
      have e : j = n := by omega
      subst e
      exact k t g
    · refine x_aload rfl ?_
      refine h_getR sc_94 rfl (by omega) ?_
      refine x_ci ?_
      refine x_iload rfl ?_
      refine x_imul ?_
      refine x_iload rfl ?_
      refine x_iadd ?_
      refine x_aload rfl ?_
      refine h_getR sc_94 rfl (by omega) ?_
      refine x_ci ?_
      refine x_iload rfl ?_
      refine x_imul ?_
      refine x_iload rfl ?_
      refine x_iadd ?_
      refine h_iald sc_113 ⟨by omega, by omega⟩ (by decide) ?_
      refine h_iast sc_113 ⟨by omega, by omega⟩ (by decide) ?_
      refine n_iinc [some (vR _), some (vI _), some (vI _), some (vI _)] rfl rfl ?_
      refine x_goto ?_
      refine ih (n - (j + 1)) (by omega) (j + 1) _ _ (by omega) (by omega) ⟨fun b r h1 h2 => ?_, fun b h1 h2 => ?_, fun r r0 r1 => ?_⟩
      · simp only [up]
        rw [if_neg (by omega)]
        exact g.1 b r h1 (by omega)
      · simp only [up]
        rw [if_neg (by omega)]
        exact g.2.1 b h1 h2
      · rw [up_at]
        by_cases e : r = i
        · rw [if_pos (by omega), q2 (by omega), e]
        · rw [if_neg (by omega)]
          exact g.2.2 r r0 (by omega)
  refine n_at (m := 97) (q := mr97) (kn := (0, 3)) [some (vR _), some (vI _), some (vI _), none] mb97 rfl rfl (h_rcv sc_94) (Nat.le_of_ble_eq_true rfl) rfl rfl ?_
  refine x_aload rfl ?_
  refine h_getR sc_94 rfl (by omega) ?_
  refine x_iload rfl ?_
  refine x_aload rfl ?_
  refine h_getR sc_94 rfl (by omega) ?_
  refine x_iload rfl ?_
  refine h_iald sc_106 ⟨by omega, by omega⟩ (by decide) ?_
  refine h_iast sc_106 ⟨by omega, by omega⟩ (by decide) ?_
  refine x_aload rfl ?_
  refine h_getR sc_94 rfl (by omega) ?_
  refine x_iload rfl ?_
  refine x_aload rfl ?_
  refine h_getR sc_94 rfl (by omega) ?_
  refine x_iload rfl ?_
  refine h_iald sc_107 ⟨by omega, by omega⟩ (by decide) ?_
  refine h_iast sc_107 ⟨by omega, by omega⟩ (by decide) ?_
  refine x_aload rfl ?_
  refine h_getR sc_94 rfl (by omega) ?_
  refine x_iload rfl ?_
  refine x_aload rfl ?_
  refine h_getR sc_94 rfl (by omega) ?_
  refine x_iload rfl ?_
  refine h_iald sc_108 ⟨by omega, by omega⟩ (by decide) ?_
  refine h_iast sc_108 ⟨by omega, by omega⟩ (by decide) ?_
  refine x_aload rfl ?_
  refine h_getR sc_94 rfl (by omega) ?_
  refine x_iload rfl ?_
  refine x_aload rfl ?_
  refine h_getR sc_94 rfl (by omega) ?_
  refine x_iload rfl ?_
  refine h_iald sc_109 ⟨by omega, by omega⟩ (by decide) ?_
  refine h_iast sc_109 ⟨by omega, by omega⟩ (by decide) ?_
  refine x_aload rfl ?_
  refine h_getR sc_94 rfl (by omega) ?_
  refine x_iload rfl ?_
  refine x_aload rfl ?_
  refine h_getR sc_94 rfl (by omega) ?_
  refine x_iload rfl ?_
  refine h_iald sc_110 ⟨by omega, by omega⟩ (by decide) ?_
  refine h_iast sc_110 ⟨by omega, by omega⟩ (by decide) ?_
  refine x_aload rfl ?_
  refine h_getR sc_94 rfl (by omega) ?_
  refine x_iload rfl ?_
  refine x_aload rfl ?_
  refine h_getR sc_94 rfl (by omega) ?_
  refine x_iload rfl ?_
  refine h_iald sc_111 ⟨by omega, by omega⟩ (by decide) ?_
  refine h_iast sc_111 ⟨by omega, by omega⟩ (by decide) ?_
  refine x_aload rfl ?_
  refine h_getR sc_94 rfl (by omega) ?_
  refine x_iload rfl ?_
  refine x_aload rfl ?_
  refine h_getR sc_94 rfl (by omega) ?_
  refine x_iload rfl ?_
  refine h_iald sc_112 ⟨by omega, by omega⟩ (by decide) ?_
  refine h_iast sc_112 ⟨by omega, by omega⟩ (by decide) ?_
  refine x_ci ?_
  refine n_istore [some (vR _), some (vI _), some (vI _), some (vI _)] (Nat.le_of_ble_eq_true rfl) rfl ?_
  refine x_fall ?_
  refine L1 n 0 0 _ rfl (by omega) ⟨fun b j h1 h2 => ?_, fun b h1 h2 => ?_, fun i i0 i1 => by omega⟩
  · simp only [up]
    rw [if_neg (by omega), if_neg (by omega), if_neg (by omega), if_neg (by omega), if_neg (by omega), if_neg (by omega), if_neg (by omega)]
  · obtain rfl | rfl | rfl | rfl | rfl | rfl | rfl : b = 106 ∨ b = 107 ∨ b = 108 ∨ b = 109 ∨ b = 110 ∨ b = 111 ∨ b = 112 := by omega
    all_goals simp [up]
theorem cpd.rd {to as : Int} {t : St} (g : cpd to as n s t) (hr : RD as L n c s) : RD to L n c t := by
  obtain ⟨hL, hn, hv, r1, r2, r3⟩ := hr
  exact ⟨hL, hn, hv, (g.2.1 111 (by decide) (by decide)).trans r1, (g.2.1 112 (by decide) (by decide)).trans r2, fun i i0 i1 => (g.2.2 i i0 i1).trans (r3 i i0 i1)⟩
theorem cpd.far {to as e : Int} {t : St} {m : Nat} (g : cpd to as m s t) (hm : m ≤ 48) (he : e ≠ to) (hr : RD e L n c s) : RD e L n c t := by
  obtain ⟨hL, hn, hv, r1, r2, r3⟩ := hr
  refine ⟨hL, hn, hv, (g.1 111 e (by omega) (by omega)).trans r1, (g.1 112 e (by omega) (by omega)).trans r2, fun i i0 i1 => (g.1 113 _ (by omega) ?_).trans (r3 i i0 i1)⟩
  omega
theorem cpd.df {to as : Int} {t : St} {m : Nat} (g : cpd to as m s t) (hm : m ≤ 48) : dfr to s t := fun b j _ h2 h3 => g.1 b j h2 (by omega)
theorem dfr_tr {s t u : St} (h1 : dfr f s t) (h2 : dfr f t u) : dfr f s u := fun b j q1 q2 q3 => (h2 b j q1 q2 q3).trans (h1 b j q1 q2 q3)
theorem rfr.df {t : St} (h : rfr s t) : dfr f s t := fun b j h1 _ _ => h b (by omega) j
theorem dfr.far {e : Int} {t : St} (g : dfr f s t) (he : e ≠ f) (hr : RD e L n c s) : RD e L n c t := by
  obtain ⟨hL, hn, hv, r1, r2, r3⟩ := hr
  exact ⟨hL, hn, hv, (g 111 e (by omega) (by omega) (by omega)).trans r1, (g 112 e (by omega) (by omega) (by omega)).trans r2, fun i i0 i1 => (g 113 _ (by omega) (by omega) (by omega)).trans (r3 i i0 i1)⟩
theorem rfr.rd {t : St} (g : rfr s t) (hr : RD f L n c s) : RD f L n c t := by
  obtain ⟨hL, hn, hv, r1, r2, r3⟩ := hr
  exact ⟨hL, hn, hv, (g 111 (by omega) _).trans r1, (g 112 (by omega) _).trans r2, fun i i0 i1 => (g 113 (by omega) _).trans (r3 i i0 i1)⟩
/-- a dance at its start -/
def strt (f : Int) (s : St) : St := up (up (up (up (up (up (up s 106 f 0) 107 f (s 96 3)) 108 f 0) 109 f 0) 110 f 0) 111 f (i_shl 1 (s 96 0) - 1)) 112 f 0
theorem r_starts (hf : 0 ≤ f ∧ f < 23) (k : Q none (HP h0 (strt f s))) : wpM PP d 95 [vR 94, vI f] (HP h0 s) Q := by
  refine n_at (m := 95) (q := mr95) (kn := (0, 2)) [some (vR _), some (vI _)] mb95 rfl rfl (h_rcv sc_94) (Nat.le_of_ble_eq_true rfl) rfl rfl ?_
  refine x_aload rfl ?_
  refine h_getR sc_94 rfl (by omega) ?_
  refine x_iload rfl ?_
  refine x_ci ?_
  refine h_iast sc_106 ⟨by omega, by omega⟩ (by decide) ?_
  refine x_aload rfl ?_
  refine h_getR sc_94 rfl (by omega) ?_
  refine x_iload rfl ?_
  refine x_aload rfl ?_
  refine h_getR sc_94 rfl (by omega) ?_
  refine x_ci ?_
  refine h_iald sc_96 ⟨by omega, by omega⟩ (by decide) ?_
  rw [up_a (b := 96) (by decide)]
  refine h_iast sc_107 ⟨by omega, by omega⟩ (by decide) ?_
  refine x_aload rfl ?_
  refine h_getR sc_94 rfl (by omega) ?_
  refine x_iload rfl ?_
  refine x_ci ?_
  refine h_iast sc_108 ⟨by omega, by omega⟩ (by decide) ?_
  refine x_aload rfl ?_
  refine h_getR sc_94 rfl (by omega) ?_
  refine x_iload rfl ?_
  refine x_ci ?_
  refine h_iast sc_109 ⟨by omega, by omega⟩ (by decide) ?_
  refine x_aload rfl ?_
  refine h_getR sc_94 rfl (by omega) ?_
  refine x_iload rfl ?_
  refine x_ci ?_
  refine h_iast sc_110 ⟨by omega, by omega⟩ (by decide) ?_
  refine x_aload rfl ?_
  refine h_getR sc_94 rfl (by omega) ?_
  refine x_iload rfl ?_
  refine x_ci ?_
  refine x_aload rfl ?_
  refine h_getR sc_94 rfl (by omega) ?_
  refine x_ci ?_
  refine h_iald sc_96 ⟨by omega, by omega⟩ (by decide) ?_
  rw [up_a (b := 96) (by decide), up_a (b := 96) (by decide), up_a (b := 96) (by decide), up_a (b := 96) (by decide), up_a (b := 96) (by decide)]
  refine x_ishl ?_
  refine x_ci ?_
  refine x_isub ?_
  refine h_iast sc_111 ⟨by omega, by omega⟩ (by decide) ?_
  refine x_aload rfl ?_
  refine h_getR sc_94 rfl (by omega) ?_
  refine x_iload rfl ?_
  refine x_ci ?_
  refine h_iast sc_112 ⟨by omega, by omega⟩ (by decide) ?_
  refine x_ret ?_
  exact k
theorem r_letsGo (hf : 0 ≤ f ∧ f < 23) (hd : 3 ≤ d) (hr : RD f L n c s) {x : Int} (hx : 0 ≤ x ∧ x < 6 ∧ bt L x = 1) (k : ∀ t, RD f (clr L x) (rk L c (cntN L x.toNat) n) (rc L c (cntN L x.toNat) n) t → dfr f s t → Q none (HP h0 t)) : wpM PP d 130 [vR 94, vI f, vI x] (HP h0 s) Q := by
  obtain ⟨hL, hn, hv, r1, r2, r3⟩ := hr
  have hcl := clr_is hL ⟨hx.1, hx.2.1⟩
  have hct := cnt_R L
  have L1 : ∀ N : Nat, ∀ {o5 o6 o7 : Option pv} (j : Nat) (i : Int) (t : St), (i = j) → (N = n - j ∧ j ≤ n) → (SD L c j t) → (t 111 f = L) → (t 112 f = rk L c (cntN L x.toNat) j) → (∀ r : Int, 0 ≤ r → r < rk L c (cntN L x.toNat) j → t 113 (48 * f + r) = rc L c (cntN L x.toNat) j r) → (∀ r : Int, j ≤ r → r < n → t 113 (48 * f + r) = c r) → (dfr f s t) →  wp PP d mb130 (mb130.getD 1 []) [some (vR 94), some (vI f), some (vI x), some (vI n), some (vI i), o5, o6, o7] [] (HP h0 t) Q := by
    refine s_ind (fun N ih => ?_)
    intro o5 o6 o7 j i t hj hn2 g1 g0 g2 g3 g4 g5
    have g8 : j < n → t 113 (48 * f + i) = c i := fun z => g4 i (by omega) (by omega)
    have g9 : j < n → 0 ≤ c i ∧ c i < 2 * (cnt L - 1) := fun z => hv i (by omega) (by omega)
    have vj : vC L c j := vC_less hv (by omega)
    have gq := plN_R vj (cntN L x.toNat) (cntN_R L x.toNat).1 (ord_cnt hL hx).2
    obtain ⟨q, hq⟩ : ∃ q, q = plN c j (cntN L x.toNat) := ⟨_, rfl⟩
    rw [← hq] at gq
    have go := wO_at (c := c) hL hx j
    rw [← hq] at go
    have gk := rk_le (L := L) (c := c) (q := cntN L x.toNat) j
    have e9 : c j = c i := by rw [hj]
    refine x_iload rfl ?_
    refine x_iload rfl ?_
    refine n_icmp_ge ⟨by omega, by omega⟩ ⟨by omega, by omega⟩ (fun c1 => ?_) (fun c1 => ?_)
    · refine x_aload rfl ?_
      refine h_getR sc_94 rfl (by omega) ?_
      refine x_iload rfl ?_
      refine x_dup2 ?_
      refine h_iald sc_111 ⟨by omega, by omega⟩ (by decide) ?_
      rw [g0]
      refine x_ci ?_
      refine x_iload rfl ?_
      refine x_ishl ?_
      refine x_ci ?_
      refine x_ixor ?_
      refine x_iand ?_
      rw [hcl.1]
      refine h_iast sc_111 ⟨by omega, by omega⟩ (by decide) ?_
      refine x_ret ?_
      have e : j = n := by omega
      subst e
      refine k _ ⟨⟨hcl.2.1, hcl.2.2.1⟩, by omega, ?_, ?_, ?_, ?_⟩ (fun b r w1 w2 w3 => ?_)
      · intro r z0 z1
        have := rc_v (cntN_R L x.toNat).1 (ord_cnt hL hx).2 hv r z0 z1
        rw [hcl.2.2.2 hx.2.2]
        exact this
      · rw [up_e]
      · rw [up_a (by decide)]
        exact g2
      · intro r z0 z1
        rw [up_a (by decide)]
        exact g3 r z0 z1
      · simp only [up]
        rw [if_neg (by omega)]
        exact g5 b r w1 w2 w3
    · refine x_aload rfl ?_
      refine h_getR sc_94 rfl (by omega) ?_
      refine x_ci ?_
      refine x_iload rfl ?_
      refine x_imul ?_
      refine x_iload rfl ?_
      refine x_iadd ?_
      refine h_iald sc_113 ⟨by omega, by omega⟩ (by decide) ?_
      refine t_I (c i) (g8 (by omega)) ?_
      have g9 := g9 (by omega)
      refine n_istore [some (vR _), some (vI _), some (vI _), some (vI _), some (vI _), some (vI _), _, _] (Nat.le_of_ble_eq_true rfl) rfl ?_
      refine x_iload rfl ?_
      refine x_ci ?_
      refine n_idiv ⟨by omega, by omega⟩ ⟨by omega, by omega⟩ ?_
      refine n_istore [some (vR _), some (vI _), some (vI _), some (vI _), some (vI _), some (vI _), some (vI _), _] (Nat.le_of_ble_eq_true rfl) rfl ?_
      refine x_ci ?_
      refine n_istore [some (vR _), some (vI _), some (vI _), some (vI _), some (vI _), some (vI _), some (vI _), some (vI _)] (Nat.le_of_ble_eq_true rfl) rfl ?_
      refine x_fall ?_
      have o1 := wO_R hL vj (c i / 2) (by omega) (by omega)
      have o2 := wO_R hL vj (c i / 2 + 1) (by omega) (by omega)
      have L2 : ∀ M : Nat, ∀ (y : Int), (0 ≤ y ∧ y ≤ q) → (M = q.toNat - y.toNat) →  wp PP d mb130 (mb130.getD 2 []) [some (vR 94), some (vI f), some (vI x), some (vI n), some (vI i), some (vI (c i)), some (vI (c i / 2)), some (vI y)] [] (HP h0 t) Q := by
        refine s_ind (fun M ih2 => ?_)
        intro y hy hM
        have p1 := wO_R hL vj y hy.1 (by omega)
        refine x_aload rfl ?_
        refine h_getR sc_94 rfl (by omega) ?_
        refine x_iload rfl ?_
        refine h_iald sc_114 ⟨by omega, by omega⟩ (by decide) ?_
        rw [g1.1 y (by omega) (by omega)]
        refine x_iload rfl ?_
        refine n_icmp_eq ⟨by omega, by omega⟩ ⟨by omega, by omega⟩ (fun c1 => ?_) (fun c1 => ?_)
        · have ey : y = q := wO_inj hL vj y q (by omega) (by omega) gq.1 gq.2 (c1.trans go.symm)
          refine x_aload rfl ?_
          refine x_iload rfl ?_
          refine n_call [vR _, vI _] [] (by omega) (Nat.le_of_ble_eq_true rfl) rfl rfl (Nat.le_of_ble_eq_true rfl) ?_
          refine r_crosses (x := c i) (o1 := wO L c j (c i / 2)) (o2 := wO L c j (c i / 2 + 1)) (by omega) (g1.1 _ (by omega) (by omega)) (g1.1 _ (by omega) (by omega)) ⟨o1.1, o1.2.1⟩ ⟨o2.1, o2.2.1⟩ (fun e => by have := wO_inj hL vj _ _ (by omega) (by omega) (by omega) (by omega) e; omega) (fun u hu => ?_)
          have hu2 := g1.step hL (vC_less hv (show j + 1 ≤ n by omega)) (t := u) (by rw [e9]; exact hu)
          obtain ⟨hu3, -⟩ := hu
          have u2 : u 112 f = rk L c (cntN L x.toNat) j := (hu3 112 (by omega) f).trans g2
          show wp PP _ _ _ [some (vR _), some (vI _), some (vI _), some (vI _), some (vI _), some (vI _), some (vI _), some (vI _)] [] _ _
          refine x_iload rfl ?_
          refine x_iload rfl ?_
          refine n_icmp_eq ⟨by omega, by omega⟩ ⟨by omega, by omega⟩ (fun c2 => ?_) (fun c2 => ?_)
          · refine n_iinc [some (vR _), some (vI _), some (vI _), some (vI _), some (vI _), some (vI _), some (vI _), some (vI _)] rfl rfl ?_
            refine x_goto ?_
            refine ih (n - (j + 1)) (by omega) (j + 1) _ _ (by omega) (by omega) hu2 ?_ ?_ ?_ (fun r z0 z1 => ?_) (fun b r w1 w2 w3 => ?_)
            · exact (hu3 111 (by omega) f).trans g0
            · simp only [rk]
              rw [if_pos (by rw [← hq, e9]; omega)]
              exact u2
            · intro r z0 z1
              simp only [rk] at z1
              simp only [rc]
              rw [if_pos (by rw [← hq, e9]; omega)] at z1 ⊢
              exact (hu3 113 (by omega) _).trans (g3 r z0 z1)
            · exact (hu3 113 (by omega) _).trans (g4 r (by omega) z1)
            · exact (hu3 b (by omega) r).trans (g5 b r w1 w2 w3)
          · refine x_iload rfl ?_
            refine x_iload rfl ?_
            refine x_ci ?_
            refine x_iadd ?_
            refine n_icmp_ne ⟨by omega, by omega⟩ ⟨by omega, by omega⟩ (fun c3 => ?_) (fun c3 => ?_)
            · refine x_aload rfl ?_
              refine h_getR sc_94 rfl (by omega) ?_
              refine x_ci ?_
              refine x_iload rfl ?_
              refine x_imul ?_
              refine x_aload rfl ?_
              refine h_getR sc_94 rfl (by omega) ?_
              refine x_iload rfl ?_
              refine h_iald sc_112 ⟨by omega, by omega⟩ (by decide) ?_
              rw [u2]
              refine x_iadd ?_
              refine x_iload rfl ?_
              refine x_iload rfl ?_
              refine n_icmp_ge ⟨by omega, by omega⟩ ⟨by omega, by omega⟩ (fun c4 => ?_) (fun c4 => ?_)
              · refine x_iload rfl ?_
                refine x_fall ?_
                refine h_iast sc_113 ⟨by omega, by omega⟩ (by decide) ?_
                refine x_aload rfl ?_
                refine h_getR sc_94 rfl (by omega) ?_
                refine x_iload rfl ?_
                refine x_dup2 ?_
                refine h_iald sc_112 ⟨by omega, by omega⟩ (by decide) ?_
                skip
                refine x_ci ?_
                refine x_iadd ?_
                refine h_iast sc_112 ⟨by omega, by omega⟩ (by decide) ?_
                refine x_fall ?_
                refine n_iinc [some (vR _), some (vI _), some (vI _), some (vI _), some (vI _), some (vI _), some (vI _), some (vI _)] rfl rfl ?_
                refine x_goto ?_
                refine ih (n - (j + 1)) (by omega) (j + 1) _ _ (by omega) (by omega) ⟨fun p p0 p1 => ?_, fun p p0 p1 => ?_, fun p p0 p1 => ?_, fun p p0 p1 => ?_⟩ ?_ ?_ ?_ (fun r z0 z1 => ?_) (fun b r w1 w2 w3 => ?_)
                · rw [up_a (by decide), up_a (by decide)]
                  exact hu2.1 p p0 p1
                · rw [up_a (by decide), up_a (by decide)]
                  exact hu2.2.1 p p0 p1
                · rw [up_a (by decide), up_a (by decide)]
                  exact hu2.2.2.1 p p0 p1
                · rw [up_a (by decide), up_a (by decide)]
                  exact hu2.2.2.2 p p0 p1
                · rw [up_a (by decide), up_a (by decide)]
                  exact (hu3 111 (by omega) f).trans g0
                · simp only [rk]
                  rw [if_neg (by rw [← hq, e9]; omega), up_e, up_a (by decide), u2]
                  omega
                · intro r z0 z1
                  simp only [rk] at z1
                  simp only [rc]
                  rw [if_neg (by rw [← hq, e9]; omega)] at z1 ⊢
                  rw [up_a (by decide), up_at]
                  by_cases e : r = (rk L c (cntN L x.toNat) j : Int)
                  · rw [if_pos (by omega), if_pos e, e9, ← hq]
                    rw [if_neg (by omega)]
                  · rw [if_neg (by omega), if_neg e]
                    exact (hu3 113 (by omega) _).trans (g3 r z0 (by omega))
                · rw [up_a (by decide), up_i (by omega)]
                  exact (hu3 113 (by omega) _).trans (g4 r (by omega) z1)
                · simp only [up]
                  rw [if_neg (by omega), if_neg (by omega)]
                  exact (hu3 b (by omega) r).trans (g5 b r w1 w2 w3)
              · refine x_iload rfl ?_
                refine x_ci ?_
                refine x_isub ?_
                refine x_goto ?_
                refine h_iast sc_113 ⟨by omega, by omega⟩ (by decide) ?_
                refine x_aload rfl ?_
                refine h_getR sc_94 rfl (by omega) ?_
                refine x_iload rfl ?_
                refine x_dup2 ?_
                refine h_iald sc_112 ⟨by omega, by omega⟩ (by decide) ?_
                skip
                refine x_ci ?_
                refine x_iadd ?_
                refine h_iast sc_112 ⟨by omega, by omega⟩ (by decide) ?_
                refine x_fall ?_
                refine n_iinc [some (vR _), some (vI _), some (vI _), some (vI _), some (vI _), some (vI _), some (vI _), some (vI _)] rfl rfl ?_
                refine x_goto ?_
                refine ih (n - (j + 1)) (by omega) (j + 1) _ _ (by omega) (by omega) ⟨fun p p0 p1 => ?_, fun p p0 p1 => ?_, fun p p0 p1 => ?_, fun p p0 p1 => ?_⟩ ?_ ?_ ?_ (fun r z0 z1 => ?_) (fun b r w1 w2 w3 => ?_)
                · rw [up_a (by decide), up_a (by decide)]
                  exact hu2.1 p p0 p1
                · rw [up_a (by decide), up_a (by decide)]
                  exact hu2.2.1 p p0 p1
                · rw [up_a (by decide), up_a (by decide)]
                  exact hu2.2.2.1 p p0 p1
                · rw [up_a (by decide), up_a (by decide)]
                  exact hu2.2.2.2 p p0 p1
                · rw [up_a (by decide), up_a (by decide)]
                  exact (hu3 111 (by omega) f).trans g0
                · simp only [rk]
                  rw [if_neg (by rw [← hq, e9]; omega), up_e, up_a (by decide), u2]
                  omega
                · intro r z0 z1
                  simp only [rk] at z1
                  simp only [rc]
                  rw [if_neg (by rw [← hq, e9]; omega)] at z1 ⊢
                  rw [up_a (by decide), up_at]
                  by_cases e : r = (rk L c (cntN L x.toNat) j : Int)
                  · rw [if_pos (by omega), if_pos e, e9, ← hq]
                    rw [if_pos (by omega)]
                  · rw [if_neg (by omega), if_neg e]
                    exact (hu3 113 (by omega) _).trans (g3 r z0 (by omega))
                · rw [up_a (by decide), up_i (by omega)]
                  exact (hu3 113 (by omega) _).trans (g4 r (by omega) z1)
                · simp only [up]
                  rw [if_neg (by omega), if_neg (by omega)]
                  exact (hu3 b (by omega) r).trans (g5 b r w1 w2 w3)
            · refine x_goto ?_
              refine n_iinc [some (vR _), some (vI _), some (vI _), some (vI _), some (vI _), some (vI _), some (vI _), some (vI _)] rfl rfl ?_
              refine x_goto ?_
              refine ih (n - (j + 1)) (by omega) (j + 1) _ _ (by omega) (by omega) hu2 ?_ ?_ ?_ (fun r z0 z1 => ?_) (fun b r w1 w2 w3 => ?_)
              · exact (hu3 111 (by omega) f).trans g0
              · simp only [rk]
                rw [if_pos (by rw [← hq, e9]; omega)]
                exact u2
              · intro r z0 z1
                simp only [rk] at z1
                simp only [rc]
                rw [if_pos (by rw [← hq, e9]; omega)] at z1 ⊢
                exact (hu3 113 (by omega) _).trans (g3 r z0 z1)
              · exact (hu3 113 (by omega) _).trans (g4 r (by omega) z1)
              · exact (hu3 b (by omega) r).trans (g5 b r w1 w2 w3)
        · refine n_iinc [some (vR _), some (vI _), some (vI _), some (vI _), some (vI _), some (vI _), some (vI _), some (vI _)] rfl rfl ?_
          refine x_goto ?_
          refine ih2 (q.toNat - (y + 1).toNat) ?_ (y + 1) ⟨by omega, ?_⟩ rfl
          · have : y ≠ q := fun e => c1 (by rw [e]; exact go)
            omega
          · have : y ≠ q := fun e => c1 (by rw [e]; exact go)
            omega
      exact L2 _ 0 (by omega) rfl
  refine n_at (m := 130) (q := mr130) (kn := (0, 3)) [some (vR _), some (vI _), some (vI _), none, none, none, none, none] mb130 rfl rfl (h_rcv sc_94) (Nat.le_of_ble_eq_true rfl) rfl rfl ?_
  refine x_aload rfl ?_
  refine h_getR sc_94 rfl (by omega) ?_
  refine x_iload rfl ?_
  refine h_iald sc_112 ⟨by omega, by omega⟩ (by decide) ?_
  rw [r2]
  refine n_istore [some (vR _), some (vI _), some (vI _), some (vI _), _, _, _, _] (Nat.le_of_ble_eq_true rfl) rfl ?_
  refine x_aload rfl ?_
  refine x_iload rfl ?_
  refine x_ci ?_
  refine n_call [vR _, vI _, vI _] [] (by omega) (Nat.le_of_ble_eq_true rfl) rfl rfl (Nat.le_of_ble_eq_true rfl) ?_
  refine r_stands (c := c) (L := L) ⟨by omega, by omega⟩ (m := 0) (by omega) hL r1 (by omega) (vC_less hv (by omega)) (fun i i0 i1 => by omega) (fun t0 t1 t2 => ?_)
  show wp PP _ _ _ [some (vR _), some (vI _), some (vI _), some (vI _), _, _, _, _] [] _ _
  refine x_aload rfl ?_
  refine h_getR sc_94 rfl (by omega) ?_
  refine x_iload rfl ?_
  refine x_ci ?_
  refine h_iast sc_112 ⟨by omega, by omega⟩ (by decide) ?_
  refine x_ci ?_
  refine n_istore [some (vR _), some (vI _), some (vI _), some (vI _), some (vI _), _, _, _] (Nat.le_of_ble_eq_true rfl) rfl ?_
  refine x_fall ?_
  refine L1 n 0 0 _ rfl (by omega) ⟨fun p p0 p1 => ?_, fun p p0 p1 => ?_, fun p p0 p1 => ?_, fun p p0 p1 => ?_⟩ ?_ ?_ (fun r z0 z1 => absurd z1 (by simp [rk]; omega)) (fun r z0 z1 => ?_) (fun b r w1 w2 w3 => ?_)
  · rw [up_a (by decide)]
    exact t1.1 p p0 p1
  · rw [up_a (by decide)]
    exact t1.2.1 p p0 p1
  · rw [up_a (by decide)]
    exact t1.2.2.1 p p0 p1
  · rw [up_a (by decide)]
    exact t1.2.2.2 p p0 p1
  · rw [up_a (by decide)]
    exact (t2 111 (by omega) f).trans r1
  · rw [up_e]
    rfl
  · rw [up_a (by decide)]
    exact (t2 113 (by omega) _).trans (r3 r (by omega) z1)
  · simp only [up]
    rw [if_neg (by omega)]
    exact t2 b (by omega) r
end R5
