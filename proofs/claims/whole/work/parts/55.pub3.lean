/-! PUBLICS THAT CHANGE THE DANCE: letGo, undo -/
section PX
variable {d tp : Nat} {h0 h : pheap} {s : St} {Q : Option pv → pheap → Prop} {L : Int} {n z : Nat} {c : Int → Int} {Hs : Hst} {vw rf sl yr la : Int}
/-- all but the class's dance now and its past; all but the reference's and who threw -/
def cfr (s t : St) : Prop := ∀ b : Nat, (b < 53 ∨ (57 < b ∧ b < 70) ∨ 74 < b) → ∀ r, t b r = s b r
def nfr (s t : St) : Prop := ∀ (b : Nat) (r : Int), ¬ (114 ≤ b ∧ b ≤ 117) → ¬ (b = 94 ∧ (r = 0 ∨ r = 36)) → ¬ (106 ≤ b ∧ b ≤ 112 ∧ ¬ r = 1 ∧ ¬ r = 2) → ¬ (b = 113 ∧ ¬ (48 ≤ r ∧ r < 144)) → t b r = s b r
theorem PAs.out {t : St} (h : PAs z Hs s) (f : ∀ b : Nat, 70 ≤ b → b ≤ 74 → ∀ r, t b r = s b r) : PAs z Hs t := by
  obtain ⟨h1, h2, h3, h4, h5⟩ := h
  have e := f 70 (by decide) (by decide)
  refine ⟨h1, (e 4).trans h2, by rw [e 5]; exact h3, by rw [e 5]; exact h4, fun i hi => ?_⟩
  rw [e 5, f 74 (by decide) (by decide), f 73 (by decide) (by decide), f 72 (by decide) (by decide)]
  obtain ⟨q1, q2, q3, q4⟩ := h5 i hi
  exact ⟨q1, q2, q3, fun j j0 j1 => by rw [f 71 (by decide) (by decide)]; exact q4 j j0 j1⟩
theorem m_letGoY (hd : 14 ≤ d) (hD : DA 53 vw rf sl yr la L n c s) (ha : PAs z Hs s) (hok : hOk z Hs) (hn48 : n ≤ 48) {x : Int} (hx2 : 0 ≤ x ∧ x < 6 ∧ bt L x = 1) (k : ∀ t, DA 53 vw rf sl yr la (clr L x) (rk L c (cntN L x.toNat) n) (rc L c (cntN L x.toNat) n) t → PAs (min 20 (z + 1)) (hput1 vw L n c Hs) t → cfr s t → Q (some (vI (rk L c (cntN L x.toNat) n))) (HP h0 t)) : wpM PP d 19 [vR 32, vI x] (HP h0 s) Q := by
  obtain ⟨v1, v2, v3, v4, v5, hp⟩ := hD
  refine n_at (m := 19) (q := mr19) (kn := (0, 2)) [some (vR _), some (vI _)] mb19 rfl rfl (h_rcv sc_32) (Nat.le_of_ble_eq_true rfl) rfl rfl ?_
  refine x_aload rfl ?_
  refine h_getR sc_32 rfl (by omega) ?_
  refine h_getR sc_53 rfl (by omega) ?_
  refine x_iload rfl ?_
  refine n_call [vR _, vI _] [] (by omega) (Nat.le_of_ble_eq_true rfl) rfl rfl (Nat.le_of_ble_eq_true rfl) ?_
  refine m_isLeft pl_54 (by rw [hp.left]; exact hp.hL) ⟨by omega, by omega⟩ ?_
  rw [hp.left]
  show wp PP _ _ _ [some (vR _), some (vI _)] [vI _] _ _
  refine z_if_ne (fun c1 => ?_) (fun c1 => ?_)
  · refine x_aload rfl ?_
    refine h_getR sc_32 rfl (by omega) ?_
    refine x_aload rfl ?_
    refine h_getR sc_32 rfl (by omega) ?_
    refine n_call [vR _, vR _] [] (by omega) (Nat.le_of_ble_eq_true rfl) rfl rfl (Nat.le_of_ble_eq_true rfl) ?_
    refine m_put (by omega) ha hok v1 hp hn48 (fun t t1 t2 => ?_)
    show wp PP _ _ _ [some (vR _), some (vI _)] [] _ _
    refine x_aload rfl ?_
    refine h_getR sc_32 rfl (by omega) ?_
    refine h_getR sc_53 rfl (by omega) ?_
    refine x_iload rfl ?_
    refine n_call [vR _, vI _] [] (by omega) (Nat.le_of_ble_eq_true rfl) rfl rfl (Nat.le_of_ble_eq_true rfl) ?_
    have hp2 : PL 54 L n c t := ⟨hp.hL, hp.hn, hp.v, (t2 54 (by omega) 3).trans hp.left, (t2 54 (by omega) 4).trans hp.count, (t2 54 (by omega) 5).trans hp.size, (t2 54 (by omega) 6).trans hp.bound, fun i p q => (t2 55 (by omega) i).trans (hp.code p q), fun i p q => (t2 56 (by omega) i).trans (hp.order p q), fun i p q => (t2 57 (by omega) i).trans (hp.bond p q)⟩
    refine m_release pl_54 (by omega) hp2 hx2 (fun u u1 u2 => ?_)
    show wp PP _ _ _ [some (vR _), some (vI _)] [] _ _
    refine x_aload rfl ?_
    refine h_getR sc_32 rfl (by omega) ?_
    refine h_getR sc_53 rfl (by omega) ?_
    refine h_getI 5 sc_54 rfl rfl ?_
    rw [u1.size]
    refine x_iret ?_
    exact k u ⟨(u2 53 (by omega) 1).trans ((t2 53 (by omega) 1).trans v1), (u2 53 (by omega) 2).trans ((t2 53 (by omega) 2).trans v2), (u2 53 (by omega) 3).trans ((t2 53 (by omega) 3).trans v3), (u2 53 (by omega) 4).trans ((t2 53 (by omega) 4).trans v4), (u2 53 (by omega) 5).trans ((t2 53 (by omega) 5).trans v5), u1⟩ (t1.out (fun b h1 h2 r => u2 b (by omega) r)) (fun b hb r => (u2 b (by omega) r).trans (t2 b (by omega) r))
  · exact absurd hx2 c1
theorem m_letGoN (hd : 2 ≤ d) (hp : PL 54 L n c s) {x : Int} (hx : iR x) (hx2 : ¬ (0 ≤ x ∧ x < 6 ∧ bt L x = 1)) (k : Q (some (vI (-1))) (HP h0 s)) : wpM PP d 19 [vR 32, vI x] (HP h0 s) Q := by
  refine n_at (m := 19) (q := mr19) (kn := (0, 2)) [some (vR _), some (vI _)] mb19 rfl rfl (h_rcv sc_32) (Nat.le_of_ble_eq_true rfl) rfl rfl ?_
  refine x_aload rfl ?_
  refine h_getR sc_32 rfl (by omega) ?_
  refine h_getR sc_53 rfl (by omega) ?_
  refine x_iload rfl ?_
  refine n_call [vR _, vI _] [] (by omega) (Nat.le_of_ble_eq_true rfl) rfl rfl (Nat.le_of_ble_eq_true rfl) ?_
  refine m_isLeft pl_54 (by rw [hp.left]; exact hp.hL) ⟨by omega, by omega⟩ ?_
  rw [hp.left]
  show wp PP _ _ _ [some (vR _), some (vI _)] [vI _] _ _
  refine z_if_ne (fun c1 => ?_) (fun c1 => ?_)
  · exact absurd c1 hx2
  · refine x_ci ?_
    refine x_iret ?_
    exact k
def dfl (f : Int) (s t : St) : Prop := ∀ (b : Nat) (j : Int), ¬ (114 ≤ b ∧ b ≤ 117) → ¬ ((b = 111 ∨ b = 112) ∧ j = f) → ¬ (b = 113 ∧ 48 * f ≤ j ∧ j < 48 * f + 48) → t b j = s b j
theorem dfl.df {f : Int} {t : St} (h : dfl f s t) : dfr f s t := fun b j q1 q2 q3 => h b j q1 (by omega) q3
theorem r_letsGo2 {L f : Int} {n : Nat} {c : Int → Int} (hf : 0 ≤ f ∧ f < 23) (hd : 3 ≤ d) (hr : RD f L n c s) {x : Int} (hx : 0 ≤ x ∧ x < 6 ∧ bt L x = 1) (k : ∀ t, RD f (clr L x) (rk L c (cntN L x.toNat) n) (rc L c (cntN L x.toNat) n) t → dfl f s t → Q none (HP h0 t)) : wpM PP d 130 [vR 94, vI f, vI x] (HP h0 s) Q := by
  obtain ⟨hL, hn, hv, r1, r2, r3⟩ := hr
  have hcl := clr_is hL ⟨hx.1, hx.2.1⟩
  have hct := cnt_R L
  have L1 : ∀ N : Nat, ∀ {o5 o6 o7 : Option pv} (j : Nat) (i : Int) (t : St), (i = j) → (N = n - j ∧ j ≤ n) → (SD L c j t) → (t 111 f = L) → (t 112 f = rk L c (cntN L x.toNat) j) → (∀ r : Int, 0 ≤ r → r < rk L c (cntN L x.toNat) j → t 113 (48 * f + r) = rc L c (cntN L x.toNat) j r) → (∀ r : Int, j ≤ r → r < n → t 113 (48 * f + r) = c r) → (dfl f s t) →  wp PP d mb130 (mb130.getD 1 []) [some (vR 94), some (vI f), some (vI x), some (vI n), some (vI i), o5, o6, o7] [] (HP h0 t) Q := by
    refine s_ind (fun N ih => ?_)
    intro o5 o6 o7 j i t hj hn2 g1 g0 g2 g3 g4 g5
    have g8 : j < n → t 113 (48 * f + i) = c i := fun z => g4 i (by omega) (by omega)
    have g9 : j < n → 0 ≤ c i ∧ c i < 2 * (cnt L - 1) := fun z => hv i (by omega) (by omega)
    have vj : vC L c j := vC_less hv (by omega)
    have gq := plN_R vj (cntN L x.toNat) (cntN_R L x.toNat).1 (ord_cnt hL hx).2
    obtain ⟨q, hq⟩ : ∃ q, q = plN c j (cntN L x.toNat) := ⟨_, rfl⟩
    rw [← hq] at gq
    have go := wO_at (c := c) hL hx j
    rw [← hq] at go
    have gk := rk_le (L := L) (c := c) (q := cntN L x.toNat) j
    have e9 : c j = c i := by rw [hj]
    refine x_iload rfl ?_
    refine x_iload rfl ?_
    refine n_icmp_ge ⟨by omega, by omega⟩ ⟨by omega, by omega⟩ (fun c1 => ?_) (fun c1 => ?_)
    · refine x_aload rfl ?_
      refine h_getR sc_94 rfl (by omega) ?_
      refine x_iload rfl ?_
      refine x_dup2 ?_
      refine h_iald sc_111 ⟨by omega, by omega⟩ (by decide) ?_
      rw [g0]
      refine x_ci ?_
      refine x_iload rfl ?_
      refine x_ishl ?_
      refine x_ci ?_
      refine x_ixor ?_
      refine x_iand ?_
      rw [hcl.1]
      refine h_iast sc_111 ⟨by omega, by omega⟩ (by decide) ?_
      refine x_ret ?_
      have e : j = n := by omega
      subst e
      refine k _ ⟨⟨hcl.2.1, hcl.2.2.1⟩, by omega, ?_, ?_, ?_, ?_⟩ (fun b r w1 w2 w3 => ?_)
      · intro r z0 z1
        have := rc_v (cntN_R L x.toNat).1 (ord_cnt hL hx).2 hv r z0 z1
        rw [hcl.2.2.2 hx.2.2]
        exact this
      · rw [up_e]
      · rw [up_a (by decide)]
        exact g2
      · intro r z0 z1
        rw [up_a (by decide)]
        exact g3 r z0 z1
      · simp only [up]
        rw [if_neg (by omega)]
        exact g5 b r w1 w2 w3
    · refine x_aload rfl ?_
      refine h_getR sc_94 rfl (by omega) ?_
      refine x_ci ?_
      refine x_iload rfl ?_
      refine x_imul ?_
      refine x_iload rfl ?_
      refine x_iadd ?_
      refine h_iald sc_113 ⟨by omega, by omega⟩ (by decide) ?_
      refine t_I (c i) (g8 (by omega)) ?_
      have g9 := g9 (by omega)
      refine n_istore [some (vR _), some (vI _), some (vI _), some (vI _), some (vI _), some (vI _), _, _] (Nat.le_of_ble_eq_true rfl) rfl ?_
      refine x_iload rfl ?_
      refine x_ci ?_
      refine n_idiv ⟨by omega, by omega⟩ ⟨by omega, by omega⟩ ?_
      refine n_istore [some (vR _), some (vI _), some (vI _), some (vI _), some (vI _), some (vI _), some (vI _), _] (Nat.le_of_ble_eq_true rfl) rfl ?_
      refine x_ci ?_
      refine n_istore [some (vR _), some (vI _), some (vI _), some (vI _), some (vI _), some (vI _), some (vI _), some (vI _)] (Nat.le_of_ble_eq_true rfl) rfl ?_
      refine x_fall ?_
      have o1 := wO_R hL vj (c i / 2) (by omega) (by omega)
      have o2 := wO_R hL vj (c i / 2 + 1) (by omega) (by omega)
      have L2 : ∀ M : Nat, ∀ (y : Int), (0 ≤ y ∧ y ≤ q) → (M = q.toNat - y.toNat) →  wp PP d mb130 (mb130.getD 2 []) [some (vR 94), some (vI f), some (vI x), some (vI n), some (vI i), some (vI (c i)), some (vI (c i / 2)), some (vI y)] [] (HP h0 t) Q := by
        refine s_ind (fun M ih2 => ?_)
        intro y hy hM
        have p1 := wO_R hL vj y hy.1 (by omega)
        refine x_aload rfl ?_
        refine h_getR sc_94 rfl (by omega) ?_
        refine x_iload rfl ?_
        refine h_iald sc_114 ⟨by omega, by omega⟩ (by decide) ?_
        rw [g1.1 y (by omega) (by omega)]
        refine x_iload rfl ?_
        refine n_icmp_eq ⟨by omega, by omega⟩ ⟨by omega, by omega⟩ (fun c1 => ?_) (fun c1 => ?_)
        · have ey : y = q := wO_inj hL vj y q (by omega) (by omega) gq.1 gq.2 (c1.trans go.symm)
          refine x_aload rfl ?_
          refine x_iload rfl ?_
          refine n_call [vR _, vI _] [] (by omega) (Nat.le_of_ble_eq_true rfl) rfl rfl (Nat.le_of_ble_eq_true rfl) ?_
          refine r_crosses (x := c i) (o1 := wO L c j (c i / 2)) (o2 := wO L c j (c i / 2 + 1)) (by omega) (g1.1 _ (by omega) (by omega)) (g1.1 _ (by omega) (by omega)) ⟨o1.1, o1.2.1⟩ ⟨o2.1, o2.2.1⟩ (fun e => by have := wO_inj hL vj _ _ (by omega) (by omega) (by omega) (by omega) e; omega) (fun u hu => ?_)
          have hu2 := g1.step hL (vC_less hv (show j + 1 ≤ n by omega)) (t := u) (by rw [e9]; exact hu)
          obtain ⟨hu3, -⟩ := hu
          have u2 : u 112 f = rk L c (cntN L x.toNat) j := (hu3 112 (by omega) f).trans g2
          show wp PP _ _ _ [some (vR _), some (vI _), some (vI _), some (vI _), some (vI _), some (vI _), some (vI _), some (vI _)] [] _ _
          refine x_iload rfl ?_
          refine x_iload rfl ?_
          refine n_icmp_eq ⟨by omega, by omega⟩ ⟨by omega, by omega⟩ (fun c2 => ?_) (fun c2 => ?_)
          · refine n_iinc [some (vR _), some (vI _), some (vI _), some (vI _), some (vI _), some (vI _), some (vI _), some (vI _)] rfl rfl ?_
            refine x_goto ?_
            refine ih (n - (j + 1)) (by omega) (j + 1) _ _ (by omega) (by omega) hu2 ?_ ?_ ?_ (fun r z0 z1 => ?_) (fun b r w1 w2 w3 => ?_)
            · exact (hu3 111 (by omega) f).trans g0
            · simp only [rk]
              rw [if_pos (by rw [← hq, e9]; omega)]
              exact u2
            · intro r z0 z1
              simp only [rk] at z1
              simp only [rc]
              rw [if_pos (by rw [← hq, e9]; omega)] at z1 ⊢
              exact (hu3 113 (by omega) _).trans (g3 r z0 z1)
            · exact (hu3 113 (by omega) _).trans (g4 r (by omega) z1)
            · exact (hu3 b (by omega) r).trans (g5 b r w1 w2 w3)
          · refine x_iload rfl ?_
            refine x_iload rfl ?_
            refine x_ci ?_
            refine x_iadd ?_
            refine n_icmp_ne ⟨by omega, by omega⟩ ⟨by omega, by omega⟩ (fun c3 => ?_) (fun c3 => ?_)
            · refine x_aload rfl ?_
              refine h_getR sc_94 rfl (by omega) ?_
              refine x_ci ?_
              refine x_iload rfl ?_
              refine x_imul ?_
              refine x_aload rfl ?_
              refine h_getR sc_94 rfl (by omega) ?_
              refine x_iload rfl ?_
              refine h_iald sc_112 ⟨by omega, by omega⟩ (by decide) ?_
              rw [u2]
              refine x_iadd ?_
              refine x_iload rfl ?_
              refine x_iload rfl ?_
              refine n_icmp_ge ⟨by omega, by omega⟩ ⟨by omega, by omega⟩ (fun c4 => ?_) (fun c4 => ?_)
              · refine x_iload rfl ?_
                refine x_fall ?_
                refine h_iast sc_113 ⟨by omega, by omega⟩ (by decide) ?_
                refine x_aload rfl ?_
                refine h_getR sc_94 rfl (by omega) ?_
                refine x_iload rfl ?_
                refine x_dup2 ?_
                refine h_iald sc_112 ⟨by omega, by omega⟩ (by decide) ?_
                skip
                refine x_ci ?_
                refine x_iadd ?_
                refine h_iast sc_112 ⟨by omega, by omega⟩ (by decide) ?_
                refine x_fall ?_
                refine n_iinc [some (vR _), some (vI _), some (vI _), some (vI _), some (vI _), some (vI _), some (vI _), some (vI _)] rfl rfl ?_
                refine x_goto ?_
                refine ih (n - (j + 1)) (by omega) (j + 1) _ _ (by omega) (by omega) ⟨fun p p0 p1 => ?_, fun p p0 p1 => ?_, fun p p0 p1 => ?_, fun p p0 p1 => ?_⟩ ?_ ?_ ?_ (fun r z0 z1 => ?_) (fun b r w1 w2 w3 => ?_)
                · rw [up_a (by decide), up_a (by decide)]
                  exact hu2.1 p p0 p1
                · rw [up_a (by decide), up_a (by decide)]
                  exact hu2.2.1 p p0 p1
                · rw [up_a (by decide), up_a (by decide)]
                  exact hu2.2.2.1 p p0 p1
                · rw [up_a (by decide), up_a (by decide)]
                  exact hu2.2.2.2 p p0 p1
                · rw [up_a (by decide), up_a (by decide)]
                  exact (hu3 111 (by omega) f).trans g0
                · simp only [rk]
                  rw [if_neg (by rw [← hq, e9]; omega), up_e, up_a (by decide), u2]
                  omega
                · intro r z0 z1
                  simp only [rk] at z1
                  simp only [rc]
                  rw [if_neg (by rw [← hq, e9]; omega)] at z1 ⊢
                  rw [up_a (by decide), up_at]
                  by_cases e : r = (rk L c (cntN L x.toNat) j : Int)
                  · rw [if_pos (by omega), if_pos e, e9, ← hq]
                    rw [if_neg (by omega)]
                  · rw [if_neg (by omega), if_neg e]
                    exact (hu3 113 (by omega) _).trans (g3 r z0 (by omega))
                · rw [up_a (by decide), up_i (by omega)]
                  exact (hu3 113 (by omega) _).trans (g4 r (by omega) z1)
                · simp only [up]
                  rw [if_neg (by omega), if_neg (by omega)]
                  exact (hu3 b (by omega) r).trans (g5 b r w1 w2 w3)
              · refine x_iload rfl ?_
                refine x_ci ?_
                refine x_isub ?_
                refine x_goto ?_
                refine h_iast sc_113 ⟨by omega, by omega⟩ (by decide) ?_
                refine x_aload rfl ?_
                refine h_getR sc_94 rfl (by omega) ?_
                refine x_iload rfl ?_
                refine x_dup2 ?_
                refine h_iald sc_112 ⟨by omega, by omega⟩ (by decide) ?_
                skip
                refine x_ci ?_
                refine x_iadd ?_
                refine h_iast sc_112 ⟨by omega, by omega⟩ (by decide) ?_
                refine x_fall ?_
                refine n_iinc [some (vR _), some (vI _), some (vI _), some (vI _), some (vI _), some (vI _), some (vI _), some (vI _)] rfl rfl ?_
                refine x_goto ?_
                refine ih (n - (j + 1)) (by omega) (j + 1) _ _ (by omega) (by omega) ⟨fun p p0 p1 => ?_, fun p p0 p1 => ?_, fun p p0 p1 => ?_, fun p p0 p1 => ?_⟩ ?_ ?_ ?_ (fun r z0 z1 => ?_) (fun b r w1 w2 w3 => ?_)
                · rw [up_a (by decide), up_a (by decide)]
                  exact hu2.1 p p0 p1
                · rw [up_a (by decide), up_a (by decide)]
                  exact hu2.2.1 p p0 p1
                · rw [up_a (by decide), up_a (by decide)]
                  exact hu2.2.2.1 p p0 p1
                · rw [up_a (by decide), up_a (by decide)]
                  exact hu2.2.2.2 p p0 p1
                · rw [up_a (by decide), up_a (by decide)]
                  exact (hu3 111 (by omega) f).trans g0
                · simp only [rk]
                  rw [if_neg (by rw [← hq, e9]; omega), up_e, up_a (by decide), u2]
                  omega
                · intro r z0 z1
                  simp only [rk] at z1
                  simp only [rc]
                  rw [if_neg (by rw [← hq, e9]; omega)] at z1 ⊢
                  rw [up_a (by decide), up_at]
                  by_cases e : r = (rk L c (cntN L x.toNat) j : Int)
                  · rw [if_pos (by omega), if_pos e, e9, ← hq]
                    rw [if_pos (by omega)]
                  · rw [if_neg (by omega), if_neg e]
                    exact (hu3 113 (by omega) _).trans (g3 r z0 (by omega))
                · rw [up_a (by decide), up_i (by omega)]
                  exact (hu3 113 (by omega) _).trans (g4 r (by omega) z1)
                · simp only [up]
                  rw [if_neg (by omega), if_neg (by omega)]
                  exact (hu3 b (by omega) r).trans (g5 b r w1 w2 w3)
            · refine x_goto ?_
              refine n_iinc [some (vR _), some (vI _), some (vI _), some (vI _), some (vI _), some (vI _), some (vI _), some (vI _)] rfl rfl ?_
              refine x_goto ?_
              refine ih (n - (j + 1)) (by omega) (j + 1) _ _ (by omega) (by omega) hu2 ?_ ?_ ?_ (fun r z0 z1 => ?_) (fun b r w1 w2 w3 => ?_)
              · exact (hu3 111 (by omega) f).trans g0
              · simp only [rk]
                rw [if_pos (by rw [← hq, e9]; omega)]
                exact u2
              · intro r z0 z1
                simp only [rk] at z1
                simp only [rc]
                rw [if_pos (by rw [← hq, e9]; omega)] at z1 ⊢
                exact (hu3 113 (by omega) _).trans (g3 r z0 z1)
              · exact (hu3 113 (by omega) _).trans (g4 r (by omega) z1)
              · exact (hu3 b (by omega) r).trans (g5 b r w1 w2 w3)
        · refine n_iinc [some (vR _), some (vI _), some (vI _), some (vI _), some (vI _), some (vI _), some (vI _), some (vI _)] rfl rfl ?_
          refine x_goto ?_
          refine ih2 (q.toNat - (y + 1).toNat) ?_ (y + 1) ⟨by omega, ?_⟩ rfl
          · have : y ≠ q := fun e => c1 (by rw [e]; exact go)
            omega
          · have : y ≠ q := fun e => c1 (by rw [e]; exact go)
            omega
      exact L2 _ 0 (by omega) rfl
  refine n_at (m := 130) (q := mr130) (kn := (0, 3)) [some (vR _), some (vI _), some (vI _), none, none, none, none, none] mb130 rfl rfl (h_rcv sc_94) (Nat.le_of_ble_eq_true rfl) rfl rfl ?_
  refine x_aload rfl ?_
  refine h_getR sc_94 rfl (by omega) ?_
  refine x_iload rfl ?_
  refine h_iald sc_112 ⟨by omega, by omega⟩ (by decide) ?_
  rw [r2]
  refine n_istore [some (vR _), some (vI _), some (vI _), some (vI _), _, _, _, _] (Nat.le_of_ble_eq_true rfl) rfl ?_
  refine x_aload rfl ?_
  refine x_iload rfl ?_
  refine x_ci ?_
  refine n_call [vR _, vI _, vI _] [] (by omega) (Nat.le_of_ble_eq_true rfl) rfl rfl (Nat.le_of_ble_eq_true rfl) ?_
  refine r_stands (c := c) (L := L) ⟨by omega, by omega⟩ (m := 0) (by omega) hL r1 (by omega) (vC_less hv (by omega)) (fun i i0 i1 => by omega) (fun t0 t1 t2 => ?_)
  show wp PP _ _ _ [some (vR _), some (vI _), some (vI _), some (vI _), _, _, _, _] [] _ _
  refine x_aload rfl ?_
  refine h_getR sc_94 rfl (by omega) ?_
  refine x_iload rfl ?_
  refine x_ci ?_
  refine h_iast sc_112 ⟨by omega, by omega⟩ (by decide) ?_
  refine x_ci ?_
  refine n_istore [some (vR _), some (vI _), some (vI _), some (vI _), some (vI _), _, _, _] (Nat.le_of_ble_eq_true rfl) rfl ?_
  refine x_fall ?_
  refine L1 n 0 0 _ rfl (by omega) ⟨fun p p0 p1 => ?_, fun p p0 p1 => ?_, fun p p0 p1 => ?_, fun p p0 p1 => ?_⟩ ?_ ?_ (fun r z0 z1 => absurd z1 (by simp [rk]; omega)) (fun r z0 z1 => ?_) (fun b r w1 w2 w3 => ?_)
  · rw [up_a (by decide)]
    exact t1.1 p p0 p1
  · rw [up_a (by decide)]
    exact t1.2.1 p p0 p1
  · rw [up_a (by decide)]
    exact t1.2.2.1 p p0 p1
  · rw [up_a (by decide)]
    exact t1.2.2.2 p p0 p1
  · rw [up_a (by decide)]
    exact (t2 111 (by omega) f).trans r1
  · rw [up_e]
    rfl
  · rw [up_a (by decide)]
    exact (t2 113 (by omega) _).trans (r3 r (by omega) z1)
  · simp only [up]
    rw [if_neg (by omega)]
    exact t2 b (by omega) r
theorem PUs.g {t : St} (h : PUs z Hs rf sl yr la s) (g : dfr 0 s t) : PUs z Hs rf sl yr la t := ⟨h.1, (g 94 36 (by omega) (by omega) (by omega)).trans h.2.1, fun i hi => g.dr (by have := h.1; omega) (h.2.2 i hi)⟩
theorem r_letGoY (hd : 4 ≤ d) (hu : PUs z Hs rf sl yr la s) (hok : hOk z Hs) (hD : DR 0 vw rf sl yr la L n c s) {D x : Int} (h1 : s 96 0 = D) (hDD : 0 ≤ D ∧ D ≤ 6) (hx2 : 0 ≤ x ∧ x < 6 ∧ bt L x = 1) (hxD : x < D) (k : ∀ t, DR 0 vw rf sl yr la (clr L x) (rk L c (cntN L x.toNat) n) (rc L c (cntN L x.toNat) n) t → PUs (min 20 (z + 1)) (hput1 vw L n c Hs) rf sl yr la t → nfr s t → Q (some (vI (rk L c (cntN L x.toNat) n))) (HP h0 t)) : wpM PP d 144 [vR 94, vI x] (HP h0 s) Q := by
  obtain ⟨w1, w2, w3, w4, w5, hr0⟩ := hD
  have hD0 : DR 0 vw rf sl yr la L n c s := ⟨w1, w2, w3, w4, w5, hr0⟩
  obtain ⟨hL, hn, hv, r1, r2, r3⟩ := hr0
  obtain ⟨p1, p2, p3⟩ := hu
  have hu0 : PUs z Hs rf sl yr la (up s 94 0 0) := ⟨p1, (up_i (by decide)).trans p2, fun i hi => (p3 i hi).up (by decide)⟩
  refine n_at (m := 144) (q := mr144) (kn := (0, 2)) [some (vR _), some (vI _)] mb144 rfl rfl (h_rcv sc_94) (Nat.le_of_ble_eq_true rfl) rfl rfl ?_
  refine x_aload rfl ?_
  refine x_ci ?_
  refine h_putI 0 sc_94 rfl rfl ?_
  refine x_aload rfl ?_
  refine x_iload rfl ?_
  refine n_call [vR _, vI _] [] (by omega) (Nat.le_of_ble_eq_true rfl) rfl rfl (Nat.le_of_ble_eq_true rfl) ?_
  refine r_isDancer (by rw [up_a (by decide), h1]; exact hDD) ⟨by omega, by omega⟩ ?_
  rw [up_a (b := 96) (by decide), h1]
  show wp PP _ _ _ [some (vR _), some (vI _)] [vI _] _ _
  refine z_if_eq (fun c1 => ?_) (fun c1 => ?_)
  · exfalso
    first
      | omega
      | exact absurd hx2.2.2 (by assumption)
  · refine x_aload rfl ?_
    refine x_ci ?_
    refine x_iload rfl ?_
    refine n_call [vR _, vI _, vI _] [] (by omega) (Nat.le_of_ble_eq_true rfl) rfl rfl (Nat.le_of_ble_eq_true rfl) ?_
    refine r_isLeft (f := 0) (by omega) (by rw [up_a (by decide), r1]; exact hL) ⟨by omega, by omega⟩ ?_
    rw [up_a (b := 111) (by decide), r1]
    show wp PP _ _ _ [some (vR _), some (vI _)] [vI _] _ _
    refine z_if_ne (fun c2 => ?_) (fun c2 => ?_)
    · refine x_aload rfl ?_
      refine n_call [vR _] [] (by omega) (Nat.le_of_ble_eq_true rfl) rfl rfl (Nat.le_of_ble_eq_true rfl) ?_
      refine r_keepNow (by omega) hu0 hok (hD0.up (by decide)) (fun t t1 t2 t3 => ?_)
      show wp PP _ _ _ [some (vR _), some (vI _)] [] _ _
      refine x_aload rfl ?_
      refine x_ci ?_
      refine x_iload rfl ?_
      refine n_call [vR _, vI _, vI _] [] (by omega) (Nat.le_of_ble_eq_true rfl) rfl rfl (Nat.le_of_ble_eq_true rfl) ?_
      refine r_letsGo2 (f := 0) (by omega) (by omega) t2.2.2.2.2.2 hx2 (fun u u1 u2 => ?_)
      show wp PP _ _ _ [some (vR _), some (vI _)] [] _ _
      refine x_aload rfl ?_
      refine h_getR sc_94 rfl (by omega) ?_
      refine x_ci ?_
      refine h_iald sc_112 ⟨by omega, by omega⟩ (by decide) ?_
      rw [u1.2.2.2.2.1]
      refine x_iret ?_
      refine k u ⟨(u2 110 0 (by omega) (by omega) (by omega)).trans t2.1, (u2 108 0 (by omega) (by omega) (by omega)).trans t2.2.1, (u2 109 0 (by omega) (by omega) (by omega)).trans t2.2.2.1, (u2 106 0 (by omega) (by omega) (by omega)).trans t2.2.2.2.1, (u2 107 0 (by omega) (by omega) (by omega)).trans t2.2.2.2.2.1, u1⟩ (t1.g u2.df) (fun b r q1 q2 q3 q4 => ?_)
      rw [u2 b r (by omega) (by omega) (by omega), t3 b r (by omega) (by omega) (by omega), up_f (by omega)]
    · refine x_fall ?_
      exfalso
      first
        | omega
        | exact absurd hx2.2.2 (by assumption)
theorem r_letGoN (hd : 2 ≤ d) (hr0 : RD 0 L n c s) {D x : Int} (h1 : s 96 0 = D) (hDD : 0 ≤ D ∧ D ≤ 6) (hx : iR x) (hx2 : ¬ (0 ≤ x ∧ x < 6 ∧ bt L x = 1)) (k : Q (some (vI (-1))) (HP h0 (up s 94 0 0))) : wpM PP d 144 [vR 94, vI x] (HP h0 s) Q := by
  obtain ⟨hL, hn, hv, r1, r2, r3⟩ := hr0
  refine n_at (m := 144) (q := mr144) (kn := (0, 2)) [some (vR _), some (vI _)] mb144 rfl rfl (h_rcv sc_94) (Nat.le_of_ble_eq_true rfl) rfl rfl ?_
  refine x_aload rfl ?_
  refine x_ci ?_
  refine h_putI 0 sc_94 rfl rfl ?_
  refine x_aload rfl ?_
  refine x_iload rfl ?_
  refine n_call [vR _, vI _] [] (by omega) (Nat.le_of_ble_eq_true rfl) rfl rfl (Nat.le_of_ble_eq_true rfl) ?_
  refine r_isDancer (by rw [up_a (by decide), h1]; exact hDD) ⟨by omega, by omega⟩ ?_
  rw [up_a (b := 96) (by decide), h1]
  show wp PP _ _ _ [some (vR _), some (vI _)] [vI _] _ _
  refine z_if_eq (fun c1 => ?_) (fun c1 => ?_)
  · refine x_ci ?_
    refine x_iret ?_
    exact k
  · refine x_aload rfl ?_
    refine x_ci ?_
    refine x_iload rfl ?_
    refine n_call [vR _, vI _, vI _] [] (by omega) (Nat.le_of_ble_eq_true rfl) rfl rfl (Nat.le_of_ble_eq_true rfl) ?_
    refine r_isLeft (f := 0) (by omega) (by rw [up_a (by decide), r1]; exact hL) ⟨by omega, by omega⟩ ?_
    rw [up_a (b := 111) (by decide), r1]
    show wp PP _ _ _ [some (vR _), some (vI _)] [vI _] _ _
    refine z_if_ne (fun c2 => ?_) (fun c2 => ?_)
    · exact absurd ⟨by omega, by omega, by assumption⟩ hx2
    · refine x_fall ?_
      refine x_ci ?_
      refine x_iret ?_
      exact k
end PX
