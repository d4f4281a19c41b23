/-! SEARCH, the reference: pairsBound, makes, make -/
section PR5
variable {d : Nat} {h0 : pheap} {s : St} {Q : Option pv → pheap → Prop} {L pr : Int} {n k N K : Nat} {c c' : Int → Int} {G : Int → Int}
theorem foldP_R : ∀ (l : List Int) (x : Int) (p : Nat), 0 ≤ x ∧ x < 2 ^ p → 0 ≤ (foldP G l (x, (p : Int))).1 ∧ (foldP G l (x, (p : Int))).1 < 2 ^ (p + l.length) ∧ (foldP G l (x, (p : Int))).2 = ((p + l.length : Nat) : Int)
  | [], x, p, hx => ⟨hx.1, hx.2, rfl⟩
  | j :: l, x, p, hx => by
    have pp := pw_pos p
    have hx2 : 0 ≤ x + (if G j ≠ 0 then (2 : Int) ^ p else 0) ∧ x + (if G j ≠ 0 then (2 : Int) ^ p else 0) < 2 ^ (p + 1) := by
      rw [Int.pow_succ]
      split <;> omega
    have ih := foldP_R l _ (p + 1) hx2
    have ef : foldP G (j :: l) (x, (p : Int)) = foldP G l (x + (if G j ≠ 0 then (2 : Int) ^ p else 0), ((p + 1 : Nat) : Int)) := by
      show foldP G l (x + (if G j ≠ 0 then (2 : Int) ^ ((p : Int)).toNat else 0), (p : Int) + 1) = _
      rw [Int.toNat_natCast]
      rfl
    rw [ef, show p + (j :: l).length = p + 1 + l.length by rw [List.length_cons]; omega]
    exact ih
theorem foldP_R0 (l : List Int) : 0 ≤ (foldP G l (0, 0)).1 ∧ (foldP G l (0, 0)).1 < 2 ^ l.length ∧ (foldP G l (0, 0)).2 = (l.length : Int) := by
  have := foldP_R (G := G) l 0 0 (by decide)
  rw [Nat.zero_add] at this
  exact this
theorem rI_len (p : Nat) : ∀ k : Nat, (rI L p k).length = (if p < k then k - 1 - p else 0)
  | 0 => by simp [rI]
  | k + 1 => by
    simp only [rI]
    rw [List.length_append, rI_len p k]
    by_cases q : p < k
    · rw [if_pos q, if_pos q, if_pos (by omega), List.length_singleton]
      omega
    · rw [if_neg q, if_neg q, List.length_nil]
      split <;> omega
theorem rI_0 {p : Nat} : ∀ k : Nat, k ≤ p + 1 → rI L p k = []
  | 0, _ => rfl
  | k + 1, h => by
    simp only [rI]
    rw [rI_0 k (by omega), if_neg (by omega)]
    rfl
theorem rO_len {m : Nat} (hm : m ≤ 6) : ∀ p : Nat, (rO L m p).length ≤ 5 * p
  | 0 => by simp [rO]
  | p + 1 => by
    simp only [rO]
    rw [List.length_append, rI_len p m]
    have := rO_len hm p
    split <;> omega
abbrev fPR (L : Int) (c : Int → Int) (n p q : Nat) : Int × Int := foldP (wB L c n) (rO L (cnt L).toNat p ++ rI L p q) (0, 0)
theorem fPR_s {p q : Nat} (h : p < q) : fPR L c n p (q + 1) = ((fPR L c n p q).1 + (if wB L c n (6 * ordN L 6 p + ordN L 6 q) ≠ 0 then 2 ^ (fPR L c n p q).2.toNat else 0), (fPR L c n p q).2 + 1) := by
  unfold fPR
  simp only [rI]
  rw [if_pos h, ← List.append_assoc, foldP_app]
  rfl
theorem fPR_n {p : Nat} : fPR L c n p (cnt L).toNat = fPR L c n (p + 1) 0 := by
  unfold fPR
  simp only [rI, rO, List.append_nil]
theorem fPR_0 {p k : Nat} (h : k ≤ p + 1) : fPR L c n p k = fPR L c n p 0 := by
  unfold fPR
  rw [rI_0 k h]
  rfl
theorem fPR_R {p q : Nat} (hp : p ≤ 5) (hq : q ≤ 6) : 0 ≤ (fPR L c n p q).1 ∧ (fPR L c n p q).1 < 2 ^ (fPR L c n p q).2.toNat ∧ 0 ≤ (fPR L c n p q).2 ∧ (fPR L c n p q).2 ≤ 30 := by
  have h := foldP_R0 (G := wB L c n) (rO L (cnt L).toNat p ++ rI L p q)
  have hct := cnt_R L
  have h1 := rO_len (L := L) (m := (cnt L).toNat) (by omega) p
  have h2 := rI_len (L := L) p q
  rw [List.length_append] at h
  obtain ⟨a, b, e⟩ := h
  unfold fPR
  rw [e, Int.toNat_natCast]
  refine ⟨a, b, by omega, ?_⟩
  split at h2 <;> omega
def mF (s tqq : St) : Prop := ∀ (b : Nat) (r : Int), ¬ (114 ≤ b ∧ b ≤ 117) → ¬ b = 123 → ¬ (b = 112 ∧ r = 1) → ¬ (b = 113 ∧ 48 ≤ r ∧ r < 96) → tqq b r = s b r
theorem mF_rfl : mF s s := fun _ _ _ _ _ _ => rfl
theorem mF_tr {tqq uqq : St} (h1 : mF s tqq) (h2 : mF tqq uqq) : mF s uqq := fun b r q1 q2 q3 q4 => (h2 b r q1 q2 q3 q4).trans (h1 b r q1 q2 q3 q4)
theorem pw_cap31 {x : Int} (h : x ≤ 30) : (2 : Int) ^ x.toNat ≤ 1073741824 := by
  obtain ⟨i, hi⟩ : ∃ i, 30 = x.toNat + i := ⟨30 - x.toNat, by omega⟩
  have := pw_le x.toNat i
  rw [← hi] at this
  exact this
theorem r_pairsBound (hd : 8 ≤ d) (hr0 : RD 1 L n c s) (hk : ∀ tqq, SD L c n tqq → (∀ (b : Nat) (r : Int), ¬ (114 ≤ b ∧ b ≤ 117) → ¬ b = 123 → tqq b r = s b r) → Q (some (vI (bpO L c n 6).1)) (HP h0 tqq)) : wpM PP d 160 [vR 94] (HP h0 s) Q := by
  have hct := cnt_R L
  obtain ⟨hL, hn, hv, r1, r2, r3⟩ := hr0
  have LL : ∀ uqq : St, SD L c n uqq → (∀ (b : Nat) (r : Int), ¬ (114 ≤ b ∧ b ≤ 117) → ¬ b = 123 → uqq b r = s b r) → (∀ q : Nat, (q : Int) < cnt L → uqq 123 q = ordN L 6 q) → ∀ {o5 : Option pv}, wp PP d mb160 (mb160.getD 3 []) [some (vR 94), some (vI (cnt L)), some (vI 0), some (vI 0), some (vI 0), o5] [] (HP h0 uqq) Q := by
    intro uqq gS gF gR o5
    have L1 : ∀ M : Nat, ∀ {o5 : Option pv} (p : Nat) (pp : Int) (st : Int) (bi : Int), (pp = p) → (M = (cnt L).toNat - p ∧ p ≤ (cnt L).toNat) → (st = (fPR L c n p 0).1) → (bi = (fPR L c n p 0).2) →  wp PP d mb160 (mb160.getD 3 []) [some (vR 94), some (vI (cnt L)), some (vI st), some (vI bi), some (vI pp), o5] [] (HP h0 uqq) Q := by
      refine s_ind (fun M ih => ?_)
      intro o5 p pp st bi hpp hM hst hbi
      subst hpp
      refine x_iload rfl ?_
      refine x_iload rfl ?_
      refine n_icmp_ge ⟨by omega, by omega⟩ ⟨by omega, by omega⟩ (fun c1 => ?_) (fun c1 => ?_)
      · refine x_iload rfl ?_
        refine x_iret ?_
        have ep : p = (cnt L).toNat := by omega
        subst ep
        refine cI (hk uqq gS gF) ?_
        rw [hst, bpO_fold, lr_is hL]
        unfold fPR
        simp only [rI, List.append_nil]
      · refine x_iload rfl ?_
        refine x_ci ?_
        refine x_iadd ?_
        refine n_istore [some (vR _), some (vI _), some (vI _), some (vI _), some (vI _), some (vI _)] (Nat.le_of_ble_eq_true rfl) rfl ?_
        refine x_fall ?_
        have L2 : ∀ M2 : Nat, ∀ (q : Nat) (qq2 : Int) (st2 : Int) (bi2 : Int), (qq2 = q) → (M2 = 7 - q ∧ p + 1 ≤ q ∧ q ≤ (cnt L).toNat) → (st2 = (fPR L c n p q).1) → (bi2 = (fPR L c n p q).2) →  wp PP d mb160 (mb160.getD 4 []) [some (vR 94), some (vI (cnt L)), some (vI st2), some (vI bi2), some (vI (p : Int)), some (vI qq2)] [] (HP h0 uqq) Q := by
          refine s_ind (fun M2 ih2 => ?_)
          intro q qq2 st2 bi2 hqq hM2 hs2 hb2
          subst hqq
          refine x_iload rfl ?_
          refine x_iload rfl ?_
          refine n_icmp_ge ⟨by omega, by omega⟩ ⟨by omega, by omega⟩ (fun c1 => ?_) (fun c1 => ?_)
          · have eq4 : q = (cnt L).toNat := by omega
            refine n_iinc [some (vR _), some (vI _), some (vI _), some (vI _), some (vI _), some (vI _)] rfl rfl ?_
            refine x_goto ?_
            refine ih ((cnt L).toNat - (p + 1)) (by omega) (p + 1) _ _ _ (by omega) (by omega) ?_ ?_
            · rw [hs2, eq4]
              exact congrArg Prod.fst fPR_n
            · rw [hb2, eq4]
              exact congrArg Prod.snd fPR_n
          · refine x_iload rfl ?_
            refine x_aload rfl ?_
            refine h_getR sc_94 rfl (by omega) ?_
            refine x_ci ?_
            refine x_aload rfl ?_
            refine h_getR sc_94 rfl (by omega) ?_
            refine x_iload rfl ?_
            refine h_iald sc_123 ⟨by omega, by omega⟩ (by decide) ?_
            rw [gR p (by omega)]
            have oP := (ord_is (q := 0) hL (show 0 ≤ (p : Int) by omega) (by omega)).1
            refine x_imul ?_
            refine x_aload rfl ?_
            refine h_getR sc_94 rfl (by omega) ?_
            refine x_iload rfl ?_
            refine h_iald sc_123 ⟨by omega, by omega⟩ (by decide) ?_
            rw [gR q (by omega)]
            have oQ := (ord_is (q := 0) hL (show 0 ≤ (q : Int) by omega) (by omega)).1
            refine x_iadd ?_
            refine h_iald sc_115 ⟨by omega, by omega⟩ (by decide) ?_
            rw [gS.2.1 _ (by omega) (by omega)]
            have gw := wB_R (L := L) (c := c) n (6 * ordN L 6 p + ordN L 6 q)
            have fR := fPR_R (L := L) (c := c) (n := n) (p := p) (q := q) (by omega) (by omega)
            have fR3 := fR.2.2.1
            have fR4 := fR.2.2.2
            have fR1 := fR.1
            have fR2 := fR.2.1
            have pw3 := pw_cap31 fR4
            refine n_if_eq ⟨by omega, by omega⟩ (fun c2 => ?_) (fun c2 => ?_)
            · refine x_ci ?_
              refine x_fall ?_
              refine x_ior ?_
              refine n_istore [some (vR _), some (vI _), some (vI _), some (vI _), some (vI _), some (vI _)] (Nat.le_of_ble_eq_true rfl) rfl ?_
              refine n_iinc [some (vR _), some (vI _), some (vI _), some (vI _), some (vI _), some (vI _)] rfl rfl ?_
              refine n_iinc [some (vR _), some (vI _), some (vI _), some (vI _), some (vI _), some (vI _)] rfl rfl ?_
              refine x_goto ?_
              refine ih2 (7 - (q + 1)) (by omega) (q + 1) _ _ _ (by omega) (by omega) ?_ ?_
              · rw [fPR_s (by omega), hs2]
                first
                  | (rw [if_pos c2, hb2]
                     exact or_bit ⟨fR3, by omega⟩ ⟨fR1, fR2⟩)
                  | (rw [if_neg (fun y => y c2), Int.add_zero]
                     exact or_zero (by omega) (by omega))
              · rw [fPR_s (by omega), hb2]
            · refine x_ci ?_
              refine x_iload rfl ?_
              refine x_ishl ?_
              refine x_goto ?_
              refine x_ior ?_
              refine n_istore [some (vR _), some (vI _), some (vI _), some (vI _), some (vI _), some (vI _)] (Nat.le_of_ble_eq_true rfl) rfl ?_
              refine n_iinc [some (vR _), some (vI _), some (vI _), some (vI _), some (vI _), some (vI _)] rfl rfl ?_
              refine n_iinc [some (vR _), some (vI _), some (vI _), some (vI _), some (vI _), some (vI _)] rfl rfl ?_
              refine x_goto ?_
              refine ih2 (7 - (q + 1)) (by omega) (q + 1) _ _ _ (by omega) (by omega) ?_ ?_
              · rw [fPR_s (by omega), hs2]
                first
                  | (rw [if_pos c2, hb2]
                     exact or_bit ⟨fR3, by omega⟩ ⟨fR1, fR2⟩)
                  | (rw [if_neg (fun y => y c2), Int.add_zero]
                     exact or_zero (by omega) (by omega))
              · rw [fPR_s (by omega), hb2]
        refine L2 (7 - (p + 1)) (p + 1) _ _ _ (by omega) (by omega) ?_ ?_
        · rw [hst, fPR_0 (show p + 1 ≤ p + 1 by omega)]
        · rw [hbi, fPR_0 (show p + 1 ≤ p + 1 by omega)]
    refine L1 (cnt L).toNat 0 0 0 0 rfl (by omega) rfl rfl
  refine n_at (m := 160) (q := mr160) (kn := (0, 1)) [some (vR _), none, none, none, none, none] mb160 rfl rfl (h_rcv sc_94) (Nat.le_of_ble_eq_true rfl) rfl rfl ?_
  refine x_aload rfl ?_
  refine x_ci ?_
  refine x_ci ?_
  refine n_call [vR _, vI _, vI _] [] (by omega) (Nat.le_of_ble_eq_true rfl) rfl rfl (Nat.le_of_ble_eq_true rfl) ?_
  show wpM PP _ _ [vR 94, vI _, vI ((0 : Nat) : Int)] _ _
  refine r_stands (f := 1) (L := L) (c := c) (m := 0) (by omega) (by omega) hL r1 (by omega) (fun i i0 i1 => by omega) (fun i i0 i1 => by omega) (fun tqq t1qq t2qq => ?_)
  show wp PP _ _ _ [some (vR _), _, _, _, _, _] [] _ _
  refine x_aload rfl ?_
  refine h_getR sc_94 rfl (by omega) ?_
  refine x_ci ?_
  refine h_iald sc_111 ⟨by omega, by omega⟩ (by decide) ?_
  refine n_call [vI _] [] (by omega) (Nat.le_of_ble_eq_true rfl) rfl rfl (Nat.le_of_ble_eq_true rfl) ?_
  rw [t2qq 111 (by omega) 1, r1]
  refine r_bitsOf hL ?_
  show wp PP _ _ _ [some (vR _), _, _, _, _, _] [vI _] _ _
  refine n_istore [some (vR _), some (vI _), _, _, _, _] (Nat.le_of_ble_eq_true rfl) rfl ?_
  refine x_ci ?_
  refine n_istore [some (vR _), some (vI _), some (vI _), _, _, _] (Nat.le_of_ble_eq_true rfl) rfl ?_
  refine x_ci ?_
  refine n_istore [some (vR _), some (vI _), some (vI _), some (vI _), _, _] (Nat.le_of_ble_eq_true rfl) rfl ?_
  refine x_ci ?_
  refine n_istore [some (vR _), some (vI _), some (vI _), some (vI _), some (vI _), _] (Nat.le_of_ble_eq_true rfl) rfl ?_
  refine x_fall ?_
  have L0 : ∀ M : Nat, ∀ {o5 : Option pv} (p : Nat) (pp : Int) (t2qq : St), (pp = p) → (M = (cnt L).toNat - p ∧ p ≤ (cnt L).toNat) → (∀ b : Nat, ¬ (114 ≤ b ∧ b ≤ 117) → ¬ b = 123 → ∀ r, t2qq b r = s b r) → (∀ r, t2qq 114 r = tqq 114 r) → (∀ q : Nat, q < p → t2qq 123 q = ordN L 6 q) →  wp PP d mb160 (mb160.getD 1 []) [some (vR 94), some (vI (cnt L)), some (vI 0), some (vI 0), some (vI pp), o5] [] (HP h0 t2qq) Q := by
    refine s_ind (fun M ih => ?_)
    intro o5 p pp t2qq hpp hM g2 g3 g4
    subst hpp
    refine x_iload rfl ?_
    refine x_iload rfl ?_
    refine n_icmp_ge ⟨by omega, by omega⟩ ⟨by omega, by omega⟩ (fun c1 => ?_) (fun c1 => ?_)
    · refine x_aload rfl ?_
      refine x_ci ?_
      refine n_call [vR _, vI _] [] (by omega) (Nat.le_of_ble_eq_true rfl) rfl rfl (Nat.le_of_ble_eq_true rfl) ?_
      have hr2 : RD 1 L n c t2qq := ⟨hL, hn, hv, (g2 111 (by omega) (by omega) 1).trans r1, (g2 112 (by omega) (by omega) 1).trans r2, fun i i0 i1 => (g2 113 (by omega) (by omega) _).trans (r3 i i0 i1)⟩
      refine r_standsAll (f := 1) (by omega) (by omega) hr2 (fun uqq u1qq u2qq => ?_)
      show wp PP _ _ _ [some (vR _), some (vI _), some (vI _), some (vI _), some (vI _), _] [] _ _
      refine x_ci ?_
      refine n_istore [some (vR _), some (vI _), some (vI _), some (vI _), some (vI _), _] (Nat.le_of_ble_eq_true rfl) rfl ?_
      refine x_fall ?_
      refine LL uqq u1qq (fun b r y1 y2 => (u2qq b (by omega) r).trans (g2 b (by omega) y2 r)) (fun q hq => ?_)
      rw [u2qq 123 (by omega) q]
      exact g4 q (by omega)
    · refine x_aload rfl ?_
      refine h_getR sc_94 rfl (by omega) ?_
      refine x_iload rfl ?_
      refine x_aload rfl ?_
      refine h_getR sc_94 rfl (by omega) ?_
      refine x_iload rfl ?_
      refine h_iald sc_114 ⟨by omega, by omega⟩ (by decide) ?_
      refine h_iast sc_123 ⟨by omega, by omega⟩ (by decide) ?_
      refine n_iinc [some (vR _), some (vI _), some (vI _), some (vI _), some (vI _), _] rfl rfl ?_
      refine x_goto ?_
      refine ih ((cnt L).toNat - (p + 1)) (by omega) (p + 1) _ _ (by omega) (by omega) (fun b y1 y2 r => ?_) (fun r => ?_) (fun q hq => ?_)
      · rw [up_a (by omega)]
        exact g2 b y1 y2 r
      · rw [up_a (by decide)]
        exact g3 r
      · by_cases e : q = p
        · rw [e, up_e]
          exact (g3 _).trans (t1qq.1 _ (by omega) (by omega))
        · rw [up_i (by omega)]
          exact g4 q (by omega)
  refine L0 (cnt L).toNat 0 0 tqq rfl (by omega) (fun b y1 y2 r => t2qq b (by omega) r) (fun r => rfl) (fun q hq => by omega)
end PR5
