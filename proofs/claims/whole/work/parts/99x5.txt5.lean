/-! TEXT: the reference's tokens -/
section TX5
variable {d : Nat} {h0 h : pheap} {s tqq uqq : St} {Q : Option pv → pheap → Prop} {B : Int → Int} {n q : Nat} {sz k vqq : Int} {pl nx : Nat}
theorem sTxt_f : ∀ j : Fin 96, 0 ≤ sTxt.getD (j : Nat) 0 ∧ sTxt.getD (j : Nat) 0 < 128 ∧ i_char (i_and (sTxt.getD (j : Nat) 0) 255) = sTxt.getD (j : Nat) 0 := by decide +kernel
theorem r_isLatin1 (k : Q (some (vI 1)) h) : wpM PP d 3 [vR 22] h Q := by
  refine n_at (m := 3) (q := mr3) (kn := (0, 1)) [some (vR _)] mb3 rfl rfl rfl (Nat.le_of_ble_eq_true rfl) rfl rfl ?_
  refine x_86 ?_
  refine n_if_eq ⟨by omega, by omega⟩ (fun c => by omega) (fun _ => ?_)
  refine x_aload rfl ?_
  refine x_85_1 ?_
  refine n_if_ne ⟨by omega, by omega⟩ (fun c => by omega) (fun _ => ?_)
  refine x_ci ?_
  refine x_goto ?_
  exact x_zret (by omega) k
theorem r_coder (k : Q (some (vI 0)) h) : wpM PP d 2 [vR 22] h Q := by
  refine n_at (m := 2) (q := mr2) (kn := (0, 1)) [some (vR _)] mb2 rfl rfl rfl (Nat.le_of_ble_eq_true rfl) rfl rfl ?_
  refine x_86 ?_
  refine n_if_eq ⟨by omega, by omega⟩ (fun c => by omega) (fun _ => ?_)
  refine x_aload rfl ?_
  refine x_85_1 ?_
  refine x_goto ?_
  exact x_bret (by omega) k
theorem shr96 : i_shr 96 0 = 96 := by decide +kernel
theorem r_length (hd : 1 ≤ d) (k : Q (some (vI 96)) h) : wpM PP d 4 [vR 22] h Q := by
  refine n_at (m := 4) (q := mr4) (kn := (0, 1)) [some (vR _)] mb4 rfl rfl rfl (Nat.le_of_ble_eq_true rfl) rfl rfl ?_
  refine x_aload rfl ?_
  refine x_85_0 ?_
  refine x_84_23 ?_
  refine x_aload rfl ?_
  refine n_call [vR _] [vI _] (by omega) (Nat.le_of_ble_eq_true rfl) rfl rfl (Nat.le_of_ble_eq_true rfl) ?_
  refine r_coder ?_
  show wp PP _ _ _ [some (vR _)] [vI _, vI _] _ _
  refine x_ishr ?_
  rw [shr96]
  exact x_iret k
theorem r_charAt1 {i : Int} (hd : 8 ≤ d) (hi : 0 ≤ i ∧ i < 96) (k : Q (some (vI (wC2 i.toNat))) h) : wpM PP d 5 [vR 23, vI i] h Q := by
  have f := sTxt_f ⟨i.toNat, by omega⟩
  simp only at f
  refine n_at (m := 5) (q := mr5) (kn := (1, 2)) [some (vR _), some (vI _)] mb5 rfl rfl rfl (Nat.le_of_ble_eq_true rfl) rfl rfl ?_
  refine x_iload rfl ?_
  refine x_aload rfl ?_
  refine x_84_23 ?_
  refine x_127 hd ⟨by omega, by omega, by omega⟩ (Nat.le_of_ble_eq_true rfl) ?_
  refine x_aload rfl ?_
  refine x_iload rfl ?_
  refine x_87 hi ?_
  refine x_ci ?_
  refine x_iand ?_
  refine x_i2c ?_
  rw [f.2.2]
  exact x_cret (by omega) k
theorem r_charAt {i : Int} (hd : 9 ≤ d) (hi : 0 ≤ i ∧ i < 96) (k : Q (some (vI (wC2 i.toNat))) h) : wpM PP d 1 [vR 22, vI i] h Q := by
  have f := sTxt_f ⟨i.toNat, by omega⟩
  simp only at f
  refine n_at (m := 1) (q := mr1) (kn := (0, 2)) [some (vR _), some (vI _)] mb1 rfl rfl rfl (Nat.le_of_ble_eq_true rfl) rfl rfl ?_
  refine x_aload rfl ?_
  refine n_call [vR _] [] (by omega) (Nat.le_of_ble_eq_true rfl) rfl rfl (Nat.le_of_ble_eq_true rfl) ?_
  refine r_isLatin1 ?_
  show wp PP _ _ _ [some (vR _), some (vI _)] [vI _] _ _
  refine n_if_eq ⟨by omega, by omega⟩ (fun c => by omega) (fun _ => ?_)
  refine x_aload rfl ?_
  refine x_85_0 ?_
  refine x_iload rfl ?_
  refine n_call [vR _, vI _] [] (by omega) (Nat.le_of_ble_eq_true rfl) rfl rfl (Nat.le_of_ble_eq_true rfl) ?_
  refine r_charAt1 (by omega) hi ?_
  show wp PP _ _ _ [some (vR _), some (vI _)] [vI _] _ _
  refine x_cret ?_ k
  have : wC2 i.toNat = sTxt.getD i.toNat 0 := rfl
  omega
def RBR (B : Int → Int) (n : Nat) (s : St) : Prop := s 94 13 = n ∧ n ≤ 700 ∧ ∀ i : Int, 0 ≤ i → i < n → s 95 i = B i
def chS (vqq : Int) : Int := if vqq = 13 then 40 else if vqq = 14 then 41 else if vqq = 15 then 59 else chr vqq
def TKN (k vqq : Int) (pl nx : Nat) (s : St) : Prop := s 94 14 = nx ∧ s 94 15 = pl ∧ (k = 0 → s 94 16 = 4) ∧ (k = 1 → s 94 16 = 5) ∧ (k = 2 → s 94 16 = 2 ∧ nmOk (s 94 17) vqq) ∧ (k = 3 → s 94 16 = 1 ∧ s 94 17 = vqq) ∧ (k = 4 → s 94 16 = 0 ∧ s 94 17 = vqq) ∧ (k = 5 → s 94 16 = 3 ∧ s 94 17 = chS vqq)
def rtF (s tqq : St) : Prop := ∀ (b : Nat) (r : Int), ¬ (b = 94 ∧ 14 ≤ r ∧ r ≤ 17) → tqq b r = s b r
theorem rtF_rfl : rtF s s := fun _ _ _ => rfl
theorem rtF_tr (h : rtF s tqq) (g : rtF tqq uqq) : rtF s uqq := fun b r q => (g b r q).trans (h b r q)
theorem rtF_up {i x : Int} (h : rtF s tqq) (hi : 14 ≤ i ∧ i ≤ 17) : rtF s (up tqq 94 i x) := fun b r q => by
  rw [up_f (by omega)]
  exact h b r q
theorem RBR.f (h : RBR B n s) (g : rtF s tqq) : RBR B n tqq := ⟨(g 94 13 (by omega)).trans h.1, h.2.1, fun i i0 i1 => by
  rw [g 95 i (by omega)]
  exact h.2.2 i i0 i1⟩
theorem n_here {j : Nat} (hR : RBR B n s) (h14 : s 94 14 = j) (hj : j ≤ 700) (k : Q (some (vI (bA B n j))) (HP h0 s)) : wpM PP d 60 [vR 94] (HP h0 s) Q := r_here h14 hR.1 ⟨by omega, by omega⟩ ⟨by omega, by have := hR.2.1; omega⟩ hR.2.2 k
/-- what the word is: -1, if it has too many letters or is none of the language -/
def wr (B : Int → Int) (n q : Nat) : Int := if 6 < spE isLe B n q - q then -1 else wix (tqW B n q)
theorem wc_R (j : Nat) : 0 ≤ wC2 j ∧ wC2 j < 128 := by
  by_cases h : j < 96
  · have := sTxt_f ⟨j, h⟩
    exact ⟨this.1, this.2.1⟩
  · have e : sTxt.length = 96 := rfl
    have : wC2 j = 0 := by
      unfold wC2
      rw [List.getD_eq_getElem?_getD, List.getElem?_eq_none (by omega)]
      rfl
    omega
theorem wd_s : ∀ wqq : Fin 20, wSt.getD (wqq : Nat) 0 ≤ 96 := by decide +kernel
theorem r_word {e : Nat} (hd : 11 ≤ d) (hR : RBR B n s) (h15 : s 94 15 = q) (h14 : s 94 14 = e) (he : e = spE isLe B n q) (hq : q ≤ n) (k1 : Q (some (vI (wr B n q))) (HP h0 s)) : wpM PP d 65 [vR 94] (HP h0 s) Q := by
  have n700 := hR.2.1
  have eR1 := spE_le (f := isLe) (B := B) (n := n) (p := q)
  have eR2 := spE_R (f := isLe) (B := B) (n := n) (p := q) hq
  rw [← he] at eR1 eR2
  have ll : ∀ i : Nat, i < e - q → 97 ≤ B ((q : Int) + i) ∧ B ((q : Int) + i) ≤ 122 := fun i hi => by
    have := (spE_all (f := isLe) (B := B) (n := n) (p := q) (j := q + i) (by omega) (by omega)).2
    rw [isLe_i, show (((q + i : Nat)) : Int) = (q : Int) + i by omega] at this
    exact this
  have L1 : ∀ N : Nat, ∀ {o3 : Option pv} (wqq : Nat) (aw : Nat) (ww : Int) (aa : Int), (ww = wqq) → (aa = aw) → (N = 19 - wqq ∧ wqq ≤ 19) → (aw = wSt.getD wqq 0) → (∀ w2qq : Nat, w2qq < wqq → ¬ (e - q = wLn.getD w2qq 0 ∧ ∀ j : Nat, j < e - q → B ((q : Int) + j) = wC2 (wSt.getD w2qq 0 + j))) →  wp PP d mb65 (mb65.getD 1 []) [some (vR 94), some (vI ww), some (vI aa), o3] [] (HP h0 s) Q := by
    refine s_ind (fun N ih => ?_)
    intro o3 wqq aw ww aa hww haa hM haw gno
    subst hww
    subst haa
    have awR : aw ≤ 96 := by
      have := wd_s ⟨wqq, by omega⟩
      simp only at this
      omega
    refine x_iload rfl ?_
    refine x_80 (by decide) ?_
    refine n_call [vR _] [vI _] (by omega) (Nat.le_of_ble_eq_true rfl) rfl rfl (Nat.le_of_ble_eq_true rfl) ?_
    refine r_length (by omega) ?_
    show wp PP _ _ _ [some (vR _), some (vI _), some (vI _), _] [vI _, vI _] _ _
    refine n_icmp_ge ⟨by omega, by omega⟩ ⟨by omega, by omega⟩ (fun c1 => ?_) (fun c1 => ?_)
    · refine x_ci ?_
      refine x_iret ?_
      refine cI k1 ?_
      have ew : wqq = 19 := by
        by_cases e9 : wqq < 19
        · have := wd_f ⟨wqq, e9⟩
          simp only at this
          omega
        · omega
      unfold wr
      split
      · rfl
      · rename_i hs
        have wR := wix_R (tqW B n q)
        rcases wR with wR | wR
        · exact wR
        · exfalso
          have wi := (wd_iff (B := B) (k := e - q) (q := (q : Int)) (wqq := (wix (tqW B n q)).toNat) (by omega) (by omega) (fun j hj => ll j (by omega))).mp (by
            have : pkN B q (e - q) = tqW B n q := by
              unfold tqW
              rw [← he, show min 6 (e - q) = e - q by omega]
            rw [this]
            omega)
          exact gno _ (by omega) wi
    · have hw : wqq < 19 := by
        by_cases e9 : wqq < 19
        · exact e9
        · exfalso
          have e10 : wqq = 19 := by omega
          rw [e10] at haw
          have : wSt.getD 19 0 = 96 := rfl
          omega
      obtain ⟨lw, hlw⟩ : ∃ lw, lw = wLn.getD wqq 0 := ⟨_, rfl⟩
      have wf := wd_f ⟨wqq, hw⟩
      simp only at wf
      rw [← hlw, ← haw] at wf
      have wl : ∀ j : Nat, j < lw → 97 ≤ wC2 (aw + j) ∧ wC2 (aw + j) ≤ 122 := fun j hj => by
        have := wd_l ⟨wqq, hw⟩ ⟨j, by omega⟩ (by rw [← hlw]; exact hj)
        simp only at this
        rw [← haw] at this
        exact this
      have L4 : (¬ (e - q = lw ∧ ∀ j : Nat, j < e - q → B ((q : Int) + j) = wC2 (aw + j))) → ∀ x : Nat, (x = aw) → (∀ j : Nat, aw ≤ j → j < x → ¬ wC2 j = 32) → ∀ o : Option pv, wp PP d mb65 (mb65.getD 4 []) [some (vR 94), some (vI (wqq : Int)), some (vI (x : Int)), o] [] (HP h0 s) Q := by
        intro hno x0 hx0 _ o
        have L5 : ∀ M4 : Nat, ∀ {o3 : Option pv} (x : Nat) (xx : Int), (xx = x) → (M4 = aw + lw - x ∧ aw ≤ x ∧ x ≤ aw + lw) → (∀ j : Nat, aw ≤ j → j < x → ¬ wC2 j = 32) →  wp PP d mb65 (mb65.getD 4 []) [some (vR 94), some (vI (wqq : Int)), some (vI xx), o3] [] (HP h0 s) Q := by
          refine s_ind (fun M4 ih4 => ?_)
          intro o3 x xx hxx hM4 g
          subst hxx
          refine x_80 (by decide) ?_
          refine x_iload rfl ?_
          refine n_call [vR _, vI _] [] (by omega) (Nat.le_of_ble_eq_true rfl) rfl rfl (Nat.le_of_ble_eq_true rfl) ?_
          refine r_charAt (by omega) ⟨by omega, by omega⟩ ?_
          rw [show (x : Int).toNat = x by omega]
          have wcR := wc_R x
          show wp PP _ _ _ [some (vR _), some (vI _), some (vI _), _] [vI _] _ _
          refine x_ci ?_
          refine n_icmp_eq ⟨by omega, by omega⟩ ⟨by omega, by omega⟩ (fun c1 => ?_) (fun c1 => ?_)
          · refine n_iinc [some (vR _), some (vI _), some (vI _), _] rfl rfl ?_
            refine n_iinc [some (vR _), some (vI _), some (vI _), _] rfl rfl ?_
            refine x_goto ?_
            have ex : x = aw + lw := by
              by_cases e9 : x = aw + lw
              · exact e9
              · exfalso
                have := wl (x - aw) (by omega)
                rw [show aw + (x - aw) = x by omega] at this
                omega
            refine ih (19 - (wqq + 1)) (by omega) (wqq + 1) (aw + lw + 1) _ _ (by omega) (by omega) (by omega) wf.1 (fun w2qq h2 => ?_)
            by_cases e9 : w2qq = wqq
            · rw [e9]
              rw [← hlw, ← haw]
              exact hno
            · exact gno w2qq (by omega)
          · refine n_iinc [some (vR _), some (vI _), some (vI _), _] rfl rfl ?_
            refine x_goto ?_
            have hx2 : x < aw + lw := by
              by_cases e9 : x < aw + lw
              · exact e9
              · exfalso
                have e10 : x = aw + lw := by omega
                rw [e10] at c1
                exact c1 wf.2.2.2.1
            refine ih4 (aw + lw - (x + 1)) (by omega) (x + 1) _ (by omega) (by omega) (fun j j0 j1 => ?_)
            by_cases e9 : j = x
            · rw [e9]
              exact c1
            · exact g j j0 (by omega)
        exact L5 (aw + lw - x0) x0 _ rfl (by omega) (fun j j0 j1 => by omega)
      have L3 : ∀ i : Nat, (i ≤ lw ∧ q + i ≤ e ∧ ∀ j : Nat, j < i → B ((q : Int) + j) = wC2 (aw + j)) → (i = lw ∨ q + i = e ∨ (q + i < e ∧ ¬ B ((q : Int) + i) = wC2 (aw + i))) → wp PP d mb65 (mb65.getD 3 []) [some (vR 94), some (vI (wqq : Int)), some (vI (aw : Int)), some (vI (i : Int))] [] (HP h0 s) Q := by
        intro i g g2
        refine x_80 (by decide) ?_
        refine x_iload rfl ?_
        refine x_iload rfl ?_
        refine x_iadd ?_
        refine n_call [vR _, vI _] [] (by omega) (Nat.le_of_ble_eq_true rfl) rfl rfl (Nat.le_of_ble_eq_true rfl) ?_
        refine r_charAt (by omega) ⟨by omega, by omega⟩ ?_
        rw [show ((aw : Int) + (i : Int)).toNat = aw + i by omega]
        have wcR := wc_R (aw + i)
        show wp PP _ _ _ [some (vR _), some (vI _), some (vI _), some (vI _)] [vI _] _ _
        refine x_ci ?_
        refine n_icmp_ne ⟨by omega, by omega⟩ ⟨by omega, by omega⟩ (fun c1 => ?_) (fun c1 => ?_)
        · refine L4 ?_ aw (by omega) (fun j j0 j1 => by omega) _
          intro hm
          rcases g2 with g2 | g2 | g2
          · first
              | omega
              | exact c1 (by rw [g2]; exact wf.2.2.2.1)
          · have hi : i = lw := by omega
            first
              | omega
              | exact c1 (by rw [hi]; exact wf.2.2.2.1)
          · exact g2.2 (hm.2 i (by omega))
        · refine x_aload rfl ?_
          refine h_getI 15 sc_94 rfl rfl ?_
          rw [h15]
          refine x_iload rfl ?_
          refine x_iadd ?_
          refine x_aload rfl ?_
          refine h_getI 14 sc_94 rfl rfl ?_
          rw [h14]
          refine n_icmp_ne ⟨by omega, by omega⟩ ⟨by omega, by omega⟩ (fun c2 => ?_) (fun c2 => ?_)
          · refine L4 ?_ aw (by omega) (fun j j0 j1 => by omega) _
            intro hm
            rcases g2 with g2 | g2 | g2
            · first
                | omega
                | exact c1 (by rw [g2]; exact wf.2.2.2.1)
            · have hi : i = lw := by omega
              first
                | omega
                | exact c1 (by rw [hi]; exact wf.2.2.2.1)
            · exact g2.2 (hm.2 i (by omega))
          · refine x_iload rfl ?_
            refine x_iret ?_
            have hm : e - q = lw ∧ ∀ j : Nat, j < e - q → B ((q : Int) + j) = wC2 (aw + j) := by
              have hi : i = lw := by
                by_cases e9 : i = lw
                · exact e9
                · exfalso
                  have := wl i (by omega)
                  omega
              exact ⟨by omega, fun j hj => g.2.2 j (by omega)⟩
            refine cI k1 ?_
            unfold wr
            rw [if_neg (by omega)]
            have wi := (wd_iff (B := B) (k := e - q) (q := (q : Int)) hw (by omega) (fun j hj => ll j (by omega))).mpr (by rw [← hlw, ← haw]; exact hm)
            unfold tqW
            rw [← he, show min 6 (e - q) = e - q by omega]
            exact wi
      have L2 : ∀ M2 : Nat, ∀ (i : Nat) (ii : Int), (ii = i) → (M2 = 7 - i ∧ i ≤ 7) → (i ≤ lw ∧ q + i ≤ e ∧ ∀ j : Nat, j < i → B ((q : Int) + j) = wC2 (aw + j)) →  wp PP d mb65 (mb65.getD 2 []) [some (vR 94), some (vI (wqq : Int)), some (vI (aw : Int)), some (vI ii)] [] (HP h0 s) Q := by
        refine s_ind (fun M2 ih2 => ?_)
        intro i ii hii hM2 g
        subst hii
        refine x_80 (by decide) ?_
        refine x_iload rfl ?_
        refine x_iload rfl ?_
        refine x_iadd ?_
        refine n_call [vR _, vI _] [] (by omega) (Nat.le_of_ble_eq_true rfl) rfl rfl (Nat.le_of_ble_eq_true rfl) ?_
        refine r_charAt (by omega) ⟨by omega, by omega⟩ ?_
        rw [show ((aw : Int) + (i : Int)).toNat = aw + i by omega]
        have wcR := wc_R (aw + i)
        show wp PP _ _ _ [some (vR _), some (vI _), some (vI _), some (vI _)] [vI _] _ _
        refine x_ci ?_
        refine n_icmp_eq ⟨by omega, by omega⟩ ⟨by omega, by omega⟩ (fun c1 => ?_) (fun c1 => ?_)
        · refine L3 i g (Or.inl ?_)
          by_cases e9 : i = lw
          · exact e9
          · exfalso
            have := wl i (by omega)
            omega
        · refine x_aload rfl ?_
          refine h_getI 15 sc_94 rfl rfl ?_
          rw [h15]
          refine x_iload rfl ?_
          refine x_iadd ?_
          refine x_aload rfl ?_
          refine h_getI 14 sc_94 rfl rfl ?_
          rw [h14]
          refine n_icmp_ge ⟨by omega, by omega⟩ ⟨by omega, by omega⟩ (fun c2 => ?_) (fun c2 => ?_)
          · exact L3 i g (Or.inr (Or.inl (by omega)))
          · refine x_aload rfl ?_
            refine h_getR sc_94 rfl (by omega) ?_
            refine x_aload rfl ?_
            refine h_getI 15 sc_94 rfl rfl ?_
            rw [h15]
            refine x_iload rfl ?_
            refine x_iadd ?_
            refine h_iald sc_95 ⟨by omega, by omega⟩ (by decide) ?_
            have li := ll i (by omega)
            rw [show (q : Int) + (i : Int) = ((q + i : Nat) : Int) by omega] at li ⊢
            rw [hR.2.2 ((q + i : Nat) : Int) (by omega) (by omega)]
            refine x_80 (by decide) ?_
            refine x_iload rfl ?_
            refine x_iload rfl ?_
            refine x_iadd ?_
            refine n_call [vR _, vI _] [vI _] (by omega) (Nat.le_of_ble_eq_true rfl) rfl rfl (Nat.le_of_ble_eq_true rfl) ?_
            refine r_charAt (by omega) ⟨by omega, by omega⟩ ?_
            rw [show ((aw : Int) + (i : Int)).toNat = aw + i by omega]
            have wcR := wc_R (aw + i)
            show wp PP _ _ _ [some (vR _), some (vI _), some (vI _), some (vI _)] [vI _, vI _] _ _
            refine n_icmp_ne ⟨by omega, by omega⟩ ⟨by omega, by omega⟩ (fun c3 => ?_) (fun c3 => ?_)
            · refine L3 i g (Or.inr (Or.inr ⟨by omega, ?_⟩))
              rw [show (q : Int) + (i : Int) = ((q + i : Nat) : Int) by omega]
              exact c3
            · refine n_iinc [some (vR _), some (vI _), some (vI _), some (vI _)] rfl rfl ?_
              refine x_goto ?_
              refine ih2 (7 - (i + 1)) (by omega) (i + 1) _ (by omega) (by omega) ⟨?_, by omega, fun j hj => ?_⟩
              · by_cases e9 : i = lw
                · exfalso
                  rw [e9, wf.2.2.2.1] at c1
                  exact c1 rfl
                · omega
              · by_cases e9 : j = i
                · rw [e9, show (q : Int) + (i : Int) = ((q + i : Nat) : Int) by omega]
                  exact c3
                · exact g.2.2 j (by omega)
      refine x_ci ?_
      refine n_istore [some (vR _), some (vI _), some (vI _), some (vI _)] (Nat.le_of_ble_eq_true rfl) rfl ?_
      refine x_fall ?_
      refine L2 7 0 0 rfl (by omega) ⟨by omega, by omega, fun j hj => by omega⟩
  refine n_at (m := 65) (q := mr65) (kn := (0, 1)) [some (vR _), none, none, none] mb65 rfl rfl (h_rcv sc_94) (Nat.le_of_ble_eq_true rfl) rfl rfl ?_
  refine x_ci ?_
  refine n_istore [some (vR _), some (vI _), _, _] (Nat.le_of_ble_eq_true rfl) rfl ?_
  refine x_ci ?_
  refine n_istore [some (vR _), some (vI _), some (vI _), _] (Nat.le_of_ble_eq_true rfl) rfl ?_
  refine x_fall ?_
  exact L1 19 0 0 0 0 rfl rfl (by omega) rfl (fun w2qq h2 => by omega)
end TX5
