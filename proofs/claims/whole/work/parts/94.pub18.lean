/-! TRIED -/
section PA9
variable {d tp : Nat} {h0 : pheap} {s : St} {Q : Option pv → pheap → Prop} {L : Int} {n zqq K N : Nat} {c c' : Int → Int} {Hs : Hst} {vw rf sl yr la slp : Int} {kc lb le ty tc : Int → Int} {Y : YS}
def trY (vw rf sl yr la L : Int) (n : Nat) (c : Int → Int) (wqq i : Int) : YS := if wqq = 2 then yOf vw rf sl yr la (rk L c (cntN L i.toNat) n) (rc L c (cntN L i.toNat) n) else yOf vw rf sl yr la n c
def trL (L wqq i : Int) : Int := if wqq = 2 then clr L i else L
def trA (kc lb le : Int → Int) (slp : Int) (K : Nat) (ty tc : Int → Int) (vw rf sl yr la L : Int) (n : Nat) (c : Int → Int) (wqq i m : Int) : Int := (yrN (trL L wqq i) kc lb le (bI (wqq = 3)) (bI (wqq = 4)) (if wqq = 1 then 2 else 1) slp K ty tc (trY vw rf sl yr la L n c wqq i) m.toNat).1.2.2.1
abbrev trP (L wqq i m : Int) : Prop := (0 ≤ wqq ∧ wqq ≤ 4) ∧ (0 ≤ m ∧ m ≤ 99) ∧ ((wqq = 2 ∧ 0 ≤ i ∧ i < 6 ∧ bt L i = 1) ∨ (wqq ≠ 2 ∧ i = 0))
theorem okY_rk {q : Int} (h : okY (yOf vw rf sl yr la n c)) : okY (yOf vw rf sl yr la (rk L c q n) (rc L c q n)) := by
  have := rk_le (L := L) (c := c) (q := q) n
  obtain ⟨a1, a2, a3, a4, a5⟩ := h
  have a3 : n ≤ 48 := a3
  exact ⟨a1, a2, show rk L c q n ≤ 48 by omega, a4, a5⟩
theorem m_tried (hd : 17 ≤ d) (htp : tp = 37 ∨ tp = 45) (hT : s 32 2 = (tp : Int) + 1) (hD : DA 53 vw rf sl yr la L n c s) (hoy : okY (yOf vw rf sl yr la n c)) (hyr : 0 ≤ yr ∧ yr ≤ 9900) (htl : TLC tp K ty tc s) (hsl : s tp 5 = slp) (hsr : 0 ≤ slp ∧ slp ≤ 100) (hw : LWC tp kc lb le s) (ho : okL kc lb le) {wqq i m : Int} (hw0 : iR wqq) (hi : iR i) (hm : iR m) (kY : trP L wqq i m → ∀ tqq, lkC tp s tqq → Q (some (vI (trA kc lb le slp K ty tc vw rf sl yr la L n c wqq i m))) (HP h0 tqq)) (kN : ¬ trP L wqq i m → Q (some (vI (-1))) (HP h0 s)) : wpM PP d 39 [vR 32, vI wqq, vI i, vI m] (HP h0 s) Q := by
  obtain ⟨hS, htq⟩ := isc_tp htp
  clear htp
  have hct := cnt_R L
  have B6 : ∀ (tqq : St) (n2 : Nat) (c2 : Int → Int) (L2 : Int), DA 63 vw rf sl yr la L2 n2 c2 tqq → okY (yOf vw rf sl yr la n2 c2) → (∀ b : Nat, (b < 63 ∨ 67 < b) → ∀ r, tqq b r = s b r) → trL L wqq i = L2 → trY vw rf sl yr la L n c wqq i = yOf vw rf sl yr la n2 c2 → ((0 ≤ wqq ∧ wqq ≤ 4) ∧ (0 ≤ m ∧ m ≤ 99)) → (k9 : ∀ tqq, lkC tp s tqq → Q (some (vI (trA kc lb le slp K ty tc vw rf sl yr la L n c wqq i m))) (HP h0 tqq)) → wp PP d mb39 (mb39.getD 6 []) [some (vR 32), some (vI wqq), some (vI i), some (vI m)] [] (HP h0 tqq) Q := by
    intro tqq n2 c2 L2 t1qq ho2 t2qq eL eY hwm k9
    refine x_aload rfl ?_
    refine h_getR sc_32 rfl (by omega) ?_
    refine x_iload rfl ?_
    refine x_ci ?_
    refine n_icmp_ne ⟨by omega, by omega⟩ ⟨by omega, by omega⟩ (fun c1 => ?_) (fun c1 => ?_)
    · refine x_ci ?_
      refine x_fall ?_
      refine x_iload rfl ?_
      refine x_ci ?_
      refine n_icmp_ne ⟨by omega, by omega⟩ ⟨by omega, by omega⟩ (fun c2 => ?_) (fun c2 => ?_)
      · refine x_ci ?_
        refine x_fall ?_
        refine x_iload rfl ?_
        refine x_ci ?_
        refine n_icmp_ne ⟨by omega, by omega⟩ ⟨by omega, by omega⟩ (fun c3 => ?_) (fun c3 => ?_)
        · refine x_ci ?_
          refine x_fall ?_
          refine n_call [vR _, vI _, vI _, vI _] [] (by omega) (Nat.le_of_ble_eq_true rfl) rfl rfl (Nat.le_of_ble_eq_true rfl) ?_
          have hT3 : ∀ x y wqq : Int, up (up (up tqq 68 1 x) 68 2 y) 68 3 wqq 32 2 = (tp : Int) + 1 := fun x y wqq => by
            rw [up_a (by decide), up_a (by decide), up_a (by decide)]
            exact (t2qq 32 (by omega) 2).trans hT
          refine m_choose (by omega) (by omega) ?_
          show wp PP _ _ _ [some (vR _), some (vI _), some (vI _), some (vI _)] [] _ _
          refine x_aload rfl ?_
          refine h_getR sc_32 rfl (by omega) ?_
          refine x_aload rfl ?_
          refine h_getB 2 sc_32 rfl rfl (hT3 _ _ _) ?_
          refine x_aload rfl ?_
          refine h_getR sc_32 rfl (by omega) ?_
          refine x_iload rfl ?_
          refine n_call [vR _, vR _, vR _, vI _] [] (by omega) (Nat.le_of_ble_eq_true rfl) rfl rfl (Nat.le_of_ble_eq_true rfl) ?_
          obtain ⟨mm, hmm⟩ : ∃ mm : Nat, m = mm := ⟨m.toNat, by omega⟩
          subst hmm
          have f_ : ∀ (x y zqq : Int) (b : Nat) (r : Int), (b < 63 ∨ 68 < b) → up (up (up tqq 68 1 x) 68 2 y) 68 3 zqq b r = s b r := fun x y zqq b r q => by
            rw [up_a (by omega), up_a (by omega), up_a (by omega)]
            exact t2qq b (by omega) r
          refine m_pass (L := L2) (am := bI (wqq = 3)) (tu := bI (wqq = 4)) (way := if wqq = 1 then 2 else 1) (slp := slp) (K := K) (ty := ty) (tc := tc) (kc := kc) (lb := lb) (le := le) da_63 hS (by omega) (by omega) (by omega) (by omega) (by omega) (PSup (PSup (PSup t1qq.ps (by decide)) (by decide)) (by decide)) ho2 (by omega) ?_ (htl.of (fun b r q => f_ _ _ _ b r (by omega))) ?_ (bI_01 _) ?_ (bI_01 _) ?_ (by split <;> omega) ((f_ _ _ _ tp 5 (by omega)).trans hsl) hsr (hw.of (fun b r q => f_ _ _ _ b r (by omega))) ho (fun uqq u1qq u2qq => ?_)
          · show 0 ≤ yr ∧ yr ≤ 90000
            omega
          · rw [up_i (by decide), up_e]
            first
              | exact (bI_t (by omega)).symm
              | exact (bI_f (by omega)).symm
          · rw [up_e]
            first
              | exact (bI_t (by omega)).symm
              | exact (bI_f (by omega)).symm
          · rw [up_i (by decide), up_i (by decide), up_e]
            first
              | exact (if_pos (by omega)).symm
              | exact (if_neg (by omega)).symm
          show wp PP _ _ _ [some (vR _), some (vI _), some (vI _), some (vI _)] [] _ _
          refine x_aload rfl ?_
          refine h_getR sc_32 rfl (by omega) ?_
          refine h_getR sc_63 rfl (by omega) ?_
          refine h_getI 5 sc_64 rfl rfl ?_
          refine x_iret ?_
          refine cI (k9 uqq (fun b r q1 q2 q3 q4 => ?_)) ?_
          · rw [u2qq b r (by omega) (by omega) q3 q4]
            exact f_ _ _ _ b r (by omega)
          · unfold trA
            rw [eL, eY]
            exact u1qq.1.size.symm
        · refine x_ci ?_
          refine x_goto ?_
          refine n_call [vR _, vI _, vI _, vI _] [] (by omega) (Nat.le_of_ble_eq_true rfl) rfl rfl (Nat.le_of_ble_eq_true rfl) ?_
          have hT3 : ∀ x y wqq : Int, up (up (up tqq 68 1 x) 68 2 y) 68 3 wqq 32 2 = (tp : Int) + 1 := fun x y wqq => by
            rw [up_a (by decide), up_a (by decide), up_a (by decide)]
            exact (t2qq 32 (by omega) 2).trans hT
          refine m_choose (by omega) (by omega) ?_
          show wp PP _ _ _ [some (vR _), some (vI _), some (vI _), some (vI _)] [] _ _
          refine x_aload rfl ?_
          refine h_getR sc_32 rfl (by omega) ?_
          refine x_aload rfl ?_
          refine h_getB 2 sc_32 rfl rfl (hT3 _ _ _) ?_
          refine x_aload rfl ?_
          refine h_getR sc_32 rfl (by omega) ?_
          refine x_iload rfl ?_
          refine n_call [vR _, vR _, vR _, vI _] [] (by omega) (Nat.le_of_ble_eq_true rfl) rfl rfl (Nat.le_of_ble_eq_true rfl) ?_
          obtain ⟨mm, hmm⟩ : ∃ mm : Nat, m = mm := ⟨m.toNat, by omega⟩
          subst hmm
          have f_ : ∀ (x y zqq : Int) (b : Nat) (r : Int), (b < 63 ∨ 68 < b) → up (up (up tqq 68 1 x) 68 2 y) 68 3 zqq b r = s b r := fun x y zqq b r q => by
            rw [up_a (by omega), up_a (by omega), up_a (by omega)]
            exact t2qq b (by omega) r
          refine m_pass (L := L2) (am := bI (wqq = 3)) (tu := bI (wqq = 4)) (way := if wqq = 1 then 2 else 1) (slp := slp) (K := K) (ty := ty) (tc := tc) (kc := kc) (lb := lb) (le := le) da_63 hS (by omega) (by omega) (by omega) (by omega) (by omega) (PSup (PSup (PSup t1qq.ps (by decide)) (by decide)) (by decide)) ho2 (by omega) ?_ (htl.of (fun b r q => f_ _ _ _ b r (by omega))) ?_ (bI_01 _) ?_ (bI_01 _) ?_ (by split <;> omega) ((f_ _ _ _ tp 5 (by omega)).trans hsl) hsr (hw.of (fun b r q => f_ _ _ _ b r (by omega))) ho (fun uqq u1qq u2qq => ?_)
          · show 0 ≤ yr ∧ yr ≤ 90000
            omega
          · rw [up_i (by decide), up_e]
            first
              | exact (bI_t (by omega)).symm
              | exact (bI_f (by omega)).symm
          · rw [up_e]
            first
              | exact (bI_t (by omega)).symm
              | exact (bI_f (by omega)).symm
          · rw [up_i (by decide), up_i (by decide), up_e]
            first
              | exact (if_pos (by omega)).symm
              | exact (if_neg (by omega)).symm
          show wp PP _ _ _ [some (vR _), some (vI _), some (vI _), some (vI _)] [] _ _
          refine x_aload rfl ?_
          refine h_getR sc_32 rfl (by omega) ?_
          refine h_getR sc_63 rfl (by omega) ?_
          refine h_getI 5 sc_64 rfl rfl ?_
          refine x_iret ?_
          refine cI (k9 uqq (fun b r q1 q2 q3 q4 => ?_)) ?_
          · rw [u2qq b r (by omega) (by omega) q3 q4]
            exact f_ _ _ _ b r (by omega)
          · unfold trA
            rw [eL, eY]
            exact u1qq.1.size.symm
      · refine x_ci ?_
        refine x_goto ?_
        refine x_iload rfl ?_
        refine x_ci ?_
        refine n_icmp_ne ⟨by omega, by omega⟩ ⟨by omega, by omega⟩ (fun c3 => ?_) (fun c3 => ?_)
        · refine x_ci ?_
          refine x_fall ?_
          refine n_call [vR _, vI _, vI _, vI _] [] (by omega) (Nat.le_of_ble_eq_true rfl) rfl rfl (Nat.le_of_ble_eq_true rfl) ?_
          have hT3 : ∀ x y wqq : Int, up (up (up tqq 68 1 x) 68 2 y) 68 3 wqq 32 2 = (tp : Int) + 1 := fun x y wqq => by
            rw [up_a (by decide), up_a (by decide), up_a (by decide)]
            exact (t2qq 32 (by omega) 2).trans hT
          refine m_choose (by omega) (by omega) ?_
          show wp PP _ _ _ [some (vR _), some (vI _), some (vI _), some (vI _)] [] _ _
          refine x_aload rfl ?_
          refine h_getR sc_32 rfl (by omega) ?_
          refine x_aload rfl ?_
          refine h_getB 2 sc_32 rfl rfl (hT3 _ _ _) ?_
          refine x_aload rfl ?_
          refine h_getR sc_32 rfl (by omega) ?_
          refine x_iload rfl ?_
          refine n_call [vR _, vR _, vR _, vI _] [] (by omega) (Nat.le_of_ble_eq_true rfl) rfl rfl (Nat.le_of_ble_eq_true rfl) ?_
          obtain ⟨mm, hmm⟩ : ∃ mm : Nat, m = mm := ⟨m.toNat, by omega⟩
          subst hmm
          have f_ : ∀ (x y zqq : Int) (b : Nat) (r : Int), (b < 63 ∨ 68 < b) → up (up (up tqq 68 1 x) 68 2 y) 68 3 zqq b r = s b r := fun x y zqq b r q => by
            rw [up_a (by omega), up_a (by omega), up_a (by omega)]
            exact t2qq b (by omega) r
          refine m_pass (L := L2) (am := bI (wqq = 3)) (tu := bI (wqq = 4)) (way := if wqq = 1 then 2 else 1) (slp := slp) (K := K) (ty := ty) (tc := tc) (kc := kc) (lb := lb) (le := le) da_63 hS (by omega) (by omega) (by omega) (by omega) (by omega) (PSup (PSup (PSup t1qq.ps (by decide)) (by decide)) (by decide)) ho2 (by omega) ?_ (htl.of (fun b r q => f_ _ _ _ b r (by omega))) ?_ (bI_01 _) ?_ (bI_01 _) ?_ (by split <;> omega) ((f_ _ _ _ tp 5 (by omega)).trans hsl) hsr (hw.of (fun b r q => f_ _ _ _ b r (by omega))) ho (fun uqq u1qq u2qq => ?_)
          · show 0 ≤ yr ∧ yr ≤ 90000
            omega
          · rw [up_i (by decide), up_e]
            first
              | exact (bI_t (by omega)).symm
              | exact (bI_f (by omega)).symm
          · rw [up_e]
            first
              | exact (bI_t (by omega)).symm
              | exact (bI_f (by omega)).symm
          · rw [up_i (by decide), up_i (by decide), up_e]
            first
              | exact (if_pos (by omega)).symm
              | exact (if_neg (by omega)).symm
          show wp PP _ _ _ [some (vR _), some (vI _), some (vI _), some (vI _)] [] _ _
          refine x_aload rfl ?_
          refine h_getR sc_32 rfl (by omega) ?_
          refine h_getR sc_63 rfl (by omega) ?_
          refine h_getI 5 sc_64 rfl rfl ?_
          refine x_iret ?_
          refine cI (k9 uqq (fun b r q1 q2 q3 q4 => ?_)) ?_
          · rw [u2qq b r (by omega) (by omega) q3 q4]
            exact f_ _ _ _ b r (by omega)
          · unfold trA
            rw [eL, eY]
            exact u1qq.1.size.symm
        · refine x_ci ?_
          refine x_goto ?_
          refine n_call [vR _, vI _, vI _, vI _] [] (by omega) (Nat.le_of_ble_eq_true rfl) rfl rfl (Nat.le_of_ble_eq_true rfl) ?_
          have hT3 : ∀ x y wqq : Int, up (up (up tqq 68 1 x) 68 2 y) 68 3 wqq 32 2 = (tp : Int) + 1 := fun x y wqq => by
            rw [up_a (by decide), up_a (by decide), up_a (by decide)]
            exact (t2qq 32 (by omega) 2).trans hT
          refine m_choose (by omega) (by omega) ?_
          show wp PP _ _ _ [some (vR _), some (vI _), some (vI _), some (vI _)] [] _ _
          refine x_aload rfl ?_
          refine h_getR sc_32 rfl (by omega) ?_
          refine x_aload rfl ?_
          refine h_getB 2 sc_32 rfl rfl (hT3 _ _ _) ?_
          refine x_aload rfl ?_
          refine h_getR sc_32 rfl (by omega) ?_
          refine x_iload rfl ?_
          refine n_call [vR _, vR _, vR _, vI _] [] (by omega) (Nat.le_of_ble_eq_true rfl) rfl rfl (Nat.le_of_ble_eq_true rfl) ?_
          obtain ⟨mm, hmm⟩ : ∃ mm : Nat, m = mm := ⟨m.toNat, by omega⟩
          subst hmm
          have f_ : ∀ (x y zqq : Int) (b : Nat) (r : Int), (b < 63 ∨ 68 < b) → up (up (up tqq 68 1 x) 68 2 y) 68 3 zqq b r = s b r := fun x y zqq b r q => by
            rw [up_a (by omega), up_a (by omega), up_a (by omega)]
            exact t2qq b (by omega) r
          refine m_pass (L := L2) (am := bI (wqq = 3)) (tu := bI (wqq = 4)) (way := if wqq = 1 then 2 else 1) (slp := slp) (K := K) (ty := ty) (tc := tc) (kc := kc) (lb := lb) (le := le) da_63 hS (by omega) (by omega) (by omega) (by omega) (by omega) (PSup (PSup (PSup t1qq.ps (by decide)) (by decide)) (by decide)) ho2 (by omega) ?_ (htl.of (fun b r q => f_ _ _ _ b r (by omega))) ?_ (bI_01 _) ?_ (bI_01 _) ?_ (by split <;> omega) ((f_ _ _ _ tp 5 (by omega)).trans hsl) hsr (hw.of (fun b r q => f_ _ _ _ b r (by omega))) ho (fun uqq u1qq u2qq => ?_)
          · show 0 ≤ yr ∧ yr ≤ 90000
            omega
          · rw [up_i (by decide), up_e]
            first
              | exact (bI_t (by omega)).symm
              | exact (bI_f (by omega)).symm
          · rw [up_e]
            first
              | exact (bI_t (by omega)).symm
              | exact (bI_f (by omega)).symm
          · rw [up_i (by decide), up_i (by decide), up_e]
            first
              | exact (if_pos (by omega)).symm
              | exact (if_neg (by omega)).symm
          show wp PP _ _ _ [some (vR _), some (vI _), some (vI _), some (vI _)] [] _ _
          refine x_aload rfl ?_
          refine h_getR sc_32 rfl (by omega) ?_
          refine h_getR sc_63 rfl (by omega) ?_
          refine h_getI 5 sc_64 rfl rfl ?_
          refine x_iret ?_
          refine cI (k9 uqq (fun b r q1 q2 q3 q4 => ?_)) ?_
          · rw [u2qq b r (by omega) (by omega) q3 q4]
            exact f_ _ _ _ b r (by omega)
          · unfold trA
            rw [eL, eY]
            exact u1qq.1.size.symm
    · refine x_ci ?_
      refine x_goto ?_
      refine x_iload rfl ?_
      refine x_ci ?_
      refine n_icmp_ne ⟨by omega, by omega⟩ ⟨by omega, by omega⟩ (fun c2 => ?_) (fun c2 => ?_)
      · refine x_ci ?_
        refine x_fall ?_
        refine x_iload rfl ?_
        refine x_ci ?_
        refine n_icmp_ne ⟨by omega, by omega⟩ ⟨by omega, by omega⟩ (fun c3 => ?_) (fun c3 => ?_)
        · refine x_ci ?_
          refine x_fall ?_
          refine n_call [vR _, vI _, vI _, vI _] [] (by omega) (Nat.le_of_ble_eq_true rfl) rfl rfl (Nat.le_of_ble_eq_true rfl) ?_
          have hT3 : ∀ x y wqq : Int, up (up (up tqq 68 1 x) 68 2 y) 68 3 wqq 32 2 = (tp : Int) + 1 := fun x y wqq => by
            rw [up_a (by decide), up_a (by decide), up_a (by decide)]
            exact (t2qq 32 (by omega) 2).trans hT
          refine m_choose (by omega) (by omega) ?_
          show wp PP _ _ _ [some (vR _), some (vI _), some (vI _), some (vI _)] [] _ _
          refine x_aload rfl ?_
          refine h_getR sc_32 rfl (by omega) ?_
          refine x_aload rfl ?_
          refine h_getB 2 sc_32 rfl rfl (hT3 _ _ _) ?_
          refine x_aload rfl ?_
          refine h_getR sc_32 rfl (by omega) ?_
          refine x_iload rfl ?_
          refine n_call [vR _, vR _, vR _, vI _] [] (by omega) (Nat.le_of_ble_eq_true rfl) rfl rfl (Nat.le_of_ble_eq_true rfl) ?_
          obtain ⟨mm, hmm⟩ : ∃ mm : Nat, m = mm := ⟨m.toNat, by omega⟩
          subst hmm
          have f_ : ∀ (x y zqq : Int) (b : Nat) (r : Int), (b < 63 ∨ 68 < b) → up (up (up tqq 68 1 x) 68 2 y) 68 3 zqq b r = s b r := fun x y zqq b r q => by
            rw [up_a (by omega), up_a (by omega), up_a (by omega)]
            exact t2qq b (by omega) r
          refine m_pass (L := L2) (am := bI (wqq = 3)) (tu := bI (wqq = 4)) (way := if wqq = 1 then 2 else 1) (slp := slp) (K := K) (ty := ty) (tc := tc) (kc := kc) (lb := lb) (le := le) da_63 hS (by omega) (by omega) (by omega) (by omega) (by omega) (PSup (PSup (PSup t1qq.ps (by decide)) (by decide)) (by decide)) ho2 (by omega) ?_ (htl.of (fun b r q => f_ _ _ _ b r (by omega))) ?_ (bI_01 _) ?_ (bI_01 _) ?_ (by split <;> omega) ((f_ _ _ _ tp 5 (by omega)).trans hsl) hsr (hw.of (fun b r q => f_ _ _ _ b r (by omega))) ho (fun uqq u1qq u2qq => ?_)
          · show 0 ≤ yr ∧ yr ≤ 90000
            omega
          · rw [up_i (by decide), up_e]
            first
              | exact (bI_t (by omega)).symm
              | exact (bI_f (by omega)).symm
          · rw [up_e]
            first
              | exact (bI_t (by omega)).symm
              | exact (bI_f (by omega)).symm
          · rw [up_i (by decide), up_i (by decide), up_e]
            first
              | exact (if_pos (by omega)).symm
              | exact (if_neg (by omega)).symm
          show wp PP _ _ _ [some (vR _), some (vI _), some (vI _), some (vI _)] [] _ _
          refine x_aload rfl ?_
          refine h_getR sc_32 rfl (by omega) ?_
          refine h_getR sc_63 rfl (by omega) ?_
          refine h_getI 5 sc_64 rfl rfl ?_
          refine x_iret ?_
          refine cI (k9 uqq (fun b r q1 q2 q3 q4 => ?_)) ?_
          · rw [u2qq b r (by omega) (by omega) q3 q4]
            exact f_ _ _ _ b r (by omega)
          · unfold trA
            rw [eL, eY]
            exact u1qq.1.size.symm
        · refine x_ci ?_
          refine x_goto ?_
          refine n_call [vR _, vI _, vI _, vI _] [] (by omega) (Nat.le_of_ble_eq_true rfl) rfl rfl (Nat.le_of_ble_eq_true rfl) ?_
          have hT3 : ∀ x y wqq : Int, up (up (up tqq 68 1 x) 68 2 y) 68 3 wqq 32 2 = (tp : Int) + 1 := fun x y wqq => by
            rw [up_a (by decide), up_a (by decide), up_a (by decide)]
            exact (t2qq 32 (by omega) 2).trans hT
          refine m_choose (by omega) (by omega) ?_
          show wp PP _ _ _ [some (vR _), some (vI _), some (vI _), some (vI _)] [] _ _
          refine x_aload rfl ?_
          refine h_getR sc_32 rfl (by omega) ?_
          refine x_aload rfl ?_
          refine h_getB 2 sc_32 rfl rfl (hT3 _ _ _) ?_
          refine x_aload rfl ?_
          refine h_getR sc_32 rfl (by omega) ?_
          refine x_iload rfl ?_
          refine n_call [vR _, vR _, vR _, vI _] [] (by omega) (Nat.le_of_ble_eq_true rfl) rfl rfl (Nat.le_of_ble_eq_true rfl) ?_
          obtain ⟨mm, hmm⟩ : ∃ mm : Nat, m = mm := ⟨m.toNat, by omega⟩
          subst hmm
          have f_ : ∀ (x y zqq : Int) (b : Nat) (r : Int), (b < 63 ∨ 68 < b) → up (up (up tqq 68 1 x) 68 2 y) 68 3 zqq b r = s b r := fun x y zqq b r q => by
            rw [up_a (by omega), up_a (by omega), up_a (by omega)]
            exact t2qq b (by omega) r
          refine m_pass (L := L2) (am := bI (wqq = 3)) (tu := bI (wqq = 4)) (way := if wqq = 1 then 2 else 1) (slp := slp) (K := K) (ty := ty) (tc := tc) (kc := kc) (lb := lb) (le := le) da_63 hS (by omega) (by omega) (by omega) (by omega) (by omega) (PSup (PSup (PSup t1qq.ps (by decide)) (by decide)) (by decide)) ho2 (by omega) ?_ (htl.of (fun b r q => f_ _ _ _ b r (by omega))) ?_ (bI_01 _) ?_ (bI_01 _) ?_ (by split <;> omega) ((f_ _ _ _ tp 5 (by omega)).trans hsl) hsr (hw.of (fun b r q => f_ _ _ _ b r (by omega))) ho (fun uqq u1qq u2qq => ?_)
          · show 0 ≤ yr ∧ yr ≤ 90000
            omega
          · rw [up_i (by decide), up_e]
            first
              | exact (bI_t (by omega)).symm
              | exact (bI_f (by omega)).symm
          · rw [up_e]
            first
              | exact (bI_t (by omega)).symm
              | exact (bI_f (by omega)).symm
          · rw [up_i (by decide), up_i (by decide), up_e]
            first
              | exact (if_pos (by omega)).symm
              | exact (if_neg (by omega)).symm
          show wp PP _ _ _ [some (vR _), some (vI _), some (vI _), some (vI _)] [] _ _
          refine x_aload rfl ?_
          refine h_getR sc_32 rfl (by omega) ?_
          refine h_getR sc_63 rfl (by omega) ?_
          refine h_getI 5 sc_64 rfl rfl ?_
          refine x_iret ?_
          refine cI (k9 uqq (fun b r q1 q2 q3 q4 => ?_)) ?_
          · rw [u2qq b r (by omega) (by omega) q3 q4]
            exact f_ _ _ _ b r (by omega)
          · unfold trA
            rw [eL, eY]
            exact u1qq.1.size.symm
      · refine x_ci ?_
        refine x_goto ?_
        refine x_iload rfl ?_
        refine x_ci ?_
        refine n_icmp_ne ⟨by omega, by omega⟩ ⟨by omega, by omega⟩ (fun c3 => ?_) (fun c3 => ?_)
        · refine x_ci ?_
          refine x_fall ?_
          refine n_call [vR _, vI _, vI _, vI _] [] (by omega) (Nat.le_of_ble_eq_true rfl) rfl rfl (Nat.le_of_ble_eq_true rfl) ?_
          have hT3 : ∀ x y wqq : Int, up (up (up tqq 68 1 x) 68 2 y) 68 3 wqq 32 2 = (tp : Int) + 1 := fun x y wqq => by
            rw [up_a (by decide), up_a (by decide), up_a (by decide)]
            exact (t2qq 32 (by omega) 2).trans hT
          refine m_choose (by omega) (by omega) ?_
          show wp PP _ _ _ [some (vR _), some (vI _), some (vI _), some (vI _)] [] _ _
          refine x_aload rfl ?_
          refine h_getR sc_32 rfl (by omega) ?_
          refine x_aload rfl ?_
          refine h_getB 2 sc_32 rfl rfl (hT3 _ _ _) ?_
          refine x_aload rfl ?_
          refine h_getR sc_32 rfl (by omega) ?_
          refine x_iload rfl ?_
          refine n_call [vR _, vR _, vR _, vI _] [] (by omega) (Nat.le_of_ble_eq_true rfl) rfl rfl (Nat.le_of_ble_eq_true rfl) ?_
          obtain ⟨mm, hmm⟩ : ∃ mm : Nat, m = mm := ⟨m.toNat, by omega⟩
          subst hmm
          have f_ : ∀ (x y zqq : Int) (b : Nat) (r : Int), (b < 63 ∨ 68 < b) → up (up (up tqq 68 1 x) 68 2 y) 68 3 zqq b r = s b r := fun x y zqq b r q => by
            rw [up_a (by omega), up_a (by omega), up_a (by omega)]
            exact t2qq b (by omega) r
          refine m_pass (L := L2) (am := bI (wqq = 3)) (tu := bI (wqq = 4)) (way := if wqq = 1 then 2 else 1) (slp := slp) (K := K) (ty := ty) (tc := tc) (kc := kc) (lb := lb) (le := le) da_63 hS (by omega) (by omega) (by omega) (by omega) (by omega) (PSup (PSup (PSup t1qq.ps (by decide)) (by decide)) (by decide)) ho2 (by omega) ?_ (htl.of (fun b r q => f_ _ _ _ b r (by omega))) ?_ (bI_01 _) ?_ (bI_01 _) ?_ (by split <;> omega) ((f_ _ _ _ tp 5 (by omega)).trans hsl) hsr (hw.of (fun b r q => f_ _ _ _ b r (by omega))) ho (fun uqq u1qq u2qq => ?_)
          · show 0 ≤ yr ∧ yr ≤ 90000
            omega
          · rw [up_i (by decide), up_e]
            first
              | exact (bI_t (by omega)).symm
              | exact (bI_f (by omega)).symm
          · rw [up_e]
            first
              | exact (bI_t (by omega)).symm
              | exact (bI_f (by omega)).symm
          · rw [up_i (by decide), up_i (by decide), up_e]
            first
              | exact (if_pos (by omega)).symm
              | exact (if_neg (by omega)).symm
          show wp PP _ _ _ [some (vR _), some (vI _), some (vI _), some (vI _)] [] _ _
          refine x_aload rfl ?_
          refine h_getR sc_32 rfl (by omega) ?_
          refine h_getR sc_63 rfl (by omega) ?_
          refine h_getI 5 sc_64 rfl rfl ?_
          refine x_iret ?_
          refine cI (k9 uqq (fun b r q1 q2 q3 q4 => ?_)) ?_
          · rw [u2qq b r (by omega) (by omega) q3 q4]
            exact f_ _ _ _ b r (by omega)
          · unfold trA
            rw [eL, eY]
            exact u1qq.1.size.symm
        · refine x_ci ?_
          refine x_goto ?_
          refine n_call [vR _, vI _, vI _, vI _] [] (by omega) (Nat.le_of_ble_eq_true rfl) rfl rfl (Nat.le_of_ble_eq_true rfl) ?_
          have hT3 : ∀ x y wqq : Int, up (up (up tqq 68 1 x) 68 2 y) 68 3 wqq 32 2 = (tp : Int) + 1 := fun x y wqq => by
            rw [up_a (by decide), up_a (by decide), up_a (by decide)]
            exact (t2qq 32 (by omega) 2).trans hT
          refine m_choose (by omega) (by omega) ?_
          show wp PP _ _ _ [some (vR _), some (vI _), some (vI _), some (vI _)] [] _ _
          refine x_aload rfl ?_
          refine h_getR sc_32 rfl (by omega) ?_
          refine x_aload rfl ?_
          refine h_getB 2 sc_32 rfl rfl (hT3 _ _ _) ?_
          refine x_aload rfl ?_
          refine h_getR sc_32 rfl (by omega) ?_
          refine x_iload rfl ?_
          refine n_call [vR _, vR _, vR _, vI _] [] (by omega) (Nat.le_of_ble_eq_true rfl) rfl rfl (Nat.le_of_ble_eq_true rfl) ?_
          obtain ⟨mm, hmm⟩ : ∃ mm : Nat, m = mm := ⟨m.toNat, by omega⟩
          subst hmm
          have f_ : ∀ (x y zqq : Int) (b : Nat) (r : Int), (b < 63 ∨ 68 < b) → up (up (up tqq 68 1 x) 68 2 y) 68 3 zqq b r = s b r := fun x y zqq b r q => by
            rw [up_a (by omega), up_a (by omega), up_a (by omega)]
            exact t2qq b (by omega) r
          refine m_pass (L := L2) (am := bI (wqq = 3)) (tu := bI (wqq = 4)) (way := if wqq = 1 then 2 else 1) (slp := slp) (K := K) (ty := ty) (tc := tc) (kc := kc) (lb := lb) (le := le) da_63 hS (by omega) (by omega) (by omega) (by omega) (by omega) (PSup (PSup (PSup t1qq.ps (by decide)) (by decide)) (by decide)) ho2 (by omega) ?_ (htl.of (fun b r q => f_ _ _ _ b r (by omega))) ?_ (bI_01 _) ?_ (bI_01 _) ?_ (by split <;> omega) ((f_ _ _ _ tp 5 (by omega)).trans hsl) hsr (hw.of (fun b r q => f_ _ _ _ b r (by omega))) ho (fun uqq u1qq u2qq => ?_)
          · show 0 ≤ yr ∧ yr ≤ 90000
            omega
          · rw [up_i (by decide), up_e]
            first
              | exact (bI_t (by omega)).symm
              | exact (bI_f (by omega)).symm
          · rw [up_e]
            first
              | exact (bI_t (by omega)).symm
              | exact (bI_f (by omega)).symm
          · rw [up_i (by decide), up_i (by decide), up_e]
            first
              | exact (if_pos (by omega)).symm
              | exact (if_neg (by omega)).symm
          show wp PP _ _ _ [some (vR _), some (vI _), some (vI _), some (vI _)] [] _ _
          refine x_aload rfl ?_
          refine h_getR sc_32 rfl (by omega) ?_
          refine h_getR sc_63 rfl (by omega) ?_
          refine h_getI 5 sc_64 rfl rfl ?_
          refine x_iret ?_
          refine cI (k9 uqq (fun b r q1 q2 q3 q4 => ?_)) ?_
          · rw [u2qq b r (by omega) (by omega) q3 q4]
            exact f_ _ _ _ b r (by omega)
          · unfold trA
            rw [eL, eY]
            exact u1qq.1.size.symm
  refine n_at (m := 39) (q := mr39) (kn := (0, 4)) [some (vR _), some (vI _), some (vI _), some (vI _)] mb39 rfl rfl (h_rcv sc_32) (Nat.le_of_ble_eq_true rfl) rfl rfl ?_
  refine x_iload rfl ?_
  refine n_if_lt ⟨by omega, by omega⟩ (fun c1 => ?_) (fun c1 => ?_)
  · refine x_ci ?_
    refine x_iret ?_
    exact kN (fun q => by omega)
  · refine x_iload rfl ?_
    refine x_ci ?_
    refine n_icmp_gt ⟨by omega, by omega⟩ ⟨by omega, by omega⟩ (fun c2 => ?_) (fun c2 => ?_)
    · refine x_ci ?_
      refine x_iret ?_
      exact kN (fun q => by omega)
    · refine x_iload rfl ?_
      refine n_if_lt ⟨by omega, by omega⟩ (fun c3 => ?_) (fun c3 => ?_)
      · refine x_ci ?_
        refine x_iret ?_
        exact kN (fun q => by omega)
      · refine x_iload rfl ?_
        refine x_ci ?_
        refine n_icmp_le ⟨by omega, by omega⟩ ⟨by omega, by omega⟩ (fun c4 => ?_) (fun c4 => ?_)
        · refine x_iload rfl ?_
          refine x_ci ?_
          refine n_icmp_ne ⟨by omega, by omega⟩ ⟨by omega, by omega⟩ (fun c5 => ?_) (fun c5 => ?_)
          · refine x_iload rfl ?_
            refine n_if_eq ⟨by omega, by omega⟩ (fun c6 => ?_) (fun c6 => ?_)
            · refine x_aload rfl ?_
              refine h_getR sc_32 rfl (by omega) ?_
              refine x_aload rfl ?_
              refine h_getR sc_32 rfl (by omega) ?_
              refine n_call [vR _, vR _] [] (by omega) (Nat.le_of_ble_eq_true rfl) rfl rfl (Nat.le_of_ble_eq_true rfl) ?_
              refine m_danceTake da_63 da_53 (by omega) (by omega) hD (fun t0qq t10 t20 => ?_)
              show wp PP _ _ _ [some (vR _), some (vI _), some (vI _), some (vI _)] [] _ _
              refine x_iload rfl ?_
              refine x_ci ?_
              refine n_icmp_ne ⟨by omega, by omega⟩ ⟨by omega, by omega⟩ (fun c7 => ?_) (fun c7 => ?_)
              · exact B6 t0qq n c L t10 hoy (fun b q r => t20 b (by omega) r) (by unfold trL; exact if_neg (by omega)) (by unfold trY; exact if_neg (by omega)) ⟨by omega, by omega⟩ (kY (by omega))
              · refine x_aload rfl ?_
                refine h_getR sc_32 rfl (by omega) ?_
                refine h_getR sc_63 rfl (by omega) ?_
                refine x_iload rfl ?_
                refine n_call [vR _, vI _] [] (by omega) (Nat.le_of_ble_eq_true rfl) rfl rfl (Nat.le_of_ble_eq_true rfl) ?_
                refine m_release pl_64 (by omega) t10.2.2.2.2.2 (x := i) (by omega) (fun t3qq t31 t32 => ?_)
                show wp PP _ _ _ [some (vR _), some (vI _), some (vI _), some (vI _)] [] _ _
                refine x_fall ?_
                exfalso
                omega
            · refine x_fall ?_
              refine x_ci ?_
              refine x_iret ?_
              exact kN (fun q => by omega)
          · refine x_aload rfl ?_
            refine h_getR sc_32 rfl (by omega) ?_
            refine h_getR sc_53 rfl (by omega) ?_
            refine x_iload rfl ?_
            refine n_call [vR _, vI _] [] (by omega) (Nat.le_of_ble_eq_true rfl) rfl rfl (Nat.le_of_ble_eq_true rfl) ?_
            refine m_isLeft pl_54 (by rw [hD.2.2.2.2.2.left]; exact hD.2.2.2.2.2.hL) ⟨by omega, by omega⟩ ?_
            rw [hD.2.2.2.2.2.left]
            show wp PP _ _ _ [some (vR _), some (vI _), some (vI _), some (vI _)] [vI _] _ _
            refine z_if_ne (fun c6 => ?_) (fun c6 => ?_)
            · refine x_aload rfl ?_
              refine h_getR sc_32 rfl (by omega) ?_
              refine x_aload rfl ?_
              refine h_getR sc_32 rfl (by omega) ?_
              refine n_call [vR _, vR _] [] (by omega) (Nat.le_of_ble_eq_true rfl) rfl rfl (Nat.le_of_ble_eq_true rfl) ?_
              refine m_danceTake da_63 da_53 (by omega) (by omega) hD (fun t0qq t10 t20 => ?_)
              show wp PP _ _ _ [some (vR _), some (vI _), some (vI _), some (vI _)] [] _ _
              refine x_iload rfl ?_
              refine x_ci ?_
              refine n_icmp_ne ⟨by omega, by omega⟩ ⟨by omega, by omega⟩ (fun c7 => ?_) (fun c7 => ?_)
              · exfalso
                omega
              · refine x_aload rfl ?_
                refine h_getR sc_32 rfl (by omega) ?_
                refine h_getR sc_63 rfl (by omega) ?_
                refine x_iload rfl ?_
                refine n_call [vR _, vI _] [] (by omega) (Nat.le_of_ble_eq_true rfl) rfl rfl (Nat.le_of_ble_eq_true rfl) ?_
                refine m_release pl_64 (by omega) t10.2.2.2.2.2 (x := i) (by omega) (fun t3qq t31 t32 => ?_)
                show wp PP _ _ _ [some (vR _), some (vI _), some (vI _), some (vI _)] [] _ _
                refine x_fall ?_
                have tf := t10
                exact B6 t3qq (rk L c (cntN L i.toNat) n) (rc L c (cntN L i.toNat) n) (clr L i) ⟨(t32 63 (by omega) 1).trans tf.1, (t32 63 (by omega) 2).trans tf.2.1, (t32 63 (by omega) 3).trans tf.2.2.1, (t32 63 (by omega) 4).trans tf.2.2.2.1, (t32 63 (by omega) 5).trans tf.2.2.2.2.1, t31⟩ (okY_rk hoy) (fun b q r => (t32 b (by omega) r).trans (t20 b (by omega) r)) (by unfold trL; exact if_pos (by omega)) (by unfold trY; exact if_pos (by omega)) ⟨by omega, by omega⟩ (kY (by omega))
            · refine x_goto ?_
              refine x_ci ?_
              refine x_iret ?_
              exact kN (fun q => by omega)
        · refine x_fall ?_
          refine x_ci ?_
          refine x_iret ?_
          exact kN (fun q => by omega)
end PA9
