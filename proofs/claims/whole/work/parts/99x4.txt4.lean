/-! TEXT: what is asked of a token; the words, letter by letter -/
section TX4
variable {d : Nat} {h0 h : pheap} {s tqq uqq : St} {Q : Option pv → pheap → Prop} {B : Int → Int} {n q : Nat} {sz k vqq : Int} {pl nx : Nat}
theorem sKind_f : ∀ j : Fin 19, 0 ≤ sKind.getD (j : Nat) 0 ∧ sKind.getD (j : Nat) 0 ≤ 3 ∧ 0 ≤ sNum.getD (j : Nat) 0 ∧ sNum.getD (j : Nat) 0 ≤ 6 := by decide +kernel
theorem sKind_R {j : Nat} (h : j < 19) : 0 ≤ sKind.getD j 0 ∧ sKind.getD j 0 ≤ 3 ∧ 0 ≤ sNum.getD j 0 ∧ sNum.getD j 0 ≤ 6 := sKind_f ⟨j, h⟩
abbrev kdW (vqq : Int) : Int := sKind.getD vqq.toNat 0
abbrev nmW (vqq : Int) : Int := sNum.getD vqq.toNat 0
/-- a token's kind and value, in their bounds -/
def tkR (k vqq : Int) : Prop := 0 ≤ k ∧ k ≤ 5 ∧ (k = 2 → 0 ≤ vqq ∧ vqq ≤ 100000) ∧ (k = 3 → 0 ≤ vqq ∧ vqq < 1073741824) ∧ (k = 4 → 0 ≤ vqq ∧ vqq < 19) ∧ (k = 5 → 3 ≤ vqq ∧ vqq ≤ 15)
theorem tkR_is (hb : bOk B n) {p : Nat} : tkR (tkK B n p) (tkV B n p) := by
  unfold tkK tkV
  obtain ⟨q, hq⟩ : ∃ q, tkP B n p = q := ⟨_, rfl⟩
  rw [hq]
  have kR := tqK_R (B := B) (n := n) q
  refine ⟨kR.1, kR.2, ?_⟩
  by_cases h : q < n
  · by_cases a : isLe (B q) = true
    · have tl := tq_le h a
      have wqq := wix_R (tqW B n q)
      rw [tl.2.1, tl.2.2]
      refine ⟨fun zqq => ?_, fun zqq => ?_, fun zqq => ?_, fun zqq => ?_⟩
      · exfalso
        repeat' split at zqq
        all_goals omega
      · have wwR : 0 ≤ tqW B n q ∧ tqW B n q < 1073741824 := pkN_R (by omega) (fun i hi => by
          have := (spE_all (f := isLe) (B := B) (n := n) (p := q) (j := q + i) (by omega) (by omega)).2
          rw [isLe_i, show (((q + i : Nat)) : Int) = (q : Int) + i by omega] at this
          exact this)
        split at zqq
        · omega
        · split at zqq
          · rename_i e
            rw [if_pos e]
            exact wwR
          · omega
      · split at zqq
        · omega
        · split at zqq
          · omega
          · rename_i e
            rw [if_neg e]
            omega
      · exfalso
        repeat' split at zqq
        all_goals omega
    · by_cases g : isDg (B q) = true
      · have tl := tq_dg h a g
        rw [tl.2.1, tl.2.2]
        have := nvN_R (B := B) (q := (q : Int)) (spE isDg B n q - q) (fun i hi => by
          have := (spE_all (f := isDg) (B := B) (n := n) (p := q) (j := q + i) (by omega) (by omega)).2
          rw [isDg_i, show (((q + i : Nat)) : Int) = (q : Int) + i by omega] at this
          exact this)
        exact ⟨fun _ => this, fun zqq => by omega, fun zqq => by omega, fun zqq => by omega⟩
      · have tl := tq_sg h a g
        have sr := sgOf_R (B q) (bA B n (q + 1))
        rw [tl.2.1, tl.2.2]
        refine ⟨fun zqq => ?_, fun zqq => ?_, fun zqq => ?_, fun zqq => ?_⟩
        · split at zqq <;> omega
        · split at zqq <;> omega
        · split at zqq <;> omega
        · split at zqq <;> omega
  · have := (tqK_0 (B := B) (n := n) (q := q)).mpr (by omega)
    rw [this]
    exact ⟨fun zqq => by omega, fun zqq => by omega, fun zqq => by omega, fun zqq => by omega⟩
theorem m_isSign (hk : TKC k vqq pl nx s) (hr : tkR k vqq) {x : Int} (hx : iR x) (k1 : Q (some (vI (bI (k = 5 ∧ vqq = x)))) (HP h0 s)) : wpM PP d 291 [vR 33, vI x] (HP h0 s) Q := by
  have kr := hr.1
  have kr2 := hr.2.1
  refine n_at (m := 291) (q := mr291) (kn := (0, 2)) [some (vR _), some (vI _)] mb291 rfl rfl (h_rcv sc_33) (Nat.le_of_ble_eq_true rfl) rfl rfl ?_
  refine x_aload rfl ?_
  refine h_getI 5 sc_33 rfl rfl ?_
  rw [hk.2.2.1]
  refine x_ci ?_
  refine n_icmp_ne ⟨by omega, by omega⟩ ⟨by omega, by omega⟩ (fun c1 => ?_) (fun c1 => ?_)
  · refine x_ci ?_
    refine x_fall ?_
    refine x_zret (by first | exact bI_01 _ | omega) ?_
    first
      | exact cB0 k1 (fun y => c1 y.1)
      | exact cB1 k1 ⟨c1, c2⟩
      | exact cB0 k1 (fun y => c2 y.2)
  · refine x_aload rfl ?_
    refine h_getI 9 sc_33 rfl rfl ?_
    have vr := hr.2.2.2.2.2 c1
    rw [hk.2.2.2.2.2.2 c1]
    refine x_iload rfl ?_
    refine n_icmp_ne ⟨by omega, by omega⟩ ⟨by omega, by omega⟩ (fun c2 => ?_) (fun c2 => ?_)
    · refine x_ci ?_
      refine x_fall ?_
      refine x_zret (by first | exact bI_01 _ | omega) ?_
      first
        | exact cB0 k1 (fun y => c1 y.1)
        | exact cB1 k1 ⟨c1, c2⟩
        | exact cB0 k1 (fun y => c2 y.2)
    · refine x_ci ?_
      refine x_goto ?_
      refine x_zret (by first | exact bI_01 _ | omega) ?_
      first
        | exact cB0 k1 (fun y => c1 y.1)
        | exact cB1 k1 ⟨c1, c2⟩
        | exact cB0 k1 (fun y => c2 y.2)
theorem m_isWord (hk : TKC k vqq pl nx s) (hr : tkR k vqq) {x : Int} (hx : iR x) (k1 : Q (some (vI (bI (k = 4 ∧ kdW vqq = x)))) (HP h0 s)) : wpM PP d 292 [vR 33, vI x] (HP h0 s) Q := by
  have kr := hr.1
  have kr2 := hr.2.1
  refine n_at (m := 292) (q := mr292) (kn := (0, 2)) [some (vR _), some (vI _)] mb292 rfl rfl (h_rcv sc_33) (Nat.le_of_ble_eq_true rfl) rfl rfl ?_
  refine x_aload rfl ?_
  refine h_getI 5 sc_33 rfl rfl ?_
  rw [hk.2.2.1]
  refine x_ci ?_
  refine n_icmp_ne ⟨by omega, by omega⟩ ⟨by omega, by omega⟩ (fun c1 => ?_) (fun c1 => ?_)
  · refine x_ci ?_
    refine x_fall ?_
    refine x_zret (by first | exact bI_01 _ | omega) ?_
    first
      | exact cB0 k1 (fun y => c1 y.1)
      | exact cB1 k1 ⟨c1, c2⟩
      | exact cB0 k1 (fun y => c2 y.2)
  · refine x_aload rfl ?_
    refine h_getB 6 sc_33 rfl rfl (show s 33 6 = ((vqq.toNat + 1 : Nat) : Int) + 1 by
    have := hk.2.2.2.2.2.1 c1
    have := hr.2.2.2.2.1 c1
    omega) ?_
    refine x_104_0R ?_
    refine x_aload rfl ?_
    refine h_getB 6 sc_33 rfl rfl (show s 33 6 = ((vqq.toNat + 1 : Nat) : Int) + 1 by
    have := hk.2.2.2.2.2.1 c1
    have := hr.2.2.2.2.1 c1
    omega) ?_
    have vr := hr.2.2.2.2.1 c1
    refine x_81_1 ⟨by omega, by omega⟩ ?_
    rw [Nat.add_sub_cancel]
    have sk := sKind_R (j := vqq.toNat) (by omega)
    refine x_iload rfl ?_
    refine n_icmp_ne ⟨by omega, by omega⟩ ⟨by omega, by omega⟩ (fun c2 => ?_) (fun c2 => ?_)
    · refine x_ci ?_
      refine x_fall ?_
      refine x_zret (by first | exact bI_01 _ | omega) ?_
      first
        | exact cB0 k1 (fun y => c1 y.1)
        | exact cB1 k1 ⟨c1, c2⟩
        | exact cB0 k1 (fun y => c2 y.2)
    · refine x_ci ?_
      refine x_goto ?_
      refine x_zret (by first | exact bI_01 _ | omega) ?_
      first
        | exact cB0 k1 (fun y => c1 y.1)
        | exact cB1 k1 ⟨c1, c2⟩
        | exact cB0 k1 (fun y => c2 y.2)
theorem m_wordNumber (hk : TKC k vqq pl nx s) (hr : tkR k vqq) (k4 : k = 4) (k1 : Q (some (vI (nmW vqq))) (HP h0 s)) : wpM PP d 293 [vR 33] (HP h0 s) Q := by
  have vr := hr.2.2.2.2.1 k4
  refine n_at (m := 293) (q := mr293) (kn := (0, 1)) [some (vR _)] mb293 rfl rfl (h_rcv sc_33) (Nat.le_of_ble_eq_true rfl) rfl rfl ?_
  refine x_aload rfl ?_
  refine h_getB 6 sc_33 rfl rfl (show s 33 6 = ((vqq.toNat + 1 : Nat) : Int) + 1 by
    have := hk.2.2.2.2.2.1 k4
    omega) ?_
  refine x_104_1R ?_
  refine x_aload rfl ?_
  refine h_getB 6 sc_33 rfl rfl (show s 33 6 = ((vqq.toNat + 1 : Nat) : Int) + 1 by
    have := hk.2.2.2.2.2.1 k4
    omega) ?_
  refine x_81_2 ⟨by omega, by omega⟩ ?_
  rw [Nat.add_sub_cancel]
  refine x_fall ?_
  refine x_iret ?_
  exact k1
theorem m_tbegin {x : Int} (k1 : Q none (HP h0 (up (up (up (up s 33 2 x) 33 3 0) 33 4 0) 33 5 0))) : wpM PP d 289 [vR 33, vI x] (HP h0 s) Q := by
  refine n_at (m := 289) (q := mr289) (kn := (0, 2)) [some (vR _), some (vI _)] mb289 rfl rfl (h_rcv sc_33) (Nat.le_of_ble_eq_true rfl) rfl rfl ?_
  refine x_aload rfl ?_
  refine x_iload rfl ?_
  refine h_putI 2 sc_33 rfl rfl ?_
  refine x_aload rfl ?_
  refine x_ci ?_
  refine h_putI 3 sc_33 rfl rfl ?_
  refine x_aload rfl ?_
  refine x_ci ?_
  refine h_putI 4 sc_33 rfl rfl ?_
  refine x_aload rfl ?_
  refine x_ci ?_
  refine h_putI 5 sc_33 rfl rfl ?_
  refine x_ret ?_
  exact k1
/-- where each word begins in their text; how long it is -/
def wSt : List Nat := [0, 7, 12, 18, 23, 28, 32, 36, 40, 47, 50, 54, 58, 64, 70, 76, 81, 86, 91, 96]
def wLn : List Nat := [6, 4, 5, 4, 4, 3, 3, 3, 6, 2, 3, 3, 5, 5, 5, 4, 4, 4, 4]
def wC2 (j : Nat) : Int := sTxt.getD j 0
theorem wd_f : ∀ wqq : Fin 19, wSt.getD (wqq : Nat) 0 + wLn.getD (wqq : Nat) 0 + 1 = wSt.getD ((wqq : Nat) + 1) 0 ∧ wLn.getD (wqq : Nat) 0 ≤ 6 ∧ 2 ≤ wLn.getD (wqq : Nat) 0 ∧ wC2 (wSt.getD (wqq : Nat) 0 + wLn.getD (wqq : Nat) 0) = 32 ∧ wSt.getD (wqq : Nat) 0 + 3 ≤ 96 ∧ wSt.getD ((wqq : Nat) + 1) 0 ≤ 96 ∧ wix (sPack.getD (wqq : Nat) 0) = (wqq : Nat) := by decide +kernel
theorem wd_l : ∀ wqq : Fin 19, ∀ j : Fin 6, (j : Nat) < wLn.getD (wqq : Nat) 0 → 97 ≤ wC2 (wSt.getD (wqq : Nat) 0 + (j : Nat)) ∧ wC2 (wSt.getD (wqq : Nat) 0 + (j : Nat)) ≤ 122 := by decide +kernel
def eg (wqq i : Nat) : Int := if i < wLn.getD wqq 0 then wC2 (wSt.getD wqq 0 + i) - 96 else 0
theorem wd_p : ∀ wqq : Fin 19, sPack.getD (wqq : Nat) 0 = eg (wqq : Nat) 0 * 33554432 + eg (wqq : Nat) 1 * 1048576 + eg (wqq : Nat) 2 * 32768 + eg (wqq : Nat) 3 * 1024 + eg (wqq : Nat) 4 * 32 + eg (wqq : Nat) 5 := by decide +kernel
def dg (B : Int → Int) (q : Int) (k i : Nat) : Int := if i < k then B (q + i) - 96 else 0
theorem pk_six (B : Int → Int) (q : Int) {k : Nat} (hk : k ≤ 6) : pkN B q k = dg B q k 0 * 33554432 + dg B q k 1 * 1048576 + dg B q k 2 * 32768 + dg B q k 3 * 1024 + dg B q k 4 * 32 + dg B q k 5 := by
  have e : k = 0 ∨ k = 1 ∨ k = 2 ∨ k = 3 ∨ k = 4 ∨ k = 5 ∨ k = 6 := by omega
  rcases e with rfl | rfl | rfl | rfl | rfl | rfl | rfl <;> simp [pkN, pwL, dg]
theorem wixN_some {vqq : Int} : ∀ (l : List Int) (b : Int), wixN l b vqq ≠ -1 → ∃ i : Nat, i < l.length ∧ l.getD i 0 = vqq
  | [], _, h => absurd rfl h
  | a :: l, b, h => by
    simp only [wixN] at h
    by_cases e : a = vqq
    · exact ⟨0, by simp, by simpa using e⟩
    · rw [if_neg e] at h
      obtain ⟨i, h1, h2⟩ := wixN_some l (b + 1) h
      exact ⟨i + 1, by simpa using h1, by simpa using h2⟩
/-- letters in a row are a word just if they are its letters -/
theorem wd_iff {k wqq : Nat} {q : Int} (hw : wqq < 19) (hk : k ≤ 6) (hl : ∀ i : Nat, i < k → 97 ≤ B (q + i) ∧ B (q + i) ≤ 122) : wix (pkN B q k) = wqq ↔ k = wLn.getD wqq 0 ∧ ∀ j : Nat, j < k → B (q + j) = wC2 (wSt.getD wqq 0 + j) := by
  have f := wd_f ⟨wqq, hw⟩
  have p := wd_p ⟨wqq, hw⟩
  simp only at f p
  have dR : ∀ i : Nat, 0 ≤ dg B q k i ∧ dg B q k i < 32 := fun i => by
    unfold dg
    split
    · have := hl i (by omega)
      omega
    · omega
  have eR : ∀ i : Nat, i < 6 → 0 ≤ eg wqq i ∧ eg wqq i < 32 ∧ (i < wLn.getD wqq 0 → 1 ≤ eg wqq i) := fun i hi => by
    unfold eg
    split
    · rename_i h
      have := wd_l ⟨wqq, hw⟩ ⟨i, hi⟩ h
      simp only at this
      omega
    · omega
  constructor
  · intro h
    have hp : pkN B q k = sPack.getD wqq 0 := by
      have h1 : wix (pkN B q k) ≠ -1 := by omega
      obtain ⟨i, i1, i2⟩ := wixN_some sPack 0 h1
      have i1 : i < 19 := i1
      have f2 := (wd_f ⟨i, i1⟩).2.2.2.2.2.2
      simp only at f2
      rw [i2] at f2
      have : i = wqq := by omega
      rw [← this, i2]
    rw [pk_six B q hk, p] at hp
    have a0 := dR 0; have a1 := dR 1; have a2 := dR 2; have a3 := dR 3; have a4 := dR 4; have a5 := dR 5
    have b0 := eR 0 (by omega); have b1 := eR 1 (by omega); have b2 := eR 2 (by omega); have b3 := eR 3 (by omega); have b4 := eR 4 (by omega); have b5 := eR 5 (by omega)
    have all : ∀ i : Nat, i < 6 → dg B q k i = eg wqq i := by
      have g0 : dg B q k 0 = eg wqq 0 := by omega
      have g1 : dg B q k 1 = eg wqq 1 := by omega
      have g2 : dg B q k 2 = eg wqq 2 := by omega
      have g3 : dg B q k 3 = eg wqq 3 := by omega
      have g4 : dg B q k 4 = eg wqq 4 := by omega
      have g5 : dg B q k 5 = eg wqq 5 := by omega
      intro i hi
      have e : i = 0 ∨ i = 1 ∨ i = 2 ∨ i = 3 ∨ i = 4 ∨ i = 5 := by omega
      rcases e with rfl | rfl | rfl | rfl | rfl | rfl <;> assumption
    have hlen : k = wLn.getD wqq 0 := by
      rcases Nat.lt_trichotomy k (wLn.getD wqq 0) with c | c | c
      · exfalso
        have h1 := all k (by omega)
        have h2 := (eR k (by omega)).2.2 c
        unfold dg at h1
        rw [if_neg (by omega)] at h1
        omega
      · exact c
      · exfalso
        have h1 := all (wLn.getD wqq 0) (by omega)
        unfold dg eg at h1
        rw [if_pos c, if_neg (by omega)] at h1
        have := hl _ c
        omega
    refine ⟨hlen, fun j hj => ?_⟩
    have h1 := all j (by omega)
    unfold dg eg at h1
    rw [if_pos hj, if_pos (by omega)] at h1
    omega
  · rintro ⟨h1, h2⟩
    have hp : pkN B q k = sPack.getD wqq 0 := by
      rw [pk_six B q hk, p]
      have all : ∀ i : Nat, dg B q k i = eg wqq i := fun i => by
        unfold dg eg
        rw [← h1]
        split
        · rename_i c
          rw [h2 i c]
        · rfl
      rw [all, all, all, all, all, all]
    rw [hp]
    exact f.2.2.2.2.2.2
end TX4
