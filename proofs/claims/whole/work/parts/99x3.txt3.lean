/-! TEXT: the class's tokens: a step -/
section TX3
variable {d : Nat} {h0 : pheap} {s tqq uqq : St} {Q : Option pv → pheap → Prop} {B : Int → Int} {n q : Nat} {sz : Int}
theorem h_getN {d : Nat} {bt : List (List PI)} {r : List PI} {ls : plocs} {st : List pv} {zqq : Int} {a : Nat} {c k : Nat} {ks : List Nat} (j : Int) (o : isC a (.inr (c, ks))) (e : ks[k]? = some 3) (ej : j = (k : Int)) (h : s a j = 0) (K : wp PP d bt r ls (vN :: st) (HP h0 s) Q) : wp PP d bt ((60, [k, c], zqq) :: r) ls (vR a :: st) (HP h0 s) Q := by
  refine h_getV j o e ej ?_
  rw [if_pos h]
  exact K
def TBC (B : Int → Int) (n : Nat) (sz : Int) (s : St) : Prop := s 33 1 = sz ∧ s 33 2 = n ∧ (n : Int) ≤ sz ∧ sz ≤ 700 ∧ ∀ i : Int, 0 ≤ i → i < sz → i_and (s 34 i) 255 = B i
def bOk (B : Int → Int) (n : Nat) : Prop := ∀ i : Int, 0 ≤ i → i < n → 0 ≤ B i ∧ B i < 256
def nmOk (x vqq : Int) : Prop := (vqq < 100000 → x = vqq) ∧ (vqq = 100000 → 100000 ≤ x ∧ x ≤ 1000000)
def tkF (s tqq : St) : Prop := ∀ (b : Nat) (r : Int), ¬ (b = 33 ∧ 3 ≤ r) → tqq b r = s b r
def TKC (k vqq : Int) (pl nx : Nat) (s : St) : Prop := s 33 3 = nx ∧ s 33 4 = pl ∧ s 33 5 = k ∧ (k = 2 → nmOk (s 33 8) vqq) ∧ (k = 3 → s 33 7 = vqq) ∧ (k = 4 → s 33 6 = vqq + 2) ∧ (k = 5 → s 33 9 = vqq)
theorem tkF_rfl : tkF s s := fun _ _ _ => rfl
theorem tkF_tr (h : tkF s tqq) (g : tkF tqq uqq) : tkF s uqq := fun b r q => (g b r q).trans (h b r q)
theorem tkF_up {i x : Int} (h : tkF s tqq) (hi : 3 ≤ i) : tkF s (up tqq 33 i x) := fun b r q => by
  rw [up_f (by omega)]
  exact h b r q
theorem TBC.f (h : TBC B n sz s) (g : tkF s tqq) : TBC B n sz tqq := ⟨(g 33 1 (by omega)).trans h.1, (g 33 2 (by omega)).trans h.2.1, h.2.2.1, h.2.2.2.1, fun i i0 i1 => by
  rw [g 34 i (by omega)]
  exact h.2.2.2.2 i i0 i1⟩
theorem bA_R (hb : bOk B n) (x : Int) : -1 ≤ bA B n x ∧ bA B n x < 256 := by
  unfold bA
  split
  · have := hb x (by omega) (by omega)
    omega
  · omega
theorem bA_in {j : Nat} (h : j < n) : bA B n j = B j := if_pos ⟨by omega, by omega⟩
theorem bA_out {j : Int} (h : (n : Int) ≤ j) : bA B n j = -1 := if_neg (by omega)
theorem c_byteAt {x : Int} (hT : TBC B n sz s) (hx : iR x) (k : Q (some (vI (bA B n x))) (HP h0 s)) : wpM PP d 298 [vR 33, vI x] (HP h0 s) Q := m_byteAt hx hT.2.1 hT.1 ⟨by omega, hT.2.2.1⟩ hT.2.2.2.1 hT.2.2.2.2 k
theorem isLe_i {c : Int} : isLe c = true ↔ 97 ≤ c ∧ c ≤ 122 := by simp [isLe]
theorem isDg_i {c : Int} : isDg c = true ↔ 48 ≤ c ∧ c ≤ 57 := by simp [isDg]
theorem isBl_i {c : Int} : isBl c = true ↔ c = 10 ∨ c = 32 := by simp [isBl]
theorem tq_le (h : q < n) (hl : isLe (B q) = true) : tqE B n q = spE isLe B n q ∧ tqK B n q = (if 6 < spE isLe B n q - q then 1 else if wix (tqW B n q) = -1 then 3 else 4) ∧ tqV B n q = (if wix (tqW B n q) = -1 then tqW B n q else wix (tqW B n q)) := by
  have h' : ¬ n ≤ q := by omega
  refine ⟨?_, ?_, ?_⟩
  · unfold tqE
    rw [if_neg h', if_pos hl]
  · unfold tqK
    rw [if_neg h', if_pos hl]
  · unfold tqV
    rw [if_pos hl]
theorem tq_dg (h : q < n) (hl : ¬ isLe (B q) = true) (hd : isDg (B q) = true) : tqE B n q = spE isDg B n q ∧ tqK B n q = 2 ∧ tqV B n q = nvN B q (spE isDg B n q - q) := by
  have h' : ¬ n ≤ q := by omega
  refine ⟨?_, ?_, ?_⟩
  · unfold tqE
    rw [if_neg h', if_neg hl, if_pos hd]
  · unfold tqK
    rw [if_neg h', if_neg hl, if_pos hd]
  · unfold tqV
    rw [if_neg hl, if_pos hd]
theorem tq_sg (h : q < n) (hl : ¬ isLe (B q) = true) (hd : ¬ isDg (B q) = true) : tqE B n q = (if sgOf (B q) (bA B n (q + 1)) = 4 ∨ sgOf (B q) (bA B n (q + 1)) = 6 ∨ sgOf (B q) (bA B n (q + 1)) = 7 then q + 2 else q + 1) ∧ tqK B n q = (if sgOf (B q) (bA B n (q + 1)) = -1 then 1 else 5) ∧ tqV B n q = sgOf (B q) (bA B n (q + 1)) := by
  have h' : ¬ n ≤ q := by omega
  refine ⟨?_, ?_, ?_⟩
  · unfold tqE
    rw [if_neg h', if_neg hl, if_neg hd]
  · unfold tqK
    rw [if_neg h', if_neg hl, if_neg hd]
  · unfold tqV
    rw [if_neg hl, if_neg hd]
def mulL (k : Nat) : Nat := if k = 0 then 1073741824 else if k = 1 then 33554432 else if k = 2 then 1048576 else if k = 3 then 32768 else if k = 4 then 1024 else if k = 5 then 32 else 1
theorem pkN_form {p : Int} : ∀ k : Nat, k ≤ 6 → (∀ i : Nat, i < k → 97 ≤ B (p + i) ∧ B (p + i) ≤ 122) → ∃ m : Nat, pkN B p k = m * mulL k ∧ m < 32 ^ k
  | 0, _, _ => ⟨0, by simp [pkN], by simp⟩
  | k + 1, hk, h => by
    obtain ⟨m, h1, h2⟩ := pkN_form k (by omega) (fun i hi => h i (by omega))
    have hb := h k (by omega)
    have e : k = 0 ∨ k = 1 ∨ k = 2 ∨ k = 3 ∨ k = 4 ∨ k = 5 := by omega
    obtain ⟨x, hx⟩ : ∃ x : Nat, B (p + k) - 96 = x := ⟨(B (p + k) - 96).toNat, by omega⟩
    have hx2 : x < 32 := by omega
    have g : ∀ M : Nat, mulL k = 32 * M → mulL (k + 1) = M → pwL k = (M : Int) → pkN B p k + (B (p + k) - 96) * pwL k = (((32 * m + x : Nat)) : Int) * ((mulL (k + 1) : Nat) : Int) := fun M e1 e2 e3 => by
      rw [h1, hx, e1, e2, e3]
      rw [Int.natCast_add, Int.add_mul, Int.natCast_mul 32 m, Int.natCast_mul 32 M, Int.mul_comm ((32 : Nat) : Int) (m : Int), Int.mul_assoc]
    refine ⟨32 * m + x, ?_, ?_⟩
    · show pkN B p k + (B (p + k) - 96) * pwL k = _
      rcases e with rfl | rfl | rfl | rfl | rfl | rfl
      · exact g 33554432 rfl rfl rfl
      · exact g 1048576 rfl rfl rfl
      · exact g 32768 rfl rfl rfl
      · exact g 1024 rfl rfl rfl
      · exact g 32 rfl rfl rfl
      · exact g 1 rfl rfl rfl
    · rw [Nat.pow_succ]
      omega
theorem mulL_lt {m k : Nat} (hk : k ≤ 6) (h : m < 32 ^ k) : m * mulL k < 1073741824 := by
  have e : k = 0 ∨ k = 1 ∨ k = 2 ∨ k = 3 ∨ k = 4 ∨ k = 5 ∨ k = 6 := by omega
  have g : 0 < mulL k → 32 ^ k * mulL k = 1073741824 → m * mulL k < 1073741824 := fun a b => by
    rw [← b]
    exact Nat.mul_lt_mul_of_pos_right h a
  rcases e with rfl | rfl | rfl | rfl | rfl | rfl | rfl <;> exact g (by decide) (by decide)
theorem or_mul {i m b : Nat} (hb : b < 2 ^ i) (h : 2 ^ i * m + b < 2147483648) : i_or ((2 ^ i * m : Nat) : Int) (b : Int) = ((2 ^ i * m + b : Nat) : Int) := by
  rw [i_or_nat (by omega) (by omega), Nat.two_pow_add_eq_or_of_lt hb]
theorem pk_or {p : Int} {k : Nat} (hk : k < 6) (h : ∀ i : Nat, i < k + 1 → 97 ≤ B (p + i) ∧ B (p + i) ≤ 122) : i_or (pkN B p k) ((B (p + k) - 96) * pwL k) = pkN B p (k + 1) := by
  obtain ⟨m, h1, h2⟩ := pkN_form k (by omega) (fun i hi => h i (by omega))
  have h2 := mulL_lt (by omega) h2
  have hb := h k (by omega)
  simp only [pkN]
  rw [h1]
  obtain ⟨x, hx⟩ : ∃ x : Nat, B (p + k) - 96 = x := ⟨(B (p + k) - 96).toNat, by omega⟩
  rw [hx]
  have hx2 : x < 32 := by omega
  have g : ∀ i y : Nat, mulL k = 2 ^ i → pwL k = (y : Int) → x * y < 2 ^ i → x * y < 1073741824 → i_or (((m * mulL k : Nat)) : Int) ((x : Int) * pwL k) = ((m * mulL k : Nat) : Int) + (x : Int) * pwL k := fun i y e1 e2 e3 e4 => by
    rw [e1, Nat.mul_comm m, e2, ← Int.natCast_mul, or_mul e3 (by rw [e1, Nat.mul_comm] at h2; omega)]
    omega
  have e : k = 0 ∨ k = 1 ∨ k = 2 ∨ k = 3 ∨ k = 4 ∨ k = 5 := by omega
  rw [← Int.natCast_mul]
  rcases e with rfl | rfl | rfl | rfl | rfl | rfl
  · exact g 30 33554432 rfl rfl (by simp; omega) (by omega)
  · exact g 25 1048576 rfl rfl (by simp; omega) (by omega)
  · exact g 20 32768 rfl rfl (by simp; omega) (by omega)
  · exact g 15 1024 rfl rfl (by simp; omega) (by omega)
  · exact g 10 32 rfl rfl (by simp; omega) (by omega)
  · exact g 5 1 rfl rfl (by simp; omega) (by omega)
theorem pkN_R {p : Int} {k : Nat} (hk : k ≤ 6) (h : ∀ i : Nat, i < k → 97 ≤ B (p + i) ∧ B (p + i) ≤ 122) : 0 ≤ pkN B p k ∧ pkN B p k < 1073741824 := by
  obtain ⟨m, h1, h2⟩ := pkN_form k hk h
  have h2 := mulL_lt hk h2
  omega
theorem m_stepWord (hd : 12 ≤ d) (hT : TBC B n sz s) (hb : bOk B n) (h3 : s 33 3 = q) (h4 : s 33 4 = q) (hq : q < n) (hl : isLe (B q) = true) (k : ∀ tqq, TKC (tqK B n q) (tqV B n q) q (tqE B n q) tqq → tkF s tqq → Q none (HP h0 tqq)) : wpM PP d 294 [vR 33] (HP h0 s) Q := by
  have hn700 : (n : Int) ≤ 700 := by
    have := hT.2.2.1
    have := hT.2.2.2.1
    omega
  have e1 := spE_le (f := isLe) (B := B) (n := n) (p := q)
  have e2 := spE_R (f := isLe) (B := B) (n := n) (p := q) (by omega)
  have tl := tq_le hq hl
  have wwR : 0 ≤ tqW B n q ∧ tqW B n q < 1073741824 := pkN_R (by omega) (fun i hi => by
    have := (spE_all (f := isLe) (B := B) (n := n) (p := q) (j := q + i) (by omega) (by omega)).2
    rw [isLe_i, show (((q + i : Nat)) : Int) = (q : Int) + i by omega] at this
    exact this)
  have L3 : ∀ tqq : St, tqq 33 3 = (spE isLe B n q : Nat) → tqq 33 4 = q → tqq 33 7 = tqW B n q → tkF s tqq → wp PP d mb294 (mb294.getD 3 []) [some (vR 33)] [] (HP h0 tqq) Q := by
    intro tqq g3 g4 g7 gF
    refine x_aload rfl ?_
    refine h_getI 3 sc_33 rfl rfl ?_
    rw [g3]
    refine x_aload rfl ?_
    refine h_getI 4 sc_33 rfl rfl ?_
    rw [g4]
    refine x_isub ?_
    refine x_ci ?_
    refine n_icmp_le ⟨by omega, by omega⟩ ⟨by omega, by omega⟩ (fun c1 => ?_) (fun c1 => ?_)
    · refine x_aload rfl ?_
      refine x_aload rfl ?_
      refine h_getI 7 sc_33 rfl rfl ?_
      rw [g7]
      refine n_call [vI _] [vR _] (by omega) (Nat.le_of_ble_eq_true rfl) rfl rfl (Nat.le_of_ble_eq_true rfl) ?_
      have wR := wix_R (tqW B n q)
      refine m_wordOf ⟨by omega, by omega⟩ (fun y => ?_) (fun y => ?_)
      · show wp PP _ _ _ _ [vN, vR _] _ _
        refine h_putN 6 sc_33 rfl rfl ?_
        refine x_aload rfl ?_
        refine x_aload rfl ?_
        refine h_getN 6 sc_33 rfl rfl up_e ?_
        refine x_104_1N ?_
        refine x_ci ?_
        refine x_goto ?_
        refine h_putI 5 sc_33 rfl rfl ?_
        refine x_ret ?_
        refine k _ ⟨?_, ?_, ?_, ?_, ?_, ?_, ?_⟩ ?_
        · simp only [up_e, up_i (show (3 : Int) ≠ 5 by decide), up_i (show (3 : Int) ≠ 6 by decide)]
          rw [g3, tl.1]
        · simp only [up_e, up_i (show (4 : Int) ≠ 5 by decide), up_i (show (4 : Int) ≠ 6 by decide)]
          exact g4
        · rw [up_e, tl.2.1]
          first
            | rw [if_pos (by omega)]
            | rw [if_neg (by omega), if_pos (by assumption)]
            | rw [if_neg (by omega), if_neg (by omega)]
        · intro zqq
          rw [tl.2.1] at zqq
          repeat' split at zqq
          all_goals omega
        · intro zqq
          rw [tl.2.1] at zqq
          first
            | (exfalso
               rw [if_pos (by omega)] at zqq
               omega)
            | (rw [tl.2.2, if_pos (by assumption), up_i (by decide), up_i (by decide)]
               exact g7)
            | (exfalso
               rw [if_neg (by omega), if_neg (by omega)] at zqq
               omega)
        · intro zqq
          rw [tl.2.1] at zqq
          first
            | (exfalso
               rw [if_pos (by omega)] at zqq
               omega)
            | (exfalso
               rw [if_neg (by omega), if_pos (by assumption)] at zqq
               omega)
            | (rw [tl.2.2, if_neg (by omega), up_i (by decide), up_e]
               omega)
        · intro zqq
          rw [tl.2.1] at zqq
          repeat' split at zqq
          all_goals omega
        · first
            | exact tkF_up (tkF_up gF (by omega)) (by omega)
            | exact tkF_up gF (by omega)
      · show wp PP _ _ _ _ [vR _, vR _] _ _
        refine h_putR 6 sc_33 rfl rfl ?_
        refine x_aload rfl ?_
        refine x_aload rfl ?_
        refine h_getB 6 sc_33 rfl rfl up_e ?_
        refine x_104_1R ?_
        refine x_ci ?_
        refine x_fall ?_
        refine h_putI 5 sc_33 rfl rfl ?_
        refine x_ret ?_
        refine k _ ⟨?_, ?_, ?_, ?_, ?_, ?_, ?_⟩ ?_
        · simp only [up_e, up_i (show (3 : Int) ≠ 5 by decide), up_i (show (3 : Int) ≠ 6 by decide)]
          rw [g3, tl.1]
        · simp only [up_e, up_i (show (4 : Int) ≠ 5 by decide), up_i (show (4 : Int) ≠ 6 by decide)]
          exact g4
        · rw [up_e, tl.2.1]
          first
            | rw [if_pos (by omega)]
            | rw [if_neg (by omega), if_pos (by assumption)]
            | rw [if_neg (by omega), if_neg (by omega)]
        · intro zqq
          rw [tl.2.1] at zqq
          repeat' split at zqq
          all_goals omega
        · intro zqq
          rw [tl.2.1] at zqq
          first
            | (exfalso
               rw [if_pos (by omega)] at zqq
               omega)
            | (rw [tl.2.2, if_pos (by assumption), up_i (by decide), up_i (by decide)]
               exact g7)
            | (exfalso
               rw [if_neg (by omega), if_neg (by omega)] at zqq
               omega)
        · intro zqq
          rw [tl.2.1] at zqq
          first
            | (exfalso
               rw [if_pos (by omega)] at zqq
               omega)
            | (exfalso
               rw [if_neg (by omega), if_pos (by assumption)] at zqq
               omega)
            | (rw [tl.2.2, if_neg (by omega), up_i (by decide), up_e]
               omega)
        · intro zqq
          rw [tl.2.1] at zqq
          repeat' split at zqq
          all_goals omega
        · first
            | exact tkF_up (tkF_up gF (by omega)) (by omega)
            | exact tkF_up gF (by omega)
    · refine x_aload rfl ?_
      refine x_ci ?_
      refine h_putI 5 sc_33 rfl rfl ?_
      refine x_ret ?_
      refine k _ ⟨?_, ?_, ?_, ?_, ?_, ?_, ?_⟩ ?_
      · simp only [up_e, up_i (show (3 : Int) ≠ 5 by decide), up_i (show (3 : Int) ≠ 6 by decide)]
        rw [g3, tl.1]
      · simp only [up_e, up_i (show (4 : Int) ≠ 5 by decide), up_i (show (4 : Int) ≠ 6 by decide)]
        exact g4
      · rw [up_e, tl.2.1]
        first
          | rw [if_pos (by omega)]
          | rw [if_neg (by omega), if_pos (by assumption)]
          | rw [if_neg (by omega), if_neg (by omega)]
      · intro zqq
        rw [tl.2.1] at zqq
        repeat' split at zqq
        all_goals omega
      · intro zqq
        rw [tl.2.1] at zqq
        first
          | (exfalso
             rw [if_pos (by omega)] at zqq
             omega)
          | (rw [tl.2.2, if_pos (by assumption), up_i (by decide), up_i (by decide)]
             exact g7)
          | (exfalso
             rw [if_neg (by omega), if_neg (by omega)] at zqq
             omega)
      · intro zqq
        rw [tl.2.1] at zqq
        first
          | (exfalso
             rw [if_pos (by omega)] at zqq
             omega)
          | (exfalso
             rw [if_neg (by omega), if_pos (by assumption)] at zqq
             omega)
          | (rw [tl.2.2, if_neg (by omega), up_i (by decide), up_e]
             omega)
      · intro zqq
        rw [tl.2.1] at zqq
        repeat' split at zqq
        all_goals omega
      · first
          | exact tkF_up (tkF_up gF (by omega)) (by omega)
          | exact tkF_up gF (by omega)
  have L1 : ∀ N : Nat, ∀ (j : Nat) (tqq : St), (N = n - j ∧ q ≤ j ∧ j ≤ spE isLe B n q) → (tqq 33 3 = j) → (tqq 33 4 = q) → (tqq 33 7 = pkN B q (min 6 (j - q))) → (tkF s tqq) →  wp PP d mb294 (mb294.getD 1 []) [some (vR 33)] [] (HP h0 tqq) Q := by
    refine s_ind (fun N ih => ?_)
    intro j tqq hM g3 g4 g7 gF
    refine x_aload rfl ?_
    refine h_getI 3 sc_33 rfl rfl ?_
    rw [g3]
    refine x_aload rfl ?_
    refine h_getI 2 sc_33 rfl rfl ?_
    rw [(hT.f gF).2.1]
    refine n_icmp_ge ⟨by omega, by omega⟩ ⟨by omega, by omega⟩ (fun c1 => ?_) (fun c1 => ?_)
    · refine L3 tqq ?_ g4 ?_ gF
      · have ej : j = spE isLe B n q := by
          by_cases e : j < spE isLe B n q
          · exfalso
            have a := spE_all (f := isLe) (B := B) (n := n) (p := q) (j := j) (by omega) e
            have jn3 : j < n := a.1
            first
              | omega
              | (rw [bA_in jn3] at c2
                 exact c2 (isLe_i.mp a.2))
          · omega
        rw [g3, ej]
      · have ej : j = spE isLe B n q := by
          by_cases e : j < spE isLe B n q
          · exfalso
            have a := spE_all (f := isLe) (B := B) (n := n) (p := q) (j := j) (by omega) e
            have jn3 : j < n := a.1
            first
              | omega
              | (rw [bA_in jn3] at c2
                 exact c2 (isLe_i.mp a.2))
          · omega
        unfold tqW
        rw [g7, ← ej]
    · refine x_aload rfl ?_
      refine x_aload rfl ?_
      refine h_getI 3 sc_33 rfl rfl ?_
      rw [g3]
      refine n_call [vR _, vI _] [] (by omega) (Nat.le_of_ble_eq_true rfl) rfl rfl (Nat.le_of_ble_eq_true rfl) ?_
      refine c_byteAt (hT.f gF) ⟨by omega, by omega⟩ ?_
      have bR := bA_R hb (j : Int)
      show wp PP _ _ _ [some (vR _)] [vI _] _ _
      refine n_call [vI _] [] (by omega) (Nat.le_of_ble_eq_true rfl) rfl rfl (Nat.le_of_ble_eq_true rfl) ?_
      refine m_isLetter ⟨by omega, by omega⟩ ?_
      show wp PP _ _ _ [some (vR _)] [vI _] _ _
      refine z_if_eq (fun c2 => ?_) (fun c2 => ?_)
      · refine L3 tqq ?_ g4 ?_ gF
        · have ej : j = spE isLe B n q := by
            by_cases e : j < spE isLe B n q
            · exfalso
              have a := spE_all (f := isLe) (B := B) (n := n) (p := q) (j := j) (by omega) e
              have jn3 : j < n := a.1
              first
                | omega
                | (rw [bA_in jn3] at c2
                   exact c2 (isLe_i.mp a.2))
            · omega
          rw [g3, ej]
        · have ej : j = spE isLe B n q := by
            by_cases e : j < spE isLe B n q
            · exfalso
              have a := spE_all (f := isLe) (B := B) (n := n) (p := q) (j := j) (by omega) e
              have jn3 : j < n := a.1
              first
                | omega
                | (rw [bA_in jn3] at c2
                   exact c2 (isLe_i.mp a.2))
            · omega
          unfold tqW
          rw [g7, ← ej]
      · refine x_aload rfl ?_
        refine h_getI 3 sc_33 rfl rfl ?_
        rw [g3]
        refine x_aload rfl ?_
        refine h_getI 4 sc_33 rfl rfl ?_
        rw [g4]
        refine x_isub ?_
        refine x_ci ?_
        refine n_icmp_ge ⟨by omega, by omega⟩ ⟨by omega, by omega⟩ (fun c3 => ?_) (fun c3 => ?_)
        · refine x_aload rfl ?_
          refine x_dupR ?_
          refine h_getI 3 sc_33 rfl rfl ?_
          rw [g3]
          refine x_ci ?_
          refine x_iadd ?_
          refine h_putI 3 sc_33 rfl rfl ?_
          refine x_goto ?_
          have hj1 : j + 1 ≤ spE isLe B n q := by
            have em := spE_m (f := isLe) (B := B) (n := n) (p := q) (j := j) (by omega) (by omega)
            have jn2 : j < n := by omega
            rw [← em, spE_y jn2 (by rw [isLe_i, ← bA_in (B := B) jn2]; first | exact c2 | (rw [bA_in jn2]; exact c2))]
            exact spE_le
          refine ih (n - (j + 1)) (by omega) (j + 1) _ (by omega) ?_ ?_ ?_ (tkF_up gF (by omega))
          · rw [up_e]
            omega
          · rw [up_i (by decide)]
            exact g4
          · rw [up_i (by decide)]
            rw [show min 6 (j + 1 - q) = min 6 (j - q) by omega]
            exact g7
        · refine x_aload rfl ?_
          refine x_dupR ?_
          refine h_getI 7 sc_33 rfl rfl ?_
          rw [g7]
          refine x_aload rfl ?_
          refine x_aload rfl ?_
          refine h_getI 3 sc_33 rfl rfl ?_
          rw [g3]
          refine n_call [vR _, vI _] [vI _, vR _] (by omega) (Nat.le_of_ble_eq_true rfl) rfl rfl (Nat.le_of_ble_eq_true rfl) ?_
          refine c_byteAt (hT.f gF) ⟨by omega, by omega⟩ ?_
          have bR := bA_R hb (j : Int)
          show wp PP _ _ _ [some (vR _)] [vI _, vI _, vR _] _ _
          refine x_aload rfl ?_
          refine h_getI 3 sc_33 rfl rfl ?_
          rw [g3]
          refine x_aload rfl ?_
          refine h_getI 4 sc_33 rfl rfl ?_
          rw [g4]
          refine x_isub ?_
          rw [show (j : Int) - (q : Int) = ((j - q : Nat) : Int) by omega]
          have jn : j < n := by omega
          rw [bA_in jn] at c2 ⊢
          refine n_call [vI _, vI _] [vI _, vR _] (by omega) (Nat.le_of_ble_eq_true rfl) rfl rfl (Nat.le_of_ble_eq_true rfl) ?_
          refine m_packedLetter c2 (by omega) ?_
          show wp PP _ _ _ _ [vI _, vI _, vR _] _ _
          refine x_ior ?_
          have ea : ∀ i : Nat, i < j - q + 1 → 97 ≤ B ((q : Int) + i) ∧ B ((q : Int) + i) ≤ 122 := fun i hi => by
            by_cases e : i = j - q
            · rw [e, show (q : Int) + ((j - q : Nat) : Int) = j by omega]
              exact c2
            · have := (spE_all (f := isLe) (B := B) (n := n) (p := q) (j := q + i) (by omega) (by omega)).2
              rw [isLe_i, show (((q + i : Nat)) : Int) = (q : Int) + i by omega] at this
              exact this
          rw [show min 6 (j - q) = j - q by omega]
          have eo := pk_or (p := (q : Int)) (k := j - q) (by omega) ea
          rw [show (q : Int) + ((j - q : Nat) : Int) = j by omega] at eo
          rw [eo]
          refine h_putI 7 sc_33 rfl rfl ?_
          refine x_fall ?_
          refine x_aload rfl ?_
          refine x_dupR ?_
          refine h_getI 3 sc_33 rfl rfl ?_
          rw [up_i (by decide), g3]
          refine x_ci ?_
          refine x_iadd ?_
          refine h_putI 3 sc_33 rfl rfl ?_
          refine x_goto ?_
          have hj1 : j + 1 ≤ spE isLe B n q := by
            have em := spE_m (f := isLe) (B := B) (n := n) (p := q) (j := j) (by omega) (by omega)
            have jn2 : j < n := by omega
            rw [← em, spE_y jn2 (by rw [isLe_i, ← bA_in (B := B) jn2]; first | exact c2 | (rw [bA_in jn2]; exact c2))]
            exact spE_le
          refine ih (n - (j + 1)) (by omega) (j + 1) _ (by omega) ?_ ?_ ?_ (tkF_up (tkF_up gF (by omega)) (by omega))
          · rw [up_e]
            omega
          · rw [up_i (by decide), up_i (by decide)]
            exact g4
          · rw [up_i (by decide), up_e]
            rw [show min 6 (j + 1 - q) = j - q + 1 by omega]
  refine n_at (m := 294) (q := mr294) (kn := (0, 1)) [some (vR _)] mb294 rfl rfl (h_rcv sc_33) (Nat.le_of_ble_eq_true rfl) rfl rfl ?_
  refine x_aload rfl ?_
  refine x_ci ?_
  refine h_putI 7 sc_33 rfl rfl ?_
  refine x_fall ?_
  refine L1 (n - q) q _ (by omega) ((up_i (by decide)).trans h3) ((up_i (by decide)).trans h4) ?_ (tkF_up tkF_rfl (by omega))
  rw [up_e, show q - q = 0 by omega]
  rfl
theorem m_stepNumber (hd : 12 ≤ d) (hT : TBC B n sz s) (hb : bOk B n) (h3 : s 33 3 = q) (h4 : s 33 4 = q) (hq : q < n) (hl : ¬ isLe (B q) = true) (hg : isDg (B q) = true) (k : ∀ tqq, TKC (tqK B n q) (tqV B n q) q (tqE B n q) tqq → tkF s tqq → Q none (HP h0 tqq)) : wpM PP d 295 [vR 33] (HP h0 s) Q := by
  have hn700 : (n : Int) ≤ 700 := by
    have := hT.2.2.1
    have := hT.2.2.2.1
    omega
  have e1 := spE_le (f := isDg) (B := B) (n := n) (p := q)
  have e2 := spE_R (f := isDg) (B := B) (n := n) (p := q) (by omega)
  have tl := tq_dg hq hl hg
  have L3 : ∀ tqq : St, tqq 33 3 = (spE isDg B n q : Nat) → tqq 33 4 = q → nmOk (tqq 33 8) (nvN B q (spE isDg B n q - q)) → tkF s tqq → wp PP d mb295 (mb295.getD 2 []) [some (vR 33)] [] (HP h0 tqq) Q := by
    intro tqq g3 g4 g8 gF
    refine x_aload rfl ?_
    refine x_ci ?_
    refine h_putI 5 sc_33 rfl rfl ?_
    refine x_ret ?_
    refine k _ ⟨?_, ?_, ?_, ?_, ?_, ?_, ?_⟩ (tkF_up gF (by omega))
    · rw [up_i (by decide), g3, tl.1]
    · rw [up_i (by decide)]
      exact g4
    · rw [up_e, tl.2.1]
    · intro _
      rw [up_i (by decide), tl.2.2]
      exact g8
    · intro zqq
      rw [tl.2.1] at zqq
      omega
    · intro zqq
      rw [tl.2.1] at zqq
      omega
    · intro zqq
      rw [tl.2.1] at zqq
      omega
  have L1 : ∀ N : Nat, ∀ (j : Nat) (tqq : St), (N = n - j ∧ q ≤ j ∧ j ≤ spE isDg B n q) → (tqq 33 3 = j) → (tqq 33 4 = q) → (nmOk (tqq 33 8) (nvN B q (j - q))) → (∀ i : Nat, i < j - q → 48 ≤ B ((q : Int) + i) ∧ B ((q : Int) + i) ≤ 57) → (tkF s tqq) →  wp PP d mb295 (mb295.getD 1 []) [some (vR 33)] [] (HP h0 tqq) Q := by
    refine s_ind (fun N ih => ?_)
    intro j tqq hM g3 g4 g8 gd gF
    refine x_aload rfl ?_
    refine h_getI 3 sc_33 rfl rfl ?_
    first | rw [g3] | rw [up_i (by decide), g3]
    refine x_aload rfl ?_
    refine h_getI 2 sc_33 rfl rfl ?_
    rw [(hT.f gF).2.1]
    refine n_icmp_ge ⟨by omega, by omega⟩ ⟨by omega, by omega⟩ (fun c1 => ?_) (fun c1 => ?_)
    · have ej : j = spE isDg B n q := by
        by_cases e : j < spE isDg B n q
        · exfalso
          have a := spE_all (f := isDg) (B := B) (n := n) (p := q) (j := j) (by omega) e
          have jn3 : j < n := a.1
          first
            | omega
            | (rw [bA_in jn3] at c2
               exact c2 (isDg_i.mp a.2))
        · omega
      exact L3 tqq (by rw [g3, ej]) g4 (by rw [← ej]; exact g8) gF
    · refine x_aload rfl ?_
      refine x_aload rfl ?_
      refine h_getI 3 sc_33 rfl rfl ?_
      first | rw [g3] | rw [up_i (by decide), g3]
      refine n_call [vR _, vI _] [] (by omega) (Nat.le_of_ble_eq_true rfl) rfl rfl (Nat.le_of_ble_eq_true rfl) ?_
      refine c_byteAt (hT.f gF) ⟨by omega, by omega⟩ ?_
      have bR := bA_R hb (j : Int)
      show wp PP _ _ _ [some (vR _)] [vI _] _ _
      refine n_call [vI _] [] (by omega) (Nat.le_of_ble_eq_true rfl) rfl rfl (Nat.le_of_ble_eq_true rfl) ?_
      refine m_isDigit2 ⟨by omega, by omega⟩ ?_
      show wp PP _ _ _ [some (vR _)] [vI _] _ _
      refine z_if_eq (fun c2 => ?_) (fun c2 => ?_)
      · have ej : j = spE isDg B n q := by
          by_cases e : j < spE isDg B n q
          · exfalso
            have a := spE_all (f := isDg) (B := B) (n := n) (p := q) (j := j) (by omega) e
            have jn3 : j < n := a.1
            first
              | omega
              | (rw [bA_in jn3] at c2
                 exact c2 (isDg_i.mp a.2))
          · omega
        exact L3 tqq (by rw [g3, ej]) g4 (by rw [← ej]; exact g8) gF
      · refine x_aload rfl ?_
        refine x_ci ?_
        refine x_aload rfl ?_
        refine h_getI 8 sc_33 rfl rfl ?_
        have nvRR := nvN_R (B := B) (q := (q : Int)) (j - q) gd
        have jn0 : j < n := by omega
        rw [bA_in jn0] at c2
        have g8 := g8
        have g8R : 0 ≤ tqq 33 8 ∧ tqq 33 8 ≤ 1000000 := by
          unfold nmOk at g8
          omega
        refine x_ci ?_
        refine x_imul ?_
        refine x_aload rfl ?_
        refine x_aload rfl ?_
        refine h_getI 3 sc_33 rfl rfl ?_
        first | rw [g3] | rw [up_i (by decide), g3]
        refine n_call [vR _, vI _] [vI _, vI _, vR _] (by omega) (Nat.le_of_ble_eq_true rfl) rfl rfl (Nat.le_of_ble_eq_true rfl) ?_
        refine c_byteAt (hT.f gF) ⟨by omega, by omega⟩ ?_
        have bR2 := bA_R hb (j : Int)
        show wp PP _ _ _ [some (vR _)] [vI _, vI _, vI _, vR _] _ _
        rw [bA_in jn0]
        have bR3 := hb (j : Int) (by omega) (by omega)
        refine x_iadd ?_
        refine x_ci ?_
        refine x_isub ?_
        refine n_imin ⟨by omega, by omega⟩ ⟨by omega, by omega⟩ (by omega) (Nat.le_of_ble_eq_true rfl) ?_
        refine h_putI 8 sc_33 rfl rfl ?_
        refine x_aload rfl ?_
        refine x_dupR ?_
        refine h_getI 3 sc_33 rfl rfl ?_
        first | rw [g3] | rw [up_i (by decide), g3]
        refine x_ci ?_
        refine x_iadd ?_
        refine h_putI 3 sc_33 rfl rfl ?_
        refine x_goto ?_
        have jn : j < n := jn0
        have em := spE_m (f := isDg) (B := B) (n := n) (p := q) (j := j) (by omega) (by omega)
        have hj1 : j + 1 ≤ spE isDg B n q := by
          rw [← em, spE_y jn (isDg_i.mpr c2)]
          exact spE_le
        refine ih (n - (j + 1)) (by omega) (j + 1) _ (by omega) ?_ ?_ ?_ ?_ (tkF_up (tkF_up gF (by omega)) (by omega))
        · rw [up_e]
          omega
        · rw [up_i (by decide), up_i (by decide)]
          exact g4
        · rw [up_i (by decide), up_e, show j + 1 - q = (j - q) + 1 by omega]
          show nmOk _ (min 100000 (10 * nvN B q (j - q) + B ((q : Int) + ((j - q : Nat) : Int)) - 48))
          rw [show (q : Int) + ((j - q : Nat) : Int) = j by omega]
          unfold nmOk at g8 ⊢
          omega
        · intro i hi
          by_cases e : i = j - q
          · rw [e, show (q : Int) + ((j - q : Nat) : Int) = j by omega]
            exact c2
          · exact gd i (by omega)
  refine n_at (m := 295) (q := mr295) (kn := (0, 1)) [some (vR _)] mb295 rfl rfl (h_rcv sc_33) (Nat.le_of_ble_eq_true rfl) rfl rfl ?_
  refine x_aload rfl ?_
  refine x_ci ?_
  refine h_putI 8 sc_33 rfl rfl ?_
  refine x_fall ?_
  refine L1 (n - q) q _ (by omega) ((up_i (by decide)).trans h3) ((up_i (by decide)).trans h4) ?_ (fun i hi => by omega) (tkF_up tkF_rfl (by omega))
  rw [up_e, show q - q = 0 by omega]
  exact ⟨fun _ => rfl, fun zqq => by have zqq : (0 : Int) = 100000 := zqq; omega⟩
theorem m_stepSign (hd : 3 ≤ d) (hb : bOk B n) (hn : n ≤ 700) (h3 : s 33 3 = q) (h4 : s 33 4 = q) (hq : q < n) (hl : ¬ isLe (B q) = true) (hg : ¬ isDg (B q) = true) (k : ∀ tqq, TKC (tqK B n q) (tqV B n q) q (tqE B n q) tqq → tkF s tqq → Q none (HP h0 tqq)) : wpM PP d 296 [vR 33, vI (B q), vI (bA B n ((q : Int) + 1))] (HP h0 s) Q := by
  have tl := tq_sg hq hl hg
  have b1 := hb (q : Int) (by omega) (by omega)
  have b2 := bA_R hb ((q : Int) + 1)
  have sR := sgOf_R (B q) (bA B n ((q : Int) + 1))
  refine n_at (m := 296) (q := mr296) (kn := (0, 3)) [some (vR _), some (vI _), some (vI _)] mb296 rfl rfl (h_rcv sc_33) (Nat.le_of_ble_eq_true rfl) rfl rfl ?_
  refine x_aload rfl ?_
  refine x_iload rfl ?_
  refine x_iload rfl ?_
  refine n_call [vI _, vI _] [vR _] (by omega) (Nat.le_of_ble_eq_true rfl) rfl rfl (Nat.le_of_ble_eq_true rfl) ?_
  refine m_signOf ⟨by omega, by omega⟩ ⟨by omega, by omega⟩ ?_
  show wp PP _ _ _ [some (vR _), some (vI _), some (vI _)] [vI _, vR _] _ _
  refine h_putI 9 sc_33 rfl rfl ?_
  refine x_aload rfl ?_
  refine x_aload rfl ?_
  refine h_getI 9 sc_33 rfl rfl ?_
  first | rw [up_e] | rw [up_i (by decide), up_e]
  refine x_ci ?_
  refine n_icmp_ne ⟨by omega, by omega⟩ ⟨by omega, by omega⟩ (fun c1 => ?_) (fun c1 => ?_)
  · refine x_ci ?_
    refine x_fall ?_
    refine h_putI 5 sc_33 rfl rfl ?_
    refine x_aload rfl ?_
    refine x_dupR ?_
    refine h_getI 3 sc_33 rfl rfl ?_
    rw [up_i (by decide), up_i (by decide), h3]
    refine x_aload rfl ?_
    refine h_getI 9 sc_33 rfl rfl ?_
    first | rw [up_e] | rw [up_i (by decide), up_e]
    refine x_ci ?_
    refine n_icmp_eq ⟨by omega, by omega⟩ ⟨by omega, by omega⟩ (fun c2 => ?_) (fun c2 => ?_)
    · refine x_ci ?_
      refine x_goto ?_
      refine x_iadd ?_
      refine h_putI 3 sc_33 rfl rfl ?_
      refine x_ret ?_
      refine k _ ⟨?_, ?_, ?_, ?_, ?_, ?_, ?_⟩ (tkF_up (tkF_up (tkF_up tkF_rfl (by omega)) (by omega)) (by omega))
      · rw [up_e, tl.1]
        split <;> omega
      · rw [up_i (by decide), up_i (by decide), up_i (by decide)]
        exact h4
      · rw [up_i (by decide), up_e, tl.2.1]
        split <;> omega
      · intro zqq
        rw [tl.2.1] at zqq
        split at zqq <;> omega
      · intro zqq
        rw [tl.2.1] at zqq
        split at zqq <;> omega
      · intro zqq
        rw [tl.2.1] at zqq
        split at zqq <;> omega
      · intro zqq
        rw [up_i (by decide), up_i (by decide), up_e, tl.2.2]
    · refine x_aload rfl ?_
      refine h_getI 9 sc_33 rfl rfl ?_
      first | rw [up_e] | rw [up_i (by decide), up_e]
      refine x_ci ?_
      refine n_icmp_eq ⟨by omega, by omega⟩ ⟨by omega, by omega⟩ (fun c3 => ?_) (fun c3 => ?_)
      · refine x_ci ?_
        refine x_goto ?_
        refine x_iadd ?_
        refine h_putI 3 sc_33 rfl rfl ?_
        refine x_ret ?_
        refine k _ ⟨?_, ?_, ?_, ?_, ?_, ?_, ?_⟩ (tkF_up (tkF_up (tkF_up tkF_rfl (by omega)) (by omega)) (by omega))
        · rw [up_e, tl.1]
          split <;> omega
        · rw [up_i (by decide), up_i (by decide), up_i (by decide)]
          exact h4
        · rw [up_i (by decide), up_e, tl.2.1]
          split <;> omega
        · intro zqq
          rw [tl.2.1] at zqq
          split at zqq <;> omega
        · intro zqq
          rw [tl.2.1] at zqq
          split at zqq <;> omega
        · intro zqq
          rw [tl.2.1] at zqq
          split at zqq <;> omega
        · intro zqq
          rw [up_i (by decide), up_i (by decide), up_e, tl.2.2]
      · refine x_aload rfl ?_
        refine h_getI 9 sc_33 rfl rfl ?_
        first | rw [up_e] | rw [up_i (by decide), up_e]
        refine x_ci ?_
        refine n_icmp_ne ⟨by omega, by omega⟩ ⟨by omega, by omega⟩ (fun c4 => ?_) (fun c4 => ?_)
        · refine x_ci ?_
          refine x_fall ?_
          refine x_iadd ?_
          refine h_putI 3 sc_33 rfl rfl ?_
          refine x_ret ?_
          refine k _ ⟨?_, ?_, ?_, ?_, ?_, ?_, ?_⟩ (tkF_up (tkF_up (tkF_up tkF_rfl (by omega)) (by omega)) (by omega))
          · rw [up_e, tl.1]
            split <;> omega
          · rw [up_i (by decide), up_i (by decide), up_i (by decide)]
            exact h4
          · rw [up_i (by decide), up_e, tl.2.1]
            split <;> omega
          · intro zqq
            rw [tl.2.1] at zqq
            split at zqq <;> omega
          · intro zqq
            rw [tl.2.1] at zqq
            split at zqq <;> omega
          · intro zqq
            rw [tl.2.1] at zqq
            split at zqq <;> omega
          · intro zqq
            rw [up_i (by decide), up_i (by decide), up_e, tl.2.2]
        · refine x_fall ?_
          refine x_ci ?_
          refine x_goto ?_
          refine x_iadd ?_
          refine h_putI 3 sc_33 rfl rfl ?_
          refine x_ret ?_
          refine k _ ⟨?_, ?_, ?_, ?_, ?_, ?_, ?_⟩ (tkF_up (tkF_up (tkF_up tkF_rfl (by omega)) (by omega)) (by omega))
          · rw [up_e, tl.1]
            split <;> omega
          · rw [up_i (by decide), up_i (by decide), up_i (by decide)]
            exact h4
          · rw [up_i (by decide), up_e, tl.2.1]
            split <;> omega
          · intro zqq
            rw [tl.2.1] at zqq
            split at zqq <;> omega
          · intro zqq
            rw [tl.2.1] at zqq
            split at zqq <;> omega
          · intro zqq
            rw [tl.2.1] at zqq
            split at zqq <;> omega
          · intro zqq
            rw [up_i (by decide), up_i (by decide), up_e, tl.2.2]
  · refine x_ci ?_
    refine x_goto ?_
    refine h_putI 5 sc_33 rfl rfl ?_
    refine x_aload rfl ?_
    refine x_dupR ?_
    refine h_getI 3 sc_33 rfl rfl ?_
    rw [up_i (by decide), up_i (by decide), h3]
    refine x_aload rfl ?_
    refine h_getI 9 sc_33 rfl rfl ?_
    first | rw [up_e] | rw [up_i (by decide), up_e]
    refine x_ci ?_
    refine n_icmp_eq ⟨by omega, by omega⟩ ⟨by omega, by omega⟩ (fun c2 => ?_) (fun c2 => ?_)
    · refine x_ci ?_
      refine x_goto ?_
      refine x_iadd ?_
      refine h_putI 3 sc_33 rfl rfl ?_
      refine x_ret ?_
      refine k _ ⟨?_, ?_, ?_, ?_, ?_, ?_, ?_⟩ (tkF_up (tkF_up (tkF_up tkF_rfl (by omega)) (by omega)) (by omega))
      · rw [up_e, tl.1]
        split <;> omega
      · rw [up_i (by decide), up_i (by decide), up_i (by decide)]
        exact h4
      · rw [up_i (by decide), up_e, tl.2.1]
        split <;> omega
      · intro zqq
        rw [tl.2.1] at zqq
        split at zqq <;> omega
      · intro zqq
        rw [tl.2.1] at zqq
        split at zqq <;> omega
      · intro zqq
        rw [tl.2.1] at zqq
        split at zqq <;> omega
      · intro zqq
        rw [up_i (by decide), up_i (by decide), up_e, tl.2.2]
    · refine x_aload rfl ?_
      refine h_getI 9 sc_33 rfl rfl ?_
      first | rw [up_e] | rw [up_i (by decide), up_e]
      refine x_ci ?_
      refine n_icmp_eq ⟨by omega, by omega⟩ ⟨by omega, by omega⟩ (fun c3 => ?_) (fun c3 => ?_)
      · refine x_ci ?_
        refine x_goto ?_
        refine x_iadd ?_
        refine h_putI 3 sc_33 rfl rfl ?_
        refine x_ret ?_
        refine k _ ⟨?_, ?_, ?_, ?_, ?_, ?_, ?_⟩ (tkF_up (tkF_up (tkF_up tkF_rfl (by omega)) (by omega)) (by omega))
        · rw [up_e, tl.1]
          split <;> omega
        · rw [up_i (by decide), up_i (by decide), up_i (by decide)]
          exact h4
        · rw [up_i (by decide), up_e, tl.2.1]
          split <;> omega
        · intro zqq
          rw [tl.2.1] at zqq
          split at zqq <;> omega
        · intro zqq
          rw [tl.2.1] at zqq
          split at zqq <;> omega
        · intro zqq
          rw [tl.2.1] at zqq
          split at zqq <;> omega
        · intro zqq
          rw [up_i (by decide), up_i (by decide), up_e, tl.2.2]
      · refine x_aload rfl ?_
        refine h_getI 9 sc_33 rfl rfl ?_
        first | rw [up_e] | rw [up_i (by decide), up_e]
        refine x_ci ?_
        refine n_icmp_ne ⟨by omega, by omega⟩ ⟨by omega, by omega⟩ (fun c4 => ?_) (fun c4 => ?_)
        · refine x_ci ?_
          refine x_fall ?_
          refine x_iadd ?_
          refine h_putI 3 sc_33 rfl rfl ?_
          refine x_ret ?_
          refine k _ ⟨?_, ?_, ?_, ?_, ?_, ?_, ?_⟩ (tkF_up (tkF_up (tkF_up tkF_rfl (by omega)) (by omega)) (by omega))
          · rw [up_e, tl.1]
            split <;> omega
          · rw [up_i (by decide), up_i (by decide), up_i (by decide)]
            exact h4
          · rw [up_i (by decide), up_e, tl.2.1]
            split <;> omega
          · intro zqq
            rw [tl.2.1] at zqq
            split at zqq <;> omega
          · intro zqq
            rw [tl.2.1] at zqq
            split at zqq <;> omega
          · intro zqq
            rw [tl.2.1] at zqq
            split at zqq <;> omega
          · intro zqq
            rw [up_i (by decide), up_i (by decide), up_e, tl.2.2]
        · refine x_fall ?_
          refine x_ci ?_
          refine x_goto ?_
          refine x_iadd ?_
          refine h_putI 3 sc_33 rfl rfl ?_
          refine x_ret ?_
          refine k _ ⟨?_, ?_, ?_, ?_, ?_, ?_, ?_⟩ (tkF_up (tkF_up (tkF_up tkF_rfl (by omega)) (by omega)) (by omega))
          · rw [up_e, tl.1]
            split <;> omega
          · rw [up_i (by decide), up_i (by decide), up_i (by decide)]
            exact h4
          · rw [up_i (by decide), up_e, tl.2.1]
            split <;> omega
          · intro zqq
            rw [tl.2.1] at zqq
            split at zqq <;> omega
          · intro zqq
            rw [tl.2.1] at zqq
            split at zqq <;> omega
          · intro zqq
            rw [tl.2.1] at zqq
            split at zqq <;> omega
          · intro zqq
            rw [up_i (by decide), up_i (by decide), up_e, tl.2.2]
theorem m_step {p : Nat} (hd : 14 ≤ d) (hT : TBC B n sz s) (hb : bOk B n) (h3 : s 33 3 = p) (hp : p ≤ n) (k : ∀ tqq, TKC (tkK B n p) (tkV B n p) (tkP B n p) (tkE B n p) tqq → tkF s tqq → Q none (HP h0 tqq)) : wpM PP d 290 [vR 33] (HP h0 s) Q := by
  have hn700 : (n : Int) ≤ 700 := by
    have := hT.2.2.1
    have := hT.2.2.2.1
    omega
  have hqR := tkP_R (B := B) hp
  unfold tkK tkV tkE at k
  obtain ⟨q, hqq⟩ : ∃ q, q = tkP B n p := ⟨_, rfl⟩
  rw [← hqq] at k hqR
  have L2 : ∀ {o1 : Option pv} (tqq : St), tqq 33 3 = q → tkF s tqq → wp PP d mb290 (mb290.getD 1 []) [some (vR 33), o1] [] (HP h0 tqq) Q := by
    intro o1 tqq g3 gF
    refine x_aload rfl ?_
    refine x_aload rfl ?_
    refine h_getI 3 sc_33 rfl rfl ?_
    first | rw [up_i (by decide), g3] | rw [g3]
    refine h_putI 4 sc_33 rfl rfl ?_
    refine x_aload rfl ?_
    refine x_aload rfl ?_
    refine h_getI 3 sc_33 rfl rfl ?_
    first | rw [up_i (by decide), g3] | rw [g3]
    refine n_call [vR _, vI _] [] (by omega) (Nat.le_of_ble_eq_true rfl) rfl rfl (Nat.le_of_ble_eq_true rfl) ?_
    refine c_byteAt ((hT.f gF).f (tkF_up tkF_rfl (by omega))) ⟨by omega, by omega⟩ ?_
    have bR := bA_R hb (q : Int)
    show wp PP _ _ _ [some (vR _), _] [vI _] _ _
    refine n_istore [some (vR _), some (vI _)] (Nat.le_of_ble_eq_true rfl) rfl ?_
    refine x_iload rfl ?_
    refine n_if_ge ⟨by omega, by omega⟩ (fun c1 => ?_) (fun c1 => ?_)
    · refine x_iload rfl ?_
      refine n_call [vI _] [] (by omega) (Nat.le_of_ble_eq_true rfl) rfl rfl (Nat.le_of_ble_eq_true rfl) ?_
      refine m_isLetter ⟨by omega, by omega⟩ ?_
      show wp PP _ _ _ [some (vR _), some (vI _)] [vI _] _ _
      refine z_if_eq (fun c2 => ?_) (fun c2 => ?_)
      · refine x_iload rfl ?_
        refine n_call [vI _] [] (by omega) (Nat.le_of_ble_eq_true rfl) rfl rfl (Nat.le_of_ble_eq_true rfl) ?_
        refine m_isDigit2 ⟨by omega, by omega⟩ ?_
        show wp PP _ _ _ [some (vR _), some (vI _)] [vI _] _ _
        refine z_if_eq (fun c3 => ?_) (fun c3 => ?_)
        · refine x_aload rfl ?_
          refine x_iload rfl ?_
          refine x_aload rfl ?_
          refine x_aload rfl ?_
          refine h_getI 3 sc_33 rfl rfl ?_
          first | rw [up_i (by decide), g3] | rw [g3]
          refine x_ci ?_
          refine x_iadd ?_
          refine n_call [vR _, vI _] [vI _, vR _] (by omega) (Nat.le_of_ble_eq_true rfl) rfl rfl (Nat.le_of_ble_eq_true rfl) ?_
          refine c_byteAt ((hT.f gF).f (tkF_up tkF_rfl (by omega))) ⟨by omega, by omega⟩ ?_
          have bR9 := bA_R hb ((q : Int) + 1)
          show wp PP _ _ _ [some (vR _), some (vI _)] [vI _, vI _, vR _] _ _
          refine n_call [vR _, vI _, vI _] [] (by omega) (Nat.le_of_ble_eq_true rfl) rfl rfl (Nat.le_of_ble_eq_true rfl) ?_
          have qn : q < n := by
            by_cases e : q < n
            · exact e
            · exfalso
              rw [bA_out (by omega)] at c1
              omega
          rw [bA_in qn] at c2 c3 ⊢
          refine m_stepSign (by omega) hb (by omega) ((up_i (by decide)).trans g3) up_e qn (fun zqq => c2 (isLe_i.mp zqq)) (fun zqq => c3 (isDg_i.mp zqq)) (fun uqq u1qq u2qq => ?_)
          show wp PP _ _ _ [some (vR _), some (vI _)] [] _ _
          refine x_fall ?_
          refine x_ret ?_
          first
            | (have qn : n ≤ q := by
                 by_cases e : q < n
                 · exfalso
                   rw [bA_in e] at c1
                   have := hb (q : Int) (by omega) (by omega)
                   omega
                 · omega
               have k0 := (tqK_0 (B := B)).mpr qn
               refine k _ ⟨?_, ?_, ?_, ?_, ?_, ?_, ?_⟩ (tkF_up (tkF_up gF (by omega)) (by omega))
               · rw [up_i (by decide), up_i (by decide), tqE_0 qn]
                 exact g3
               · rw [up_i (by decide), up_e]
               · rw [up_e, k0]
               · intro zqq
                 omega
               · intro zqq
                 omega
               · intro zqq
                 omega
               · intro zqq
                 omega)
            | exact k uqq u1qq (tkF_tr (tkF_up gF (by omega)) u2qq)
        · refine x_aload rfl ?_
          refine n_call [vR _] [] (by omega) (Nat.le_of_ble_eq_true rfl) rfl rfl (Nat.le_of_ble_eq_true rfl) ?_
          have qn : q < n := by
            by_cases e : q < n
            · exact e
            · exfalso
              rw [bA_out (by omega)] at c1
              omega
          rw [bA_in qn] at c2 c3
          refine m_stepNumber (by omega) ((hT.f gF).f (tkF_up tkF_rfl (by omega))) hb ((up_i (by decide)).trans g3) up_e qn (fun zqq => c2 (isLe_i.mp zqq)) (isDg_i.mpr c3) (fun uqq u1qq u2qq => ?_)
          show wp PP _ _ _ [some (vR _), some (vI _)] [] _ _
          refine x_goto ?_
          refine x_ret ?_
          first
            | (have qn : n ≤ q := by
                 by_cases e : q < n
                 · exfalso
                   rw [bA_in e] at c1
                   have := hb (q : Int) (by omega) (by omega)
                   omega
                 · omega
               have k0 := (tqK_0 (B := B)).mpr qn
               refine k _ ⟨?_, ?_, ?_, ?_, ?_, ?_, ?_⟩ (tkF_up (tkF_up gF (by omega)) (by omega))
               · rw [up_i (by decide), up_i (by decide), tqE_0 qn]
                 exact g3
               · rw [up_i (by decide), up_e]
               · rw [up_e, k0]
               · intro zqq
                 omega
               · intro zqq
                 omega
               · intro zqq
                 omega
               · intro zqq
                 omega)
            | exact k uqq u1qq (tkF_tr (tkF_up gF (by omega)) u2qq)
      · refine x_aload rfl ?_
        refine n_call [vR _] [] (by omega) (Nat.le_of_ble_eq_true rfl) rfl rfl (Nat.le_of_ble_eq_true rfl) ?_
        have qn : q < n := by
          by_cases e : q < n
          · exact e
          · exfalso
            rw [bA_out (by omega)] at c1
            omega
        rw [bA_in qn] at c2
        refine m_stepWord (by omega) ((hT.f gF).f (tkF_up tkF_rfl (by omega))) hb ((up_i (by decide)).trans g3) up_e qn (isLe_i.mpr c2) (fun uqq u1qq u2qq => ?_)
        show wp PP _ _ _ [some (vR _), some (vI _)] [] _ _
        refine x_goto ?_
        refine x_ret ?_
        first
          | (have qn : n ≤ q := by
               by_cases e : q < n
               · exfalso
                 rw [bA_in e] at c1
                 have := hb (q : Int) (by omega) (by omega)
                 omega
               · omega
             have k0 := (tqK_0 (B := B)).mpr qn
             refine k _ ⟨?_, ?_, ?_, ?_, ?_, ?_, ?_⟩ (tkF_up (tkF_up gF (by omega)) (by omega))
             · rw [up_i (by decide), up_i (by decide), tqE_0 qn]
               exact g3
             · rw [up_i (by decide), up_e]
             · rw [up_e, k0]
             · intro zqq
               omega
             · intro zqq
               omega
             · intro zqq
               omega
             · intro zqq
               omega)
          | exact k uqq u1qq (tkF_tr (tkF_up gF (by omega)) u2qq)
    · refine x_aload rfl ?_
      refine x_ci ?_
      refine h_putI 5 sc_33 rfl rfl ?_
      refine x_goto ?_
      refine x_ret ?_
      first
        | (have qn : n ≤ q := by
             by_cases e : q < n
             · exfalso
               rw [bA_in e] at c1
               have := hb (q : Int) (by omega) (by omega)
               omega
             · omega
           have k0 := (tqK_0 (B := B)).mpr qn
           refine k _ ⟨?_, ?_, ?_, ?_, ?_, ?_, ?_⟩ (tkF_up (tkF_up gF (by omega)) (by omega))
           · rw [up_i (by decide), up_i (by decide), tqE_0 qn]
             exact g3
           · rw [up_i (by decide), up_e]
           · rw [up_e, k0]
           · intro zqq
             omega
           · intro zqq
             omega
           · intro zqq
             omega
           · intro zqq
             omega)
        | exact k uqq u1qq (tkF_tr (tkF_up gF (by omega)) u2qq)
  have L1 : ∀ N : Nat, ∀ {o1 : Option pv} (j : Nat) (tqq : St), (N = n - j ∧ j ≤ n) → (tqq 33 3 = j) → (spE isBl B n j = q) → (tkF s tqq) →  wp PP d mb290 (mb290.getD 0 []) [some (vR 33), o1] [] (HP h0 tqq) Q := by
    refine s_ind (fun N ih => ?_)
    intro o1 j tqq hM g3 ge gF
    refine x_aload rfl ?_
    refine h_getI 3 sc_33 rfl rfl ?_
    rw [g3]
    refine x_aload rfl ?_
    refine h_getI 2 sc_33 rfl rfl ?_
    rw [(hT.f gF).2.1]
    refine n_icmp_ge ⟨by omega, by omega⟩ ⟨by omega, by omega⟩ (fun c1 => ?_) (fun c1 => ?_)
    · refine L2 tqq ?_ gF
      have ej : spE isBl B n j = j := spE_n (fun zqq => by
        first
          | omega
          | (rw [bA_in zqq.1] at c2
             exact c2 (isBl_i.mp zqq.2)))
      rw [g3, ← ge, ej]
    · refine x_aload rfl ?_
      refine x_aload rfl ?_
      refine h_getI 3 sc_33 rfl rfl ?_
      rw [g3]
      refine n_call [vR _, vI _] [] (by omega) (Nat.le_of_ble_eq_true rfl) rfl rfl (Nat.le_of_ble_eq_true rfl) ?_
      refine c_byteAt (hT.f gF) ⟨by omega, by omega⟩ ?_
      have bR := bA_R hb (j : Int)
      show wp PP _ _ _ [some (vR _), _] [vI _] _ _
      refine n_call [vI _] [] (by omega) (Nat.le_of_ble_eq_true rfl) rfl rfl (Nat.le_of_ble_eq_true rfl) ?_
      refine m_isBlank ⟨by omega, by omega⟩ ?_
      show wp PP _ _ _ [some (vR _), _] [vI _] _ _
      refine z_if_eq (fun c2 => ?_) (fun c2 => ?_)
      · refine L2 tqq ?_ gF
        have ej : spE isBl B n j = j := spE_n (fun zqq => by
          first
            | omega
            | (rw [bA_in zqq.1] at c2
               exact c2 (isBl_i.mp zqq.2)))
        rw [g3, ← ge, ej]
      · refine x_aload rfl ?_
        refine x_dupR ?_
        refine h_getI 3 sc_33 rfl rfl ?_
        rw [g3]
        refine x_ci ?_
        refine x_iadd ?_
        refine h_putI 3 sc_33 rfl rfl ?_
        refine x_goto ?_
        have jn : j < n := by omega
        rw [bA_in jn] at c2
        refine ih (n - (j + 1)) (by omega) (j + 1) _ (by omega) ?_ ?_ (tkF_up gF (by omega))
        · rw [up_e]
          omega
        · rw [← spE_y jn (isBl_i.mpr c2)]
          exact ge
  refine n_at (m := 290) (q := mr290) (kn := (0, 1)) [some (vR _), none] mb290 rfl rfl (h_rcv sc_33) (Nat.le_of_ble_eq_true rfl) rfl rfl ?_
  exact L1 (n - p) p s (by omega) h3 hqq.symm tkF_rfl
end TX3
