/-! TEXT: the tokens along the tape -/
section TX1
variable {B : Int → Int} {n : Nat} {f : Int → Bool}
def spn (f : Int → Bool) (B : Int → Int) (n : Nat) : Nat → Nat → Nat
  | 0, p => p
  | k + 1, p => if p < n ∧ f (B p) = true then spn f B n k (p + 1) else p
/-- the first place from p on at which it is otherwise -/
def spE (f : Int → Bool) (B : Int → Int) (n p : Nat) : Nat := spn f B n (n - p) p
theorem spE_y {p : Nat} (h : p < n) (hf : f (B p) = true) : spE f B n p = spE f B n (p + 1) := by
  unfold spE
  obtain ⟨k, hk⟩ : ∃ k, n - p = k + 1 := ⟨n - p - 1, by omega⟩
  rw [hk, show n - (p + 1) = k by omega]
  show (if p < n ∧ f (B p) = true then spn f B n k (p + 1) else p) = _
  rw [if_pos ⟨h, hf⟩]
theorem spE_n {p : Nat} (h : ¬ (p < n ∧ f (B p) = true)) : spE f B n p = p := by
  unfold spE
  cases n - p with
  | zero => rfl
  | succ k => exact if_neg h
theorem spn_le : ∀ (k p : Nat), p ≤ spn f B n k p
  | 0, p => Nat.le_refl _
  | k + 1, p => by
    have := spn_le k (p + 1)
    simp only [spn]
    split <;> omega
theorem spE_le {p : Nat} : p ≤ spE f B n p := spn_le _ _
theorem spn_R : ∀ (k p : Nat), p ≤ n → spn f B n k p ≤ n
  | 0, p, h => h
  | k + 1, p, h => by
    simp only [spn]
    split
    · rename_i q
      exact spn_R k (p + 1) (by omega)
    · exact h
theorem spE_R {p : Nat} (h : p ≤ n) : spE f B n p ≤ n := spn_R _ _ h
theorem spn_all : ∀ (k p j : Nat), p ≤ j → j < spn f B n k p → j < n ∧ f (B j) = true
  | 0, p, j, h, h2 => by
    simp only [spn] at h2
    omega
  | k + 1, p, j, h, h2 => by
    simp only [spn] at h2
    split at h2
    · rename_i q
      by_cases e : j = p
      · rw [e]
        exact q
      · exact spn_all k (p + 1) j (by omega) h2
    · omega
theorem spE_all {p j : Nat} (h : p ≤ j) (h2 : j < spE f B n p) : j < n ∧ f (B j) = true := spn_all _ _ j h h2
theorem spn_end : ∀ (k p : Nat), n - p ≤ k → ¬ (spn f B n k p < n ∧ f (B (spn f B n k p)) = true)
  | 0, p, h => by
    simp only [spn]
    omega
  | k + 1, p, h => by
    simp only [spn]
    split
    · exact spn_end k (p + 1) (by omega)
    · rename_i q
      exact q
theorem spE_end {p : Nat} : ¬ (spE f B n p < n ∧ f (B (spE f B n p)) = true) := spn_end _ _ (Nat.le_refl _)
theorem spE_m {p j : Nat} (h : p ≤ j) (h2 : j ≤ spE f B n p) : spE f B n j = spE f B n p := by
  obtain ⟨i, hi⟩ : ∃ i, j = p + i := ⟨j - p, by omega⟩
  subst hi
  clear h
  induction i with
  | zero => rfl
  | succ i ih =>
    have a := spE_all (f := f) (B := B) (n := n) (p := p) (j := p + i) (by omega) (by omega)
    rw [← ih (by omega), spE_y a.1 a.2]
    rfl
def isBl (c : Int) : Bool := decide (c = 10 ∨ c = 32)
def isLe (c : Int) : Bool := decide (97 ≤ c ∧ c ≤ 122)
def isDg (c : Int) : Bool := decide (48 ≤ c ∧ c ≤ 57)
def bA (B : Int → Int) (n : Nat) (p : Int) : Int := if 0 ≤ p ∧ p < n then B p else -1
/-- a number along the tape, 100000 at most -/
def nvN (B : Int → Int) (q : Int) : Nat → Int
  | 0 => 0
  | k + 1 => min 100000 (10 * nvN B q k + B (q + k) - 48)
def pwL (i : Nat) : Int := if i = 0 then 33554432 else if i = 1 then 1048576 else if i = 2 then 32768 else if i = 3 then 1024 else if i = 4 then 32 else if i = 5 then 1 else 0
/-- letters, five bits each, the first one highest of six -/
def pkN (B : Int → Int) (q : Int) : Nat → Int
  | 0 => 0
  | k + 1 => pkN B q k + (B (q + k) - 96) * pwL k
def wixN : List Int → Int → Int → Int
  | [], _, _ => -1
  | a :: l, i, vqq => if a = vqq then i else wixN l (i + 1) vqq
/-- which word of the language, or -1 -/
def wix (vqq : Int) : Int := wixN sPack 0 vqq
def sgOf (a b : Int) : Int := if a = 59 then 15 else if a = 40 then 13 else if a = 41 then 14 else if a = 43 then 9 else if a = 45 then 10 else if a = 42 then 11 else if a = 47 then 12 else if a = 61 then 5 else if a = 60 then (if b = 61 then 4 else if b = 62 then 6 else 3) else if a = 62 then (if b = 61 then 7 else 8) else -1
/-- where the token behind p begins; where it ends; its kind (0 end, 1 bad, 2 number, 3 free word, 4 word, 5 sign); its value -/
def tkP (B : Int → Int) (n p : Nat) : Nat := spE isBl B n p
def tqE (B : Int → Int) (n q : Nat) : Nat := if n ≤ q then q else if isLe (B q) then spE isLe B n q else if isDg (B q) then spE isDg B n q else if sgOf (B q) (bA B n (q + 1)) = 4 ∨ sgOf (B q) (bA B n (q + 1)) = 6 ∨ sgOf (B q) (bA B n (q + 1)) = 7 then q + 2 else q + 1
def tqW (B : Int → Int) (n q : Nat) : Int := pkN B q (min 6 (spE isLe B n q - q))
def tqK (B : Int → Int) (n q : Nat) : Int := if n ≤ q then 0 else if isLe (B q) then (if 6 < spE isLe B n q - q then 1 else if wix (tqW B n q) = -1 then 3 else 4) else if isDg (B q) then 2 else if sgOf (B q) (bA B n (q + 1)) = -1 then 1 else 5
def tqV (B : Int → Int) (n q : Nat) : Int := if isLe (B q) then (if wix (tqW B n q) = -1 then tqW B n q else wix (tqW B n q)) else if isDg (B q) then nvN B q (spE isDg B n q - q) else sgOf (B q) (bA B n (q + 1))
def tkE (B : Int → Int) (n p : Nat) : Nat := tqE B n (tkP B n p)
def tkK (B : Int → Int) (n p : Nat) : Int := tqK B n (tkP B n p)
def tkV (B : Int → Int) (n p : Nat) : Int := tqV B n (tkP B n p)
theorem tkP_le {p : Nat} : p ≤ tkP B n p := spE_le
theorem tkP_R {p : Nat} (h : p ≤ n) : tkP B n p ≤ n := spE_R h
theorem wixN_R : ∀ (l : List Int) (i vqq : Int), wixN l i vqq = -1 ∨ (i ≤ wixN l i vqq ∧ wixN l i vqq < i + l.length)
  | [], i, vqq => Or.inl rfl
  | a :: l, i, vqq => by
    have := wixN_R l (i + 1) vqq
    simp only [wixN, List.length_cons]
    split <;> omega
theorem wix_R (vqq : Int) : wix vqq = -1 ∨ (0 ≤ wix vqq ∧ wix vqq < 19) := by
  have h := wixN_R sPack 0 vqq
  have e : sPack.length = 19 := rfl
  rw [e] at h
  unfold wix
  omega
theorem sgOf_R (a b : Int) : -1 ≤ sgOf a b ∧ sgOf a b ≤ 15 ∧ (sgOf a b = -1 ∨ 3 ≤ sgOf a b) := by
  unfold sgOf
  repeat' split
  all_goals omega
theorem nvN_R {q : Int} : ∀ k : Nat, (∀ i : Nat, i < k → 48 ≤ B (q + i) ∧ B (q + i) ≤ 57) → 0 ≤ nvN B q k ∧ nvN B q k ≤ 100000
  | 0, _ => by simp [nvN]
  | k + 1, h => by
    have := nvN_R k (fun i hi => h i (by omega))
    have := h k (by omega)
    simp only [nvN]
    omega
theorem tqK_R (q : Nat) : 0 ≤ tqK B n q ∧ tqK B n q ≤ 5 := by
  unfold tqK
  repeat' split
  all_goals omega
/-- a token that is there takes a place at least -/
theorem tqE_R {q : Nat} (h : q < n) (h2 : tqK B n q ≠ 1) : q < tqE B n q ∧ tqE B n q ≤ n := by
  unfold tqE
  unfold tqK at h2
  rw [if_neg (by omega)] at h2 ⊢
  by_cases a : isLe (B q) = true
  · rw [if_pos a] at h2 ⊢
    have := spE_y (f := isLe) h a
    have := spE_le (f := isLe) (B := B) (n := n) (p := q + 1)
    have := spE_R (f := isLe) (B := B) (n := n) (p := q + 1) (by omega)
    omega
  · rw [if_neg a] at h2 ⊢
    by_cases b : isDg (B q) = true
    · rw [if_pos b]
      have := spE_y (f := isDg) h b
      have := spE_le (f := isDg) (B := B) (n := n) (p := q + 1)
      have := spE_R (f := isDg) (B := B) (n := n) (p := q + 1) (by omega)
      omega
    · rw [if_neg b]
      split
      · rename_i c
        have hb : q + 1 < n := by
          by_cases e : q + 1 < n
          · exact e
          · exfalso
            have e0 : bA B n ((q : Int) + 1) = -1 := if_neg (by omega)
            rw [e0] at c
            unfold sgOf at c
            repeat' split at c
            all_goals omega
        omega
      · omega
theorem tqE_0 {q : Nat} (h : n ≤ q) : tqE B n q = q := if_pos h
theorem tqK_0 {q : Nat} : tqK B n q = 0 ↔ n ≤ q := by
  unfold tqK
  constructor
  · intro h
    repeat' split at h
    all_goals omega
  · intro h
    exact if_pos h
theorem tkE_R {p : Nat} (h : p ≤ n) (h2 : tkK B n p ≠ 1) (h0 : tkK B n p ≠ 0) : p < tkE B n p ∧ tkE B n p ≤ n := by
  have a := tkP_le (B := B) (n := n) (p := p)
  have b := tkP_R (B := B) h
  unfold tkK at h2 h0
  have c : tkP B n p < n := by
    rw [Ne, tqK_0] at h0
    omega
  have := tqE_R c h2
  unfold tkE
  omega
end TX1
