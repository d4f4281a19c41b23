/-! TEXT: an E as signs that wait and knots that stand: a step a token -/
section TX8
variable {B : Int → Int} {n : Nat} {b c : Int} {W : List Int}
abbrev KS : Type := Nat × (Int → Int)
def updF (f : Int → Int) (i x : Int) : Int → Int := fun j => if j = i then x else f j
def opn : List Int → Nat
  | [] => 0
  | x :: W => (if x = 13 then 1 else 0) + opn W
def bin : List Int → Nat
  | [] => 0
  | x :: W => (if x = 13 ∨ x = 2 then 0 else 1) + bin W
theorem bin_s (x : Int) (W : List Int) : bin (x :: W) = (if x = 13 ∨ x = 2 then 0 else 1) + bin W := rfl
theorem opn_s (x : Int) (W : List Int) : opn (x :: W) = (if x = 13 then 1 else 0) + opn W := rfl
def clo (x : Int) : Int := if 0 ≤ x ∧ x < 16 then sClo.getD x.toNat 0 else 0
def tot (W : List Int) (K : KS) : Int := (K.1 : Int) + W.length - opn W
def addK (K : KS) (x : Int) : KS := (K.1 + 1, updF K.2 K.1 x)
/-- the signs that wait and bind as closely at least are knots now -/
def stl (c : Int) : List Int → KS → List Int × KS
  | [], K => ([], K)
  | x :: W, K => if x = 13 ∨ clo x < c then (x :: W, K) else stl c W (addK K (20000 + x))
/-- a sign that joins two parts, or -1 -/
def jsg (k vqq : Int) : Int := if k = 4 ∧ (vqq = 9 ∨ vqq = 10) then vqq - 9 else if k = 5 ∧ vqq < 13 then vqq else -1
def cl5 (g : Int) : Int := if clo g = 4 then 5 else clo g
/-- a step: 0 on, 1, 2 a fault, -1 the end; the mode (0, 1 an operand is wanted, 0: it may be negated; 2 a sign is), what waits, the knots -/
def eStep (k vqq : Int) (m : Nat) (W : List Int) (K : KS) : Int × Nat × List Int × KS :=
  if m < 2 then
    (if k = 5 ∧ vqq = 13 then (if 8 ≤ opn W then (2, m, W, K) else (0, 0, 13 :: W, K))
    else if k = 4 ∧ vqq = 11 ∧ m = 0 then (if 64 ≤ tot W K then (2, m, W, K) else (0, m, 2 :: W, K))
    else if k = 2 then (if 9999 < vqq ∨ 64 ≤ tot W K then (2, m, W, K) else (0, 2, W, addK K vqq))
    else if k = 4 ∧ 12 ≤ vqq then (if 64 ≤ tot W K then (2, m, W, K) else (0, 2, W, addK K (10000 + (vqq - 12))))
    else (1, m, W, K))
  else
    (if opn W = 0 ∧ k = 5 ∧ vqq = 15 then (-1, m, (stl 0 W K).1, (stl 0 W K).2)
    else if k = 5 ∧ vqq = 14 ∧ 0 < opn W then (0, m, (stl 1 W K).1.tail, (stl 1 W K).2)
    else if jsg k vqq = -1 then (1, m, W, K)
    else if clo (jsg k vqq) = 4 ∧ clo ((stl 5 W K).1.headD 13) = 4 then (1, m, W, K)
    else if 64 ≤ tot W K then (2, m, W, K)
    else (0, if clo (jsg k vqq) ≤ 2 then 0 else 1, jsg k vqq :: (stl (cl5 (jsg k vqq)) W K).1, (stl (cl5 (jsg k vqq)) W K).2))
def eGo (B : Int → Int) (n : Nat) : Nat → Nat → Nat → List Int → KS → Option (Int × Nat × KS)
  | 0, _, _, _, _ => none
  | j + 1, p, m, W, K => if (eStep (tkK B n p) (tkV B n p) m W K).1 = 0 then eGo B n j (tkE B n p) (eStep (tkK B n p) (tkV B n p) m W K).2.1 (eStep (tkK B n p) (tkV B n p) m W K).2.2.1 (eStep (tkK B n p) (tkV B n p) m W K).2.2.2 else some ((eStep (tkK B n p) (tkV B n p) m W K).1, if (eStep (tkK B n p) (tkV B n p) m W K).1 = -1 then tkE B n p else tkP B n p, (eStep (tkK B n p) (tkV B n p) m W K).2.2.2)
def eEnd (B : Int → Int) (n p m : Nat) (W : List Int) (K : KS) (r : Int × Nat × KS) : Prop := ∃ j, eGo B n j p m W K = some r
theorem eGo_more {r : Int × Nat × KS} : ∀ {j p m : Nat} {W : List Int} {K : KS}, eGo B n j p m W K = some r → ∀ i, eGo B n (j + i) p m W K = some r
  | 0, _, _, _, _, h, _ => by cases h
  | j + 1, p, m, W, K, h, i => by
    rw [show j + 1 + i = (j + i) + 1 by omega]
    simp only [eGo] at h ⊢
    split
    · rename_i e
      rw [if_pos e] at h
      exact eGo_more h i
    · rename_i e
      rw [if_neg e] at h
      exact h
theorem eEnd_one {p m : Nat} {K : KS} {r r' : Int × Nat × KS} (h : eEnd B n p m W K r) (g : eEnd B n p m W K r') : r = r' := by
  obtain ⟨i, hi⟩ := h
  obtain ⟨j, hj⟩ := g
  have a := eGo_more hi j
  have b := eGo_more hj i
  rw [Nat.add_comm j i, a] at b
  exact Option.some.inj b
theorem eEnd_step {p m m' : Nat} {W' : List Int} {K K' : KS} {r : Int × Nat × KS} (e : eStep (tkK B n p) (tkV B n p) m W K = (0, m', W', K')) (h : eEnd B n (tkE B n p) m' W' K' r) : eEnd B n p m W K r := by
  obtain ⟨j, hj⟩ := h
  refine ⟨j + 1, ?_⟩
  simp only [eGo]
  rw [e, if_pos rfl]
  exact hj
theorem eEnd_stop {p m m' : Nat} {f : Int} {W' : List Int} {K K' : KS} (e : eStep (tkK B n p) (tkV B n p) m W K = (f, m', W', K')) (h : f ≠ 0) : eEnd B n p m W K (f, if f = -1 then tkE B n p else tkP B n p, K') := by
  refine ⟨1, ?_⟩
  simp only [eGo]
  rw [e, if_neg h]
/-- what always holds: the knots of this E from b on stand as they must; never too many -/
def iE (b : Nat) (K0 : KS) (m : Nat) (W : List Int) (K : KS) : Prop := b ≤ K.1 ∧ (∀ i : Int, i < b → K.2 i = K0.2 i) ∧ (∀ i : Int, (b : Int) ≤ i → i < K.1 → kOk (K.2 i)) ∧ dpN K.2 b (K.1 - b) = some (bin W + (if m < 2 then 0 else 1)) ∧ tot W K ≤ 64 ∧ opn W ≤ 8 ∧ ∀ x, x ∈ W → 0 ≤ x ∧ x ≤ 13
theorem dpN_cg {f g : Int → Int} {b : Int} : ∀ {n : Nat}, (∀ i : Int, b ≤ i → i < b + n → f i = g i) → dpN f b n = dpN g b n
  | 0, _ => rfl
  | n + 1, h => by
    simp only [dpN]
    rw [dpN_cg (n := n) (fun i a c => h i a (by omega)), h (b + n) (by omega) (by omega)]
theorem dpN_add {b : Nat} {K : KS} {x : Int} (hb : b ≤ K.1) {h : Nat} (e : dpN K.2 b (K.1 - b) = some h) : dpN (addK K x).2 b ((addK K x).1 - b) = dpS x h := by
  unfold addK
  show dpN (updF K.2 K.1 x) b (K.1 + 1 - b) = _
  rw [show K.1 + 1 - b = (K.1 - b) + 1 by omega]
  simp only [dpN]
  rw [dpN_cg (f := updF K.2 K.1 x) (g := K.2) (fun i a c => if_neg (by omega)), e]
  show dpS (updF K.2 K.1 x ((b : Int) + ((K.1 - b : Nat) : Int))) h = _
  unfold updF
  rw [if_pos (by omega)]
theorem addK_old {K : KS} {x i : Int} (h : i < K.1) : (addK K x).2 i = K.2 i := if_neg (by omega)
theorem addK_new {K : KS} {x : Int} : (addK K x).2 K.1 = x := if_pos rfl
theorem stl_ok (c : Int) {b : Nat} {K0 : KS} : ∀ {W : List Int} {K : KS}, iE b K0 2 W K → iE b K0 2 (stl c W K).1 (stl c W K).2 ∧ tot (stl c W K).1 (stl c W K).2 = tot W K ∧ opn (stl c W K).1 = opn W ∧ (stl c W K).1.length ≤ W.length
  | [], K, h => ⟨h, rfl, rfl, Nat.le_refl _⟩
  | x :: W, K, h => by
    simp only [stl]
    split
    · exact ⟨h, rfl, rfl, Nat.le_refl _⟩
    · rename_i q
      obtain ⟨h1, h2, h3, h4, h5, h6, h7⟩ := h
      have hx := h7 x (List.mem_cons_self ..)
      have e1 : tot W (addK K (20000 + x)) = tot (x :: W) K := by
        unfold tot addK
        simp only [opn, List.length_cons]
        rw [if_neg (by omega)]
        omega
      have e2 : opn W = opn (x :: W) := by
        simp only [opn]
        rw [if_neg (by omega)]
        omega
      have g : iE b K0 2 W (addK K (20000 + x)) := by
        refine ⟨by show b ≤ K.1 + 1; omega, fun i hi => by rw [addK_old (by omega)]; exact h2 i hi, fun i i0 i1 => ?_, ?_, by rw [e1]; exact h5, by rw [e2]; exact h6, fun y hy => h7 y (List.mem_cons_of_mem _ hy)⟩
        · by_cases e : i = K.1
          · rw [e, addK_new]
            unfold kOk
            omega
          · have i1 : i < ((K.1 + 1 : Nat) : Int) := i1
            rw [addK_old (by omega)]
            exact h3 i i0 (by omega)
        · rw [dpN_add h1 h4, if_neg (show ¬ (2 : Nat) < 2 by decide)]
          by_cases e : x = 2
          · have hb2 : bin (x :: W) = bin W := by
              rw [bin_s, if_pos (Or.inr e), Nat.zero_add]
            rw [hb2]
            unfold dpS
            rw [if_neg (show ¬ 20000 + x < 20000 by omega), if_pos (show 20000 + x = 20002 by omega), if_pos (show 1 ≤ bin W + 1 by omega)]
          · have hb2 : bin (x :: W) = 1 + bin W := by
              rw [bin_s, if_neg (show ¬ (x = 13 ∨ x = 2) by omega)]
            rw [hb2]
            unfold dpS
            rw [if_neg (show ¬ 20000 + x < 20000 by omega), if_neg (show ¬ 20000 + x = 20002 by omega), if_pos (show 2 ≤ 1 + bin W + 1 by omega)]
            congr 1
            omega
      obtain ⟨a1, a2, a3, a4⟩ := stl_ok c g
      exact ⟨a1, a2.trans e1, a3.trans e2, by rw [List.length_cons]; omega⟩
theorem stl_top (c : Int) : ∀ {W : List Int} {K : KS}, (stl c W K).1 = [] ∨ ∃ x V, (stl c W K).1 = x :: V ∧ (x = 13 ∨ clo x < c)
  | [], _ => Or.inl rfl
  | x :: W, K => by
    simp only [stl]
    split
    · rename_i q
      exact Or.inr ⟨x, W, rfl, q⟩
    · exact stl_top c
theorem clo_f : ∀ x : Fin 16, 0 ≤ clo ((x : Nat) : Int) ∧ clo ((x : Nat) : Int) ≤ 6 ∧ (((x : Nat) : Int) < 13 → 1 ≤ clo ((x : Nat) : Int)) := by decide +kernel
theorem clo_R {x : Int} (h : 0 ≤ x ∧ x < 16) : 0 ≤ clo x ∧ clo x ≤ 6 ∧ (x < 13 → 1 ≤ clo x) := by
  have := clo_f ⟨x.toNat, by omega⟩
  simp only [Int.toNat_of_nonneg h.1] at this
  exact this
theorem jsg_R {k vqq : Int} (h : tkR k vqq) : jsg k vqq = -1 ∨ (0 ≤ jsg k vqq ∧ jsg k vqq < 13 ∧ jsg k vqq ≠ 2) := by
  unfold jsg
  have := h.2.2.2.2.2
  split
  · omega
  · split
    · omega
    · exact Or.inl rfl
theorem opn_in : ∀ {W : List Int}, 0 < opn W → ∃ U V, W = U ++ 13 :: V
  | [], h => by simp [opn] at h
  | x :: W, h => by
    by_cases e : x = 13
    · exact ⟨[], W, by rw [e]; rfl⟩
    · simp only [opn] at h
      rw [if_neg e] at h
      obtain ⟨U, V, g⟩ := opn_in (W := W) (by omega)
      exact ⟨x :: U, V, by rw [g]; rfl⟩
/-- all that waits behind the last '(' binds as closely as 1 -/
theorem stl_open : ∀ {W : List Int} {K : KS}, 0 < opn W → (∀ x, x ∈ W → 0 ≤ x ∧ x ≤ 13) → ∃ V, (stl 1 W K).1 = 13 :: V
  | [], _, h, _ => by simp [opn] at h
  | x :: W, K, h, g => by
    have hx := g x (List.mem_cons_self ..)
    by_cases e : x = 13
    · simp only [stl]
      rw [if_pos (Or.inl e)]
      exact ⟨W, by rw [e]⟩
    · have c := (clo_R (x := x) (by omega)).2.2 (by omega)
      simp only [stl]
      rw [if_neg (by omega)]
      simp only [opn] at h
      rw [if_neg e] at h
      exact stl_open (by omega) (fun y hy => g y (List.mem_cons_of_mem _ hy))
theorem eStep_ok {k vqq : Int} {m m' b : Nat} {W W' : List Int} {K K' K0 : KS} (hr : tkR k vqq) (hm : m ≤ 2) (h : iE b K0 m W K) (e : eStep k vqq m W K = (0, m', W', K')) : iE b K0 m' W' K' ∧ m' ≤ 2 := by
  have add : ∀ x : Int, m < 2 → kOk x → x < 20000 → tot W K < 64 → iE b K0 2 W (addK K x) := fun x hm2 hx hx2 ht => by
    obtain ⟨h1, h2, h3, h4, h5, h6, h7⟩ := h
    refine ⟨by show b ≤ K.1 + 1; omega, fun i hi => by rw [addK_old (by omega)]; exact h2 i hi, fun i i0 i1 => ?_, ?_, ?_, h6, h7⟩
    · by_cases e : i = K.1
      · rw [e, addK_new]
        exact hx
      · have i1 : i < ((K.1 + 1 : Nat) : Int) := i1
        rw [addK_old (by omega)]
        exact h3 i i0 (by omega)
    · rw [dpN_add h1 h4, if_pos hm2]
      unfold dpS
      rw [if_pos hx2]
      rfl
    · unfold tot addK at *
      show ((K.1 + 1 : Nat) : Int) + _ - _ ≤ 64
      omega
  unfold eStep at e
  by_cases hm2 : m < 2
  · rw [if_pos hm2] at e
    split at e
    · split at e
      · cases e
      · rename_i q2
        cases e
        obtain ⟨h1, h2, h3, h4, h5, h6, h7⟩ := h
        refine ⟨⟨h1, h2, h3, ?_, ?_, ?_, ?_⟩, by omega⟩
        · have hb2 : bin (13 :: W) = bin W := by
            rw [bin_s, if_pos (Or.inl rfl), Nat.zero_add]
          rw [h4, if_pos hm2, hb2, if_pos (show (0 : Nat) < 2 by decide)]
        · unfold tot at *
          simp only [opn, List.length_cons, if_pos]
          omega
        · simp only [opn, if_pos]
          omega
        · intro x hx
          rcases List.mem_cons.mp hx with hx | hx
          · omega
          · exact h7 x hx
    · split at e
      · split at e
        · cases e
        · rename_i q2
          cases e
          obtain ⟨h1, h2, h3, h4, h5, h6, h7⟩ := h
          refine ⟨⟨h1, h2, h3, ?_, ?_, ?_, ?_⟩, by omega⟩
          · have hb2 : bin (2 :: W) = bin W := by
              rw [bin_s, if_pos (show (2 : Int) = 13 ∨ (2 : Int) = 2 from Or.inr rfl), Nat.zero_add]
            rw [h4, hb2]
          · unfold tot at *
            simp only [opn, List.length_cons]
            rw [if_neg (by omega)]
            omega
          · simp only [opn]
            rw [if_neg (by omega)]
            omega
          · intro x hx
            rcases List.mem_cons.mp hx with hx | hx
            · omega
            · exact h7 x hx
      · split at e
        · split at e
          · cases e
          · rename_i q1 q2
            cases e
            have := hr.2.2.1 q1
            exact ⟨add vqq hm2 (by unfold kOk; omega) (by omega) (by omega), by omega⟩
        · split at e
          · split at e
            · cases e
            · rename_i q1 q2
              cases e
              have := hr.2.2.2.2.1 q1.1
              exact ⟨add _ hm2 (by unfold kOk; omega) (by omega) (by omega), by omega⟩
          · cases e
  · rw [if_neg hm2] at e
    have em : m = 2 := by omega
    subst em
    split at e
    · cases e
    · split at e
      · rename_i q
        cases e
        have g := stl_ok 1 h
        obtain ⟨V, hV⟩ := stl_open (K := K) q.2.2 h.2.2.2.2.2.2
        rw [hV] at g ⊢
        obtain ⟨⟨h1, h2, h3, h4, h5, h6, h7⟩, g2, g3, g4⟩ := g
        refine ⟨⟨h1, h2, h3, ?_, ?_, ?_, fun x hx => h7 x (List.mem_cons_of_mem _ hx)⟩, by omega⟩
        · have hb2 : bin (13 :: V) = bin V := by
            rw [bin_s, if_pos (Or.inl rfl), Nat.zero_add]
          rw [h4, hb2]
          rfl
        · unfold tot at h5 ⊢
          rw [opn_s, if_pos rfl, List.length_cons] at h5
          rw [List.tail_cons]
          omega
        · rw [opn_s, if_pos rfl] at h6
          rw [List.tail_cons]
          omega
      · split at e
        · cases e
        · split at e
          · cases e
          · split at e
            · cases e
            · rename_i q1 q2 q3 q4 q5
              cases e
              have jR := jsg_R hr
              obtain ⟨⟨h1, h2, h3, h4, h5, h6, h7⟩, g2, g3, g4⟩ := stl_ok (cl5 (jsg k vqq)) h
              refine ⟨⟨h1, h2, h3, ?_, ?_, ?_, ?_⟩, by split <;> omega⟩
              · have hb2 : bin (jsg k vqq :: (stl (cl5 (jsg k vqq)) W K).1) = 1 + bin (stl (cl5 (jsg k vqq)) W K).1 := by
                  rw [bin_s, if_neg (show ¬ (jsg k vqq = 13 ∨ jsg k vqq = 2) by omega)]
                have hm3 : (if clo (jsg k vqq) ≤ 2 then 0 else 1 : Nat) < 2 := by split <;> omega
                rw [h4, hb2, if_neg (show ¬ (2 : Nat) < 2 by decide), if_pos hm3]
                congr 1
                omega
              · unfold tot at *
                simp only [opn, List.length_cons]
                rw [if_neg (by omega)]
                omega
              · simp only [opn]
                rw [if_neg (by omega)]
                omega
              · intro x hx
                rcases List.mem_cons.mp hx with hx | hx
                · omega
                · exact h7 x hx
end TX8
