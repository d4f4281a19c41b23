/-! LEAN: rows of codes; a pair taken out; what is left when there is none -/
section LN2
variable {c c' e : Int → Int} {n vqq : Nat} {x : Int}
def Ph (c : Int → Int) : Nat → Int → List Int
  | 0 => fun _ => []
  | n + 1 => sg (c n) (Ph c n)
theorem Ph_inv : ∀ n : Nat, Inv (Ph c n)
  | 0 => Inv_0
  | n + 1 => Inv_sg (Ph_inv n)
theorem Ph_cg : ∀ {n : Nat}, (∀ i : Int, 0 ≤ i → i < n → c i = c' i) → Ph c n = Ph c' n
  | 0, _ => rfl
  | n + 1, h => by
    simp only [Ph]
    rw [Ph_cg (n := n) (fun i a b => h i a (by omega)), h n (by omega) (by omega)]
def rl (e : Int → Int) : Nat → List Int
  | 0 => []
  | n + 1 => e n :: rl e n
theorem rl_cg : ∀ {n : Nat}, (∀ i : Int, 0 ≤ i → i < n → c i = c' i) → rl c n = rl c' n
  | 0, _ => rfl
  | n + 1, h => by
    simp only [rl]
    rw [rl_cg (n := n) (fun i a b => h i a (by omega)), h n (by omega) (by omega)]
theorem rl_len : ∀ n : Nat, (rl e n).length = n
  | 0 => rfl
  | n + 1 => by
    simp only [rl, List.length_cons, rl_len n]
theorem rl_mem : ∀ {n : Nat} {y : Int}, y ∈ rl e n → ∃ j : Nat, j < n ∧ y = e j
  | 0, _, h => by cases h
  | n + 1, y, h => by
    rcases List.mem_cons.mp h with h | h
    · exact ⟨n, by omega, h⟩
    · obtain ⟨j, h1, h2⟩ := rl_mem h
      exact ⟨j, by omega, h2⟩
def rmv (c : Int → Int) (q : Int) : Int → Int := fun j => if j < q then c j else c (j + 1)
def sgm (e : Int → Int) (vqq : Nat) : Nat → List Int
  | 0 => []
  | k + 1 => e ((vqq + 1 + k : Nat) : Int) :: sgm e vqq k
theorem sgm_mem : ∀ {k : Nat} {y : Int}, y ∈ sgm e vqq k → ∃ j : Nat, vqq < j ∧ j < vqq + 1 + k ∧ y = e j
  | 0, _, h => by cases h
  | k + 1, y, h => by
    rcases List.mem_cons.mp h with h | h
    · exact ⟨vqq + 1 + k, by omega, by omega, h⟩
    · obtain ⟨j, h1, h2, h3⟩ := sgm_mem h
      exact ⟨j, h1, by omega, h3⟩
theorem rl_split : ∀ k : Nat, rl e (vqq + 1 + k) = sgm e vqq k ++ e vqq :: rl e vqq
  | 0 => rfl
  | k + 1 => by
    show e ((vqq + 1 + k : Nat) : Int) :: rl e (vqq + 1 + k) = e ((vqq + 1 + k : Nat) : Int) :: (sgm e vqq k ++ e vqq :: rl e vqq)
    rw [rl_split k]
theorem rl_rmv : ∀ k : Nat, rl (rmv e vqq) (vqq + k) = sgm e vqq k ++ rl e vqq
  | 0 => rl_cg (fun i i0 i1 => if_pos i1)
  | k + 1 => by
    show rmv e vqq ((vqq + k : Nat) : Int) :: rl (rmv e vqq) (vqq + k) = e ((vqq + 1 + k : Nat) : Int) :: (sgm e vqq k ++ rl e vqq)
    rw [rl_rmv k]
    congr 1
    unfold rmv
    rw [if_neg (by omega)]
    congr 1
    omega
/-- the class: the one that undoes it is the last near -/
theorem K_pop {kept last : Nat} (h : last < kept) (h1 : e last / 2 = x / 2) (h2 : sgn (e last) = -(sgn x)) (h3 : ∀ j : Nat, last < j → j < kept → ¬ ner (e j) (x / 2)) : pil (rl (rmv e last) (kept - 1)) = sg x (pil (rl e kept)) := by
  obtain ⟨k, hk⟩ : ∃ k, kept = last + 1 + k := ⟨kept - last - 1, by omega⟩
  subst hk
  have hm : ∀ y, y ∈ sgm e last k → ¬ ner y (x / 2) := fun y hy => by
    obtain ⟨j, j1, j2, j3⟩ := sgm_mem hy
    rw [j3]
    exact h3 j j1 j2
  rw [show last + 1 + k - 1 = last + k by omega, rl_rmv, rl_split]
  have hd : (pil (sgm e last k ++ e last :: rl e last) (x / 2)).head? = some (-(sgn x)) := by
    rw [pil_far hm]
    show (sy (e last) (x / 2) ++ _).head? = _
    rw [sy_p h1.symm, h2]
    rfl
  rw [sg_pop hd]
  funext q
  rw [← h1]
  exact pil_out (by rw [h1]; exact hm) q
theorem K_none {kept : Nat} (h3 : ∀ j : Nat, j < kept → ¬ ner (e j) (x / 2)) : sg x (pil (rl e kept)) = pil (x :: rl e kept) := by
  have hd : ¬ (pil (rl e kept) (x / 2)).head? = some (-(sgn x)) := by
    have := pil_far (r := []) (p := x / 2) (m := rl e kept) (fun y hy => by
      obtain ⟨j, j1, j2⟩ := rl_mem hy
      rw [j2]
      exact h3 j j1)
    rw [List.append_nil] at this
    rw [this]
    intro zqq
    cases zqq
  rw [sg_push hd]
  rfl
theorem K_push {kept last : Nat} (h : last < kept) (h1 : ner (e last) (x / 2)) (h2 : ¬ (e last / 2 = x / 2 ∧ sgn (e last) = -(sgn x))) (h3 : ∀ j : Nat, last < j → j < kept → ¬ ner (e j) (x / 2)) : sg x (pil (rl e kept)) = pil (x :: rl e kept) := by
  obtain ⟨k, hk⟩ : ∃ k, kept = last + 1 + k := ⟨kept - last - 1, by omega⟩
  subst hk
  have hm : ∀ y, y ∈ sgm e last k → ¬ ner y (x / 2) := fun y hy => by
    obtain ⟨j, j1, j2, j3⟩ := sgm_mem hy
    rw [j3]
    exact h3 j j1 j2
  have s0 := sgn_0 x
  have hd : ¬ (pil (rl e (last + 1 + k)) (x / 2)).head? = some (-(sgn x)) := by
    rw [rl_split, pil_far hm]
    show ¬ (sy (e last) (x / 2) ++ _).head? = _
    by_cases e1 : x / 2 = e last / 2
    · rw [sy_p e1]
      intro zqq
      exact h2 ⟨e1.symm, Option.some.inj zqq⟩
    · unfold ner at h1
      rw [sy_0 (by omega)]
      intro zqq
      have := Option.some.inj zqq
      omega
  rw [sg_push hd]
  rfl
/-- the reference: a pair is taken out -/
theorem Ph_out {i k : Nat} (hki : k < i) (hi : i < n) (h1 : c i / 2 = c k / 2) (h2 : sgn (c i) = -(sgn (c k))) (h3 : ∀ j : Nat, k < j → j < i → farC (c k) (c j)) : Ph (rmv (rmv c i) k) (n - 2) = Ph c n := by
  obtain ⟨d, hd⟩ : ∃ d, d = rmv (rmv c i) k := ⟨_, rfl⟩
  rw [← hd]
  have d1 : ∀ j : Int, j < k → d j = c j := fun j hj => by
    rw [hd]
    unfold rmv
    rw [if_pos hj, if_pos (by omega)]
  have d2 : ∀ j : Int, (k : Int) ≤ j → j + 1 < i → d j = c (j + 1) := fun j hj hj2 => by
    rw [hd]
    unfold rmv
    rw [if_neg (by omega), if_pos hj2]
  have d3 : ∀ j : Int, (i : Int) ≤ j + 1 → d j = c (j + 2) := fun j hj => by
    rw [hd]
    unfold rmv
    rw [if_neg (by omega), if_neg (by omega)]
    congr 1
    omega
  have s1 : ∀ m : Nat, k + 1 + m ≤ i → Ph c (k + 1 + m) = sg (c k) (Ph d (k + m)) := by
    intro m
    induction m with
    | zero =>
      intro _
      show sg (c k) (Ph c k) = sg (c k) (Ph d k)
      rw [Ph_cg (c := c) (c' := d) (n := k) (fun j j0 j1 => (d1 j j1).symm)]
    | succ m ih =>
      intro hm
      show sg (c ((k + 1 + m : Nat) : Int)) (Ph c (k + 1 + m)) = sg (c k) (sg (d ((k + m : Nat) : Int)) (Ph d (k + m)))
      rw [ih (by omega), d2 _ (by omega) (by omega), show (((k + m : Nat) : Int) + 1) = ((k + 1 + m : Nat) : Int) by omega]
      exact sg_sw (Or.symm (h3 _ (by omega) (by omega))) (Ph_inv _)
  have s2 : Ph c (i + 1) = Ph d (i - 1) := by
    have := s1 (i - (k + 1)) (by omega)
    rw [show k + 1 + (i - (k + 1)) = i by omega, show k + (i - (k + 1)) = i - 1 by omega] at this
    show sg (c i) (Ph c i) = _
    rw [this]
    exact sg_inv h1 h2 (Ph_inv _)
  have s3 : ∀ m : Nat, Ph c (i + 1 + m) = Ph d (i - 1 + m) := by
    intro m
    induction m with
    | zero => exact s2
    | succ m ih =>
      show sg (c ((i + 1 + m : Nat) : Int)) (Ph c (i + 1 + m)) = sg (d ((i - 1 + m : Nat) : Int)) (Ph d (i - 1 + m))
      rw [ih, d3 _ (by omega)]
      congr 2
      omega
  have := s3 (n - (i + 1))
  rw [show i + 1 + (n - (i + 1)) = n by omega, show i - 1 + (n - (i + 1)) = n - 2 by omega] at this
  exact this.symm
theorem rl_at {l : Int} {us : List Int} : ∀ {m : List Int} {n : Nat}, rl c n = m ++ l :: us → us.length < n ∧ l = c us.length ∧ ∀ j : Nat, us.length < j → j < n → c j ∈ m
  | [], 0, h => by cases h
  | [], n + 1, h => by
    simp only [rl, List.nil_append] at h
    have h1 := List.cons.inj h
    have := congrArg List.length h1.2
    rw [rl_len] at this
    exact ⟨by omega, by rw [← this]; exact h1.1.symm, fun j j1 j2 => by omega⟩
  | y :: m, 0, h => by cases h
  | y :: m, n + 1, h => by
    simp only [rl, List.cons_append] at h
    have h1 := List.cons.inj h
    obtain ⟨a, b, g⟩ := rl_at (m := m) (n := n) h1.2
    refine ⟨by omega, b, fun j j1 j2 => ?_⟩
    by_cases ej : j = n
    · rw [ej, h1.1]
      exact List.mem_cons_self ..
    · exact List.mem_cons_of_mem _ (g j j1 (by omega))
def irr (c : Int → Int) (n : Nat) : Prop := ∀ k i : Nat, k < i → i < n → c i / 2 = c k / 2 → sgn (c i) = -(sgn (c k)) → (∀ j : Nat, k < j → j < i → farC (c k) (c j)) → False
theorem Ph_irr (h : irr c n) : ∀ m : Nat, m ≤ n → Ph c m = pil (rl c m)
  | 0, _ => by
    funext q
    rfl
  | m + 1, hm => by
    show sg (c m) (Ph c m) = pil (c m :: rl c m)
    rw [Ph_irr h m (by omega)]
    have s0 := sgn_0 (c m)
    by_cases hd : (pil (rl c m) (c m / 2)).head? = some (-(sgn (c m)))
    · exfalso
      obtain ⟨m2, l, us, h1, h2, h3, h4⟩ := pil_at hd (by omega)
      obtain ⟨a, b, g⟩ := rl_at h1
      refine h us.length m a (by omega) ?_ ?_ (fun j j1 j2 => ?_)
      · rw [← b, h2]
      · rw [← b, h3]
        omega
      · have := h4 _ (g j j1 j2)
        rw [← b]
        unfold ner at this
        unfold farC
        omega
    · rw [sg_push hd]
      rfl
def lnA (c : Int → Int) (n : Nat) : Int := nP (Ph c n)
theorem lnA_irr (h : irr c n) (hv : ∀ i : Int, 0 ≤ i → i < n → 0 ≤ c i ∧ c i < 10) : lnA c n = n := by
  unfold lnA
  rw [Ph_irr h n (Nat.le_refl n), nP_pil (fun x hx => by
    obtain ⟨j, j1, j2⟩ := rl_mem hx
    rw [j2]
    exact hv j (by omega) (by omega)), rl_len]
theorem sgn_x {a b : Int} (ha : 0 ≤ a) (h : a = b + 1 - 2 * (b % 2)) : a / 2 = b / 2 ∧ sgn a = -(sgn b) := by
  unfold sgn
  refine ⟨by omega, ?_⟩
  split <;> split <;> omega
theorem sgn_x2 {a b : Int} (h1 : a / 2 = b / 2) (h2 : sgn a = -(sgn b)) : a = b + 1 - 2 * (b % 2) := by
  unfold sgn at h2
  split at h2 <;> split at h2 <;> omega
end LN2
