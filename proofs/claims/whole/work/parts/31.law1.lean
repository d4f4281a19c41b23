/-! WHAT A LAW'S E IS WORTH -/
section LA
variable {d : Nat} {bt : List (List PI)} {r : List PI} {ls : plocs} {st : List pv} {h : pheap} {Q : Option pv → pheap → Prop} {as : List Nat} {z : Int}
theorem lcv (x y : Int) : iR (if x < y then -1 else if x = y then 0 else 1) := by
  split
  · exact ⟨by decide, by decide⟩
  · split
    · exact ⟨by decide, by decide⟩
    · exact ⟨by decide, by decide⟩
theorem n_lif_eq {b : Nat} {x y : Int} (hx : lR x) (hy : lR y) (k1 : x = y → wp PP d bt (bt.getD b []) ls st h Q) (k2 : ¬ x = y → wp PP d bt r ls st h Q) : wp PP d bt ((46, as, z) :: (101, [0, b], z) :: r) ls (vL y :: vL x :: st) h Q := by
  refine n_lcmp hx hy (n_if_eq (lcv x y) (fun q => k1 ?_) (fun q => k2 ?_))
  all_goals
    split at q
    · omega
    · split at q <;> omega
theorem n_lif_ne {b : Nat} {x y : Int} (hx : lR x) (hy : lR y) (k1 : ¬ x = y → wp PP d bt (bt.getD b []) ls st h Q) (k2 : x = y → wp PP d bt r ls st h Q) : wp PP d bt ((46, as, z) :: (101, [1, b], z) :: r) ls (vL y :: vL x :: st) h Q := by
  refine n_lcmp hx hy (n_if_ne (lcv x y) (fun q => k1 ?_) (fun q => k2 ?_))
  all_goals
    split at q
    · omega
    · split at q <;> omega
theorem n_lif_lt {b : Nat} {x y : Int} (hx : lR x) (hy : lR y) (k1 : x < y → wp PP d bt (bt.getD b []) ls st h Q) (k2 : y ≤ x → wp PP d bt r ls st h Q) : wp PP d bt ((46, as, z) :: (101, [2, b], z) :: r) ls (vL y :: vL x :: st) h Q := by
  refine n_lcmp hx hy (n_if_lt (lcv x y) (fun q => k1 ?_) (fun q => k2 ?_))
  all_goals
    split at q
    · omega
    · split at q <;> omega
theorem n_lif_ge {b : Nat} {x y : Int} (hx : lR x) (hy : lR y) (k1 : y ≤ x → wp PP d bt (bt.getD b []) ls st h Q) (k2 : x < y → wp PP d bt r ls st h Q) : wp PP d bt ((46, as, z) :: (101, [3, b], z) :: r) ls (vL y :: vL x :: st) h Q := by
  refine n_lcmp hx hy (n_if_ge (lcv x y) (fun q => k1 ?_) (fun q => k2 ?_))
  all_goals
    split at q
    · omega
    · split at q <;> omega
theorem n_lif_gt {b : Nat} {x y : Int} (hx : lR x) (hy : lR y) (k1 : y < x → wp PP d bt (bt.getD b []) ls st h Q) (k2 : x ≤ y → wp PP d bt r ls st h Q) : wp PP d bt ((46, as, z) :: (101, [4, b], z) :: r) ls (vL y :: vL x :: st) h Q := by
  refine n_lcmp hx hy (n_if_gt (lcv x y) (fun q => k1 ?_) (fun q => k2 ?_))
  all_goals
    split at q
    · omega
    · split at q <;> omega
theorem n_lif_le {b : Nat} {x y : Int} (hx : lR x) (hy : lR y) (k1 : x ≤ y → wp PP d bt (bt.getD b []) ls st h Q) (k2 : y < x → wp PP d bt r ls st h Q) : wp PP d bt ((46, as, z) :: (101, [5, b], z) :: r) ls (vL y :: vL x :: st) h Q := by
  refine n_lcmp hx hy (n_if_le (lcv x y) (fun q => k1 ?_) (fun q => k2 ?_))
  all_goals
    split at q
    · omega
    · split at q <;> omega
end LA
section LB
variable {d a : Nat} {h0 h : pheap} {s : St} {Q : Option pv → pheap → Prop}
theorem ldiv_nn {x y : Int} (hx : 0 ≤ x ∧ x < 9223372036854775808) (hy : 0 < y ∧ y < 9223372036854775808) : l_div x y = x / y := by
  have e1 : (Int64.ofInt x).toInt = x := Int64.toInt_ofInt_of_le (by omega) (by omega)
  have e2 : (Int64.ofInt y).toInt = y := Int64.toInt_ofInt_of_le (by omega) (by omega)
  unfold l_div
  have h3 : 0 ≤ x / y := Int.ediv_nonneg hx.1 (by omega)
  have h4 : x / y ≤ x := Int.ediv_le_self _ hx.1
  rw [Int64.toInt_div, e1, e2, Int.tdiv_eq_ediv_of_nonneg hx.1]
  exact Int.bmod_eq_of_le (by omega) (by omega)
theorem ldiv_R (x y : Int) : lR (l_div x y) := ⟨Int64.le_toInt _, Int64.toInt_lt _⟩
/-- two values joined by a sign; -9223372036854775808: an error -/
def jn (g x y : Int) : Int :=
  if g = 0 then bI (x ≠ 0 ∨ y ≠ 0) else if g = 1 then bI (x ≠ 0 ∧ y ≠ 0) else if g = 3 then bI (x < y) else if g = 4 then bI (x ≤ y) else if g = 5 then bI (x = y)
  else if g = 6 then bI (¬ x = y) else if g = 7 then bI (y ≤ x) else if g = 8 then bI (y < x) else if g = 9 then x + y else if g = 10 then x - y
  else if g = 11 then (if ¬ y = 0 ∧ 1000000000000 / max y (-y) < max x (-x) then (-9223372036854775808) else x * y) else if g = 12 then (if y = 0 then (-9223372036854775808) else l_div x y) else (-9223372036854775808)
theorem mul_in {x y : Int} (hy : ¬ y = 0) (h : max x (-x) ≤ 1000000000000 / max y (-y)) : -1000000000000 ≤ x * y ∧ x * y ≤ 1000000000000 := by
  have hp : 0 < max y (-y) := by omega
  have h1 : max x (-x) * max y (-y) ≤ 1000000000000 := (Int.le_ediv_iff_mul_le hp).mp h
  have hx : 0 ≤ max x (-x) := by omega
  rcases (by omega : (max x (-x) = x) ∨ (max x (-x) = -x)) with e | e <;> rcases (by omega : (max y (-y) = y) ∨ (max y (-y) = -y)) with e2 | e2 <;> rw [e, e2] at h1
  · have : 0 ≤ x * y := Int.mul_nonneg (by omega) (by omega)
    omega
  · have : 0 ≤ x * -y := Int.mul_nonneg (by omega) (by omega)
    rw [Int.mul_neg] at this h1
    omega
  · have : 0 ≤ -x * y := Int.mul_nonneg (by omega) (by omega)
    rw [Int.neg_mul] at this h1
    omega
  · have : 0 ≤ -x * -y := Int.mul_nonneg (by omega) (by omega)
    rw [Int.neg_mul_neg] at this h1
    omega
theorem ite_lR {c : Prop} [Decidable c] {x y : Int} (h1 : c → lR x) (h2 : ¬ c → lR y) : lR (if c then x else y) := by
  by_cases h : c
  · rw [if_pos h]
    exact h1 h
  · rw [if_neg h]
    exact h2 h
theorem bI_lR (c : Prop) [Decidable c] : lR (bI c) := by
  have := bI_R c
  exact ⟨by omega, by omega⟩
theorem jn_R {g x y : Int} (hx : -1000000000000 ≤ x ∧ x ≤ 1000000000000) (hy : -1000000000000 ≤ y ∧ y ≤ 1000000000000) : lR (jn g x y) := by
  unfold jn
  refine ite_lR (fun _ => bI_lR _) (fun _ => ?_)
  refine ite_lR (fun _ => bI_lR _) (fun _ => ?_)
  refine ite_lR (fun _ => bI_lR _) (fun _ => ?_)
  refine ite_lR (fun _ => bI_lR _) (fun _ => ?_)
  refine ite_lR (fun _ => bI_lR _) (fun _ => ?_)
  refine ite_lR (fun _ => bI_lR _) (fun _ => ?_)
  refine ite_lR (fun _ => bI_lR _) (fun _ => ?_)
  refine ite_lR (fun _ => bI_lR _) (fun _ => ?_)
  refine ite_lR (fun _ => ⟨by omega, by omega⟩) (fun _ => ?_)
  refine ite_lR (fun _ => ⟨by omega, by omega⟩) (fun _ => ?_)
  refine ite_lR (fun _ => ite_lR (fun _ => ⟨by omega, by omega⟩) (fun hh => ?_)) (fun _ => ?_)
  · by_cases y0 : y = 0
    · rw [y0, Int.mul_zero]
      exact ⟨by omega, by omega⟩
    · have := mul_in (x := x) (y := y) y0 (Int.not_lt.mp (fun w => hh ⟨y0, w⟩))
      exact ⟨by omega, by omega⟩
  · exact ite_lR (fun _ => ite_lR (fun _ => ⟨by omega, by omega⟩) (fun _ => ldiv_R x y)) (fun _ => ⟨by omega, by omega⟩)
theorem jn_0 (x y : Int) : jn 0 x y = (bI (x ≠ 0 ∨ y ≠ 0)) := by
  unfold jn
  rw [if_pos rfl]
theorem jn_1 (x y : Int) : jn 1 x y = (bI (x ≠ 0 ∧ y ≠ 0)) := by
  unfold jn
  rw [if_neg (by decide), if_pos rfl]
theorem jn_3 (x y : Int) : jn 3 x y = (bI (x < y)) := by
  unfold jn
  rw [if_neg (by decide), if_neg (by decide), if_pos rfl]
theorem jn_4 (x y : Int) : jn 4 x y = (bI (x ≤ y)) := by
  unfold jn
  rw [if_neg (by decide), if_neg (by decide), if_neg (by decide), if_pos rfl]
theorem jn_5 (x y : Int) : jn 5 x y = (bI (x = y)) := by
  unfold jn
  rw [if_neg (by decide), if_neg (by decide), if_neg (by decide), if_neg (by decide), if_pos rfl]
theorem jn_6 (x y : Int) : jn 6 x y = (bI (¬ x = y)) := by
  unfold jn
  rw [if_neg (by decide), if_neg (by decide), if_neg (by decide), if_neg (by decide), if_neg (by decide), if_pos rfl]
theorem jn_7 (x y : Int) : jn 7 x y = (bI (y ≤ x)) := by
  unfold jn
  rw [if_neg (by decide), if_neg (by decide), if_neg (by decide), if_neg (by decide), if_neg (by decide), if_neg (by decide), if_pos rfl]
theorem jn_8 (x y : Int) : jn 8 x y = (bI (y < x)) := by
  unfold jn
  rw [if_neg (by decide), if_neg (by decide), if_neg (by decide), if_neg (by decide), if_neg (by decide), if_neg (by decide), if_neg (by decide), if_pos rfl]
theorem jn_9 (x y : Int) : jn 9 x y = (x + y) := by
  unfold jn
  rw [if_neg (by decide), if_neg (by decide), if_neg (by decide), if_neg (by decide), if_neg (by decide), if_neg (by decide), if_neg (by decide), if_neg (by decide), if_pos rfl]
theorem jn_10 (x y : Int) : jn 10 x y = (x - y) := by
  unfold jn
  rw [if_neg (by decide), if_neg (by decide), if_neg (by decide), if_neg (by decide), if_neg (by decide), if_neg (by decide), if_neg (by decide), if_neg (by decide), if_neg (by decide), if_pos rfl]
theorem jn_11 (x y : Int) : jn 11 x y = (if ¬ y = 0 ∧ 1000000000000 / max y (-y) < max x (-x) then (-9223372036854775808) else x * y) := by
  unfold jn
  rw [if_neg (by decide), if_neg (by decide), if_neg (by decide), if_neg (by decide), if_neg (by decide), if_neg (by decide), if_neg (by decide), if_neg (by decide), if_neg (by decide), if_neg (by decide), if_pos rfl]
theorem jn_12 (x y : Int) : jn 12 x y = (if y = 0 then (-9223372036854775808) else l_div x y) := by
  unfold jn
  rw [if_neg (by decide), if_neg (by decide), if_neg (by decide), if_neg (by decide), if_neg (by decide), if_neg (by decide), if_neg (by decide), if_neg (by decide), if_neg (by decide), if_neg (by decide), if_neg (by decide), if_pos rfl]
theorem m_joined {g x y : Int} (hd : 8 ≤ d) (hg : 0 ≤ g ∧ g ≤ 12) (hx : -1000000000000 ≤ x ∧ x ≤ 1000000000000) (hy : -1000000000000 ≤ y ∧ y ≤ 1000000000000) (k : Q (some (vL (jn g x y))) h) : wpM PP d 255 [vI g, vL x, vL y] h Q := by
  refine n_at (m := 255) (q := mr255) (kn := (1, 3)) [some (vI _), some (vL _), none, some (vL _), none] mb255 rfl rfl rfl (Nat.le_of_ble_eq_true rfl) rfl rfl ?_
  refine x_iload rfl ?_
  refine n_tsw 13 rfl ⟨by omega, by omega⟩ (fun c1 => ?_) (And.intro (fun c1 => ?_) (And.intro (fun c1 => ?_) (And.intro (fun c1 => ?_) (And.intro (fun c1 => ?_) (And.intro (fun c1 => ?_) (And.intro (fun c1 => ?_) (And.intro (fun c1 => ?_) (And.intro (fun c1 => ?_) (And.intro (fun c1 => ?_) (And.intro (fun c1 => ?_) (And.intro (fun c1 => ?_) (And.intro (fun c1 => ?_) (And.intro (fun c1 => ?_) trivial)))))))))))))
  · refine x_cl ?_
    refine x_lret ?_
    first
      | (have ge : g = 0 := by omega
         subst ge
         rw [jn_0] at k
         first | exact cL k (bI_t (by omega)) | exact cL k (bI_f (by omega)))
      | (have ge : g = 1 := by omega
         subst ge
         rw [jn_1] at k
         first | exact cL k (bI_t (by omega)) | exact cL k (bI_f (by omega)))
      | (have ge : g = 3 := by omega
         subst ge
         rw [jn_3] at k
         first | exact cL k (bI_t (by omega)) | exact cL k (bI_f (by omega)))
      | (have ge : g = 4 := by omega
         subst ge
         rw [jn_4] at k
         first | exact cL k (bI_t (by omega)) | exact cL k (bI_f (by omega)))
      | (have ge : g = 5 := by omega
         subst ge
         rw [jn_5] at k
         first | exact cL k (bI_t (by omega)) | exact cL k (bI_f (by omega)))
      | (have ge : g = 6 := by omega
         subst ge
         rw [jn_6] at k
         first | exact cL k (bI_t (by omega)) | exact cL k (bI_f (by omega)))
      | (have ge : g = 7 := by omega
         subst ge
         rw [jn_7] at k
         first | exact cL k (bI_t (by omega)) | exact cL k (bI_f (by omega)))
      | (have ge : g = 8 := by omega
         subst ge
         rw [jn_8] at k
         first | exact cL k (bI_t (by omega)) | exact cL k (bI_f (by omega)))
      | (have ge : g = 9 := by omega
         subst ge
         rw [jn_9] at k
         exact k)
      | (have ge : g = 10 := by omega
         subst ge
         rw [jn_10] at k
         exact k)
      | (have ge : g = 2 := by omega
         subst ge
         exact k)
      | (have ge : g = 11 := by omega
         subst ge
         rw [jn_11] at k
         first | exact cL k (if_pos ⟨by omega, by omega⟩) | exact cL k (if_neg (by omega)))
      | (have ge : g = 12 := by omega
         subst ge
         rw [jn_12] at k
         first | exact cL k (if_pos (by omega)) | exact cL k (if_neg (by omega)))
  · refine x_lload rfl ?_
    refine x_cl ?_
    refine n_lif_ne ⟨by omega, by omega⟩ ⟨by omega, by omega⟩ (fun c2 => ?_) (fun c2 => ?_)
    · refine x_ci ?_
      refine x_goto ?_
      refine n_call [vI _] [] (by omega) (Nat.le_of_ble_eq_true rfl) rfl rfl (Nat.le_of_ble_eq_true rfl) ?_
      refine m_bit (by first | exact bI_01 _ | omega) ?_
      show wp PP _ _ _ [some (vI _), some (vL _), _, some (vL _), _] [vI _] _ _
      refine n_i2l ⟨by omega, by omega⟩ ?_
      refine x_lret ?_
      first
        | (have ge : g = 0 := by omega
           subst ge
           rw [jn_0] at k
           first | exact cL k (bI_t (by omega)) | exact cL k (bI_f (by omega)))
        | (have ge : g = 1 := by omega
           subst ge
           rw [jn_1] at k
           first | exact cL k (bI_t (by omega)) | exact cL k (bI_f (by omega)))
        | (have ge : g = 3 := by omega
           subst ge
           rw [jn_3] at k
           first | exact cL k (bI_t (by omega)) | exact cL k (bI_f (by omega)))
        | (have ge : g = 4 := by omega
           subst ge
           rw [jn_4] at k
           first | exact cL k (bI_t (by omega)) | exact cL k (bI_f (by omega)))
        | (have ge : g = 5 := by omega
           subst ge
           rw [jn_5] at k
           first | exact cL k (bI_t (by omega)) | exact cL k (bI_f (by omega)))
        | (have ge : g = 6 := by omega
           subst ge
           rw [jn_6] at k
           first | exact cL k (bI_t (by omega)) | exact cL k (bI_f (by omega)))
        | (have ge : g = 7 := by omega
           subst ge
           rw [jn_7] at k
           first | exact cL k (bI_t (by omega)) | exact cL k (bI_f (by omega)))
        | (have ge : g = 8 := by omega
           subst ge
           rw [jn_8] at k
           first | exact cL k (bI_t (by omega)) | exact cL k (bI_f (by omega)))
        | (have ge : g = 9 := by omega
           subst ge
           rw [jn_9] at k
           exact k)
        | (have ge : g = 10 := by omega
           subst ge
           rw [jn_10] at k
           exact k)
        | (have ge : g = 2 := by omega
           subst ge
           exact k)
        | (have ge : g = 11 := by omega
           subst ge
           rw [jn_11] at k
           first | exact cL k (if_pos ⟨by omega, by omega⟩) | exact cL k (if_neg (by omega)))
        | (have ge : g = 12 := by omega
           subst ge
           rw [jn_12] at k
           first | exact cL k (if_pos (by omega)) | exact cL k (if_neg (by omega)))
    · refine x_lload rfl ?_
      refine x_cl ?_
      refine n_lif_eq ⟨by omega, by omega⟩ ⟨by omega, by omega⟩ (fun c3 => ?_) (fun c3 => ?_)
      · refine x_ci ?_
        refine x_fall ?_
        refine n_call [vI _] [] (by omega) (Nat.le_of_ble_eq_true rfl) rfl rfl (Nat.le_of_ble_eq_true rfl) ?_
        refine m_bit (by first | exact bI_01 _ | omega) ?_
        show wp PP _ _ _ [some (vI _), some (vL _), _, some (vL _), _] [vI _] _ _
        refine n_i2l ⟨by omega, by omega⟩ ?_
        refine x_lret ?_
        first
          | (have ge : g = 0 := by omega
             subst ge
             rw [jn_0] at k
             first | exact cL k (bI_t (by omega)) | exact cL k (bI_f (by omega)))
          | (have ge : g = 1 := by omega
             subst ge
             rw [jn_1] at k
             first | exact cL k (bI_t (by omega)) | exact cL k (bI_f (by omega)))
          | (have ge : g = 3 := by omega
             subst ge
             rw [jn_3] at k
             first | exact cL k (bI_t (by omega)) | exact cL k (bI_f (by omega)))
          | (have ge : g = 4 := by omega
             subst ge
             rw [jn_4] at k
             first | exact cL k (bI_t (by omega)) | exact cL k (bI_f (by omega)))
          | (have ge : g = 5 := by omega
             subst ge
             rw [jn_5] at k
             first | exact cL k (bI_t (by omega)) | exact cL k (bI_f (by omega)))
          | (have ge : g = 6 := by omega
             subst ge
             rw [jn_6] at k
             first | exact cL k (bI_t (by omega)) | exact cL k (bI_f (by omega)))
          | (have ge : g = 7 := by omega
             subst ge
             rw [jn_7] at k
             first | exact cL k (bI_t (by omega)) | exact cL k (bI_f (by omega)))
          | (have ge : g = 8 := by omega
             subst ge
             rw [jn_8] at k
             first | exact cL k (bI_t (by omega)) | exact cL k (bI_f (by omega)))
          | (have ge : g = 9 := by omega
             subst ge
             rw [jn_9] at k
             exact k)
          | (have ge : g = 10 := by omega
             subst ge
             rw [jn_10] at k
             exact k)
          | (have ge : g = 2 := by omega
             subst ge
             exact k)
          | (have ge : g = 11 := by omega
             subst ge
             rw [jn_11] at k
             first | exact cL k (if_pos ⟨by omega, by omega⟩) | exact cL k (if_neg (by omega)))
          | (have ge : g = 12 := by omega
             subst ge
             rw [jn_12] at k
             first | exact cL k (if_pos (by omega)) | exact cL k (if_neg (by omega)))
      · refine x_fall ?_
        refine x_ci ?_
        refine x_goto ?_
        refine n_call [vI _] [] (by omega) (Nat.le_of_ble_eq_true rfl) rfl rfl (Nat.le_of_ble_eq_true rfl) ?_
        refine m_bit (by first | exact bI_01 _ | omega) ?_
        show wp PP _ _ _ [some (vI _), some (vL _), _, some (vL _), _] [vI _] _ _
        refine n_i2l ⟨by omega, by omega⟩ ?_
        refine x_lret ?_
        first
          | (have ge : g = 0 := by omega
             subst ge
             rw [jn_0] at k
             first | exact cL k (bI_t (by omega)) | exact cL k (bI_f (by omega)))
          | (have ge : g = 1 := by omega
             subst ge
             rw [jn_1] at k
             first | exact cL k (bI_t (by omega)) | exact cL k (bI_f (by omega)))
          | (have ge : g = 3 := by omega
             subst ge
             rw [jn_3] at k
             first | exact cL k (bI_t (by omega)) | exact cL k (bI_f (by omega)))
          | (have ge : g = 4 := by omega
             subst ge
             rw [jn_4] at k
             first | exact cL k (bI_t (by omega)) | exact cL k (bI_f (by omega)))
          | (have ge : g = 5 := by omega
             subst ge
             rw [jn_5] at k
             first | exact cL k (bI_t (by omega)) | exact cL k (bI_f (by omega)))
          | (have ge : g = 6 := by omega
             subst ge
             rw [jn_6] at k
             first | exact cL k (bI_t (by omega)) | exact cL k (bI_f (by omega)))
          | (have ge : g = 7 := by omega
             subst ge
             rw [jn_7] at k
             first | exact cL k (bI_t (by omega)) | exact cL k (bI_f (by omega)))
          | (have ge : g = 8 := by omega
             subst ge
             rw [jn_8] at k
             first | exact cL k (bI_t (by omega)) | exact cL k (bI_f (by omega)))
          | (have ge : g = 9 := by omega
             subst ge
             rw [jn_9] at k
             exact k)
          | (have ge : g = 10 := by omega
             subst ge
             rw [jn_10] at k
             exact k)
          | (have ge : g = 2 := by omega
             subst ge
             exact k)
          | (have ge : g = 11 := by omega
             subst ge
             rw [jn_11] at k
             first | exact cL k (if_pos ⟨by omega, by omega⟩) | exact cL k (if_neg (by omega)))
          | (have ge : g = 12 := by omega
             subst ge
             rw [jn_12] at k
             first | exact cL k (if_pos (by omega)) | exact cL k (if_neg (by omega)))
  · refine x_lload rfl ?_
    refine x_cl ?_
    refine n_lif_eq ⟨by omega, by omega⟩ ⟨by omega, by omega⟩ (fun c2 => ?_) (fun c2 => ?_)
    · refine x_ci ?_
      refine x_fall ?_
      refine n_call [vI _] [] (by omega) (Nat.le_of_ble_eq_true rfl) rfl rfl (Nat.le_of_ble_eq_true rfl) ?_
      refine m_bit (by first | exact bI_01 _ | omega) ?_
      show wp PP _ _ _ [some (vI _), some (vL _), _, some (vL _), _] [vI _] _ _
      refine n_i2l ⟨by omega, by omega⟩ ?_
      refine x_lret ?_
      first
        | (have ge : g = 0 := by omega
           subst ge
           rw [jn_0] at k
           first | exact cL k (bI_t (by omega)) | exact cL k (bI_f (by omega)))
        | (have ge : g = 1 := by omega
           subst ge
           rw [jn_1] at k
           first | exact cL k (bI_t (by omega)) | exact cL k (bI_f (by omega)))
        | (have ge : g = 3 := by omega
           subst ge
           rw [jn_3] at k
           first | exact cL k (bI_t (by omega)) | exact cL k (bI_f (by omega)))
        | (have ge : g = 4 := by omega
           subst ge
           rw [jn_4] at k
           first | exact cL k (bI_t (by omega)) | exact cL k (bI_f (by omega)))
        | (have ge : g = 5 := by omega
           subst ge
           rw [jn_5] at k
           first | exact cL k (bI_t (by omega)) | exact cL k (bI_f (by omega)))
        | (have ge : g = 6 := by omega
           subst ge
           rw [jn_6] at k
           first | exact cL k (bI_t (by omega)) | exact cL k (bI_f (by omega)))
        | (have ge : g = 7 := by omega
           subst ge
           rw [jn_7] at k
           first | exact cL k (bI_t (by omega)) | exact cL k (bI_f (by omega)))
        | (have ge : g = 8 := by omega
           subst ge
           rw [jn_8] at k
           first | exact cL k (bI_t (by omega)) | exact cL k (bI_f (by omega)))
        | (have ge : g = 9 := by omega
           subst ge
           rw [jn_9] at k
           exact k)
        | (have ge : g = 10 := by omega
           subst ge
           rw [jn_10] at k
           exact k)
        | (have ge : g = 2 := by omega
           subst ge
           exact k)
        | (have ge : g = 11 := by omega
           subst ge
           rw [jn_11] at k
           first | exact cL k (if_pos ⟨by omega, by omega⟩) | exact cL k (if_neg (by omega)))
        | (have ge : g = 12 := by omega
           subst ge
           rw [jn_12] at k
           first | exact cL k (if_pos (by omega)) | exact cL k (if_neg (by omega)))
    · refine x_lload rfl ?_
      refine x_cl ?_
      refine n_lif_eq ⟨by omega, by omega⟩ ⟨by omega, by omega⟩ (fun c3 => ?_) (fun c3 => ?_)
      · refine x_ci ?_
        refine x_fall ?_
        refine n_call [vI _] [] (by omega) (Nat.le_of_ble_eq_true rfl) rfl rfl (Nat.le_of_ble_eq_true rfl) ?_
        refine m_bit (by first | exact bI_01 _ | omega) ?_
        show wp PP _ _ _ [some (vI _), some (vL _), _, some (vL _), _] [vI _] _ _
        refine n_i2l ⟨by omega, by omega⟩ ?_
        refine x_lret ?_
        first
          | (have ge : g = 0 := by omega
             subst ge
             rw [jn_0] at k
             first | exact cL k (bI_t (by omega)) | exact cL k (bI_f (by omega)))
          | (have ge : g = 1 := by omega
             subst ge
             rw [jn_1] at k
             first | exact cL k (bI_t (by omega)) | exact cL k (bI_f (by omega)))
          | (have ge : g = 3 := by omega
             subst ge
             rw [jn_3] at k
             first | exact cL k (bI_t (by omega)) | exact cL k (bI_f (by omega)))
          | (have ge : g = 4 := by omega
             subst ge
             rw [jn_4] at k
             first | exact cL k (bI_t (by omega)) | exact cL k (bI_f (by omega)))
          | (have ge : g = 5 := by omega
             subst ge
             rw [jn_5] at k
             first | exact cL k (bI_t (by omega)) | exact cL k (bI_f (by omega)))
          | (have ge : g = 6 := by omega
             subst ge
             rw [jn_6] at k
             first | exact cL k (bI_t (by omega)) | exact cL k (bI_f (by omega)))
          | (have ge : g = 7 := by omega
             subst ge
             rw [jn_7] at k
             first | exact cL k (bI_t (by omega)) | exact cL k (bI_f (by omega)))
          | (have ge : g = 8 := by omega
             subst ge
             rw [jn_8] at k
             first | exact cL k (bI_t (by omega)) | exact cL k (bI_f (by omega)))
          | (have ge : g = 9 := by omega
             subst ge
             rw [jn_9] at k
             exact k)
          | (have ge : g = 10 := by omega
             subst ge
             rw [jn_10] at k
             exact k)
          | (have ge : g = 2 := by omega
             subst ge
             exact k)
          | (have ge : g = 11 := by omega
             subst ge
             rw [jn_11] at k
             first | exact cL k (if_pos ⟨by omega, by omega⟩) | exact cL k (if_neg (by omega)))
          | (have ge : g = 12 := by omega
             subst ge
             rw [jn_12] at k
             first | exact cL k (if_pos (by omega)) | exact cL k (if_neg (by omega)))
      · refine x_ci ?_
        refine x_goto ?_
        refine n_call [vI _] [] (by omega) (Nat.le_of_ble_eq_true rfl) rfl rfl (Nat.le_of_ble_eq_true rfl) ?_
        refine m_bit (by first | exact bI_01 _ | omega) ?_
        show wp PP _ _ _ [some (vI _), some (vL _), _, some (vL _), _] [vI _] _ _
        refine n_i2l ⟨by omega, by omega⟩ ?_
        refine x_lret ?_
        first
          | (have ge : g = 0 := by omega
             subst ge
             rw [jn_0] at k
             first | exact cL k (bI_t (by omega)) | exact cL k (bI_f (by omega)))
          | (have ge : g = 1 := by omega
             subst ge
             rw [jn_1] at k
             first | exact cL k (bI_t (by omega)) | exact cL k (bI_f (by omega)))
          | (have ge : g = 3 := by omega
             subst ge
             rw [jn_3] at k
             first | exact cL k (bI_t (by omega)) | exact cL k (bI_f (by omega)))
          | (have ge : g = 4 := by omega
             subst ge
             rw [jn_4] at k
             first | exact cL k (bI_t (by omega)) | exact cL k (bI_f (by omega)))
          | (have ge : g = 5 := by omega
             subst ge
             rw [jn_5] at k
             first | exact cL k (bI_t (by omega)) | exact cL k (bI_f (by omega)))
          | (have ge : g = 6 := by omega
             subst ge
             rw [jn_6] at k
             first | exact cL k (bI_t (by omega)) | exact cL k (bI_f (by omega)))
          | (have ge : g = 7 := by omega
             subst ge
             rw [jn_7] at k
             first | exact cL k (bI_t (by omega)) | exact cL k (bI_f (by omega)))
          | (have ge : g = 8 := by omega
             subst ge
             rw [jn_8] at k
             first | exact cL k (bI_t (by omega)) | exact cL k (bI_f (by omega)))
          | (have ge : g = 9 := by omega
             subst ge
             rw [jn_9] at k
             exact k)
          | (have ge : g = 10 := by omega
             subst ge
             rw [jn_10] at k
             exact k)
          | (have ge : g = 2 := by omega
             subst ge
             exact k)
          | (have ge : g = 11 := by omega
             subst ge
             rw [jn_11] at k
             first | exact cL k (if_pos ⟨by omega, by omega⟩) | exact cL k (if_neg (by omega)))
          | (have ge : g = 12 := by omega
             subst ge
             rw [jn_12] at k
             first | exact cL k (if_pos (by omega)) | exact cL k (if_neg (by omega)))
  · refine x_cl ?_
    refine x_lret ?_
    first
      | (have ge : g = 0 := by omega
         subst ge
         rw [jn_0] at k
         first | exact cL k (bI_t (by omega)) | exact cL k (bI_f (by omega)))
      | (have ge : g = 1 := by omega
         subst ge
         rw [jn_1] at k
         first | exact cL k (bI_t (by omega)) | exact cL k (bI_f (by omega)))
      | (have ge : g = 3 := by omega
         subst ge
         rw [jn_3] at k
         first | exact cL k (bI_t (by omega)) | exact cL k (bI_f (by omega)))
      | (have ge : g = 4 := by omega
         subst ge
         rw [jn_4] at k
         first | exact cL k (bI_t (by omega)) | exact cL k (bI_f (by omega)))
      | (have ge : g = 5 := by omega
         subst ge
         rw [jn_5] at k
         first | exact cL k (bI_t (by omega)) | exact cL k (bI_f (by omega)))
      | (have ge : g = 6 := by omega
         subst ge
         rw [jn_6] at k
         first | exact cL k (bI_t (by omega)) | exact cL k (bI_f (by omega)))
      | (have ge : g = 7 := by omega
         subst ge
         rw [jn_7] at k
         first | exact cL k (bI_t (by omega)) | exact cL k (bI_f (by omega)))
      | (have ge : g = 8 := by omega
         subst ge
         rw [jn_8] at k
         first | exact cL k (bI_t (by omega)) | exact cL k (bI_f (by omega)))
      | (have ge : g = 9 := by omega
         subst ge
         rw [jn_9] at k
         exact k)
      | (have ge : g = 10 := by omega
         subst ge
         rw [jn_10] at k
         exact k)
      | (have ge : g = 2 := by omega
         subst ge
         exact k)
      | (have ge : g = 11 := by omega
         subst ge
         rw [jn_11] at k
         first | exact cL k (if_pos ⟨by omega, by omega⟩) | exact cL k (if_neg (by omega)))
      | (have ge : g = 12 := by omega
         subst ge
         rw [jn_12] at k
         first | exact cL k (if_pos (by omega)) | exact cL k (if_neg (by omega)))
  · refine x_lload rfl ?_
    refine x_lload rfl ?_
    refine n_lif_ge ⟨by omega, by omega⟩ ⟨by omega, by omega⟩ (fun c2 => ?_) (fun c2 => ?_)
    · refine x_ci ?_
      refine x_fall ?_
      refine n_call [vI _] [] (by omega) (Nat.le_of_ble_eq_true rfl) rfl rfl (Nat.le_of_ble_eq_true rfl) ?_
      refine m_bit (by first | exact bI_01 _ | omega) ?_
      show wp PP _ _ _ [some (vI _), some (vL _), _, some (vL _), _] [vI _] _ _
      refine n_i2l ⟨by omega, by omega⟩ ?_
      refine x_lret ?_
      first
        | (have ge : g = 0 := by omega
           subst ge
           rw [jn_0] at k
           first | exact cL k (bI_t (by omega)) | exact cL k (bI_f (by omega)))
        | (have ge : g = 1 := by omega
           subst ge
           rw [jn_1] at k
           first | exact cL k (bI_t (by omega)) | exact cL k (bI_f (by omega)))
        | (have ge : g = 3 := by omega
           subst ge
           rw [jn_3] at k
           first | exact cL k (bI_t (by omega)) | exact cL k (bI_f (by omega)))
        | (have ge : g = 4 := by omega
           subst ge
           rw [jn_4] at k
           first | exact cL k (bI_t (by omega)) | exact cL k (bI_f (by omega)))
        | (have ge : g = 5 := by omega
           subst ge
           rw [jn_5] at k
           first | exact cL k (bI_t (by omega)) | exact cL k (bI_f (by omega)))
        | (have ge : g = 6 := by omega
           subst ge
           rw [jn_6] at k
           first | exact cL k (bI_t (by omega)) | exact cL k (bI_f (by omega)))
        | (have ge : g = 7 := by omega
           subst ge
           rw [jn_7] at k
           first | exact cL k (bI_t (by omega)) | exact cL k (bI_f (by omega)))
        | (have ge : g = 8 := by omega
           subst ge
           rw [jn_8] at k
           first | exact cL k (bI_t (by omega)) | exact cL k (bI_f (by omega)))
        | (have ge : g = 9 := by omega
           subst ge
           rw [jn_9] at k
           exact k)
        | (have ge : g = 10 := by omega
           subst ge
           rw [jn_10] at k
           exact k)
        | (have ge : g = 2 := by omega
           subst ge
           exact k)
        | (have ge : g = 11 := by omega
           subst ge
           rw [jn_11] at k
           first | exact cL k (if_pos ⟨by omega, by omega⟩) | exact cL k (if_neg (by omega)))
        | (have ge : g = 12 := by omega
           subst ge
           rw [jn_12] at k
           first | exact cL k (if_pos (by omega)) | exact cL k (if_neg (by omega)))
    · refine x_ci ?_
      refine x_goto ?_
      refine n_call [vI _] [] (by omega) (Nat.le_of_ble_eq_true rfl) rfl rfl (Nat.le_of_ble_eq_true rfl) ?_
      refine m_bit (by first | exact bI_01 _ | omega) ?_
      show wp PP _ _ _ [some (vI _), some (vL _), _, some (vL _), _] [vI _] _ _
      refine n_i2l ⟨by omega, by omega⟩ ?_
      refine x_lret ?_
      first
        | (have ge : g = 0 := by omega
           subst ge
           rw [jn_0] at k
           first | exact cL k (bI_t (by omega)) | exact cL k (bI_f (by omega)))
        | (have ge : g = 1 := by omega
           subst ge
           rw [jn_1] at k
           first | exact cL k (bI_t (by omega)) | exact cL k (bI_f (by omega)))
        | (have ge : g = 3 := by omega
           subst ge
           rw [jn_3] at k
           first | exact cL k (bI_t (by omega)) | exact cL k (bI_f (by omega)))
        | (have ge : g = 4 := by omega
           subst ge
           rw [jn_4] at k
           first | exact cL k (bI_t (by omega)) | exact cL k (bI_f (by omega)))
        | (have ge : g = 5 := by omega
           subst ge
           rw [jn_5] at k
           first | exact cL k (bI_t (by omega)) | exact cL k (bI_f (by omega)))
        | (have ge : g = 6 := by omega
           subst ge
           rw [jn_6] at k
           first | exact cL k (bI_t (by omega)) | exact cL k (bI_f (by omega)))
        | (have ge : g = 7 := by omega
           subst ge
           rw [jn_7] at k
           first | exact cL k (bI_t (by omega)) | exact cL k (bI_f (by omega)))
        | (have ge : g = 8 := by omega
           subst ge
           rw [jn_8] at k
           first | exact cL k (bI_t (by omega)) | exact cL k (bI_f (by omega)))
        | (have ge : g = 9 := by omega
           subst ge
           rw [jn_9] at k
           exact k)
        | (have ge : g = 10 := by omega
           subst ge
           rw [jn_10] at k
           exact k)
        | (have ge : g = 2 := by omega
           subst ge
           exact k)
        | (have ge : g = 11 := by omega
           subst ge
           rw [jn_11] at k
           first | exact cL k (if_pos ⟨by omega, by omega⟩) | exact cL k (if_neg (by omega)))
        | (have ge : g = 12 := by omega
           subst ge
           rw [jn_12] at k
           first | exact cL k (if_pos (by omega)) | exact cL k (if_neg (by omega)))
  · refine x_lload rfl ?_
    refine x_lload rfl ?_
    refine n_lif_gt ⟨by omega, by omega⟩ ⟨by omega, by omega⟩ (fun c2 => ?_) (fun c2 => ?_)
    · refine x_ci ?_
      refine x_fall ?_
      refine n_call [vI _] [] (by omega) (Nat.le_of_ble_eq_true rfl) rfl rfl (Nat.le_of_ble_eq_true rfl) ?_
      refine m_bit (by first | exact bI_01 _ | omega) ?_
      show wp PP _ _ _ [some (vI _), some (vL _), _, some (vL _), _] [vI _] _ _
      refine n_i2l ⟨by omega, by omega⟩ ?_
      refine x_lret ?_
      first
        | (have ge : g = 0 := by omega
           subst ge
           rw [jn_0] at k
           first | exact cL k (bI_t (by omega)) | exact cL k (bI_f (by omega)))
        | (have ge : g = 1 := by omega
           subst ge
           rw [jn_1] at k
           first | exact cL k (bI_t (by omega)) | exact cL k (bI_f (by omega)))
        | (have ge : g = 3 := by omega
           subst ge
           rw [jn_3] at k
           first | exact cL k (bI_t (by omega)) | exact cL k (bI_f (by omega)))
        | (have ge : g = 4 := by omega
           subst ge
           rw [jn_4] at k
           first | exact cL k (bI_t (by omega)) | exact cL k (bI_f (by omega)))
        | (have ge : g = 5 := by omega
           subst ge
           rw [jn_5] at k
           first | exact cL k (bI_t (by omega)) | exact cL k (bI_f (by omega)))
        | (have ge : g = 6 := by omega
           subst ge
           rw [jn_6] at k
           first | exact cL k (bI_t (by omega)) | exact cL k (bI_f (by omega)))
        | (have ge : g = 7 := by omega
           subst ge
           rw [jn_7] at k
           first | exact cL k (bI_t (by omega)) | exact cL k (bI_f (by omega)))
        | (have ge : g = 8 := by omega
           subst ge
           rw [jn_8] at k
           first | exact cL k (bI_t (by omega)) | exact cL k (bI_f (by omega)))
        | (have ge : g = 9 := by omega
           subst ge
           rw [jn_9] at k
           exact k)
        | (have ge : g = 10 := by omega
           subst ge
           rw [jn_10] at k
           exact k)
        | (have ge : g = 2 := by omega
           subst ge
           exact k)
        | (have ge : g = 11 := by omega
           subst ge
           rw [jn_11] at k
           first | exact cL k (if_pos ⟨by omega, by omega⟩) | exact cL k (if_neg (by omega)))
        | (have ge : g = 12 := by omega
           subst ge
           rw [jn_12] at k
           first | exact cL k (if_pos (by omega)) | exact cL k (if_neg (by omega)))
    · refine x_ci ?_
      refine x_goto ?_
      refine n_call [vI _] [] (by omega) (Nat.le_of_ble_eq_true rfl) rfl rfl (Nat.le_of_ble_eq_true rfl) ?_
      refine m_bit (by first | exact bI_01 _ | omega) ?_
      show wp PP _ _ _ [some (vI _), some (vL _), _, some (vL _), _] [vI _] _ _
      refine n_i2l ⟨by omega, by omega⟩ ?_
      refine x_lret ?_
      first
        | (have ge : g = 0 := by omega
           subst ge
           rw [jn_0] at k
           first | exact cL k (bI_t (by omega)) | exact cL k (bI_f (by omega)))
        | (have ge : g = 1 := by omega
           subst ge
           rw [jn_1] at k
           first | exact cL k (bI_t (by omega)) | exact cL k (bI_f (by omega)))
        | (have ge : g = 3 := by omega
           subst ge
           rw [jn_3] at k
           first | exact cL k (bI_t (by omega)) | exact cL k (bI_f (by omega)))
        | (have ge : g = 4 := by omega
           subst ge
           rw [jn_4] at k
           first | exact cL k (bI_t (by omega)) | exact cL k (bI_f (by omega)))
        | (have ge : g = 5 := by omega
           subst ge
           rw [jn_5] at k
           first | exact cL k (bI_t (by omega)) | exact cL k (bI_f (by omega)))
        | (have ge : g = 6 := by omega
           subst ge
           rw [jn_6] at k
           first | exact cL k (bI_t (by omega)) | exact cL k (bI_f (by omega)))
        | (have ge : g = 7 := by omega
           subst ge
           rw [jn_7] at k
           first | exact cL k (bI_t (by omega)) | exact cL k (bI_f (by omega)))
        | (have ge : g = 8 := by omega
           subst ge
           rw [jn_8] at k
           first | exact cL k (bI_t (by omega)) | exact cL k (bI_f (by omega)))
        | (have ge : g = 9 := by omega
           subst ge
           rw [jn_9] at k
           exact k)
        | (have ge : g = 10 := by omega
           subst ge
           rw [jn_10] at k
           exact k)
        | (have ge : g = 2 := by omega
           subst ge
           exact k)
        | (have ge : g = 11 := by omega
           subst ge
           rw [jn_11] at k
           first | exact cL k (if_pos ⟨by omega, by omega⟩) | exact cL k (if_neg (by omega)))
        | (have ge : g = 12 := by omega
           subst ge
           rw [jn_12] at k
           first | exact cL k (if_pos (by omega)) | exact cL k (if_neg (by omega)))
  · refine x_lload rfl ?_
    refine x_lload rfl ?_
    refine n_lif_ne ⟨by omega, by omega⟩ ⟨by omega, by omega⟩ (fun c2 => ?_) (fun c2 => ?_)
    · refine x_ci ?_
      refine x_fall ?_
      refine n_call [vI _] [] (by omega) (Nat.le_of_ble_eq_true rfl) rfl rfl (Nat.le_of_ble_eq_true rfl) ?_
      refine m_bit (by first | exact bI_01 _ | omega) ?_
      show wp PP _ _ _ [some (vI _), some (vL _), _, some (vL _), _] [vI _] _ _
      refine n_i2l ⟨by omega, by omega⟩ ?_
      refine x_lret ?_
      first
        | (have ge : g = 0 := by omega
           subst ge
           rw [jn_0] at k
           first | exact cL k (bI_t (by omega)) | exact cL k (bI_f (by omega)))
        | (have ge : g = 1 := by omega
           subst ge
           rw [jn_1] at k
           first | exact cL k (bI_t (by omega)) | exact cL k (bI_f (by omega)))
        | (have ge : g = 3 := by omega
           subst ge
           rw [jn_3] at k
           first | exact cL k (bI_t (by omega)) | exact cL k (bI_f (by omega)))
        | (have ge : g = 4 := by omega
           subst ge
           rw [jn_4] at k
           first | exact cL k (bI_t (by omega)) | exact cL k (bI_f (by omega)))
        | (have ge : g = 5 := by omega
           subst ge
           rw [jn_5] at k
           first | exact cL k (bI_t (by omega)) | exact cL k (bI_f (by omega)))
        | (have ge : g = 6 := by omega
           subst ge
           rw [jn_6] at k
           first | exact cL k (bI_t (by omega)) | exact cL k (bI_f (by omega)))
        | (have ge : g = 7 := by omega
           subst ge
           rw [jn_7] at k
           first | exact cL k (bI_t (by omega)) | exact cL k (bI_f (by omega)))
        | (have ge : g = 8 := by omega
           subst ge
           rw [jn_8] at k
           first | exact cL k (bI_t (by omega)) | exact cL k (bI_f (by omega)))
        | (have ge : g = 9 := by omega
           subst ge
           rw [jn_9] at k
           exact k)
        | (have ge : g = 10 := by omega
           subst ge
           rw [jn_10] at k
           exact k)
        | (have ge : g = 2 := by omega
           subst ge
           exact k)
        | (have ge : g = 11 := by omega
           subst ge
           rw [jn_11] at k
           first | exact cL k (if_pos ⟨by omega, by omega⟩) | exact cL k (if_neg (by omega)))
        | (have ge : g = 12 := by omega
           subst ge
           rw [jn_12] at k
           first | exact cL k (if_pos (by omega)) | exact cL k (if_neg (by omega)))
    · refine x_ci ?_
      refine x_goto ?_
      refine n_call [vI _] [] (by omega) (Nat.le_of_ble_eq_true rfl) rfl rfl (Nat.le_of_ble_eq_true rfl) ?_
      refine m_bit (by first | exact bI_01 _ | omega) ?_
      show wp PP _ _ _ [some (vI _), some (vL _), _, some (vL _), _] [vI _] _ _
      refine n_i2l ⟨by omega, by omega⟩ ?_
      refine x_lret ?_
      first
        | (have ge : g = 0 := by omega
           subst ge
           rw [jn_0] at k
           first | exact cL k (bI_t (by omega)) | exact cL k (bI_f (by omega)))
        | (have ge : g = 1 := by omega
           subst ge
           rw [jn_1] at k
           first | exact cL k (bI_t (by omega)) | exact cL k (bI_f (by omega)))
        | (have ge : g = 3 := by omega
           subst ge
           rw [jn_3] at k
           first | exact cL k (bI_t (by omega)) | exact cL k (bI_f (by omega)))
        | (have ge : g = 4 := by omega
           subst ge
           rw [jn_4] at k
           first | exact cL k (bI_t (by omega)) | exact cL k (bI_f (by omega)))
        | (have ge : g = 5 := by omega
           subst ge
           rw [jn_5] at k
           first | exact cL k (bI_t (by omega)) | exact cL k (bI_f (by omega)))
        | (have ge : g = 6 := by omega
           subst ge
           rw [jn_6] at k
           first | exact cL k (bI_t (by omega)) | exact cL k (bI_f (by omega)))
        | (have ge : g = 7 := by omega
           subst ge
           rw [jn_7] at k
           first | exact cL k (bI_t (by omega)) | exact cL k (bI_f (by omega)))
        | (have ge : g = 8 := by omega
           subst ge
           rw [jn_8] at k
           first | exact cL k (bI_t (by omega)) | exact cL k (bI_f (by omega)))
        | (have ge : g = 9 := by omega
           subst ge
           rw [jn_9] at k
           exact k)
        | (have ge : g = 10 := by omega
           subst ge
           rw [jn_10] at k
           exact k)
        | (have ge : g = 2 := by omega
           subst ge
           exact k)
        | (have ge : g = 11 := by omega
           subst ge
           rw [jn_11] at k
           first | exact cL k (if_pos ⟨by omega, by omega⟩) | exact cL k (if_neg (by omega)))
        | (have ge : g = 12 := by omega
           subst ge
           rw [jn_12] at k
           first | exact cL k (if_pos (by omega)) | exact cL k (if_neg (by omega)))
  · refine x_lload rfl ?_
    refine x_lload rfl ?_
    refine n_lif_eq ⟨by omega, by omega⟩ ⟨by omega, by omega⟩ (fun c2 => ?_) (fun c2 => ?_)
    · refine x_ci ?_
      refine x_fall ?_
      refine n_call [vI _] [] (by omega) (Nat.le_of_ble_eq_true rfl) rfl rfl (Nat.le_of_ble_eq_true rfl) ?_
      refine m_bit (by first | exact bI_01 _ | omega) ?_
      show wp PP _ _ _ [some (vI _), some (vL _), _, some (vL _), _] [vI _] _ _
      refine n_i2l ⟨by omega, by omega⟩ ?_
      refine x_lret ?_
      first
        | (have ge : g = 0 := by omega
           subst ge
           rw [jn_0] at k
           first | exact cL k (bI_t (by omega)) | exact cL k (bI_f (by omega)))
        | (have ge : g = 1 := by omega
           subst ge
           rw [jn_1] at k
           first | exact cL k (bI_t (by omega)) | exact cL k (bI_f (by omega)))
        | (have ge : g = 3 := by omega
           subst ge
           rw [jn_3] at k
           first | exact cL k (bI_t (by omega)) | exact cL k (bI_f (by omega)))
        | (have ge : g = 4 := by omega
           subst ge
           rw [jn_4] at k
           first | exact cL k (bI_t (by omega)) | exact cL k (bI_f (by omega)))
        | (have ge : g = 5 := by omega
           subst ge
           rw [jn_5] at k
           first | exact cL k (bI_t (by omega)) | exact cL k (bI_f (by omega)))
        | (have ge : g = 6 := by omega
           subst ge
           rw [jn_6] at k
           first | exact cL k (bI_t (by omega)) | exact cL k (bI_f (by omega)))
        | (have ge : g = 7 := by omega
           subst ge
           rw [jn_7] at k
           first | exact cL k (bI_t (by omega)) | exact cL k (bI_f (by omega)))
        | (have ge : g = 8 := by omega
           subst ge
           rw [jn_8] at k
           first | exact cL k (bI_t (by omega)) | exact cL k (bI_f (by omega)))
        | (have ge : g = 9 := by omega
           subst ge
           rw [jn_9] at k
           exact k)
        | (have ge : g = 10 := by omega
           subst ge
           rw [jn_10] at k
           exact k)
        | (have ge : g = 2 := by omega
           subst ge
           exact k)
        | (have ge : g = 11 := by omega
           subst ge
           rw [jn_11] at k
           first | exact cL k (if_pos ⟨by omega, by omega⟩) | exact cL k (if_neg (by omega)))
        | (have ge : g = 12 := by omega
           subst ge
           rw [jn_12] at k
           first | exact cL k (if_pos (by omega)) | exact cL k (if_neg (by omega)))
    · refine x_ci ?_
      refine x_goto ?_
      refine n_call [vI _] [] (by omega) (Nat.le_of_ble_eq_true rfl) rfl rfl (Nat.le_of_ble_eq_true rfl) ?_
      refine m_bit (by first | exact bI_01 _ | omega) ?_
      show wp PP _ _ _ [some (vI _), some (vL _), _, some (vL _), _] [vI _] _ _
      refine n_i2l ⟨by omega, by omega⟩ ?_
      refine x_lret ?_
      first
        | (have ge : g = 0 := by omega
           subst ge
           rw [jn_0] at k
           first | exact cL k (bI_t (by omega)) | exact cL k (bI_f (by omega)))
        | (have ge : g = 1 := by omega
           subst ge
           rw [jn_1] at k
           first | exact cL k (bI_t (by omega)) | exact cL k (bI_f (by omega)))
        | (have ge : g = 3 := by omega
           subst ge
           rw [jn_3] at k
           first | exact cL k (bI_t (by omega)) | exact cL k (bI_f (by omega)))
        | (have ge : g = 4 := by omega
           subst ge
           rw [jn_4] at k
           first | exact cL k (bI_t (by omega)) | exact cL k (bI_f (by omega)))
        | (have ge : g = 5 := by omega
           subst ge
           rw [jn_5] at k
           first | exact cL k (bI_t (by omega)) | exact cL k (bI_f (by omega)))
        | (have ge : g = 6 := by omega
           subst ge
           rw [jn_6] at k
           first | exact cL k (bI_t (by omega)) | exact cL k (bI_f (by omega)))
        | (have ge : g = 7 := by omega
           subst ge
           rw [jn_7] at k
           first | exact cL k (bI_t (by omega)) | exact cL k (bI_f (by omega)))
        | (have ge : g = 8 := by omega
           subst ge
           rw [jn_8] at k
           first | exact cL k (bI_t (by omega)) | exact cL k (bI_f (by omega)))
        | (have ge : g = 9 := by omega
           subst ge
           rw [jn_9] at k
           exact k)
        | (have ge : g = 10 := by omega
           subst ge
           rw [jn_10] at k
           exact k)
        | (have ge : g = 2 := by omega
           subst ge
           exact k)
        | (have ge : g = 11 := by omega
           subst ge
           rw [jn_11] at k
           first | exact cL k (if_pos ⟨by omega, by omega⟩) | exact cL k (if_neg (by omega)))
        | (have ge : g = 12 := by omega
           subst ge
           rw [jn_12] at k
           first | exact cL k (if_pos (by omega)) | exact cL k (if_neg (by omega)))
  · refine x_lload rfl ?_
    refine x_lload rfl ?_
    refine n_lif_lt ⟨by omega, by omega⟩ ⟨by omega, by omega⟩ (fun c2 => ?_) (fun c2 => ?_)
    · refine x_ci ?_
      refine x_fall ?_
      refine n_call [vI _] [] (by omega) (Nat.le_of_ble_eq_true rfl) rfl rfl (Nat.le_of_ble_eq_true rfl) ?_
      refine m_bit (by first | exact bI_01 _ | omega) ?_
      show wp PP _ _ _ [some (vI _), some (vL _), _, some (vL _), _] [vI _] _ _
      refine n_i2l ⟨by omega, by omega⟩ ?_
      refine x_lret ?_
      first
        | (have ge : g = 0 := by omega
           subst ge
           rw [jn_0] at k
           first | exact cL k (bI_t (by omega)) | exact cL k (bI_f (by omega)))
        | (have ge : g = 1 := by omega
           subst ge
           rw [jn_1] at k
           first | exact cL k (bI_t (by omega)) | exact cL k (bI_f (by omega)))
        | (have ge : g = 3 := by omega
           subst ge
           rw [jn_3] at k
           first | exact cL k (bI_t (by omega)) | exact cL k (bI_f (by omega)))
        | (have ge : g = 4 := by omega
           subst ge
           rw [jn_4] at k
           first | exact cL k (bI_t (by omega)) | exact cL k (bI_f (by omega)))
        | (have ge : g = 5 := by omega
           subst ge
           rw [jn_5] at k
           first | exact cL k (bI_t (by omega)) | exact cL k (bI_f (by omega)))
        | (have ge : g = 6 := by omega
           subst ge
           rw [jn_6] at k
           first | exact cL k (bI_t (by omega)) | exact cL k (bI_f (by omega)))
        | (have ge : g = 7 := by omega
           subst ge
           rw [jn_7] at k
           first | exact cL k (bI_t (by omega)) | exact cL k (bI_f (by omega)))
        | (have ge : g = 8 := by omega
           subst ge
           rw [jn_8] at k
           first | exact cL k (bI_t (by omega)) | exact cL k (bI_f (by omega)))
        | (have ge : g = 9 := by omega
           subst ge
           rw [jn_9] at k
           exact k)
        | (have ge : g = 10 := by omega
           subst ge
           rw [jn_10] at k
           exact k)
        | (have ge : g = 2 := by omega
           subst ge
           exact k)
        | (have ge : g = 11 := by omega
           subst ge
           rw [jn_11] at k
           first | exact cL k (if_pos ⟨by omega, by omega⟩) | exact cL k (if_neg (by omega)))
        | (have ge : g = 12 := by omega
           subst ge
           rw [jn_12] at k
           first | exact cL k (if_pos (by omega)) | exact cL k (if_neg (by omega)))
    · refine x_ci ?_
      refine x_goto ?_
      refine n_call [vI _] [] (by omega) (Nat.le_of_ble_eq_true rfl) rfl rfl (Nat.le_of_ble_eq_true rfl) ?_
      refine m_bit (by first | exact bI_01 _ | omega) ?_
      show wp PP _ _ _ [some (vI _), some (vL _), _, some (vL _), _] [vI _] _ _
      refine n_i2l ⟨by omega, by omega⟩ ?_
      refine x_lret ?_
      first
        | (have ge : g = 0 := by omega
           subst ge
           rw [jn_0] at k
           first | exact cL k (bI_t (by omega)) | exact cL k (bI_f (by omega)))
        | (have ge : g = 1 := by omega
           subst ge
           rw [jn_1] at k
           first | exact cL k (bI_t (by omega)) | exact cL k (bI_f (by omega)))
        | (have ge : g = 3 := by omega
           subst ge
           rw [jn_3] at k
           first | exact cL k (bI_t (by omega)) | exact cL k (bI_f (by omega)))
        | (have ge : g = 4 := by omega
           subst ge
           rw [jn_4] at k
           first | exact cL k (bI_t (by omega)) | exact cL k (bI_f (by omega)))
        | (have ge : g = 5 := by omega
           subst ge
           rw [jn_5] at k
           first | exact cL k (bI_t (by omega)) | exact cL k (bI_f (by omega)))
        | (have ge : g = 6 := by omega
           subst ge
           rw [jn_6] at k
           first | exact cL k (bI_t (by omega)) | exact cL k (bI_f (by omega)))
        | (have ge : g = 7 := by omega
           subst ge
           rw [jn_7] at k
           first | exact cL k (bI_t (by omega)) | exact cL k (bI_f (by omega)))
        | (have ge : g = 8 := by omega
           subst ge
           rw [jn_8] at k
           first | exact cL k (bI_t (by omega)) | exact cL k (bI_f (by omega)))
        | (have ge : g = 9 := by omega
           subst ge
           rw [jn_9] at k
           exact k)
        | (have ge : g = 10 := by omega
           subst ge
           rw [jn_10] at k
           exact k)
        | (have ge : g = 2 := by omega
           subst ge
           exact k)
        | (have ge : g = 11 := by omega
           subst ge
           rw [jn_11] at k
           first | exact cL k (if_pos ⟨by omega, by omega⟩) | exact cL k (if_neg (by omega)))
        | (have ge : g = 12 := by omega
           subst ge
           rw [jn_12] at k
           first | exact cL k (if_pos (by omega)) | exact cL k (if_neg (by omega)))
  · refine x_lload rfl ?_
    refine x_lload rfl ?_
    refine n_lif_le ⟨by omega, by omega⟩ ⟨by omega, by omega⟩ (fun c2 => ?_) (fun c2 => ?_)
    · refine x_ci ?_
      refine x_fall ?_
      refine n_call [vI _] [] (by omega) (Nat.le_of_ble_eq_true rfl) rfl rfl (Nat.le_of_ble_eq_true rfl) ?_
      refine m_bit (by first | exact bI_01 _ | omega) ?_
      show wp PP _ _ _ [some (vI _), some (vL _), _, some (vL _), _] [vI _] _ _
      refine n_i2l ⟨by omega, by omega⟩ ?_
      refine x_lret ?_
      first
        | (have ge : g = 0 := by omega
           subst ge
           rw [jn_0] at k
           first | exact cL k (bI_t (by omega)) | exact cL k (bI_f (by omega)))
        | (have ge : g = 1 := by omega
           subst ge
           rw [jn_1] at k
           first | exact cL k (bI_t (by omega)) | exact cL k (bI_f (by omega)))
        | (have ge : g = 3 := by omega
           subst ge
           rw [jn_3] at k
           first | exact cL k (bI_t (by omega)) | exact cL k (bI_f (by omega)))
        | (have ge : g = 4 := by omega
           subst ge
           rw [jn_4] at k
           first | exact cL k (bI_t (by omega)) | exact cL k (bI_f (by omega)))
        | (have ge : g = 5 := by omega
           subst ge
           rw [jn_5] at k
           first | exact cL k (bI_t (by omega)) | exact cL k (bI_f (by omega)))
        | (have ge : g = 6 := by omega
           subst ge
           rw [jn_6] at k
           first | exact cL k (bI_t (by omega)) | exact cL k (bI_f (by omega)))
        | (have ge : g = 7 := by omega
           subst ge
           rw [jn_7] at k
           first | exact cL k (bI_t (by omega)) | exact cL k (bI_f (by omega)))
        | (have ge : g = 8 := by omega
           subst ge
           rw [jn_8] at k
           first | exact cL k (bI_t (by omega)) | exact cL k (bI_f (by omega)))
        | (have ge : g = 9 := by omega
           subst ge
           rw [jn_9] at k
           exact k)
        | (have ge : g = 10 := by omega
           subst ge
           rw [jn_10] at k
           exact k)
        | (have ge : g = 2 := by omega
           subst ge
           exact k)
        | (have ge : g = 11 := by omega
           subst ge
           rw [jn_11] at k
           first | exact cL k (if_pos ⟨by omega, by omega⟩) | exact cL k (if_neg (by omega)))
        | (have ge : g = 12 := by omega
           subst ge
           rw [jn_12] at k
           first | exact cL k (if_pos (by omega)) | exact cL k (if_neg (by omega)))
    · refine x_ci ?_
      refine x_goto ?_
      refine n_call [vI _] [] (by omega) (Nat.le_of_ble_eq_true rfl) rfl rfl (Nat.le_of_ble_eq_true rfl) ?_
      refine m_bit (by first | exact bI_01 _ | omega) ?_
      show wp PP _ _ _ [some (vI _), some (vL _), _, some (vL _), _] [vI _] _ _
      refine n_i2l ⟨by omega, by omega⟩ ?_
      refine x_lret ?_
      first
        | (have ge : g = 0 := by omega
           subst ge
           rw [jn_0] at k
           first | exact cL k (bI_t (by omega)) | exact cL k (bI_f (by omega)))
        | (have ge : g = 1 := by omega
           subst ge
           rw [jn_1] at k
           first | exact cL k (bI_t (by omega)) | exact cL k (bI_f (by omega)))
        | (have ge : g = 3 := by omega
           subst ge
           rw [jn_3] at k
           first | exact cL k (bI_t (by omega)) | exact cL k (bI_f (by omega)))
        | (have ge : g = 4 := by omega
           subst ge
           rw [jn_4] at k
           first | exact cL k (bI_t (by omega)) | exact cL k (bI_f (by omega)))
        | (have ge : g = 5 := by omega
           subst ge
           rw [jn_5] at k
           first | exact cL k (bI_t (by omega)) | exact cL k (bI_f (by omega)))
        | (have ge : g = 6 := by omega
           subst ge
           rw [jn_6] at k
           first | exact cL k (bI_t (by omega)) | exact cL k (bI_f (by omega)))
        | (have ge : g = 7 := by omega
           subst ge
           rw [jn_7] at k
           first | exact cL k (bI_t (by omega)) | exact cL k (bI_f (by omega)))
        | (have ge : g = 8 := by omega
           subst ge
           rw [jn_8] at k
           first | exact cL k (bI_t (by omega)) | exact cL k (bI_f (by omega)))
        | (have ge : g = 9 := by omega
           subst ge
           rw [jn_9] at k
           exact k)
        | (have ge : g = 10 := by omega
           subst ge
           rw [jn_10] at k
           exact k)
        | (have ge : g = 2 := by omega
           subst ge
           exact k)
        | (have ge : g = 11 := by omega
           subst ge
           rw [jn_11] at k
           first | exact cL k (if_pos ⟨by omega, by omega⟩) | exact cL k (if_neg (by omega)))
        | (have ge : g = 12 := by omega
           subst ge
           rw [jn_12] at k
           first | exact cL k (if_pos (by omega)) | exact cL k (if_neg (by omega)))
  · refine x_lload rfl ?_
    refine x_lload rfl ?_
    refine x_ladd ?_
    refine x_lret ?_
    first
      | (have ge : g = 0 := by omega
         subst ge
         rw [jn_0] at k
         first | exact cL k (bI_t (by omega)) | exact cL k (bI_f (by omega)))
      | (have ge : g = 1 := by omega
         subst ge
         rw [jn_1] at k
         first | exact cL k (bI_t (by omega)) | exact cL k (bI_f (by omega)))
      | (have ge : g = 3 := by omega
         subst ge
         rw [jn_3] at k
         first | exact cL k (bI_t (by omega)) | exact cL k (bI_f (by omega)))
      | (have ge : g = 4 := by omega
         subst ge
         rw [jn_4] at k
         first | exact cL k (bI_t (by omega)) | exact cL k (bI_f (by omega)))
      | (have ge : g = 5 := by omega
         subst ge
         rw [jn_5] at k
         first | exact cL k (bI_t (by omega)) | exact cL k (bI_f (by omega)))
      | (have ge : g = 6 := by omega
         subst ge
         rw [jn_6] at k
         first | exact cL k (bI_t (by omega)) | exact cL k (bI_f (by omega)))
      | (have ge : g = 7 := by omega
         subst ge
         rw [jn_7] at k
         first | exact cL k (bI_t (by omega)) | exact cL k (bI_f (by omega)))
      | (have ge : g = 8 := by omega
         subst ge
         rw [jn_8] at k
         first | exact cL k (bI_t (by omega)) | exact cL k (bI_f (by omega)))
      | (have ge : g = 9 := by omega
         subst ge
         rw [jn_9] at k
         exact k)
      | (have ge : g = 10 := by omega
         subst ge
         rw [jn_10] at k
         exact k)
      | (have ge : g = 2 := by omega
         subst ge
         exact k)
      | (have ge : g = 11 := by omega
         subst ge
         rw [jn_11] at k
         first | exact cL k (if_pos ⟨by omega, by omega⟩) | exact cL k (if_neg (by omega)))
      | (have ge : g = 12 := by omega
         subst ge
         rw [jn_12] at k
         first | exact cL k (if_pos (by omega)) | exact cL k (if_neg (by omega)))
  · refine x_lload rfl ?_
    refine x_lload rfl ?_
    refine x_lsub ?_
    refine x_lret ?_
    first
      | (have ge : g = 0 := by omega
         subst ge
         rw [jn_0] at k
         first | exact cL k (bI_t (by omega)) | exact cL k (bI_f (by omega)))
      | (have ge : g = 1 := by omega
         subst ge
         rw [jn_1] at k
         first | exact cL k (bI_t (by omega)) | exact cL k (bI_f (by omega)))
      | (have ge : g = 3 := by omega
         subst ge
         rw [jn_3] at k
         first | exact cL k (bI_t (by omega)) | exact cL k (bI_f (by omega)))
      | (have ge : g = 4 := by omega
         subst ge
         rw [jn_4] at k
         first | exact cL k (bI_t (by omega)) | exact cL k (bI_f (by omega)))
      | (have ge : g = 5 := by omega
         subst ge
         rw [jn_5] at k
         first | exact cL k (bI_t (by omega)) | exact cL k (bI_f (by omega)))
      | (have ge : g = 6 := by omega
         subst ge
         rw [jn_6] at k
         first | exact cL k (bI_t (by omega)) | exact cL k (bI_f (by omega)))
      | (have ge : g = 7 := by omega
         subst ge
         rw [jn_7] at k
         first | exact cL k (bI_t (by omega)) | exact cL k (bI_f (by omega)))
      | (have ge : g = 8 := by omega
         subst ge
         rw [jn_8] at k
         first | exact cL k (bI_t (by omega)) | exact cL k (bI_f (by omega)))
      | (have ge : g = 9 := by omega
         subst ge
         rw [jn_9] at k
         exact k)
      | (have ge : g = 10 := by omega
         subst ge
         rw [jn_10] at k
         exact k)
      | (have ge : g = 2 := by omega
         subst ge
         exact k)
      | (have ge : g = 11 := by omega
         subst ge
         rw [jn_11] at k
         first | exact cL k (if_pos ⟨by omega, by omega⟩) | exact cL k (if_neg (by omega)))
      | (have ge : g = 12 := by omega
         subst ge
         rw [jn_12] at k
         first | exact cL k (if_pos (by omega)) | exact cL k (if_neg (by omega)))
  · refine x_lload rfl ?_
    refine x_cl ?_
    refine n_lif_eq ⟨by omega, by omega⟩ ⟨by omega, by omega⟩ (fun c2 => ?_) (fun c2 => ?_)
    · refine x_lload rfl ?_
      refine x_lload rfl ?_
      refine x_lmul ?_
      refine x_fall ?_
      refine x_lret ?_
      first
        | (have ge : g = 0 := by omega
           subst ge
           rw [jn_0] at k
           first | exact cL k (bI_t (by omega)) | exact cL k (bI_f (by omega)))
        | (have ge : g = 1 := by omega
           subst ge
           rw [jn_1] at k
           first | exact cL k (bI_t (by omega)) | exact cL k (bI_f (by omega)))
        | (have ge : g = 3 := by omega
           subst ge
           rw [jn_3] at k
           first | exact cL k (bI_t (by omega)) | exact cL k (bI_f (by omega)))
        | (have ge : g = 4 := by omega
           subst ge
           rw [jn_4] at k
           first | exact cL k (bI_t (by omega)) | exact cL k (bI_f (by omega)))
        | (have ge : g = 5 := by omega
           subst ge
           rw [jn_5] at k
           first | exact cL k (bI_t (by omega)) | exact cL k (bI_f (by omega)))
        | (have ge : g = 6 := by omega
           subst ge
           rw [jn_6] at k
           first | exact cL k (bI_t (by omega)) | exact cL k (bI_f (by omega)))
        | (have ge : g = 7 := by omega
           subst ge
           rw [jn_7] at k
           first | exact cL k (bI_t (by omega)) | exact cL k (bI_f (by omega)))
        | (have ge : g = 8 := by omega
           subst ge
           rw [jn_8] at k
           first | exact cL k (bI_t (by omega)) | exact cL k (bI_f (by omega)))
        | (have ge : g = 9 := by omega
           subst ge
           rw [jn_9] at k
           exact k)
        | (have ge : g = 10 := by omega
           subst ge
           rw [jn_10] at k
           exact k)
        | (have ge : g = 2 := by omega
           subst ge
           exact k)
        | (have ge : g = 11 := by omega
           subst ge
           rw [jn_11] at k
           first | exact cL k (if_pos ⟨by omega, by omega⟩) | exact cL k (if_neg (by omega)))
        | (have ge : g = 12 := by omega
           subst ge
           rw [jn_12] at k
           first | exact cL k (if_pos (by omega)) | exact cL k (if_neg (by omega)))
    · refine x_lload rfl ?_
      refine n_labs ⟨by omega, by omega⟩ (by omega) (Nat.le_of_ble_eq_true rfl) ?_
      refine x_cl ?_
      refine x_lload rfl ?_
      refine n_labs ⟨by omega, by omega⟩ (by omega) (Nat.le_of_ble_eq_true rfl) ?_
      refine x_ldiv (by rw [w64_R ⟨by omega, by omega⟩]; omega) ?_
      rw [ldiv_nn (by omega) (by omega)]
      have hq1 : 0 ≤ 1000000000000 / max y (-y) := Int.ediv_nonneg (by decide) (by omega)
      have hq2 : 1000000000000 / max y (-y) ≤ 1000000000000 := Int.ediv_le_self _ (by decide)
      refine n_lif_le ⟨by omega, by omega⟩ ⟨by omega, by omega⟩ (fun c3 => ?_) (fun c3 => ?_)
      · refine x_lload rfl ?_
        refine x_lload rfl ?_
        refine x_lmul ?_
        refine x_fall ?_
        refine x_lret ?_
        first
          | (have ge : g = 0 := by omega
             subst ge
             rw [jn_0] at k
             first | exact cL k (bI_t (by omega)) | exact cL k (bI_f (by omega)))
          | (have ge : g = 1 := by omega
             subst ge
             rw [jn_1] at k
             first | exact cL k (bI_t (by omega)) | exact cL k (bI_f (by omega)))
          | (have ge : g = 3 := by omega
             subst ge
             rw [jn_3] at k
             first | exact cL k (bI_t (by omega)) | exact cL k (bI_f (by omega)))
          | (have ge : g = 4 := by omega
             subst ge
             rw [jn_4] at k
             first | exact cL k (bI_t (by omega)) | exact cL k (bI_f (by omega)))
          | (have ge : g = 5 := by omega
             subst ge
             rw [jn_5] at k
             first | exact cL k (bI_t (by omega)) | exact cL k (bI_f (by omega)))
          | (have ge : g = 6 := by omega
             subst ge
             rw [jn_6] at k
             first | exact cL k (bI_t (by omega)) | exact cL k (bI_f (by omega)))
          | (have ge : g = 7 := by omega
             subst ge
             rw [jn_7] at k
             first | exact cL k (bI_t (by omega)) | exact cL k (bI_f (by omega)))
          | (have ge : g = 8 := by omega
             subst ge
             rw [jn_8] at k
             first | exact cL k (bI_t (by omega)) | exact cL k (bI_f (by omega)))
          | (have ge : g = 9 := by omega
             subst ge
             rw [jn_9] at k
             exact k)
          | (have ge : g = 10 := by omega
             subst ge
             rw [jn_10] at k
             exact k)
          | (have ge : g = 2 := by omega
             subst ge
             exact k)
          | (have ge : g = 11 := by omega
             subst ge
             rw [jn_11] at k
             first | exact cL k (if_pos ⟨by omega, by omega⟩) | exact cL k (if_neg (by omega)))
          | (have ge : g = 12 := by omega
             subst ge
             rw [jn_12] at k
             first | exact cL k (if_pos (by omega)) | exact cL k (if_neg (by omega)))
      · refine x_cl ?_
        refine x_goto ?_
        refine x_lret ?_
        first
          | (have ge : g = 0 := by omega
             subst ge
             rw [jn_0] at k
             first | exact cL k (bI_t (by omega)) | exact cL k (bI_f (by omega)))
          | (have ge : g = 1 := by omega
             subst ge
             rw [jn_1] at k
             first | exact cL k (bI_t (by omega)) | exact cL k (bI_f (by omega)))
          | (have ge : g = 3 := by omega
             subst ge
             rw [jn_3] at k
             first | exact cL k (bI_t (by omega)) | exact cL k (bI_f (by omega)))
          | (have ge : g = 4 := by omega
             subst ge
             rw [jn_4] at k
             first | exact cL k (bI_t (by omega)) | exact cL k (bI_f (by omega)))
          | (have ge : g = 5 := by omega
             subst ge
             rw [jn_5] at k
             first | exact cL k (bI_t (by omega)) | exact cL k (bI_f (by omega)))
          | (have ge : g = 6 := by omega
             subst ge
             rw [jn_6] at k
             first | exact cL k (bI_t (by omega)) | exact cL k (bI_f (by omega)))
          | (have ge : g = 7 := by omega
             subst ge
             rw [jn_7] at k
             first | exact cL k (bI_t (by omega)) | exact cL k (bI_f (by omega)))
          | (have ge : g = 8 := by omega
             subst ge
             rw [jn_8] at k
             first | exact cL k (bI_t (by omega)) | exact cL k (bI_f (by omega)))
          | (have ge : g = 9 := by omega
             subst ge
             rw [jn_9] at k
             exact k)
          | (have ge : g = 10 := by omega
             subst ge
             rw [jn_10] at k
             exact k)
          | (have ge : g = 2 := by omega
             subst ge
             exact k)
          | (have ge : g = 11 := by omega
             subst ge
             rw [jn_11] at k
             first | exact cL k (if_pos ⟨by omega, by omega⟩) | exact cL k (if_neg (by omega)))
          | (have ge : g = 12 := by omega
             subst ge
             rw [jn_12] at k
             first | exact cL k (if_pos (by omega)) | exact cL k (if_neg (by omega)))
  · refine x_lload rfl ?_
    refine x_cl ?_
    refine n_lif_ne ⟨by omega, by omega⟩ ⟨by omega, by omega⟩ (fun c2 => ?_) (fun c2 => ?_)
    · refine x_lload rfl ?_
      refine x_lload rfl ?_
      refine x_ldiv (by rw [w64_R ⟨by omega, by omega⟩]; omega) ?_
      refine x_fall ?_
      refine x_lret ?_
      first
        | (have ge : g = 0 := by omega
           subst ge
           rw [jn_0] at k
           first | exact cL k (bI_t (by omega)) | exact cL k (bI_f (by omega)))
        | (have ge : g = 1 := by omega
           subst ge
           rw [jn_1] at k
           first | exact cL k (bI_t (by omega)) | exact cL k (bI_f (by omega)))
        | (have ge : g = 3 := by omega
           subst ge
           rw [jn_3] at k
           first | exact cL k (bI_t (by omega)) | exact cL k (bI_f (by omega)))
        | (have ge : g = 4 := by omega
           subst ge
           rw [jn_4] at k
           first | exact cL k (bI_t (by omega)) | exact cL k (bI_f (by omega)))
        | (have ge : g = 5 := by omega
           subst ge
           rw [jn_5] at k
           first | exact cL k (bI_t (by omega)) | exact cL k (bI_f (by omega)))
        | (have ge : g = 6 := by omega
           subst ge
           rw [jn_6] at k
           first | exact cL k (bI_t (by omega)) | exact cL k (bI_f (by omega)))
        | (have ge : g = 7 := by omega
           subst ge
           rw [jn_7] at k
           first | exact cL k (bI_t (by omega)) | exact cL k (bI_f (by omega)))
        | (have ge : g = 8 := by omega
           subst ge
           rw [jn_8] at k
           first | exact cL k (bI_t (by omega)) | exact cL k (bI_f (by omega)))
        | (have ge : g = 9 := by omega
           subst ge
           rw [jn_9] at k
           exact k)
        | (have ge : g = 10 := by omega
           subst ge
           rw [jn_10] at k
           exact k)
        | (have ge : g = 2 := by omega
           subst ge
           exact k)
        | (have ge : g = 11 := by omega
           subst ge
           rw [jn_11] at k
           first | exact cL k (if_pos ⟨by omega, by omega⟩) | exact cL k (if_neg (by omega)))
        | (have ge : g = 12 := by omega
           subst ge
           rw [jn_12] at k
           first | exact cL k (if_pos (by omega)) | exact cL k (if_neg (by omega)))
    · refine x_cl ?_
      refine x_goto ?_
      refine x_lret ?_
      first
        | (have ge : g = 0 := by omega
           subst ge
           rw [jn_0] at k
           first | exact cL k (bI_t (by omega)) | exact cL k (bI_f (by omega)))
        | (have ge : g = 1 := by omega
           subst ge
           rw [jn_1] at k
           first | exact cL k (bI_t (by omega)) | exact cL k (bI_f (by omega)))
        | (have ge : g = 3 := by omega
           subst ge
           rw [jn_3] at k
           first | exact cL k (bI_t (by omega)) | exact cL k (bI_f (by omega)))
        | (have ge : g = 4 := by omega
           subst ge
           rw [jn_4] at k
           first | exact cL k (bI_t (by omega)) | exact cL k (bI_f (by omega)))
        | (have ge : g = 5 := by omega
           subst ge
           rw [jn_5] at k
           first | exact cL k (bI_t (by omega)) | exact cL k (bI_f (by omega)))
        | (have ge : g = 6 := by omega
           subst ge
           rw [jn_6] at k
           first | exact cL k (bI_t (by omega)) | exact cL k (bI_f (by omega)))
        | (have ge : g = 7 := by omega
           subst ge
           rw [jn_7] at k
           first | exact cL k (bI_t (by omega)) | exact cL k (bI_f (by omega)))
        | (have ge : g = 8 := by omega
           subst ge
           rw [jn_8] at k
           first | exact cL k (bI_t (by omega)) | exact cL k (bI_f (by omega)))
        | (have ge : g = 9 := by omega
           subst ge
           rw [jn_9] at k
           exact k)
        | (have ge : g = 10 := by omega
           subst ge
           rw [jn_10] at k
           exact k)
        | (have ge : g = 2 := by omega
           subst ge
           exact k)
        | (have ge : g = 11 := by omega
           subst ge
           rw [jn_11] at k
           first | exact cL k (if_pos ⟨by omega, by omega⟩) | exact cL k (if_neg (by omega)))
        | (have ge : g = 12 := by omega
           subst ge
           rw [jn_12] at k
           first | exact cL k (if_pos (by omega)) | exact cL k (if_neg (by omega)))
end LB
