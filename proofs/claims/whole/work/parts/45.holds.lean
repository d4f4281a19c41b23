/-! HOW LIKELY IT HOLDS: Euclid on both sides -/
section HD
variable {d a tp : Nat} {h0 h : pheap} {s : St} {Q : Option pv → pheap → Prop} {bt : List (List PI)} {r : List PI} {ls : plocs} {st : List pv} {z : Int}
theorem h_getB {b c k : Nat} {ks : List Nat} (j : Int) (o : isC a (.inr (c, ks))) (e : ks[k]? = some 3) (ej : j = (k : Int)) (hv : s a j = (b : Int) + 1) (K : wp PP d bt r ls (vR b :: st) (HP h0 s) Q) : wp PP d bt ((60, [k, c], z) :: r) ls (vR a :: st) (HP h0 s) Q := by
  refine h_getV j o e ej ?_
  rw [if_neg (by omega), hv, show ((b : Int) + 1 - 1).toNat = b by omega]
  exact K
theorem lrem_nn {x y : Int} (hx : 0 ≤ x ∧ x < 9223372036854775808) (hy : 0 < y ∧ y < 9223372036854775808) : l_rem x y = x % y := by
  have e1 : (Int64.ofInt x).toInt = x := Int64.toInt_ofInt_of_le (by omega) (by omega)
  have e2 : (Int64.ofInt y).toInt = y := Int64.toInt_ofInt_of_le (by omega) (by omega)
  have e3 := ldiv_nn hx hy
  unfold l_div at e3
  have h3 : 0 ≤ x / y := Int.ediv_nonneg hx.1 (by omega)
  have h8 : 0 ≤ x % y := Int.emod_nonneg _ (by omega)
  have h4 : x % y < y := Int.emod_lt_of_pos _ hy.1
  have h5 : x / y * y = x - x % y := by
    have := Int.mul_ediv_add_emod x y
    rw [Int.mul_comm] at this
    omega
  have h6 : x % y ≤ x := by
    have h7 : 0 ≤ x / y * y := Int.mul_nonneg h3 (by omega)
    omega
  unfold l_rem
  rw [Int64.toInt_sub, Int64.toInt_mul, e1, e2, e3, h5]
  rw [Int.bmod_eq_of_le (n := x - x % y) (by omega) (by omega)]
  have : x - (x - x % y) = x % y := by omega
  rw [this]
  exact Int.bmod_eq_of_le (by omega) (by omega)
theorem gcd_st (x y : Int) : Int.gcd y (x % y) = Int.gcd x y := by
  have h := Int.gcd_add_mul_right_right y (x % y) (x / y)
  have e : x % y + x / y * y = x := by
    have := Int.mul_ediv_add_emod x y
    rw [Int.mul_comm] at this
    omega
  rw [e] at h
  rw [Int.gcd_comm x y, h]
theorem gcd_0 {x : Int} (h : 0 ≤ x) : (Int.gcd x 0 : Int) = x := by
  rw [Int.gcd_zero_right]
  omega
theorem prod_half {x y : Int} {m : Nat} (hy : 0 < y) (hx : y ≤ x) (h : x * y < 2 ^ (m + 1)) : y * (x % y) < 2 ^ m := by
  have h1 : 0 ≤ x % y := Int.emod_nonneg _ (by omega)
  have h2 : x % y < y := Int.emod_lt_of_pos _ hy
  have h3 : x % y ≤ x - y := by
    have h4 := Int.mul_ediv_add_emod x y
    have h5 : 1 ≤ x / y := Int.le_ediv_of_mul_le hy (by omega)
    have h6 : y * 1 ≤ y * (x / y) := Int.mul_le_mul_of_nonneg_left h5 (by omega)
    omega
  have h7 : 2 * (x % y) < x := by omega
  have h8 : y * (2 * (x % y)) < y * x := Int.mul_lt_mul_of_pos_left h7 hy
  have h9 : y * (2 * (x % y)) = 2 * (y * (x % y)) := by
    rw [Int.mul_left_comm]
  have h10 : y * x = x * y := Int.mul_comm y x
  rw [Int.pow_succ] at h
  omega
theorem prod_0 {x y : Int} (hy : 0 ≤ y) (hx : y ≤ x) (h : x * y < 1) : y = 0 := by
  by_cases c : y = 0
  · exact c
  · have : 1 * 1 ≤ x * y := Int.mul_le_mul (by omega) (by omega) (by omega) (by omega)
    omega
theorem m_shared {h : pheap} {x y : Int} (hx : 0 ≤ x ∧ x ≤ y) (hy : y ≤ 1000000000000) (k : Q (some (vL (Int.gcd x y : Int))) h) : wpM PP d 56 [vL x, vL y] h Q := by
  have L1 : ∀ N : Nat, ∀ {o9 o10 : Option pv} (i : Int) (u : Int) (v : Int), (N = 1000 - i.toNat ∧ 0 ≤ i ∧ i ≤ 1000) → (0 ≤ u ∧ u ≤ 1000000000000) → (0 ≤ v ∧ v ≤ 1000000000000) → (Int.gcd u v = Int.gcd x y) → ((i = 0 ∧ u ≤ v ∧ 0 ≤ u) ∨ (∃ mm : Nat, v ≤ u ∧ u * v < 2 ^ mm ∧ i + mm ≤ 1000)) →  wp PP d mb56 (mb56.getD 1 []) [some (vL x), none, some (vL y), none, some (vL u), none, some (vL v), none, some (vI i), o9, o10] [] h Q := by
    refine s_ind (fun N ih => ?_)
    intro o9 o10 i u v hn hu hv hg hm
    refine x_iload rfl ?_
    refine x_ci ?_
    refine n_icmp_ge ⟨by omega, by omega⟩ ⟨by omega, by omega⟩ (fun c1 => ?_) (fun c1 => ?_)
    · refine x_lload rfl ?_
      refine x_lret ?_
      first
        | (have v0 : v = 0 := by omega
           rw [v0] at hg
           refine cL k ?_
           rw [← hg, gcd_0 hu.1])
        | (have v0 : v = 0 := by
             rcases hm with ⟨m0, m1, m2⟩ | ⟨mm, m1, m2, m3⟩
             · omega
             · have : mm = 0 := by omega
               subst this
               exact prod_0 hv.1 m1 (by simpa using m2)
           rw [v0] at hg
           refine cL k ?_
           rw [← hg, gcd_0 hu.1])
    · refine x_lload rfl ?_
      refine x_cl ?_
      refine n_lif_eq ⟨by omega, by omega⟩ ⟨by omega, by omega⟩ (fun c2 => ?_) (fun c2 => ?_)
      · refine x_lload rfl ?_
        refine x_lret ?_
        first
          | (have v0 : v = 0 := by omega
             rw [v0] at hg
             refine cL k ?_
             rw [← hg, gcd_0 hu.1])
          | (have v0 : v = 0 := by
               rcases hm with ⟨m0, m1, m2⟩ | ⟨mm, m1, m2, m3⟩
               · omega
               · have : mm = 0 := by omega
                 subst this
                 exact prod_0 hv.1 m1 (by simpa using m2)
             rw [v0] at hg
             refine cL k ?_
             rw [← hg, gcd_0 hu.1])
      · refine x_lload rfl ?_
        refine x_lload rfl ?_
        refine x_lrem (by rw [w64_R ⟨by omega, by omega⟩]; omega) ?_
        rw [lrem_nn (by omega) (by omega)]
        refine n_lstore [some (vL _), _, some (vL _), _, some (vL _), _, some (vL _), _, some (vI _), some (vL _), _] (Nat.le_of_ble_eq_true rfl) rfl ?_
        refine x_lload rfl ?_
        refine n_lstore [some (vL _), _, some (vL _), _, some (vL _), _, some (vL _), _, some (vI _), some (vL _), _] (Nat.le_of_ble_eq_true rfl) rfl ?_
        refine x_lload rfl ?_
        refine n_lstore [some (vL _), _, some (vL _), _, some (vL _), _, some (vL _), _, some (vI _), some (vL _), _] (Nat.le_of_ble_eq_true rfl) rfl ?_
        refine n_iinc [some (vL _), _, some (vL _), _, some (vL _), _, some (vL _), _, some (vI _), some (vL _), _] rfl rfl ?_
        refine x_goto ?_
        have e1 : 0 ≤ u % v := Int.emod_nonneg _ (by omega)
        have e2 : u % v < v := Int.emod_lt_of_pos _ (by omega)
        refine ih (1000 - (i + 1).toNat) (by omega) (i + 1) v (u % v) (by omega) ⟨by omega, by omega⟩ ⟨e1, by omega⟩ ((gcd_st u v).trans hg) ?_
        rcases hm with ⟨m0, m1, m2⟩ | ⟨mm, m1, m2, m3⟩
        · refine Or.inr ⟨80, by omega, ?_, by omega⟩
          have w1 : u % v ≤ u := by
            rw [Int.emod_def]
            have : 0 ≤ v * (u / v) := Int.mul_nonneg (by omega) (Int.ediv_nonneg (by omega) (by omega))
            omega
          have w2 : v * (u % v) ≤ 1000000000000 * 1000000000000 := Int.mul_le_mul (by omega) (by omega) e1 (by omega)
          have w3 : (1000000000000 : Int) * 1000000000000 < 2 ^ 80 := by decide
          omega
        · cases mm with
          | zero =>
            have := prod_0 hv.1 m1 (by simpa using m2)
            omega
          | succ mm => exact Or.inr ⟨mm, by omega, prod_half (by omega) m1 m2, by omega⟩
  refine n_at (m := 56) (q := mr56) (kn := (1, 2)) [some (vL _), none, some (vL _), none, none, none, none, none, none, none, none] mb56 rfl rfl rfl (Nat.le_of_ble_eq_true rfl) rfl rfl ?_
  refine x_lload rfl ?_
  refine n_lstore [some (vL _), _, some (vL _), _, some (vL _), _, _, _, _, _, _] (Nat.le_of_ble_eq_true rfl) rfl ?_
  refine x_lload rfl ?_
  refine n_lstore [some (vL _), _, some (vL _), _, some (vL _), _, some (vL _), _, _, _, _] (Nat.le_of_ble_eq_true rfl) rfl ?_
  refine x_ci ?_
  refine n_istore [some (vL _), _, some (vL _), _, some (vL _), _, some (vL _), _, some (vI _), _, _] (Nat.le_of_ble_eq_true rfl) rfl ?_
  refine x_fall ?_
  exact L1 1000 0 x y ⟨rfl, by omega, by omega⟩ ⟨by omega, by omega⟩ ⟨by omega, by omega⟩ rfl (Or.inl ⟨rfl, by omega, by omega⟩)
theorem r_common {h : pheap} {x y : Int} (hx : 0 ≤ x ∧ x ≤ 1000000000000) (hy : 0 ≤ y ∧ y ≤ 1000000000000) (k : Q (some (vL (Int.gcd x y : Int))) h) : wpM PP d 166 [vL x, vL y] h Q := by
  have L1 : ∀ N : Nat, ∀ {o8 o9 : Option pv} (u : Int) (v : Int), (N = v.toNat) → (0 ≤ u ∧ u ≤ 1000000000000) → (0 ≤ v ∧ v ≤ 1000000000000) → (Int.gcd u v = Int.gcd x y) →  wp PP d mb166 (mb166.getD 1 []) [some (vL x), none, some (vL y), none, some (vL u), none, some (vL v), none, o8, o9] [] h Q := by
    refine s_ind (fun N ih => ?_)
    intro o8 o9 u v hn hu hv hg
    refine x_lload rfl ?_
    refine x_cl ?_
    refine n_lif_eq ⟨by omega, by omega⟩ ⟨by omega, by omega⟩ (fun c1 => ?_) (fun c1 => ?_)
    · refine x_lload rfl ?_
      refine x_lret ?_
      have v0 : v = 0 := by omega
      rw [v0] at hg
      refine cL k ?_
      rw [← hg, gcd_0 hu.1]
    · refine x_lload rfl ?_
      refine x_lload rfl ?_
      refine x_lrem (by rw [w64_R ⟨by omega, by omega⟩]; omega) ?_
      rw [lrem_nn (by omega) (by omega)]
      refine n_lstore [some (vL _), _, some (vL _), _, some (vL _), _, some (vL _), _, some (vL _), _] (Nat.le_of_ble_eq_true rfl) rfl ?_
      refine x_lload rfl ?_
      refine n_lstore [some (vL _), _, some (vL _), _, some (vL _), _, some (vL _), _, some (vL _), _] (Nat.le_of_ble_eq_true rfl) rfl ?_
      refine x_lload rfl ?_
      refine n_lstore [some (vL _), _, some (vL _), _, some (vL _), _, some (vL _), _, some (vL _), _] (Nat.le_of_ble_eq_true rfl) rfl ?_
      refine x_goto ?_
      have e1 : 0 ≤ u % v := Int.emod_nonneg _ (by omega)
      have e2 : u % v < v := Int.emod_lt_of_pos _ (by omega)
      exact ih (u % v).toNat (by omega) v (u % v) rfl ⟨by omega, by omega⟩ ⟨e1, by omega⟩ ((gcd_st u v).trans hg)
  refine n_at (m := 166) (q := mr166) (kn := (1, 2)) [some (vL _), none, some (vL _), none, none, none, none, none, none, none] mb166 rfl rfl rfl (Nat.le_of_ble_eq_true rfl) rfl rfl ?_
  refine x_lload rfl ?_
  refine n_lstore [some (vL _), _, some (vL _), _, some (vL _), _, _, _, _, _] (Nat.le_of_ble_eq_true rfl) rfl ?_
  refine x_lload rfl ?_
  refine n_lstore [some (vL _), _, some (vL _), _, some (vL _), _, some (vL _), _, _, _] (Nat.le_of_ble_eq_true rfl) rfl ?_
  refine x_fall ?_
  exact L1 _ x y rfl ⟨by omega, by omega⟩ ⟨by omega, by omega⟩ rfl
end HD
