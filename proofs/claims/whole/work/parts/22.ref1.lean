/-! THE REFERENCE: who is left, who stands where, bonds, passes -/
theorem idiv_nn {x y : Int} (hx : 0 ≤ x ∧ x < 2147483648) (hy : 0 < y ∧ y < 2147483648) : i_div x y = x / y := by
  have e1 : (Int32.ofInt x).toInt = x := Int32.toInt_ofInt_of_le (by omega) (by omega)
  have e2 : (Int32.ofInt y).toInt = y := Int32.toInt_ofInt_of_le (by omega) (by omega)
  unfold i_div
  have h3 : 0 ≤ x / y := Int.ediv_nonneg hx.1 (by omega)
  have h4 : x / y ≤ x := Int.ediv_le_self _ hx.1
  rw [Int32.toInt_div, e1, e2, Int.tdiv_eq_ediv_of_nonneg hx.1]
  exact Int.bmod_eq_of_le (by omega) (by omega)
theorem irem_nn {x y : Int} (hx : 0 ≤ x ∧ x < 2147483648) (hy : 0 < y ∧ y < 2147483648) : i_rem x y = x % y := by
  have e1 : (Int32.ofInt x).toInt = x := Int32.toInt_ofInt_of_le (by omega) (by omega)
  have e2 : (Int32.ofInt y).toInt = y := Int32.toInt_ofInt_of_le (by omega) (by omega)
  have e3 := idiv_nn hx hy
  unfold i_div at e3
  have h3 : 0 ≤ x / y := Int.ediv_nonneg hx.1 (by omega)
  have h8 : 0 ≤ x % y := Int.emod_nonneg _ (by omega)
  have h4 : x % y < y := Int.emod_lt_of_pos _ hy.1
  have h5 : x / y * y = x - x % y := by
    have := Int.mul_ediv_add_emod x y
    rw [Int.mul_comm] at this
    omega
  have h6 : x % y ≤ x := by
    have h7 : 0 ≤ x / y * y := Int.mul_nonneg h3 (by omega)
    omega
  unfold i_rem
  rw [Int32.toInt_sub, Int32.toInt_mul, e1, e2, e3, h5]
  rw [Int.bmod_eq_of_le (n := x - x % y) (by omega) (by omega)]
  have : x - (x - x % y) = x % y := by omega
  rw [this]
  exact Int.bmod_eq_of_le (by omega) (by omega)
section R1
variable {d : Nat} {bt : List (List PI)} {r : List PI} {ls : plocs} {st : List pv} {h : pheap} {Q : Option pv → pheap → Prop} {as : List Nat} {z : Int}
theorem n_idiv {x y : Int} (hx : 0 ≤ x ∧ x < 2147483648) (hy : 0 < y ∧ y < 2147483648) (k : wp PP d bt r ls (vI (x / y) :: st) h Q) : wp PP d bt ((23, as, z) :: r) ls (vI y :: vI x :: st) h Q := by
  refine x_idiv (by rw [w32_R ⟨by omega, by omega⟩]; omega) ?_
  rw [idiv_nn hx hy]
  exact k
theorem n_irem {x y : Int} (hx : 0 ≤ x ∧ x < 2147483648) (hy : 0 < y ∧ y < 2147483648) (k : wp PP d bt r ls (vI (x % y) :: st) h Q) : wp PP d bt ((24, as, z) :: r) ls (vI y :: vI x :: st) h Q := by
  refine x_irem (by rw [w32_R ⟨by omega, by omega⟩]; omega) ?_
  rw [irem_nn hx hy]
  exact k
end R1
section R2
variable {d : Nat} {h0 h : pheap} {s : St} {Q : Option pv → pheap → Prop} {L f : Int} {n : Nat} {c c' : Int → Int}
theorem bs_f : ∀ l : Fin 64, ∀ k : Fin 15, i_and (i_shr ((l : Nat) : Int) ((k : Nat) : Int)) 1 = bt ((l : Nat) : Int) ((k : Nat) : Int) ∧ cntN ((l : Nat) : Int) 15 = cnt ((l : Nat) : Int) := by decide +kernel
theorem bs_is {x k : Int} (hx : 0 ≤ x ∧ x < 64) (hk : 0 ≤ k ∧ k < 15) : i_and (i_shr x k) 1 = bt x k ∧ cntN x 15 = cnt x := by
  have := bs_f ⟨x.toNat, by omega⟩ ⟨k.toNat, by omega⟩
  simp only [Int.toNat_of_nonneg hx.1, Int.toNat_of_nonneg hk.1] at this
  exact this
/-- the reference's dance f -/
def RD (f L : Int) (n : Nat) (c : Int → Int) (s : St) : Prop := (0 ≤ L ∧ L < 64) ∧ n ≤ 48 ∧ vC L c n ∧ s 111 f = L ∧ s 112 f = n ∧ (∀ i : Int, 0 ≤ i → i < n → s 113 (48 * f + i) = c i)
/-- what the reference keeps of a plait when it has danced it -/
def SD (L : Int) (c : Int → Int) (n : Nat) (s : St) : Prop := (∀ p, 0 ≤ p → p < cnt L → s 114 p = wO L c n p) ∧ (∀ j, 0 ≤ j → j < 36 → s 115 j = wB L c n j) ∧ (∀ x, 0 ≤ x → x < 6 → s 116 x = wP L c 1 x n) ∧ (∀ x, 0 ≤ x → x < 6 → s 117 x = wP L c 0 x n)
def rfr (s t : St) : Prop := ∀ b : Nat, (b < 114 ∨ 117 < b) → ∀ j, t b j = s b j
def crossd (x o1 o2 : Int) (s t : St) : Prop := rfr s t ∧ (∀ q, t 114 q = if q = x / 2 then o2 else if q = x / 2 + 1 then o1 else s 114 q) ∧ (∀ j, t 115 j = if j = 6 * o1 + o2 ∨ j = 6 * o2 + o1 then s 115 j + sgn x else s 115 j) ∧ (∀ j, t 116 j = s 116 j + (if j = (if x % 2 = 0 then o1 else o2) then 1 else 0)) ∧ (∀ j, t 117 j = s 117 j + (if j = (if x % 2 = 0 then o2 else o1) then 1 else 0))
theorem SD.step {t : St} (hL : 0 ≤ L ∧ L < 64) (v : vC L c (n + 1)) (hs : SD L c n s) (hc : crossd (c n) (wO L c n (c n / 2)) (wO L c n (c n / 2 + 1)) s t) : SD L c (n + 1) t := by
  obtain ⟨c1, c2, c3, c4, c5⟩ := hc
  have hv := v n (by omega) (by omega)
  refine ⟨fun p p0 p1 => ?_, fun j j0 j1 => ?_, fun x x0 x1 => ?_, fun x x0 x1 => ?_⟩
  · rw [c2]
    simp only [wO]
    split
    · rfl
    · split
      · rfl
      · exact hs.1 p p0 p1
  · rw [c3]
    simp only [wB]
    split
    · rw [hs.2.1 j j0 j1]
    · exact hs.2.1 j j0 j1
  · rw [c4, hs.2.2.1 x x0 x1]
    simp only [wP, who, bI]
    by_cases o : c n % 2 = 0
    · simp [o, eq_comm]
    · simp [o, eq_comm]
  · rw [c5, hs.2.2.2 x x0 x1]
    simp only [wP, who, bI]
    by_cases o : c n % 2 = 0
    · simp [o, eq_comm]
    · simp [o, eq_comm]
theorem r_isLeft (hf : 0 ≤ f ∧ f < 23) (hL : 0 ≤ s 111 f ∧ s 111 f < 64) {x : Int} (hx : 0 ≤ x ∧ x < 6) (k : Q (some (vI (bI (bt (s 111 f) x = 1)))) (HP h0 s)) : wpM PP d 99 [vR 94, vI f, vI x] (HP h0 s) Q := by
  refine n_at (m := 99) (q := mr99) (kn := (0, 3)) [some (vR _), some (vI _), some (vI _)] mb99 rfl rfl (h_rcv sc_94) (Nat.le_of_ble_eq_true rfl) rfl rfl ?_
  refine x_aload rfl ?_
  refine h_getR sc_94 rfl (by omega) ?_
  refine x_iload rfl ?_
  refine h_iald sc_111 ⟨by omega, by omega⟩ (by decide) ?_
  refine x_iload rfl ?_
  refine x_ishr ?_
  refine x_ci ?_
  refine x_iand ?_
  rw [bt_shr hL hx]
  have hb := bt_R (s 111 f) x
  refine x_ci ?_
  refine n_icmp_ne ⟨by omega, by omega⟩ ⟨by omega, by omega⟩ (fun c1 => ?_) (fun c1 => ?_)
  · refine x_ci ?_
    refine x_fall ?_
    refine x_zret (by first | exact bI_01 _ | omega) ?_
    exact cB0 k (by omega)
  · refine x_ci ?_
    refine x_goto ?_
    refine x_zret (by first | exact bI_01 _ | omega) ?_
    exact cB1 k (by omega)
theorem r_bitsOf {x : Int} (hx : 0 ≤ x ∧ x < 64) (k : Q (some (vI (cnt x))) (HP h0 s)) : wpM PP d 100 [vI x] (HP h0 s) Q := by
  have L1 : ∀ N : Nat, ∀ (j : Nat) (i : Int) (q : Int), (i = j) → (N = 15 - j ∧ j ≤ 15) → (q = cntN x j) →  wp PP d mb100 (mb100.getD 1 []) [some (vI x), some (vI q), some (vI i)] [] (HP h0 s) Q := by
    refine s_ind (fun N ih => ?_)
    intro j i q hj hn2 hq
    refine x_iload rfl ?_
    refine x_ci ?_
    refine n_icmp_ge ⟨by omega, by omega⟩ ⟨by omega, by omega⟩ (fun c1 => ?_) (fun c1 => ?_)
    · refine x_iload rfl ?_
      refine x_iret ?_
      refine cI k ?_
      have e : j = 15 := by omega
      rw [hq, e]
      exact (bs_is (k := 0) hx (by decide)).2.symm
    · refine x_iload rfl ?_
      refine x_iload rfl ?_
      refine x_iload rfl ?_
      refine x_ishr ?_
      refine x_ci ?_
      refine x_iand ?_
      refine x_iadd ?_
      refine n_istore [some (vI _), some (vI _), some (vI _)] (Nat.le_of_ble_eq_true rfl) rfl ?_
      refine n_iinc [some (vI _), some (vI _), some (vI _)] rfl rfl ?_
      refine x_goto ?_
      refine ih (15 - (j + 1)) (by omega) (j + 1) _ _ (by omega) (by omega) ?_
      simp only [cntN]
      rw [(bs_is hx (by omega)).1, hq, hj]
  refine n_at (m := 100) (q := mr100) (kn := (1, 1)) [some (vI _), none, none] mb100 rfl rfl rfl (Nat.le_of_ble_eq_true rfl) rfl rfl ?_
  refine x_ci ?_
  refine n_istore [some (vI _), some (vI _), _] (Nat.le_of_ble_eq_true rfl) rfl ?_
  refine x_ci ?_
  refine n_istore [some (vI _), some (vI _), some (vI _)] (Nat.le_of_ble_eq_true rfl) rfl ?_
  refine x_fall ?_
  refine L1 15 0 0 _ rfl (by omega) rfl
theorem r_codesOf (hd : 9 ≤ d) (hf : 0 ≤ f ∧ f < 23) (hL : 0 ≤ s 111 f ∧ s 111 f < 64) (k : Q (some (vI (max 0 (2 * cnt (s 111 f) - 2)))) (HP h0 s)) : wpM PP d 101 [vR 94, vI f] (HP h0 s) Q := by
  have hc := cnt_R (s 111 f)
  refine n_at (m := 101) (q := mr101) (kn := (0, 2)) [some (vR _), some (vI _)] mb101 rfl rfl (h_rcv sc_94) (Nat.le_of_ble_eq_true rfl) rfl rfl ?_
  refine x_ci ?_
  refine x_ci ?_
  refine x_aload rfl ?_
  refine h_getR sc_94 rfl (by omega) ?_
  refine x_iload rfl ?_
  refine h_iald sc_111 ⟨by omega, by omega⟩ (by decide) ?_
  refine n_call [vI _] [vI _, vI _] (by omega) (Nat.le_of_ble_eq_true rfl) rfl rfl (Nat.le_of_ble_eq_true rfl) ?_
  refine r_bitsOf (by first | assumption | omega | (simp [up]; omega)) ?_
  show wp PP _ _ _ [some (vR _), some (vI _)] [vI _, vI _, vI _] _ _
  refine x_imul ?_
  refine x_ci ?_
  refine x_isub ?_
  refine n_imax ⟨by omega, by omega⟩ ⟨by omega, by omega⟩ (by omega) (Nat.le_of_ble_eq_true rfl) ?_
  refine x_iret ?_
  exact k
theorem r_isDancer (hD : 0 ≤ s 96 0 ∧ s 96 0 ≤ 6) {x : Int} (hx : iR x) (k : Q (some (vI (bI (0 ≤ x ∧ x < s 96 0)))) (HP h0 s)) : wpM PP d 98 [vR 94, vI x] (HP h0 s) Q := by
  refine n_at (m := 98) (q := mr98) (kn := (0, 2)) [some (vR _), some (vI _)] mb98 rfl rfl (h_rcv sc_94) (Nat.le_of_ble_eq_true rfl) rfl rfl ?_
  refine x_iload rfl ?_
  refine n_if_lt ⟨by omega, by omega⟩ (fun c1 => ?_) (fun c1 => ?_)
  · refine x_ci ?_
    refine x_fall ?_
    refine x_zret (by first | exact bI_01 _ | omega) ?_
    exact cB0 k (by omega)
  · refine x_iload rfl ?_
    refine x_aload rfl ?_
    refine h_getR sc_94 rfl (by omega) ?_
    refine x_ci ?_
    refine h_iald sc_96 ⟨by omega, by omega⟩ (by decide) ?_
    refine n_icmp_ge ⟨by omega, by omega⟩ ⟨by omega, by omega⟩ (fun c2 => ?_) (fun c2 => ?_)
    · refine x_ci ?_
      refine x_fall ?_
      refine x_zret (by first | exact bI_01 _ | omega) ?_
      exact cB0 k (by omega)
    · refine x_ci ?_
      refine x_goto ?_
      refine x_zret (by first | exact bI_01 _ | omega) ?_
      exact cB1 k (by omega)
theorem r_isCrossing (hD : 0 ≤ s 112 0 ∧ s 112 0 ≤ 48) {x : Int} (hx : iR x) (k : Q (some (vI (bI (0 ≤ x ∧ x < s 112 0)))) (HP h0 s)) : wpM PP d 133 [vR 94, vI x] (HP h0 s) Q := by
  refine n_at (m := 133) (q := mr133) (kn := (0, 2)) [some (vR _), some (vI _)] mb133 rfl rfl (h_rcv sc_94) (Nat.le_of_ble_eq_true rfl) rfl rfl ?_
  refine x_iload rfl ?_
  refine n_if_lt ⟨by omega, by omega⟩ (fun c1 => ?_) (fun c1 => ?_)
  · refine x_ci ?_
    refine x_fall ?_
    refine x_zret (by first | exact bI_01 _ | omega) ?_
    exact cB0 k (by omega)
  · refine x_iload rfl ?_
    refine x_aload rfl ?_
    refine h_getR sc_94 rfl (by omega) ?_
    refine x_ci ?_
    refine h_iald sc_112 ⟨by omega, by omega⟩ (by decide) ?_
    refine n_icmp_ge ⟨by omega, by omega⟩ ⟨by omega, by omega⟩ (fun c2 => ?_) (fun c2 => ?_)
    · refine x_ci ?_
      refine x_fall ?_
      refine x_zret (by first | exact bI_01 _ | omega) ?_
      exact cB0 k (by omega)
    · refine x_ci ?_
      refine x_goto ?_
      refine x_zret (by first | exact bI_01 _ | omega) ?_
      exact cB1 k (by omega)
theorem r_crosses {x o1 o2 : Int} (hx : 0 ≤ x ∧ x < 10) (e1 : s 114 (x / 2) = o1) (e2 : s 114 (x / 2 + 1) = o2) (h1 : 0 ≤ o1 ∧ o1 < 6) (h2 : 0 ≤ o2 ∧ o2 < 6) (hne : o1 ≠ o2) (k : ∀ t, crossd x o1 o2 s t → Q none (HP h0 t)) : wpM PP d 103 [vR 94, vI x] (HP h0 s) Q := by
  refine n_at (m := 103) (q := mr103) (kn := (0, 2)) [some (vR _), some (vI _), none, none, none] mb103 rfl rfl (h_rcv sc_94) (Nat.le_of_ble_eq_true rfl) rfl rfl ?_
  refine x_aload rfl ?_
  refine h_getR sc_94 rfl (by omega) ?_
  refine x_iload rfl ?_
  refine x_ci ?_
  refine n_idiv ⟨by omega, by omega⟩ ⟨by omega, by omega⟩ ?_
  refine h_iald sc_114 ⟨by omega, by omega⟩ (by decide) ?_
  refine t_I o1 e1 ?_
  refine n_istore [some (vR _), some (vI _), some (vI _), _, _] (Nat.le_of_ble_eq_true rfl) rfl ?_
  refine x_aload rfl ?_
  refine h_getR sc_94 rfl (by omega) ?_
  refine x_iload rfl ?_
  refine x_ci ?_
  refine n_idiv ⟨by omega, by omega⟩ ⟨by omega, by omega⟩ ?_
  refine x_ci ?_
  refine x_iadd ?_
  refine h_iald sc_114 ⟨by omega, by omega⟩ (by decide) ?_
  refine t_I o2 e2 ?_
  refine n_istore [some (vR _), some (vI _), some (vI _), some (vI _), _] (Nat.le_of_ble_eq_true rfl) rfl ?_
  refine x_iload rfl ?_
  refine x_ci ?_
  refine n_irem ⟨by omega, by omega⟩ ⟨by omega, by omega⟩ ?_
  refine n_if_ne ⟨by omega, by omega⟩ (fun c1 => ?_) (fun c1 => ?_)
  · refine x_ci ?_
    refine x_fall ?_
    refine n_istore [some (vR _), some (vI _), some (vI _), some (vI _), some (vI _)] (Nat.le_of_ble_eq_true rfl) rfl ?_
    refine x_aload rfl ?_
    refine h_getR sc_94 rfl (by omega) ?_
    refine x_ci ?_
    refine x_iload rfl ?_
    refine x_imul ?_
    refine x_iload rfl ?_
    refine x_iadd ?_
    refine x_dup2 ?_
    refine h_iald sc_115 ⟨by omega, by omega⟩ (by decide) ?_
    refine x_iload rfl ?_
    refine x_iadd ?_
    refine h_iast sc_115 ⟨by omega, by omega⟩ (by decide) ?_
    refine x_aload rfl ?_
    refine h_getR sc_94 rfl (by omega) ?_
    refine x_ci ?_
    refine x_iload rfl ?_
    refine x_imul ?_
    refine x_iload rfl ?_
    refine x_iadd ?_
    refine x_dup2 ?_
    refine h_iald sc_115 ⟨by omega, by omega⟩ (by decide) ?_
    refine x_iload rfl ?_
    refine x_iadd ?_
    refine h_iast sc_115 ⟨by omega, by omega⟩ (by decide) ?_
    refine x_aload rfl ?_
    refine h_getR sc_94 rfl (by omega) ?_
    refine x_iload rfl ?_
    refine x_ci ?_
    refine n_irem ⟨by omega, by omega⟩ ⟨by omega, by omega⟩ ?_
    refine n_if_ne ⟨by omega, by omega⟩ (fun c2 => ?_) (fun c2 => ?_)
    · refine x_iload rfl ?_
      refine x_fall ?_
      refine x_dup2 ?_
      refine h_iald sc_116 ⟨by omega, by omega⟩ (by decide) ?_
      refine x_ci ?_
      refine x_iadd ?_
      refine h_iast sc_116 ⟨by omega, by omega⟩ (by decide) ?_
      refine x_aload rfl ?_
      refine h_getR sc_94 rfl (by omega) ?_
      refine x_iload rfl ?_
      refine x_ci ?_
      refine n_irem ⟨by omega, by omega⟩ ⟨by omega, by omega⟩ ?_
      refine n_if_ne ⟨by omega, by omega⟩ (fun c3 => ?_) (fun c3 => ?_)
      · refine x_iload rfl ?_
        refine x_fall ?_
        refine x_dup2 ?_
        refine h_iald sc_117 ⟨by omega, by omega⟩ (by decide) ?_
        refine x_ci ?_
        refine x_iadd ?_
        refine h_iast sc_117 ⟨by omega, by omega⟩ (by decide) ?_
        refine x_aload rfl ?_
        refine h_getR sc_94 rfl (by omega) ?_
        refine x_iload rfl ?_
        refine x_ci ?_
        refine n_idiv ⟨by omega, by omega⟩ ⟨by omega, by omega⟩ ?_
        refine x_iload rfl ?_
        refine h_iast sc_114 ⟨by omega, by omega⟩ (by decide) ?_
        refine x_aload rfl ?_
        refine h_getR sc_94 rfl (by omega) ?_
        refine x_iload rfl ?_
        refine x_ci ?_
        refine n_idiv ⟨by omega, by omega⟩ ⟨by omega, by omega⟩ ?_
        refine x_ci ?_
        refine x_iadd ?_
        refine x_iload rfl ?_
        refine h_iast sc_114 ⟨by omega, by omega⟩ (by decide) ?_
        refine x_ret ?_
        first
          | (exfalso; omega)
          | (refine k _ ⟨fun b hb j => ?_, fun q => ?_, fun j => ?_, fun j => ?_, fun j => ?_⟩
             · simp only [up]
               rw [if_neg (by omega), if_neg (by omega), if_neg (by omega), if_neg (by omega), if_neg (by omega), if_neg (by omega)]
             · simp only [up]
               simp
               repeat' split
               all_goals first | rfl | omega | (subst_vars; omega)
             · have hs : sgn x = 1 := by
                 unfold sgn
                 exact if_pos (by omega)
               rw [hs]
               simp only [up]
               simp [Ne.symm hne]
               repeat' split
               all_goals first | rfl | omega | (subst_vars; omega)
             · simp only [up]
               simp [show x % 2 = 0 by omega]
               repeat' split
               all_goals first | rfl | omega | (subst_vars; omega)
             · simp only [up]
               simp [show x % 2 = 0 by omega]
               repeat' split
               all_goals first | rfl | omega | (subst_vars; omega))
          | (refine k _ ⟨fun b hb j => ?_, fun q => ?_, fun j => ?_, fun j => ?_, fun j => ?_⟩
             · simp only [up]
               rw [if_neg (by omega), if_neg (by omega), if_neg (by omega), if_neg (by omega), if_neg (by omega), if_neg (by omega)]
             · simp only [up]
               simp
               repeat' split
               all_goals first | rfl | omega | (subst_vars; omega)
             · have hs : sgn x = -1 := by
                 unfold sgn
                 exact if_neg (by omega)
               rw [hs]
               simp only [up]
               simp [Ne.symm hne]
               repeat' split
               all_goals first | rfl | omega | (subst_vars; omega)
             · simp only [up]
               simp [show ¬ x % 2 = 0 by omega]
               repeat' split
               all_goals first | rfl | omega | (subst_vars; omega)
             · simp only [up]
               simp [show ¬ x % 2 = 0 by omega]
               repeat' split
               all_goals first | rfl | omega | (subst_vars; omega))
      · refine x_iload rfl ?_
        refine x_goto ?_
        refine x_dup2 ?_
        refine h_iald sc_117 ⟨by omega, by omega⟩ (by decide) ?_
        refine x_ci ?_
        refine x_iadd ?_
        refine h_iast sc_117 ⟨by omega, by omega⟩ (by decide) ?_
        refine x_aload rfl ?_
        refine h_getR sc_94 rfl (by omega) ?_
        refine x_iload rfl ?_
        refine x_ci ?_
        refine n_idiv ⟨by omega, by omega⟩ ⟨by omega, by omega⟩ ?_
        refine x_iload rfl ?_
        refine h_iast sc_114 ⟨by omega, by omega⟩ (by decide) ?_
        refine x_aload rfl ?_
        refine h_getR sc_94 rfl (by omega) ?_
        refine x_iload rfl ?_
        refine x_ci ?_
        refine n_idiv ⟨by omega, by omega⟩ ⟨by omega, by omega⟩ ?_
        refine x_ci ?_
        refine x_iadd ?_
        refine x_iload rfl ?_
        refine h_iast sc_114 ⟨by omega, by omega⟩ (by decide) ?_
        refine x_ret ?_
        first
          | (exfalso; omega)
          | (refine k _ ⟨fun b hb j => ?_, fun q => ?_, fun j => ?_, fun j => ?_, fun j => ?_⟩
             · simp only [up]
               rw [if_neg (by omega), if_neg (by omega), if_neg (by omega), if_neg (by omega), if_neg (by omega), if_neg (by omega)]
             · simp only [up]
               simp
               repeat' split
               all_goals first | rfl | omega | (subst_vars; omega)
             · have hs : sgn x = 1 := by
                 unfold sgn
                 exact if_pos (by omega)
               rw [hs]
               simp only [up]
               simp [Ne.symm hne]
               repeat' split
               all_goals first | rfl | omega | (subst_vars; omega)
             · simp only [up]
               simp [show x % 2 = 0 by omega]
               repeat' split
               all_goals first | rfl | omega | (subst_vars; omega)
             · simp only [up]
               simp [show x % 2 = 0 by omega]
               repeat' split
               all_goals first | rfl | omega | (subst_vars; omega))
          | (refine k _ ⟨fun b hb j => ?_, fun q => ?_, fun j => ?_, fun j => ?_, fun j => ?_⟩
             · simp only [up]
               rw [if_neg (by omega), if_neg (by omega), if_neg (by omega), if_neg (by omega), if_neg (by omega), if_neg (by omega)]
             · simp only [up]
               simp
               repeat' split
               all_goals first | rfl | omega | (subst_vars; omega)
             · have hs : sgn x = -1 := by
                 unfold sgn
                 exact if_neg (by omega)
               rw [hs]
               simp only [up]
               simp [Ne.symm hne]
               repeat' split
               all_goals first | rfl | omega | (subst_vars; omega)
             · simp only [up]
               simp [show ¬ x % 2 = 0 by omega]
               repeat' split
               all_goals first | rfl | omega | (subst_vars; omega)
             · simp only [up]
               simp [show ¬ x % 2 = 0 by omega]
               repeat' split
               all_goals first | rfl | omega | (subst_vars; omega))
    · refine x_iload rfl ?_
      refine x_goto ?_
      refine x_dup2 ?_
      refine h_iald sc_116 ⟨by omega, by omega⟩ (by decide) ?_
      refine x_ci ?_
      refine x_iadd ?_
      refine h_iast sc_116 ⟨by omega, by omega⟩ (by decide) ?_
      refine x_aload rfl ?_
      refine h_getR sc_94 rfl (by omega) ?_
      refine x_iload rfl ?_
      refine x_ci ?_
      refine n_irem ⟨by omega, by omega⟩ ⟨by omega, by omega⟩ ?_
      refine n_if_ne ⟨by omega, by omega⟩ (fun c3 => ?_) (fun c3 => ?_)
      · refine x_iload rfl ?_
        refine x_fall ?_
        refine x_dup2 ?_
        refine h_iald sc_117 ⟨by omega, by omega⟩ (by decide) ?_
        refine x_ci ?_
        refine x_iadd ?_
        refine h_iast sc_117 ⟨by omega, by omega⟩ (by decide) ?_
        refine x_aload rfl ?_
        refine h_getR sc_94 rfl (by omega) ?_
        refine x_iload rfl ?_
        refine x_ci ?_
        refine n_idiv ⟨by omega, by omega⟩ ⟨by omega, by omega⟩ ?_
        refine x_iload rfl ?_
        refine h_iast sc_114 ⟨by omega, by omega⟩ (by decide) ?_
        refine x_aload rfl ?_
        refine h_getR sc_94 rfl (by omega) ?_
        refine x_iload rfl ?_
        refine x_ci ?_
        refine n_idiv ⟨by omega, by omega⟩ ⟨by omega, by omega⟩ ?_
        refine x_ci ?_
        refine x_iadd ?_
        refine x_iload rfl ?_
        refine h_iast sc_114 ⟨by omega, by omega⟩ (by decide) ?_
        refine x_ret ?_
        first
          | (exfalso; omega)
          | (refine k _ ⟨fun b hb j => ?_, fun q => ?_, fun j => ?_, fun j => ?_, fun j => ?_⟩
             · simp only [up]
               rw [if_neg (by omega), if_neg (by omega), if_neg (by omega), if_neg (by omega), if_neg (by omega), if_neg (by omega)]
             · simp only [up]
               simp
               repeat' split
               all_goals first | rfl | omega | (subst_vars; omega)
             · have hs : sgn x = 1 := by
                 unfold sgn
                 exact if_pos (by omega)
               rw [hs]
               simp only [up]
               simp [Ne.symm hne]
               repeat' split
               all_goals first | rfl | omega | (subst_vars; omega)
             · simp only [up]
               simp [show x % 2 = 0 by omega]
               repeat' split
               all_goals first | rfl | omega | (subst_vars; omega)
             · simp only [up]
               simp [show x % 2 = 0 by omega]
               repeat' split
               all_goals first | rfl | omega | (subst_vars; omega))
          | (refine k _ ⟨fun b hb j => ?_, fun q => ?_, fun j => ?_, fun j => ?_, fun j => ?_⟩
             · simp only [up]
               rw [if_neg (by omega), if_neg (by omega), if_neg (by omega), if_neg (by omega), if_neg (by omega), if_neg (by omega)]
             · simp only [up]
               simp
               repeat' split
               all_goals first | rfl | omega | (subst_vars; omega)
             · have hs : sgn x = -1 := by
                 unfold sgn
                 exact if_neg (by omega)
               rw [hs]
               simp only [up]
               simp [Ne.symm hne]
               repeat' split
               all_goals first | rfl | omega | (subst_vars; omega)
             · simp only [up]
               simp [show ¬ x % 2 = 0 by omega]
               repeat' split
               all_goals first | rfl | omega | (subst_vars; omega)
             · simp only [up]
               simp [show ¬ x % 2 = 0 by omega]
               repeat' split
               all_goals first | rfl | omega | (subst_vars; omega))
      · refine x_iload rfl ?_
        refine x_goto ?_
        refine x_dup2 ?_
        refine h_iald sc_117 ⟨by omega, by omega⟩ (by decide) ?_
        refine x_ci ?_
        refine x_iadd ?_
        refine h_iast sc_117 ⟨by omega, by omega⟩ (by decide) ?_
        refine x_aload rfl ?_
        refine h_getR sc_94 rfl (by omega) ?_
        refine x_iload rfl ?_
        refine x_ci ?_
        refine n_idiv ⟨by omega, by omega⟩ ⟨by omega, by omega⟩ ?_
        refine x_iload rfl ?_
        refine h_iast sc_114 ⟨by omega, by omega⟩ (by decide) ?_
        refine x_aload rfl ?_
        refine h_getR sc_94 rfl (by omega) ?_
        refine x_iload rfl ?_
        refine x_ci ?_
        refine n_idiv ⟨by omega, by omega⟩ ⟨by omega, by omega⟩ ?_
        refine x_ci ?_
        refine x_iadd ?_
        refine x_iload rfl ?_
        refine h_iast sc_114 ⟨by omega, by omega⟩ (by decide) ?_
        refine x_ret ?_
        first
          | (exfalso; omega)
          | (refine k _ ⟨fun b hb j => ?_, fun q => ?_, fun j => ?_, fun j => ?_, fun j => ?_⟩
             · simp only [up]
               rw [if_neg (by omega), if_neg (by omega), if_neg (by omega), if_neg (by omega), if_neg (by omega), if_neg (by omega)]
             · simp only [up]
               simp
               repeat' split
               all_goals first | rfl | omega | (subst_vars; omega)
             · have hs : sgn x = 1 := by
                 unfold sgn
                 exact if_pos (by omega)
               rw [hs]
               simp only [up]
               simp [Ne.symm hne]
               repeat' split
               all_goals first | rfl | omega | (subst_vars; omega)
             · simp only [up]
               simp [show x % 2 = 0 by omega]
               repeat' split
               all_goals first | rfl | omega | (subst_vars; omega)
             · simp only [up]
               simp [show x % 2 = 0 by omega]
               repeat' split
               all_goals first | rfl | omega | (subst_vars; omega))
          | (refine k _ ⟨fun b hb j => ?_, fun q => ?_, fun j => ?_, fun j => ?_, fun j => ?_⟩
             · simp only [up]
               rw [if_neg (by omega), if_neg (by omega), if_neg (by omega), if_neg (by omega), if_neg (by omega), if_neg (by omega)]
             · simp only [up]
               simp
               repeat' split
               all_goals first | rfl | omega | (subst_vars; omega)
             · have hs : sgn x = -1 := by
                 unfold sgn
                 exact if_neg (by omega)
               rw [hs]
               simp only [up]
               simp [Ne.symm hne]
               repeat' split
               all_goals first | rfl | omega | (subst_vars; omega)
             · simp only [up]
               simp [show ¬ x % 2 = 0 by omega]
               repeat' split
               all_goals first | rfl | omega | (subst_vars; omega)
             · simp only [up]
               simp [show ¬ x % 2 = 0 by omega]
               repeat' split
               all_goals first | rfl | omega | (subst_vars; omega))
  · refine x_ci ?_
    refine x_goto ?_
    refine n_istore [some (vR _), some (vI _), some (vI _), some (vI _), some (vI _)] (Nat.le_of_ble_eq_true rfl) rfl ?_
    refine x_aload rfl ?_
    refine h_getR sc_94 rfl (by omega) ?_
    refine x_ci ?_
    refine x_iload rfl ?_
    refine x_imul ?_
    refine x_iload rfl ?_
    refine x_iadd ?_
    refine x_dup2 ?_
    refine h_iald sc_115 ⟨by omega, by omega⟩ (by decide) ?_
    refine x_iload rfl ?_
    refine x_iadd ?_
    refine h_iast sc_115 ⟨by omega, by omega⟩ (by decide) ?_
    refine x_aload rfl ?_
    refine h_getR sc_94 rfl (by omega) ?_
    refine x_ci ?_
    refine x_iload rfl ?_
    refine x_imul ?_
    refine x_iload rfl ?_
    refine x_iadd ?_
    refine x_dup2 ?_
    refine h_iald sc_115 ⟨by omega, by omega⟩ (by decide) ?_
    refine x_iload rfl ?_
    refine x_iadd ?_
    refine h_iast sc_115 ⟨by omega, by omega⟩ (by decide) ?_
    refine x_aload rfl ?_
    refine h_getR sc_94 rfl (by omega) ?_
    refine x_iload rfl ?_
    refine x_ci ?_
    refine n_irem ⟨by omega, by omega⟩ ⟨by omega, by omega⟩ ?_
    refine n_if_ne ⟨by omega, by omega⟩ (fun c2 => ?_) (fun c2 => ?_)
    · refine x_iload rfl ?_
      refine x_fall ?_
      refine x_dup2 ?_
      refine h_iald sc_116 ⟨by omega, by omega⟩ (by decide) ?_
      refine x_ci ?_
      refine x_iadd ?_
      refine h_iast sc_116 ⟨by omega, by omega⟩ (by decide) ?_
      refine x_aload rfl ?_
      refine h_getR sc_94 rfl (by omega) ?_
      refine x_iload rfl ?_
      refine x_ci ?_
      refine n_irem ⟨by omega, by omega⟩ ⟨by omega, by omega⟩ ?_
      refine n_if_ne ⟨by omega, by omega⟩ (fun c3 => ?_) (fun c3 => ?_)
      · refine x_iload rfl ?_
        refine x_fall ?_
        refine x_dup2 ?_
        refine h_iald sc_117 ⟨by omega, by omega⟩ (by decide) ?_
        refine x_ci ?_
        refine x_iadd ?_
        refine h_iast sc_117 ⟨by omega, by omega⟩ (by decide) ?_
        refine x_aload rfl ?_
        refine h_getR sc_94 rfl (by omega) ?_
        refine x_iload rfl ?_
        refine x_ci ?_
        refine n_idiv ⟨by omega, by omega⟩ ⟨by omega, by omega⟩ ?_
        refine x_iload rfl ?_
        refine h_iast sc_114 ⟨by omega, by omega⟩ (by decide) ?_
        refine x_aload rfl ?_
        refine h_getR sc_94 rfl (by omega) ?_
        refine x_iload rfl ?_
        refine x_ci ?_
        refine n_idiv ⟨by omega, by omega⟩ ⟨by omega, by omega⟩ ?_
        refine x_ci ?_
        refine x_iadd ?_
        refine x_iload rfl ?_
        refine h_iast sc_114 ⟨by omega, by omega⟩ (by decide) ?_
        refine x_ret ?_
        first
          | (exfalso; omega)
          | (refine k _ ⟨fun b hb j => ?_, fun q => ?_, fun j => ?_, fun j => ?_, fun j => ?_⟩
             · simp only [up]
               rw [if_neg (by omega), if_neg (by omega), if_neg (by omega), if_neg (by omega), if_neg (by omega), if_neg (by omega)]
             · simp only [up]
               simp
               repeat' split
               all_goals first | rfl | omega | (subst_vars; omega)
             · have hs : sgn x = 1 := by
                 unfold sgn
                 exact if_pos (by omega)
               rw [hs]
               simp only [up]
               simp [Ne.symm hne]
               repeat' split
               all_goals first | rfl | omega | (subst_vars; omega)
             · simp only [up]
               simp [show x % 2 = 0 by omega]
               repeat' split
               all_goals first | rfl | omega | (subst_vars; omega)
             · simp only [up]
               simp [show x % 2 = 0 by omega]
               repeat' split
               all_goals first | rfl | omega | (subst_vars; omega))
          | (refine k _ ⟨fun b hb j => ?_, fun q => ?_, fun j => ?_, fun j => ?_, fun j => ?_⟩
             · simp only [up]
               rw [if_neg (by omega), if_neg (by omega), if_neg (by omega), if_neg (by omega), if_neg (by omega), if_neg (by omega)]
             · simp only [up]
               simp
               repeat' split
               all_goals first | rfl | omega | (subst_vars; omega)
             · have hs : sgn x = -1 := by
                 unfold sgn
                 exact if_neg (by omega)
               rw [hs]
               simp only [up]
               simp [Ne.symm hne]
               repeat' split
               all_goals first | rfl | omega | (subst_vars; omega)
             · simp only [up]
               simp [show ¬ x % 2 = 0 by omega]
               repeat' split
               all_goals first | rfl | omega | (subst_vars; omega)
             · simp only [up]
               simp [show ¬ x % 2 = 0 by omega]
               repeat' split
               all_goals first | rfl | omega | (subst_vars; omega))
      · refine x_iload rfl ?_
        refine x_goto ?_
        refine x_dup2 ?_
        refine h_iald sc_117 ⟨by omega, by omega⟩ (by decide) ?_
        refine x_ci ?_
        refine x_iadd ?_
        refine h_iast sc_117 ⟨by omega, by omega⟩ (by decide) ?_
        refine x_aload rfl ?_
        refine h_getR sc_94 rfl (by omega) ?_
        refine x_iload rfl ?_
        refine x_ci ?_
        refine n_idiv ⟨by omega, by omega⟩ ⟨by omega, by omega⟩ ?_
        refine x_iload rfl ?_
        refine h_iast sc_114 ⟨by omega, by omega⟩ (by decide) ?_
        refine x_aload rfl ?_
        refine h_getR sc_94 rfl (by omega) ?_
        refine x_iload rfl ?_
        refine x_ci ?_
        refine n_idiv ⟨by omega, by omega⟩ ⟨by omega, by omega⟩ ?_
        refine x_ci ?_
        refine x_iadd ?_
        refine x_iload rfl ?_
        refine h_iast sc_114 ⟨by omega, by omega⟩ (by decide) ?_
        refine x_ret ?_
        first
          | (exfalso; omega)
          | (refine k _ ⟨fun b hb j => ?_, fun q => ?_, fun j => ?_, fun j => ?_, fun j => ?_⟩
             · simp only [up]
               rw [if_neg (by omega), if_neg (by omega), if_neg (by omega), if_neg (by omega), if_neg (by omega), if_neg (by omega)]
             · simp only [up]
               simp
               repeat' split
               all_goals first | rfl | omega | (subst_vars; omega)
             · have hs : sgn x = 1 := by
                 unfold sgn
                 exact if_pos (by omega)
               rw [hs]
               simp only [up]
               simp [Ne.symm hne]
               repeat' split
               all_goals first | rfl | omega | (subst_vars; omega)
             · simp only [up]
               simp [show x % 2 = 0 by omega]
               repeat' split
               all_goals first | rfl | omega | (subst_vars; omega)
             · simp only [up]
               simp [show x % 2 = 0 by omega]
               repeat' split
               all_goals first | rfl | omega | (subst_vars; omega))
          | (refine k _ ⟨fun b hb j => ?_, fun q => ?_, fun j => ?_, fun j => ?_, fun j => ?_⟩
             · simp only [up]
               rw [if_neg (by omega), if_neg (by omega), if_neg (by omega), if_neg (by omega), if_neg (by omega), if_neg (by omega)]
             · simp only [up]
               simp
               repeat' split
               all_goals first | rfl | omega | (subst_vars; omega)
             · have hs : sgn x = -1 := by
                 unfold sgn
                 exact if_neg (by omega)
               rw [hs]
               simp only [up]
               simp [Ne.symm hne]
               repeat' split
               all_goals first | rfl | omega | (subst_vars; omega)
             · simp only [up]
               simp [show ¬ x % 2 = 0 by omega]
               repeat' split
               all_goals first | rfl | omega | (subst_vars; omega)
             · simp only [up]
               simp [show ¬ x % 2 = 0 by omega]
               repeat' split
               all_goals first | rfl | omega | (subst_vars; omega))
    · refine x_iload rfl ?_
      refine x_goto ?_
      refine x_dup2 ?_
      refine h_iald sc_116 ⟨by omega, by omega⟩ (by decide) ?_
      refine x_ci ?_
      refine x_iadd ?_
      refine h_iast sc_116 ⟨by omega, by omega⟩ (by decide) ?_
      refine x_aload rfl ?_
      refine h_getR sc_94 rfl (by omega) ?_
      refine x_iload rfl ?_
      refine x_ci ?_
      refine n_irem ⟨by omega, by omega⟩ ⟨by omega, by omega⟩ ?_
      refine n_if_ne ⟨by omega, by omega⟩ (fun c3 => ?_) (fun c3 => ?_)
      · refine x_iload rfl ?_
        refine x_fall ?_
        refine x_dup2 ?_
        refine h_iald sc_117 ⟨by omega, by omega⟩ (by decide) ?_
        refine x_ci ?_
        refine x_iadd ?_
        refine h_iast sc_117 ⟨by omega, by omega⟩ (by decide) ?_
        refine x_aload rfl ?_
        refine h_getR sc_94 rfl (by omega) ?_
        refine x_iload rfl ?_
        refine x_ci ?_
        refine n_idiv ⟨by omega, by omega⟩ ⟨by omega, by omega⟩ ?_
        refine x_iload rfl ?_
        refine h_iast sc_114 ⟨by omega, by omega⟩ (by decide) ?_
        refine x_aload rfl ?_
        refine h_getR sc_94 rfl (by omega) ?_
        refine x_iload rfl ?_
        refine x_ci ?_
        refine n_idiv ⟨by omega, by omega⟩ ⟨by omega, by omega⟩ ?_
        refine x_ci ?_
        refine x_iadd ?_
        refine x_iload rfl ?_
        refine h_iast sc_114 ⟨by omega, by omega⟩ (by decide) ?_
        refine x_ret ?_
        first
          | (exfalso; omega)
          | (refine k _ ⟨fun b hb j => ?_, fun q => ?_, fun j => ?_, fun j => ?_, fun j => ?_⟩
             · simp only [up]
               rw [if_neg (by omega), if_neg (by omega), if_neg (by omega), if_neg (by omega), if_neg (by omega), if_neg (by omega)]
             · simp only [up]
               simp
               repeat' split
               all_goals first | rfl | omega | (subst_vars; omega)
             · have hs : sgn x = 1 := by
                 unfold sgn
                 exact if_pos (by omega)
               rw [hs]
               simp only [up]
               simp [Ne.symm hne]
               repeat' split
               all_goals first | rfl | omega | (subst_vars; omega)
             · simp only [up]
               simp [show x % 2 = 0 by omega]
               repeat' split
               all_goals first | rfl | omega | (subst_vars; omega)
             · simp only [up]
               simp [show x % 2 = 0 by omega]
               repeat' split
               all_goals first | rfl | omega | (subst_vars; omega))
          | (refine k _ ⟨fun b hb j => ?_, fun q => ?_, fun j => ?_, fun j => ?_, fun j => ?_⟩
             · simp only [up]
               rw [if_neg (by omega), if_neg (by omega), if_neg (by omega), if_neg (by omega), if_neg (by omega), if_neg (by omega)]
             · simp only [up]
               simp
               repeat' split
               all_goals first | rfl | omega | (subst_vars; omega)
             · have hs : sgn x = -1 := by
                 unfold sgn
                 exact if_neg (by omega)
               rw [hs]
               simp only [up]
               simp [Ne.symm hne]
               repeat' split
               all_goals first | rfl | omega | (subst_vars; omega)
             · simp only [up]
               simp [show ¬ x % 2 = 0 by omega]
               repeat' split
               all_goals first | rfl | omega | (subst_vars; omega)
             · simp only [up]
               simp [show ¬ x % 2 = 0 by omega]
               repeat' split
               all_goals first | rfl | omega | (subst_vars; omega))
      · refine x_iload rfl ?_
        refine x_goto ?_
        refine x_dup2 ?_
        refine h_iald sc_117 ⟨by omega, by omega⟩ (by decide) ?_
        refine x_ci ?_
        refine x_iadd ?_
        refine h_iast sc_117 ⟨by omega, by omega⟩ (by decide) ?_
        refine x_aload rfl ?_
        refine h_getR sc_94 rfl (by omega) ?_
        refine x_iload rfl ?_
        refine x_ci ?_
        refine n_idiv ⟨by omega, by omega⟩ ⟨by omega, by omega⟩ ?_
        refine x_iload rfl ?_
        refine h_iast sc_114 ⟨by omega, by omega⟩ (by decide) ?_
        refine x_aload rfl ?_
        refine h_getR sc_94 rfl (by omega) ?_
        refine x_iload rfl ?_
        refine x_ci ?_
        refine n_idiv ⟨by omega, by omega⟩ ⟨by omega, by omega⟩ ?_
        refine x_ci ?_
        refine x_iadd ?_
        refine x_iload rfl ?_
        refine h_iast sc_114 ⟨by omega, by omega⟩ (by decide) ?_
        refine x_ret ?_
        first
          | (exfalso; omega)
          | (refine k _ ⟨fun b hb j => ?_, fun q => ?_, fun j => ?_, fun j => ?_, fun j => ?_⟩
             · simp only [up]
               rw [if_neg (by omega), if_neg (by omega), if_neg (by omega), if_neg (by omega), if_neg (by omega), if_neg (by omega)]
             · simp only [up]
               simp
               repeat' split
               all_goals first | rfl | omega | (subst_vars; omega)
             · have hs : sgn x = 1 := by
                 unfold sgn
                 exact if_pos (by omega)
               rw [hs]
               simp only [up]
               simp [Ne.symm hne]
               repeat' split
               all_goals first | rfl | omega | (subst_vars; omega)
             · simp only [up]
               simp [show x % 2 = 0 by omega]
               repeat' split
               all_goals first | rfl | omega | (subst_vars; omega)
             · simp only [up]
               simp [show x % 2 = 0 by omega]
               repeat' split
               all_goals first | rfl | omega | (subst_vars; omega))
          | (refine k _ ⟨fun b hb j => ?_, fun q => ?_, fun j => ?_, fun j => ?_, fun j => ?_⟩
             · simp only [up]
               rw [if_neg (by omega), if_neg (by omega), if_neg (by omega), if_neg (by omega), if_neg (by omega), if_neg (by omega)]
             · simp only [up]
               simp
               repeat' split
               all_goals first | rfl | omega | (subst_vars; omega)
             · have hs : sgn x = -1 := by
                 unfold sgn
                 exact if_neg (by omega)
               rw [hs]
               simp only [up]
               simp [Ne.symm hne]
               repeat' split
               all_goals first | rfl | omega | (subst_vars; omega)
             · simp only [up]
               simp [show ¬ x % 2 = 0 by omega]
               repeat' split
               all_goals first | rfl | omega | (subst_vars; omega)
             · simp only [up]
               simp [show ¬ x % 2 = 0 by omega]
               repeat' split
               all_goals first | rfl | omega | (subst_vars; omega))
end R2
