/-! switches, references, Math's members, in the form that the programs write -/
def tswK (x : Int) (W : Nat → Prop) : List Nat → Int → Prop
  | [], _ => True
  | b :: t, z => (x = z → W b) ∧ tswK x W t (z + 1)
theorem tswK_at {x : Int} {W : Nat → Prop} {df : Nat} : ∀ (bs : List Nat) (z : Int), tswK x W bs z → z ≤ x → x < z + (bs.length : Int) → W (bs.getD (x - z).toNat df)
  | [], z, _, h1, h2 => absurd h2 (by simp; omega)
  | b :: t, z, k, h1, h2 => by
    by_cases e : x = z
    · have : (x - z).toNat = 0 := by omega
      rw [this]
      exact k.1 e
    · have := tswK_at (df := df) t (z + 1) k.2 (by omega) (by simp only [List.length_cons] at h2; omega)
      have e2 : (x - z).toNat = (x - (z + 1)).toNat + 1 := by omega
      rw [e2]
      exact this
def lswK (x : Int) (W : Nat → Prop) : List Nat → Prop
  | k :: b :: t => (x = (k : Int) → W b) ∧ lswK x W t
  | _ => True
def lswN (x : Int) : List Nat → Prop
  | k :: _ :: t => x ≠ (k : Int) ∧ lswN x t
  | _ => True
theorem lswK_at {x : Int} {W : Nat → Prop} {df : Nat} (hx : w32 x = x) : ∀ (kbs : List Nat), (lswN x kbs → W df) → lswK x W kbs → W (lsw x df kbs)
  | [], k1, _ => k1 trivial
  | [_], k1, _ => k1 trivial
  | k :: b :: t, k1, k2 => by
    unfold lsw
    rw [hx]
    by_cases e : x = (k : Int)
    · rw [if_pos e]
      exact k2.1 e
    · rw [if_neg e]
      exact lswK_at hx t (fun q => k1 ⟨e, q⟩) k2.2
section HS
variable {d : Nat} {bt : List (List PI)} {r : List PI} {ls ls' : plocs} {st : List pv} {h : pheap} {Q : Option pv → pheap → Prop} {as : List Nat} {z : Int} {a : Nat}
theorem n_tsw {df : Nat} {bs : List Nat} {x : Int} (n : Int) (hn : n = (bs.length : Int)) (hx : iR x) (k1 : (x < z ∨ z + n ≤ x) → wp PP d bt (bt.getD df []) ls st h Q) (k2 : tswK x (fun b => wp PP d bt (bt.getD b []) ls st h Q) bs z) : wp PP d bt ((105, df :: bs, z) :: r) ls (vI x :: st) h Q := by
  refine (wp_jmp (st' := st) (b := some (if w32 x < z then df else bs.getD (w32 x - z).toNat df)) (by decide) (by unfold jmp; simp)).mpr ?_
  show wp PP d bt (bt.getD (if w32 x < z then df else bs.getD (w32 x - z).toNat df) []) ls st h Q
  rw [w32_R hx]
  by_cases c : x < z
  · rw [if_pos c]
    exact k1 (Or.inl c)
  · rw [if_neg c]
    by_cases c2 : z + n ≤ x
    · have : bs.getD (x - z).toNat df = df := by
        rw [List.getD_eq_getElem?_getD, List.getElem?_eq_none (by omega)]
        rfl
      rw [this]
      exact k1 (Or.inr c2)
    · exact tswK_at bs z k2 (by omega) (by omega)
theorem n_lsw {df : Nat} {kbs : List Nat} {x : Int} (hx : iR x) (k1 : lswN x kbs → wp PP d bt (bt.getD df []) ls st h Q) (k2 : lswK x (fun b => wp PP d bt (bt.getD b []) ls st h Q) kbs) : wp PP d bt ((106, df :: kbs, z) :: r) ls (vI x :: st) h Q := by
  refine (wp_jmp (st' := st) (b := some (lsw x df kbs)) (by decide) (by unfold jmp; simp)).mpr ?_
  exact lswK_at (w32_R hx) kbs k1 k2
theorem n_acmp_ne {b : Nat} {x y : Option Nat} (hx : rok x = true) (hy : rok y = true) (k1 : ¬ x = y → wp PP d bt (bt.getD b []) ls st h Q) (k2 : x = y → wp PP d bt r ls st h Q) : wp PP d bt ((103, [1, b], z) :: r) ls (.inr y :: .inr x :: st) h Q := by
  by_cases c : x = y
  · exact (wp_jmp (b := none) (by decide) (by unfold jmp; simp [hx, hy, c])).mpr (k2 c)
  · exact (wp_jmp (b := some b) (by decide) (by unfold jmp; simp [hx, hy, c])).mpr (k1 c)
theorem n_acmp_eq {b : Nat} {x y : Option Nat} (hx : rok x = true) (hy : rok y = true) (k1 : x = y → wp PP d bt (bt.getD b []) ls st h Q) (k2 : ¬ x = y → wp PP d bt r ls st h Q) : wp PP d bt ((103, [0, b], z) :: r) ls (.inr y :: .inr x :: st) h Q := by
  by_cases c : x = y
  · exact (wp_jmp (b := some b) (by decide) (by unfold jmp; simp [hx, hy, c])).mpr (k1 c)
  · exact (wp_jmp (b := none) (by decide) (by unfold jmp; simp [hx, hy, c])).mpr (k2 c)
theorem n_ifnull {b : Nat} {x : Option Nat} (k1 : x = none → wp PP d bt (bt.getD b []) ls st h Q) (k2 : ¬ x = none → wp PP d bt r ls st h Q) : wp PP d bt ((104, [0, b], z) :: r) ls (.inr x :: st) h Q := by
  by_cases c : x = none
  · exact (wp_jmp (b := some b) (by decide) (by unfold jmp; simp [c])).mpr (k1 c)
  · exact (wp_jmp (b := none) (by decide) (by unfold jmp; simp [c])).mpr (k2 c)
theorem n_ifnonnull {b : Nat} {x : Option Nat} (k1 : ¬ x = none → wp PP d bt (bt.getD b []) ls st h Q) (k2 : x = none → wp PP d bt r ls st h Q) : wp PP d bt ((104, [1, b], z) :: r) ls (.inr x :: st) h Q := by
  by_cases c : x = none
  · exact (wp_jmp (b := none) (by decide) (by unfold jmp; simp [c])).mpr (k2 c)
  · exact (wp_jmp (b := some b) (by decide) (by unfold jmp; simp [c])).mpr (k1 c)
theorem n_imax {x y : Int} (hx : iR x) (hy : iR y) (hd : 8 ≤ d) (hc : scat st ≤ 8) (k : wp PP d bt r ls (vI (max x y) :: st) h Q) : wp PP d bt ((121, as, z) :: r) ls (vI y :: vI x :: st) h Q := by
  refine x_i_max hd hc ?_
  unfold i_max
  rw [w32_R hx, w32_R hy]
  have : (if x < y then y else x) = max x y := by split <;> omega
  rw [this]
  exact k
theorem n_imin {x y : Int} (hx : iR x) (hy : iR y) (hd : 8 ≤ d) (hc : scat st ≤ 8) (k : wp PP d bt r ls (vI (min x y) :: st) h Q) : wp PP d bt ((122, as, z) :: r) ls (vI y :: vI x :: st) h Q := by
  refine x_i_min hd hc ?_
  unfold i_min
  rw [w32_R hx, w32_R hy]
  have : (if y < x then y else x) = min x y := by split <;> omega
  rw [this]
  exact k
theorem n_iabs {x : Int} (hx : iR x) (hd : 8 ≤ d) (hc : scat st ≤ 8) (k : wp PP d bt r ls (vI (max x (-x)) :: st) h Q) : wp PP d bt ((123, as, z) :: r) ls (vI x :: st) h Q := by
  refine x_i_abs hd hc ?_
  unfold i_abs
  rw [w32_R hx]
  have : (if 0 ≤ x then x else 0 - x) = max x (-x) := by split <;> omega
  rw [this]
  exact k
abbrev lR (x : Int) : Prop := -9223372036854775808 ≤ x ∧ x < 9223372036854775808
theorem w64_R {x : Int} (e : lR x) : w64 x = x := Int64.toInt_ofInt_of_le e.1 e.2
theorem n_lmax {x y : Int} (hx : lR x) (hy : lR y) (hd : 8 ≤ d) (hc : scat st ≤ 8) (k : wp PP d bt r ls (vL (max x y) :: st) h Q) : wp PP d bt ((124, as, z) :: r) ls (vL y :: vL x :: st) h Q := by
  refine x_l_max hd hc ?_
  unfold l_max
  rw [w64_R hx, w64_R hy]
  have : (if y < x then x else y) = max x y := by split <;> omega
  rw [this]
  exact k
theorem n_lmin {x y : Int} (hx : lR x) (hy : lR y) (hd : 8 ≤ d) (hc : scat st ≤ 8) (k : wp PP d bt r ls (vL (min x y) :: st) h Q) : wp PP d bt ((125, as, z) :: r) ls (vL y :: vL x :: st) h Q := by
  refine x_l_min hd hc ?_
  unfold l_min
  rw [w64_R hx, w64_R hy]
  have : (if y < x then y else x) = min x y := by split <;> omega
  rw [this]
  exact k
theorem n_labs {x : Int} (hx : lR x) (hd : 8 ≤ d) (hc : scat st ≤ 8) (k : wp PP d bt r ls (vL (max x (-x)) :: st) h Q) : wp PP d bt ((126, as, z) :: r) ls (vL x :: st) h Q := by
  refine x_l_abs hd hc ?_
  unfold l_abs
  rw [w64_R hx]
  have : (if 0 < x then x else -x) = max x (-x) := by split <;> omega
  rw [this]
  exact k
theorem n_i2l {x : Int} (hx : iR x) (k : wp PP d bt r ls (vL x :: st) h Q) : wp PP d bt ((37, as, z) :: r) ls (vI x :: st) h Q := by
  refine x_i2l ?_
  rw [w32_R hx]
  exact k
theorem n_lcmp {x y : Int} (hx : lR x) (hy : lR y) (k : wp PP d bt r ls (vI (if x < y then -1 else if x = y then 0 else 1) :: st) h Q) : wp PP d bt ((46, as, z) :: r) ls (vL y :: vL x :: st) h Q := by
  refine x_lcmp ?_
  have e : l_cmp x y = (if x < y then -1 else if x = y then 0 else 1) := by
    unfold l_cmp lg_cmp
    have e1 : (Int64.ofInt x).toInt = x := Int64.toInt_ofInt_of_le hx.1 hx.2
    have e2 : (Int64.ofInt y).toInt = y := Int64.toInt_ofInt_of_le hy.1 hy.2
    simp only [gt_iff_lt, Int64.lt_iff_toInt_lt, ← Int64.toInt_inj, e1, e2]
    rcases Int.lt_trichotomy x y with q | q | q
    · rw [if_neg (by omega), if_neg (by omega), if_pos q]
      rfl
    · rw [if_neg (by omega), if_pos q, if_neg (by omega), if_pos q]
      rfl
    · rw [if_pos q, if_neg (by omega), if_neg (by omega)]
      rfl
  rw [e]
  exact k
end HS
section HT
variable {d : Nat} {bt : List (List PI)} {r : List PI} {ls : plocs} {st : List pv} {h : pheap} {Q : Option pv → pheap → Prop}
/-- the top of the stack, told otherwise -/
theorem t_I {x : Int} (y : Int) (e : x = y) (k : wp PP d bt r ls (vI y :: st) h Q) : wp PP d bt r ls (vI x :: st) h Q := e ▸ k
theorem t_L {x : Int} (y : Int) (e : x = y) (k : wp PP d bt r ls (vL y :: st) h Q) : wp PP d bt r ls (vL x :: st) h Q := e ▸ k
theorem t_S {h0 : pheap} {s : St} (s' : St) (e : s = s') (k : wp PP d bt r ls st (HP h0 s') Q) : wp PP d bt r ls st (HP h0 s) Q := e ▸ k
theorem up_a {s : St} {a b : Nat} {i j x : Int} (h : b ≠ a) : up s a i x b j = s b j := if_neg (fun q => h q.1)
theorem up_i {s : St} {a b : Nat} {i j x : Int} (h : j ≠ i) : up s a i x b j = s b j := if_neg (fun q => h q.2)
theorem up_e {s : St} {a : Nat} {i x : Int} : up s a i x a i = x := if_pos ⟨rfl, rfl⟩
theorem up_at {s : St} {a : Nat} {i j x : Int} : up s a i x a j = if j = i then x else s a j := by simp [up]
end HT
