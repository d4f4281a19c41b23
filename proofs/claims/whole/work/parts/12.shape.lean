/-! SHAPES: the cells that the two constructors make lie always alike (32 to 129, then the law's 'out', 130); what they hold is a number a place -/
abbrev St : Type := Nat → Int → Int
/-- an array (kind, length), or an object (class, the kinds of its fields: 0 int, 1 boolean, 2 long, 3 a reference that changes, else the cell that it names for good) -/
abbrev cshape : Type := (Nat × Nat) ⊕ (Nat × List Nat)
def dec (k : Nat) (x : Int) : pv := if k < 2 then vI x else if k = 2 then vL x else if k = 3 then (if x = 0 then vN else vR (x - 1).toNat) else vR k
def fldv : List Nat → (Int → Int) → Int → List pv
  | [], _, _ => []
  | k :: t, f, i => dec k (f i) :: fldv t f (i + 1)
def cellOf : cshape → (Int → Int) → pcell
  | .inl (t, n), f => .inl (t, n, fun j => f j)
  | .inr (c, ks), f => .inr (c, fldv ks f 0)
def shl : List cshape := [.inr (10, [33, 35, 3, 3, 0, 0, 53, 58, 1, 63, 68, 70, 75, 82, 90, 92]), .inr (8, [34, 0, 0, 0, 0, 0, 3, 0, 0, 0]), .inl (1, 700), .inr (7, [0, 0, 33, 36, 0, 0, 1, 1]), .inl (0, 72), .inr (5, [38, 0, 39, 40, 0, 0, 1, 0, 1, 0, 41, 0, 42, 43, 44, 0]), .inl (0, 6), .inl (0, 24), .inl (0, 24), .inl (0, 64), .inl (0, 3), .inl (0, 3), .inl (3, 64), .inr (5, [46, 0, 47, 48, 0, 0, 1, 0, 1, 0, 49, 0, 50, 51, 52, 0]), .inl (0, 6), .inl (0, 24), .inl (0, 24), .inl (0, 64), .inl (0, 3), .inl (0, 3), .inl (3, 64), .inr (1, [54, 0, 0, 0, 0, 2]), .inr (3, [55, 56, 57, 0, 0, 0, 0]), .inl (0, 52), .inl (0, 6), .inl (0, 36), .inr (1, [59, 0, 0, 0, 0, 2]), .inr (3, [60, 61, 62, 0, 0, 0, 0]), .inl (0, 52), .inl (0, 6), .inl (0, 36), .inr (1, [64, 0, 0, 0, 0, 2]), .inr (3, [65, 66, 67, 0, 0, 0, 0]), .inl (0, 52), .inl (0, 6), .inl (0, 36), .inr (9, [69, 0, 1, 1]), .inl (3, 7), .inr (2, [71, 72, 73, 74, 0, 0]), .inl (0, 960), .inl (0, 20), .inl (0, 20), .inl (0, 20), .inr (4, [76, 77, 78, 79, 80, 81, 0, 0]), .inl (0, 24), .inl (0, 24), .inl (0, 24), .inl (0, 24), .inl (2, 24), .inl (2, 24), .inr (6, [83, 87, 89, 0, 0, 1, 0]), .inr (3, [84, 85, 86, 0, 0, 0, 0]), .inl (0, 52), .inl (0, 6), .inl (0, 36), .inr (0, [88]), .inl (3, 12), .inl (0, 4), .inr (0, [91]), .inl (3, 12), .inr (0, [93]), .inl (3, 12), .inr (11, [0, 95, 0, 96, 97, 98, 99, 100, 101, 102, 103, 0, 0, 0, 0, 0, 0, 0, 0, 0, 0, 0, 0, 0, 104, 105, 0, 106, 107, 108, 109, 110, 111, 112, 113, 1, 0, 114, 115, 116, 117, 0, 118, 119, 120, 0, 121, 0, 122, 123, 0, 0, 124, 125, 126, 127, 128, 129]), .inl (0, 700), .inl (0, 10), .inl (0, 12), .inl (0, 48), .inl (0, 48), .inl (0, 6), .inl (0, 6), .inl (0, 128), .inl (0, 128), .inl (3, 7), .inl (3, 64), .inl (0, 23), .inl (0, 23), .inl (0, 23), .inl (0, 23), .inl (0, 23), .inl (0, 23), .inl (0, 23), .inl (0, 1104), .inl (0, 6), .inl (0, 36), .inl (0, 6), .inl (0, 6), .inl (0, 2), .inl (0, 2), .inl (0, 1200), .inl (2, 48), .inl (0, 4), .inl (0, 6), .inl (0, 24), .inl (0, 24), .inl (0, 24), .inl (0, 24), .inl (2, 24), .inl (2, 24), .inl (3, 1)]
def HP (h0 : pheap) (s : St) : pheap := (99 + h0.1, h0.2.1, fun a => if 32 ≤ a ∧ a < 131 then cellOf (shl.getD (a - 32) (.inl (0, 0))) (s a) else h0.2.2 a)
def isC (a : Nat) (c : cshape) : Prop := 32 ≤ a ∧ a < 131 ∧ shl.getD (a - 32) (.inl (0, 0)) = c
def up (s : St) (a : Nat) (i x : Int) : St := fun b j => if b = a ∧ j = i then x else s b j
theorem fldv_len : ∀ (ks : List Nat) (f : Int → Int) (i : Int), (fldv ks f i).length = ks.length
  | [], _, _ => rfl
  | _ :: t, f, i => congrArg (· + 1) (fldv_len t f (i + 1))
theorem fldv_at : ∀ (ks : List Nat) (f : Int → Int) (i : Int) (k t : Nat), ks[k]? = some t → (fldv ks f i)[k]? = some (dec t (f (i + k)))
  | [], _, _, _, _, e => by simp at e
  | a :: u, f, i, 0, t, e => by
    simp at e
    subst e
    simp [fldv]
  | a :: u, f, i, k + 1, t, e => by
    have := fldv_at u f (i + 1) k t (by simpa using e)
    simp only [fldv, List.getElem?_cons_succ, this]
    congr 3
    omega
theorem fldv_off : ∀ (ks : List Nat) (f g : Int → Int) (i : Int), (∀ j, i ≤ j → f j = g j) → fldv ks f i = fldv ks g i
  | [], _, _, _, _ => rfl
  | a :: u, f, g, i, e => by
    simp only [fldv]
    rw [e i (Int.le_refl i), fldv_off u f g (i + 1) (fun j hj => e j (by omega))]
theorem fldv_set : ∀ (ks : List Nat) (f : Int → Int) (i : Int) (k t : Nat) (x : Int), ks[k]? = some t → fldv ks (fun j => if j = i + k then x else f j) i = (fldv ks f i).set k (dec t x)
  | [], _, _, _, _, _, e => by simp at e
  | a :: u, f, i, 0, t, x, e => by
    simp at e
    subst e
    simp only [fldv, List.set_cons_zero]
    rw [if_pos (by omega), fldv_off u _ f (i + 1) (fun j hj => if_neg (by omega))]
  | a :: u, f, i, k + 1, t, x, e => by
    have := fldv_set u f (i + 1) k t x (by simpa using e)
    simp only [fldv, List.set_cons_succ]
    rw [if_neg (by omega), ← this]
    congr 1
    refine fldv_off _ _ _ _ (fun j _ => ?_)
    have : (j = i + ((k + 1 : Nat) : Int)) = (j = i + 1 + (k : Int)) := by
      apply propext
      omega
    simp only [this]
section HQ
variable {d : Nat} {bt : List (List PI)} {r : List PI} {ls ls' : plocs} {st : List pv} {h0 : pheap} {s : St} {Q : Option pv → pheap → Prop} {as : List Nat} {z : Int} {a : Nat}
theorem HP_cell {c : cshape} (o : isC a c) : (HP h0 s).2.2 a = cellOf c (s a) := by
  simp only [HP]
  rw [if_pos ⟨o.1, o.2.1⟩, o.2.2]
theorem isC_ob {c : Nat} {ks : List Nat} (o : isC a (.inr (c, ks))) : Ob (HP h0 s) a c (fldv ks (s a) 0) := ⟨o.1, by have := o.2.1; simp only [HP]; omega, HP_cell o⟩
theorem isC_ar {t n : Nat} (o : isC a (.inl (t, n))) : Ar (HP h0 s) a t n (fun j => s a j) := ⟨o.1, by have := o.2.1; simp only [HP]; omega, HP_cell o⟩
theorem HP_put {x : pcell} {i v : Int} {c : cshape} (o : isC a c) (e : cellOf c (fun j => if j = i then v else s a j) = x) : hput (HP h0 s) a x = HP h0 (up s a i v) := by
  unfold hput HP
  congr 2
  funext b
  unfold updC
  by_cases hb : b = a
  · subst hb
    rw [if_pos rfl, if_pos ⟨o.1, o.2.1⟩, o.2.2, ← e]
    congr 1
    funext j
    simp [up]
  · rw [if_neg hb]
    dsimp only
    by_cases hc : 32 ≤ b ∧ b < 131
    · rw [if_pos hc, if_pos hc]
      congr 1
      funext j
      simp [up, hb]
    · rw [if_neg hc, if_neg hc]
theorem HP_arr {t n : Nat} {i v : Int} (o : isC a (.inl (t, n))) (h : 0 ≤ i) : hput (HP h0 s) a (.inl (t, n, updI (fun j => s a j) i.toNat v)) = HP h0 (up s a i v) := by
  refine HP_put o ?_
  simp only [cellOf]
  congr 3
  funext j
  unfold updI
  have : ((j : Int) = i) = (j = i.toNat) := by
    apply propext
    omega
  simp only [this]
theorem HP_fld {c k t : Nat} {ks : List Nat} {v : Int} (o : isC a (.inr (c, ks))) (e : ks[k]? = some t) : hput (HP h0 s) a (.inr (c, (fldv ks (s a) 0).set k (dec t v))) = HP h0 (up s a k v) := by
  refine HP_put o ?_
  simp only [cellOf]
  rw [← fldv_set ks (s a) 0 k t v e]
  congr 3
  funext j
  simp
theorem h_get {c k t : Nat} {ks : List Nat} {j : Int} (o : isC a (.inr (c, ks))) (e : ks[k]? = some t) (ej : j = (k : Int)) (K : wp PP d bt r ls (dec t (s a j) :: st) (HP h0 s) Q) : wp PP d bt ((60, [k, c], z) :: r) ls (vR a :: st) (HP h0 s) Q := by
  refine x_get (isC_ob o) (fldv_at ks (s a) 0 k t e) ?_
  rw [Int.zero_add, ← ej]
  exact K
theorem h_getI {c k : Nat} {ks : List Nat} (j : Int) (o : isC a (.inr (c, ks))) (e : ks[k]? = some 0) (ej : j = (k : Int)) (K : wp PP d bt r ls (vI (s a j) :: st) (HP h0 s) Q) : wp PP d bt ((60, [k, c], z) :: r) ls (vR a :: st) (HP h0 s) Q := h_get o e ej K
theorem h_getZ {c k : Nat} {ks : List Nat} (j : Int) (o : isC a (.inr (c, ks))) (e : ks[k]? = some 1) (ej : j = (k : Int)) (K : wp PP d bt r ls (vI (s a j) :: st) (HP h0 s) Q) : wp PP d bt ((60, [k, c], z) :: r) ls (vR a :: st) (HP h0 s) Q := h_get o e ej K
theorem h_getL {c k : Nat} {ks : List Nat} (j : Int) (o : isC a (.inr (c, ks))) (e : ks[k]? = some 2) (ej : j = (k : Int)) (K : wp PP d bt r ls (vL (s a j) :: st) (HP h0 s) Q) : wp PP d bt ((60, [k, c], z) :: r) ls (vR a :: st) (HP h0 s) Q := h_get o e ej K
theorem h_getV {c k : Nat} {ks : List Nat} (j : Int) (o : isC a (.inr (c, ks))) (e : ks[k]? = some 3) (ej : j = (k : Int)) (K : wp PP d bt r ls ((if s a j = 0 then vN else vR (s a j - 1).toNat) :: st) (HP h0 s) Q) : wp PP d bt ((60, [k, c], z) :: r) ls (vR a :: st) (HP h0 s) Q := h_get o e ej K
theorem h_getR {c k b : Nat} {ks : List Nat} (o : isC a (.inr (c, ks))) (e : ks[k]? = some b) (hb : 4 ≤ b) (K : wp PP d bt r ls (vR b :: st) (HP h0 s) Q) : wp PP d bt ((60, [k, c], z) :: r) ls (vR a :: st) (HP h0 s) Q := by
  refine h_get o e rfl ?_
  unfold dec
  rw [if_neg (by omega), if_neg (by omega), if_neg (by omega)]
  exact K
theorem h_put {c k t : Nat} {ks : List Nat} {v : Int} {w : pv} {j : Int} (o : isC a (.inr (c, ks))) (e : ks[k]? = some t) (ej : j = (k : Int)) (hw : w = dec t v) (hf : fok t w = true) (K : wp PP d bt r ls st (HP h0 (up s a j v)) Q) : wp PP d bt ((61, [k, t, c], z) :: r) ls (w :: vR a :: st) (HP h0 s) Q := by
  refine x_put (isC_ob o) ?_ hf ?_
  · rw [fldv_len]
    exact (List.getElem?_eq_some_iff.mp e).1
  · rw [hw, HP_fld o e, ← ej]
    exact K
theorem h_putI {c k : Nat} {ks : List Nat} {v : Int} (j : Int) (o : isC a (.inr (c, ks))) (e : ks[k]? = some 0) (ej : j = (k : Int)) (K : wp PP d bt r ls st (HP h0 (up s a j v)) Q) : wp PP d bt ((61, [k, 0, c], z) :: r) ls (vI v :: vR a :: st) (HP h0 s) Q := h_put o e ej rfl rfl K
theorem h_putZ {c k : Nat} {ks : List Nat} {v : Int} (j : Int) (o : isC a (.inr (c, ks))) (e : ks[k]? = some 1) (ej : j = (k : Int)) (hv : v = 0 ∨ v = 1) (K : wp PP d bt r ls st (HP h0 (up s a j v)) Q) : wp PP d bt ((61, [k, 1, c], z) :: r) ls (vI v :: vR a :: st) (HP h0 s) Q := h_put o e ej rfl (by rcases hv with rfl | rfl <;> rfl) K
theorem h_putL {c k : Nat} {ks : List Nat} {v : Int} (j : Int) (o : isC a (.inr (c, ks))) (e : ks[k]? = some 2) (ej : j = (k : Int)) (K : wp PP d bt r ls st (HP h0 (up s a j v)) Q) : wp PP d bt ((61, [k, 2, c], z) :: r) ls (vL v :: vR a :: st) (HP h0 s) Q := h_put o e ej rfl rfl K
theorem h_putR {c k b : Nat} {ks : List Nat} (j : Int) (o : isC a (.inr (c, ks))) (e : ks[k]? = some 3) (ej : j = (k : Int)) (K : wp PP d bt r ls st (HP h0 (up s a j (b + 1))) Q) : wp PP d bt ((61, [k, 3, c], z) :: r) ls (vR b :: vR a :: st) (HP h0 s) Q := by
  refine h_put (v := (b : Int) + 1) o e ej ?_ rfl K
  unfold dec
  rw [if_neg (by decide), if_neg (by decide), if_pos rfl, if_neg (by omega)]
  congr 2
  omega
theorem h_putN {c k : Nat} {ks : List Nat} (j : Int) (o : isC a (.inr (c, ks))) (e : ks[k]? = some 3) (ej : j = (k : Int)) (K : wp PP d bt r ls st (HP h0 (up s a j 0)) Q) : wp PP d bt ((61, [k, 3, c], z) :: r) ls (vN :: vR a :: st) (HP h0 s) Q := h_put o e ej rfl rfl K
theorem h_iald {n : Nat} {i : Int} (o : isC a (.inl (0, n))) (e : 0 ≤ i ∧ i < n) (e2 : n < 2147483648) (K : wp PP d bt r ls (vI (s a i) :: st) (HP h0 s) Q) : wp PP d bt ((62, as, z) :: r) ls (vI i :: vR a :: st) (HP h0 s) Q := by
  refine x_iald (isC_ar o) e.1 e.2 e2 ?_
  rw [Int.toNat_of_nonneg e.1]
  exact K
theorem h_lald {n : Nat} {i : Int} (o : isC a (.inl (3, n))) (e : 0 ≤ i ∧ i < n) (e2 : n < 2147483648) (K : wp PP d bt r ls (vL (s a i) :: st) (HP h0 s) Q) : wp PP d bt ((64, as, z) :: r) ls (vI i :: vR a :: st) (HP h0 s) Q := by
  refine x_lald (isC_ar o) e.1 e.2 e2 ?_
  rw [Int.toNat_of_nonneg e.1]
  exact K
theorem h_bald1 {n : Nat} {i : Int} (o : isC a (.inl (1, n))) (e : 0 ≤ i ∧ i < n) (e2 : n < 2147483648) (K : wp PP d bt r ls (vI (s a i) :: st) (HP h0 s) Q) : wp PP d bt ((66, as, z) :: r) ls (vI i :: vR a :: st) (HP h0 s) Q := by
  refine x_bald1 (isC_ar o) e.1 e.2 e2 ?_
  rw [Int.toNat_of_nonneg e.1]
  exact K
theorem h_bald2 {n : Nat} {i : Int} (o : isC a (.inl (2, n))) (e : 0 ≤ i ∧ i < n) (e2 : n < 2147483648) (K : wp PP d bt r ls (vI (s a i) :: st) (HP h0 s) Q) : wp PP d bt ((66, as, z) :: r) ls (vI i :: vR a :: st) (HP h0 s) Q := by
  refine x_bald2 (isC_ar o) e.1 e.2 e2 ?_
  rw [Int.toNat_of_nonneg e.1]
  exact K
theorem h_iast {n : Nat} {i x : Int} (o : isC a (.inl (0, n))) (e : 0 ≤ i ∧ i < n) (e2 : n < 2147483648) (K : wp PP d bt r ls st (HP h0 (up s a i x)) Q) : wp PP d bt ((63, as, z) :: r) ls (vI x :: vI i :: vR a :: st) (HP h0 s) Q := by
  refine x_iast (isC_ar o) e.1 e.2 e2 ?_
  rw [HP_arr o e.1]
  exact K
theorem h_last {n : Nat} {i x : Int} (o : isC a (.inl (3, n))) (e : 0 ≤ i ∧ i < n) (e2 : n < 2147483648) (K : wp PP d bt r ls st (HP h0 (up s a i x)) Q) : wp PP d bt ((65, as, z) :: r) ls (vL x :: vI i :: vR a :: st) (HP h0 s) Q := by
  refine x_last (isC_ar o) e.1 e.2 e2 ?_
  rw [HP_arr o e.1]
  exact K
theorem h_bast1 {n : Nat} {i x : Int} (o : isC a (.inl (1, n))) (e : 0 ≤ i ∧ i < n) (e2 : n < 2147483648) (K : wp PP d bt r ls st (HP h0 (up s a i (a_nar 1 x))) Q) : wp PP d bt ((67, as, z) :: r) ls (vI x :: vI i :: vR a :: st) (HP h0 s) Q := by
  refine x_bast1 (isC_ar o) e.1 e.2 e2 ?_
  rw [HP_arr o e.1]
  exact K
theorem h_bast2 {n : Nat} {i x : Int} (o : isC a (.inl (2, n))) (e : 0 ≤ i ∧ i < n) (e2 : n < 2147483648) (K : wp PP d bt r ls st (HP h0 (up s a i (a_nar 2 x))) Q) : wp PP d bt ((67, as, z) :: r) ls (vI x :: vI i :: vR a :: st) (HP h0 s) Q := by
  refine x_bast2 (isC_ar o) e.1 e.2 e2 ?_
  rw [HP_arr o e.1]
  exact K
theorem h_alen {t n : Nat} (j : Int) (o : isC a (.inl (t, n))) (e : t < 4) (ej : j = (n : Int)) (K : wp PP d bt r ls (vI j :: st) (HP h0 s) Q) : wp PP d bt ((68, as, z) :: r) ls (vR a :: st) (HP h0 s) Q := by
  refine x_alen (isC_ar o) e ?_
  rw [← ej]
  exact K
theorem h_rcv {c : Nat} {ks : List Nat} {t : List pv} (o : isC a (.inr (c, ks))) : rcv 0 c (HP h0 s) (vR a :: t) = true := rcv_ob (isC_ob o)
variable {h : pheap}
theorem n_istore {i : Nat} {x : Int} (ls' : plocs) (e : i < ls.length) (e2 : sto ls i (some (vI x)) = ls') (k : wp PP d bt r ls' st h Q) : wp PP d bt ((6, [i], z) :: r) ls (vI x :: st) h Q := x_istore e (e2 ▸ k)
theorem n_lstore {i : Nat} {x : Int} (ls' : plocs) (e : i + 1 < ls.length) (e2 : sto (sto ls (i + 1) none) i (some (vL x)) = ls') (k : wp PP d bt r ls' st h Q) : wp PP d bt ((7, [i], z) :: r) ls (vL x :: st) h Q := x_lstore e (e2 ▸ k)
theorem n_astore {i : Nat} {x : Option Nat} (ls' : plocs) (e : i < ls.length) (e2 : sto ls i (some (.inr x)) = ls') (k : wp PP d bt r ls' st h Q) : wp PP d bt ((8, [i], z) :: r) ls (.inr x :: st) h Q := x_astore e (e2 ▸ k)
theorem n_iinc {i : Nat} {x : Int} (ls' : plocs) (e : ls[i]? = some (some (vI x))) (e2 : sto ls i (some (vI (x + z))) = ls') (k : wp PP d bt r ls' st h Q) : wp PP d bt ((9, [i], z) :: r) ls st h Q := x_iinc e (e2 ▸ k)
abbrev iR (x : Int) : Prop := -2147483648 ≤ x ∧ x < 2147483648
theorem w32_R {x : Int} (e : iR x) : w32 x = x := w32_id e.1 e.2
theorem n_icmp_eq {b : Nat} {x y : Int} (hx : iR x) (hy : iR y) (k1 : x = y → wp PP d bt (bt.getD b []) ls st h Q) (k2 : ¬ x = y → wp PP d bt r ls st h Q) : wp PP d bt ((102, [0, b], z) :: r) ls (vI y :: vI x :: st) h Q := by
  refine x_icmp_eq (fun c => k1 ?_) (fun c => k2 ?_) <;> rw [w32_R hx, w32_R hy] at c <;> omega
theorem n_icmp_ne {b : Nat} {x y : Int} (hx : iR x) (hy : iR y) (k1 : ¬ x = y → wp PP d bt (bt.getD b []) ls st h Q) (k2 : x = y → wp PP d bt r ls st h Q) : wp PP d bt ((102, [1, b], z) :: r) ls (vI y :: vI x :: st) h Q := by
  refine x_icmp_ne (fun c => k1 ?_) (fun c => k2 ?_) <;> rw [w32_R hx, w32_R hy] at c <;> omega
theorem n_icmp_lt {b : Nat} {x y : Int} (hx : iR x) (hy : iR y) (k1 : x < y → wp PP d bt (bt.getD b []) ls st h Q) (k2 : y ≤ x → wp PP d bt r ls st h Q) : wp PP d bt ((102, [2, b], z) :: r) ls (vI y :: vI x :: st) h Q := by
  refine x_icmp_lt (fun c => k1 ?_) (fun c => k2 ?_) <;> rw [w32_R hx, w32_R hy] at c <;> omega
theorem n_icmp_ge {b : Nat} {x y : Int} (hx : iR x) (hy : iR y) (k1 : y ≤ x → wp PP d bt (bt.getD b []) ls st h Q) (k2 : x < y → wp PP d bt r ls st h Q) : wp PP d bt ((102, [3, b], z) :: r) ls (vI y :: vI x :: st) h Q := by
  refine x_icmp_ge (fun c => k1 ?_) (fun c => k2 ?_) <;> rw [w32_R hx, w32_R hy] at c <;> omega
theorem n_icmp_gt {b : Nat} {x y : Int} (hx : iR x) (hy : iR y) (k1 : y < x → wp PP d bt (bt.getD b []) ls st h Q) (k2 : x ≤ y → wp PP d bt r ls st h Q) : wp PP d bt ((102, [4, b], z) :: r) ls (vI y :: vI x :: st) h Q := by
  refine x_icmp_gt (fun c => k1 ?_) (fun c => k2 ?_) <;> rw [w32_R hx, w32_R hy] at c <;> omega
theorem n_icmp_le {b : Nat} {x y : Int} (hx : iR x) (hy : iR y) (k1 : x ≤ y → wp PP d bt (bt.getD b []) ls st h Q) (k2 : y < x → wp PP d bt r ls st h Q) : wp PP d bt ((102, [5, b], z) :: r) ls (vI y :: vI x :: st) h Q := by
  refine x_icmp_le (fun c => k1 ?_) (fun c => k2 ?_) <;> rw [w32_R hx, w32_R hy] at c <;> omega
theorem n_if_eq {b : Nat} {x : Int} (hx : iR x) (k1 : x = 0 → wp PP d bt (bt.getD b []) ls st h Q) (k2 : ¬ x = 0 → wp PP d bt r ls st h Q) : wp PP d bt ((101, [0, b], z) :: r) ls (vI x :: st) h Q := by
  refine x_if_eq (fun c => k1 ?_) (fun c => k2 ?_) <;> rw [w32_R hx] at c <;> omega
theorem n_if_ne {b : Nat} {x : Int} (hx : iR x) (k1 : ¬ x = 0 → wp PP d bt (bt.getD b []) ls st h Q) (k2 : x = 0 → wp PP d bt r ls st h Q) : wp PP d bt ((101, [1, b], z) :: r) ls (vI x :: st) h Q := by
  refine x_if_ne (fun c => k1 ?_) (fun c => k2 ?_) <;> rw [w32_R hx] at c <;> omega
theorem n_if_lt {b : Nat} {x : Int} (hx : iR x) (k1 : x < 0 → wp PP d bt (bt.getD b []) ls st h Q) (k2 : 0 ≤ x → wp PP d bt r ls st h Q) : wp PP d bt ((101, [2, b], z) :: r) ls (vI x :: st) h Q := by
  refine x_if_lt (fun c => k1 ?_) (fun c => k2 ?_) <;> rw [w32_R hx] at c <;> omega
theorem n_if_ge {b : Nat} {x : Int} (hx : iR x) (k1 : 0 ≤ x → wp PP d bt (bt.getD b []) ls st h Q) (k2 : x < 0 → wp PP d bt r ls st h Q) : wp PP d bt ((101, [3, b], z) :: r) ls (vI x :: st) h Q := by
  refine x_if_ge (fun c => k1 ?_) (fun c => k2 ?_) <;> rw [w32_R hx] at c <;> omega
theorem n_if_gt {b : Nat} {x : Int} (hx : iR x) (k1 : 0 < x → wp PP d bt (bt.getD b []) ls st h Q) (k2 : x ≤ 0 → wp PP d bt r ls st h Q) : wp PP d bt ((101, [4, b], z) :: r) ls (vI x :: st) h Q := by
  refine x_if_gt (fun c => k1 ?_) (fun c => k2 ?_) <;> rw [w32_R hx] at c <;> omega
theorem n_if_le {b : Nat} {x : Int} (hx : iR x) (k1 : x ≤ 0 → wp PP d bt (bt.getD b []) ls st h Q) (k2 : 0 < x → wp PP d bt r ls st h Q) : wp PP d bt ((101, [5, b], z) :: r) ls (vI x :: st) h Q := by
  refine x_if_le (fun c => k1 ?_) (fun c => k2 ?_) <;> rw [w32_R hx] at c <;> omega
/-- a truth as a number -/
def bI (c : Prop) [Decidable c] : Int := if c then 1 else 0
theorem bI_t {c : Prop} [Decidable c] (h : c) : bI c = 1 := if_pos h
theorem bI_f {c : Prop} [Decidable c] (h : ¬ c) : bI c = 0 := if_neg h
theorem bI_01 (c : Prop) [Decidable c] : bI c = 0 ∨ bI c = 1 := by
  unfold bI
  split <;> simp
theorem bI_R (c : Prop) [Decidable c] : 0 ≤ bI c ∧ bI c ≤ 1 := by
  unfold bI
  split <;> simp
theorem bI_cg {c c' : Prop} [Decidable c] [Decidable c'] (h : c ↔ c') : bI c = bI c' := by
  unfold bI
  simp only [h]
theorem z_if_eq {b : Nat} {c : Prop} [Decidable c] (k1 : ¬ c → wp PP d bt (bt.getD b []) ls st h Q) (k2 : c → wp PP d bt r ls st h Q) : wp PP d bt ((101, [0, b], z) :: r) ls (vI (bI c) :: st) h Q := by
  have := bI_R c
  refine n_if_eq ⟨by omega, by omega⟩ (fun e => k1 (fun hc => ?_)) (fun e => k2 ?_)
  · rw [bI_t hc] at e
    omega
  · by_cases hc : c
    · exact hc
    · exact absurd (bI_f hc) e
theorem z_if_ne {b : Nat} {c : Prop} [Decidable c] (k1 : c → wp PP d bt (bt.getD b []) ls st h Q) (k2 : ¬ c → wp PP d bt r ls st h Q) : wp PP d bt ((101, [1, b], z) :: r) ls (vI (bI c) :: st) h Q := by
  have := bI_R c
  refine n_if_ne ⟨by omega, by omega⟩ (fun e => k1 ?_) (fun e => k2 (fun hc => ?_))
  · by_cases hc : c
    · exact hc
    · exact absurd (bI_f hc) e
  · rw [bI_t hc] at e
    omega
theorem cB1 {c : Prop} [Decidable c] (k : Q (some (vI (bI c))) h) (hc : c) : Q (some (vI 1)) h := bI_t hc ▸ k
theorem cB0 {c : Prop} [Decidable c] (k : Q (some (vI (bI c))) h) (hc : ¬ c) : Q (some (vI 0)) h := bI_f hc ▸ k
theorem cBB {c c' : Prop} [Decidable c] [Decidable c'] (k : Q (some (vI (bI c))) h) (hc : c ↔ c') : Q (some (vI (bI c'))) h := bI_cg hc ▸ k
theorem cI {x y : Int} (k : Q (some (vI x)) h) (e : x = y) : Q (some (vI y)) h := e ▸ k
theorem cL {x y : Int} (k : Q (some (vL x)) h) (e : x = y) : Q (some (vL y)) h := e ▸ k
theorem cS {v : Option pv} {s' : St} (k : Q v (HP h0 s)) (e : s = s') : Q v (HP h0 s') := e ▸ k
theorem n_call {m kk : Nat} (as0 st2 : List pv) (hd : 0 < d) (hk : kk ≤ st.length) (e1 : (st.take kk).reverse = as0) (e2 : st.drop kk = st2) (hc : scat st2 ≤ 8) (k : wpM PP (d - 1) m as0 h (fun v h' => wp PP d bt r ls (v.toList ++ st2) h' Q)) : wp PP d bt ((120, m :: kk :: as, z) :: r) ls st h Q := x_call hd hk e1 e2 hc k
theorem n_at {m : Nat} {as1 : List pv} {q : mrec} {kn : Nat × Nat} (ls : plocs) (bt : List (List PI)) (h1 : MT[m]? = some q) (h2 : MK[m]? = some kn) (hr : rcv kn.1 q.2.1 h as1 = true) (hl : (ent1 as1).length ≤ q.2.2.2.1) (hb : q.2.2.2.2.2.2 = bt) (he : ent q.2.2.2.1 as1 = ls)
    (w : wp PP d bt (bt.getD 0 []) ls [] h Q) : wpM PP d m as1 h Q := by
  subst hb he
  exact wpM_at h1 h2 hr hl w
end HQ
theorem s_ind {p : Nat → Prop} (h : ∀ n, (∀ m, m < n → p m) → p n) : ∀ n, p n := fun n => Nat.strongRecOn n h
