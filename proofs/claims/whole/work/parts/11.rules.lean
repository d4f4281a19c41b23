/-! RULES: one instruction of the pure machine, seen from behind -/
theorem PP_at {m : Nat} {q : mrec} {k : Nat × Nat} (h1 : MT[m]? = some q) (h2 : MK[m]? = some k) : PP m = some (k.1, q.2.1, q.2.2.2.1, q.2.2.2.2.2.2) := by
  unfold PP
  rw [h1, h2]
/-- an object, an array: where they lie -/
def Ob (h : pheap) (a c : Nat) (fs : List pv) : Prop := 32 ≤ a ∧ a < 32 + h.1 ∧ h.2.2 a = .inr (c, fs)
def Ar (h : pheap) (a t n : Nat) (f : Nat → Int) : Prop := 32 ≤ a ∧ a < 32 + h.1 ∧ h.2.2 a = .inl (t, n, f)
def hput (h : pheap) (a : Nat) (x : pcell) : pheap := (h.1, h.2.1, updC h.2.2 a x)
theorem Ob.eq {h : pheap} {a c c' : Nat} {fs fs' : List pv} (o : Ob h a c fs) : Ob (hput h a (.inr (c', fs'))) a c' fs' := ⟨o.1, o.2.1, by simp [hput, updC]⟩
theorem Ob.ne {h : pheap} {a b c : Nat} {fs : List pv} {x : pcell} (hn : a ≠ b) (o : Ob h a c fs) : Ob (hput h b x) a c fs := ⟨o.1, o.2.1, by simp [hput, updC, hn, o.2.2]⟩
theorem Ar.eq {h : pheap} {a t n t' n' : Nat} {f f' : Nat → Int} (o : Ar h a t n f) : Ar (hput h a (.inl (t', n', f'))) a t' n' f' := ⟨o.1, o.2.1, by simp [hput, updC]⟩
theorem Ar.ne {h : pheap} {a b t n : Nat} {f : Nat → Int} {x : pcell} (hn : a ≠ b) (o : Ar h a t n f) : Ar (hput h b x) a t n f := ⟨o.1, o.2.1, by simp [hput, updC, hn, o.2.2]⟩
theorem ix_ok {i : Int} {n : Nat} (h0 : 0 ≤ i) (h1 : i < n) (hn : n < 2147483648) : inx i n = true ∧ ix i = i.toNat := by
  have e : (Int32.ofInt i).toInt = i := Int32.toInt_ofInt_of_le (by omega) (by omega)
  have e2 : (Int32.ofInt i).toNatClampNeg = i.toNat := by rw [← Int32.toNat_toInt, e]
  refine ⟨?_, e2⟩
  unfold inx
  rw [decide_eq_true_iff, e2, Int32.lt_iff_toInt_lt, e]
  intro hq
  rcases hq with hq | hq
  · have : (0 : Int32).toInt = 0 := rfl
    omega
  · omega
theorem w32_id {x : Int} (h0 : -2147483648 ≤ x) (h1 : x < 2147483648) : w32 x = x := Int32.toInt_ofInt_of_le h0 h1
section RU
variable {P : pprog} {d : Nat} {bt : List (List PI)} {r : List PI} {ls : plocs} {st : List pv} {h : pheap} {Q : Option pv → pheap → Prop} {as : List Nat} {z : Int}
theorem x_ci (k : wp P d bt r ls (vI z :: st) h Q) : wp P d bt ((0, as, z) :: r) ls st h Q := (wp_s1 (by decide) rfl).mpr k
theorem x_cl (k : wp P d bt r ls (vL z :: st) h Q) : wp P d bt ((1, as, z) :: r) ls st h Q := (wp_s1 (by decide) rfl).mpr k
theorem x_null (k : wp P d bt r ls (vN :: st) h Q) : wp P d bt ((2, as, z) :: r) ls st h Q := (wp_s1 (by decide) rfl).mpr k
theorem x_iload {i : Nat} {x : Int} (e : ls[i]? = some (some (vI x))) (k : wp P d bt r ls (vI x :: st) h Q) : wp P d bt ((3, [i], z) :: r) ls st h Q := (wp_s1 (by decide) (by unfold s1 sA; simp [e])).mpr k
theorem x_lload {i : Nat} {x : Int} (e : ls[i]? = some (some (vL x))) (k : wp P d bt r ls (vL x :: st) h Q) : wp P d bt ((4, [i], z) :: r) ls st h Q := (wp_s1 (by decide) (by unfold s1 sA; simp [e])).mpr k
theorem x_aload {i : Nat} {x : Option Nat} (e : ls[i]? = some (some (.inr x))) (k : wp P d bt r ls (.inr x :: st) h Q) : wp P d bt ((5, [i], z) :: r) ls st h Q := (wp_s1 (by decide) (by unfold s1 sA; simp [e])).mpr k
theorem x_istore {i : Nat} {x : Int} (e : i < ls.length) (k : wp P d bt r (sto ls i (some (vI x))) st h Q) : wp P d bt ((6, [i], z) :: r) ls (vI x :: st) h Q := (wp_s1 (by decide) (by unfold s1 sA; simp [e])).mpr k
theorem x_lstore {i : Nat} {x : Int} (e : i + 1 < ls.length) (k : wp P d bt r (sto (sto ls (i + 1) none) i (some (vL x))) st h Q) : wp P d bt ((7, [i], z) :: r) ls (vL x :: st) h Q := (wp_s1 (by decide) (by unfold s1 sA; simp [e])).mpr k
theorem x_astore {i : Nat} {x : Option Nat} (e : i < ls.length) (k : wp P d bt r (sto ls i (some (.inr x))) st h Q) : wp P d bt ((8, [i], z) :: r) ls (.inr x :: st) h Q := (wp_s1 (by decide) (by unfold s1 sA; simp [e])).mpr k
theorem x_iinc {i : Nat} {x : Int} (e : ls[i]? = some (some (vI x))) (k : wp P d bt r (sto ls i (some (vI (x + z)))) st h Q) : wp P d bt ((9, [i], z) :: r) ls st h Q := (wp_s1 (by decide) (by unfold s1 sA; simp [e])).mpr k
theorem x_dupR {x : Option Nat} (k : wp P d bt r ls (.inr x :: .inr x :: st) h Q) : wp P d bt ((10, as, z) :: r) ls (.inr x :: st) h Q := (wp_s1 (by decide) rfl).mpr k
theorem x_dupI {x : Int} (k : wp P d bt r ls (vI x :: vI x :: st) h Q) : wp P d bt ((10, as, z) :: r) ls (vI x :: st) h Q := (wp_s1 (by decide) rfl).mpr k
theorem x_dup2 {x : Int} {y : Option Nat} (k : wp P d bt r ls (vI x :: .inr y :: vI x :: .inr y :: st) h Q) : wp P d bt ((11, as, z) :: r) ls (vI x :: .inr y :: st) h Q := (wp_s1 (by decide) rfl).mpr k
theorem x_popI {x : Int} (k : wp P d bt r ls st h Q) : wp P d bt ((12, as, z) :: r) ls (vI x :: st) h Q := (wp_s1 (by decide) rfl).mpr k
theorem x_popR {x : Option Nat} (k : wp P d bt r ls st h Q) : wp P d bt ((12, as, z) :: r) ls (.inr x :: st) h Q := (wp_s1 (by decide) rfl).mpr k
theorem x_pop2 {x : Int} (k : wp P d bt r ls st h Q) : wp P d bt ((13, as, z) :: r) ls (vL x :: st) h Q := (wp_s1 (by decide) rfl).mpr k
theorem x_iadd {a b : Int} (k : wp P d bt r ls (vI (a + b) :: st) h Q) : wp P d bt ((20, as, z) :: r) ls (vI b :: vI a :: st) h Q := (wp_s1 (by decide) rfl).mpr k
theorem x_isub {a b : Int} (k : wp P d bt r ls (vI (a - b) :: st) h Q) : wp P d bt ((21, as, z) :: r) ls (vI b :: vI a :: st) h Q := (wp_s1 (by decide) rfl).mpr k
theorem x_imul {a b : Int} (k : wp P d bt r ls (vI (a * b) :: st) h Q) : wp P d bt ((22, as, z) :: r) ls (vI b :: vI a :: st) h Q := (wp_s1 (by decide) rfl).mpr k
theorem x_ishl {a b : Int} (k : wp P d bt r ls (vI (i_shl a b) :: st) h Q) : wp P d bt ((25, as, z) :: r) ls (vI b :: vI a :: st) h Q := (wp_s1 (by decide) rfl).mpr k
theorem x_ishr {a b : Int} (k : wp P d bt r ls (vI (i_shr a b) :: st) h Q) : wp P d bt ((26, as, z) :: r) ls (vI b :: vI a :: st) h Q := (wp_s1 (by decide) rfl).mpr k
theorem x_iushr {a b : Int} (k : wp P d bt r ls (vI (i_ushr a b) :: st) h Q) : wp P d bt ((27, as, z) :: r) ls (vI b :: vI a :: st) h Q := (wp_s1 (by decide) rfl).mpr k
theorem x_iand {a b : Int} (k : wp P d bt r ls (vI (i_and a b) :: st) h Q) : wp P d bt ((28, as, z) :: r) ls (vI b :: vI a :: st) h Q := (wp_s1 (by decide) rfl).mpr k
theorem x_ior {a b : Int} (k : wp P d bt r ls (vI (i_or a b) :: st) h Q) : wp P d bt ((29, as, z) :: r) ls (vI b :: vI a :: st) h Q := (wp_s1 (by decide) rfl).mpr k
theorem x_ixor {a b : Int} (k : wp P d bt r ls (vI (i_xor a b) :: st) h Q) : wp P d bt ((30, as, z) :: r) ls (vI b :: vI a :: st) h Q := (wp_s1 (by decide) rfl).mpr k
theorem x_idiv {a b : Int} (e : w32 b ≠ 0) (k : wp P d bt r ls (vI (i_div a b) :: st) h Q) : wp P d bt ((23, as, z) :: r) ls (vI b :: vI a :: st) h Q := (wp_s1 (by decide) (by unfold s1 sB; simp [e])).mpr k
theorem x_irem {a b : Int} (e : w32 b ≠ 0) (k : wp P d bt r ls (vI (i_rem a b) :: st) h Q) : wp P d bt ((24, as, z) :: r) ls (vI b :: vI a :: st) h Q := (wp_s1 (by decide) (by unfold s1 sB; simp [e])).mpr k
theorem x_ineg {a : Int} (k : wp P d bt r ls (vI (-a) :: st) h Q) : wp P d bt ((35, as, z) :: r) ls (vI a :: st) h Q := (wp_s1 (by decide) rfl).mpr k
theorem x_i2b {a : Int} (k : wp P d bt r ls (vI (i_byte a) :: st) h Q) : wp P d bt ((36, as, z) :: r) ls (vI a :: st) h Q := (wp_s1 (by decide) rfl).mpr k
theorem x_i2l {a : Int} (k : wp P d bt r ls (vL (w32 a) :: st) h Q) : wp P d bt ((37, as, z) :: r) ls (vI a :: st) h Q := (wp_s1 (by decide) rfl).mpr k
theorem x_i2c {a : Int} (k : wp P d bt r ls (vI (i_char a) :: st) h Q) : wp P d bt ((38, as, z) :: r) ls (vI a :: st) h Q := (wp_s1 (by decide) rfl).mpr k
theorem x_ladd {a b : Int} (k : wp P d bt r ls (vL (a + b) :: st) h Q) : wp P d bt ((40, as, z) :: r) ls (vL b :: vL a :: st) h Q := (wp_s1 (by decide) rfl).mpr k
theorem x_lsub {a b : Int} (k : wp P d bt r ls (vL (a - b) :: st) h Q) : wp P d bt ((41, as, z) :: r) ls (vL b :: vL a :: st) h Q := (wp_s1 (by decide) rfl).mpr k
theorem x_lmul {a b : Int} (k : wp P d bt r ls (vL (a * b) :: st) h Q) : wp P d bt ((42, as, z) :: r) ls (vL b :: vL a :: st) h Q := (wp_s1 (by decide) rfl).mpr k
theorem x_land {a b : Int} (k : wp P d bt r ls (vL (l_and a b) :: st) h Q) : wp P d bt ((45, as, z) :: r) ls (vL b :: vL a :: st) h Q := (wp_s1 (by decide) rfl).mpr k
theorem x_lcmp {a b : Int} (k : wp P d bt r ls (vI (l_cmp a b) :: st) h Q) : wp P d bt ((46, as, z) :: r) ls (vL b :: vL a :: st) h Q := (wp_s1 (by decide) rfl).mpr k
theorem x_ldiv {a b : Int} (e : w64 b ≠ 0) (k : wp P d bt r ls (vL (l_div a b) :: st) h Q) : wp P d bt ((43, as, z) :: r) ls (vL b :: vL a :: st) h Q := (wp_s1 (by decide) (by unfold s1 sC; simp [e])).mpr k
theorem x_lrem {a b : Int} (e : w64 b ≠ 0) (k : wp P d bt r ls (vL (l_rem a b) :: st) h Q) : wp P d bt ((44, as, z) :: r) ls (vL b :: vL a :: st) h Q := (wp_s1 (by decide) (by unfold s1 sC; simp [e])).mpr k
theorem x_lneg {a : Int} (k : wp P d bt r ls (vL (-a) :: st) h Q) : wp P d bt ((55, as, z) :: r) ls (vL a :: st) h Q := (wp_s1 (by decide) rfl).mpr k
theorem x_l2i {a : Int} (k : wp P d bt r ls (vI a :: st) h Q) : wp P d bt ((56, as, z) :: r) ls (vL a :: st) h Q := (wp_s1 (by decide) rfl).mpr k
theorem x_get {kf c a : Nat} {fs : List pv} {v : pv} (o : Ob h a c fs) (e : fs[kf]? = some v) (k : wp P d bt r ls (v :: st) h Q) : wp P d bt ((60, [kf, c], z) :: r) ls (vR a :: st) h Q := (wp_s1 (by decide) (by unfold s1 sE; simp [o.1, o.2.1, o.2.2, e])).mpr k
theorem x_put {kf t c a : Nat} {fs : List pv} {v : pv} (o : Ob h a c fs) (e : kf < fs.length) (e2 : fok t v = true) (k : wp P d bt r ls st (hput h a (.inr (c, fs.set kf v))) Q) : wp P d bt ((61, [kf, t, c], z) :: r) ls (v :: vR a :: st) h Q := (wp_s1 (by decide) (by unfold s1 sE; simp [o.1, o.2.1, o.2.2, e, e2, hput])).mpr k
theorem x_iald {a n : Nat} {f : Nat → Int} {i : Int} (o : Ar h a 0 n f) (e0 : 0 ≤ i) (e1 : i < n) (e2 : n < 2147483648) (k : wp P d bt r ls (vI (f i.toNat) :: st) h Q) : wp P d bt ((62, as, z) :: r) ls (vI i :: vR a :: st) h Q := (wp_s1 (by decide) (by unfold s1 sE; simp [o.1, o.2.1, o.2.2, (ix_ok e0 e1 e2).1, (ix_ok e0 e1 e2).2])).mpr k
theorem x_iast {a n : Nat} {f : Nat → Int} {i x : Int} (o : Ar h a 0 n f) (e0 : 0 ≤ i) (e1 : i < n) (e2 : n < 2147483648) (k : wp P d bt r ls st (hput h a (.inl (0, n, updI f i.toNat x))) Q) : wp P d bt ((63, as, z) :: r) ls (vI x :: vI i :: vR a :: st) h Q := (wp_s1 (by decide) (by unfold s1 sE; simp [o.1, o.2.1, o.2.2, (ix_ok e0 e1 e2).1, (ix_ok e0 e1 e2).2, hput])).mpr k
theorem x_lald {a n : Nat} {f : Nat → Int} {i : Int} (o : Ar h a 3 n f) (e0 : 0 ≤ i) (e1 : i < n) (e2 : n < 2147483648) (k : wp P d bt r ls (vL (f i.toNat) :: st) h Q) : wp P d bt ((64, as, z) :: r) ls (vI i :: vR a :: st) h Q := (wp_s1 (by decide) (by unfold s1 sE; simp [o.1, o.2.1, o.2.2, (ix_ok e0 e1 e2).1, (ix_ok e0 e1 e2).2])).mpr k
theorem x_last {a n : Nat} {f : Nat → Int} {i x : Int} (o : Ar h a 3 n f) (e0 : 0 ≤ i) (e1 : i < n) (e2 : n < 2147483648) (k : wp P d bt r ls st (hput h a (.inl (3, n, updI f i.toNat x))) Q) : wp P d bt ((65, as, z) :: r) ls (vL x :: vI i :: vR a :: st) h Q := (wp_s1 (by decide) (by unfold s1 sE; simp [o.1, o.2.1, o.2.2, (ix_ok e0 e1 e2).1, (ix_ok e0 e1 e2).2, hput])).mpr k
theorem x_bald1 {a n : Nat} {f : Nat → Int} {i : Int} (o : Ar h a 1 n f) (e0 : 0 ≤ i) (e1 : i < n) (e2 : n < 2147483648) (k : wp P d bt r ls (vI (f i.toNat) :: st) h Q) : wp P d bt ((66, as, z) :: r) ls (vI i :: vR a :: st) h Q := (wp_s1 (by decide) (by unfold s1 sE; simp [o.1, o.2.1, o.2.2, (ix_ok e0 e1 e2).1, (ix_ok e0 e1 e2).2])).mpr k
theorem x_bast1 {a n : Nat} {f : Nat → Int} {i x : Int} (o : Ar h a 1 n f) (e0 : 0 ≤ i) (e1 : i < n) (e2 : n < 2147483648) (k : wp P d bt r ls st (hput h a (.inl (1, n, updI f i.toNat (a_nar 1 x)))) Q) : wp P d bt ((67, as, z) :: r) ls (vI x :: vI i :: vR a :: st) h Q := (wp_s1 (by decide) (by unfold s1 sE; simp [o.1, o.2.1, o.2.2, (ix_ok e0 e1 e2).1, (ix_ok e0 e1 e2).2, hput])).mpr k
theorem x_bald2 {a n : Nat} {f : Nat → Int} {i : Int} (o : Ar h a 2 n f) (e0 : 0 ≤ i) (e1 : i < n) (e2 : n < 2147483648) (k : wp P d bt r ls (vI (f i.toNat) :: st) h Q) : wp P d bt ((66, as, z) :: r) ls (vI i :: vR a :: st) h Q := (wp_s1 (by decide) (by unfold s1 sE; simp [o.1, o.2.1, o.2.2, (ix_ok e0 e1 e2).1, (ix_ok e0 e1 e2).2])).mpr k
theorem x_bast2 {a n : Nat} {f : Nat → Int} {i x : Int} (o : Ar h a 2 n f) (e0 : 0 ≤ i) (e1 : i < n) (e2 : n < 2147483648) (k : wp P d bt r ls st (hput h a (.inl (2, n, updI f i.toNat (a_nar 2 x)))) Q) : wp P d bt ((67, as, z) :: r) ls (vI x :: vI i :: vR a :: st) h Q := (wp_s1 (by decide) (by unfold s1 sE; simp [o.1, o.2.1, o.2.2, (ix_ok e0 e1 e2).1, (ix_ok e0 e1 e2).2, hput])).mpr k
theorem x_alen {a t n : Nat} {f : Nat → Int} (o : Ar h a t n f) (e : t < 4) (k : wp P d bt r ls (vI n :: st) h Q) : wp P d bt ((68, as, z) :: r) ls (vR a :: st) h Q := (wp_s1 (by decide) (by unfold s1 sE; simp [o.1, o.2.1, o.2.2, e])).mpr k
theorem x_goto {b : Nat} (k : wp P d bt (bt.getD b []) ls st h Q) : wp P d bt ((100, [b], z) :: r) ls st h Q := (wp_jmp (b := some b) (by decide) rfl).mpr k
theorem x_fall {b : Nat} (k : wp P d bt (bt.getD b []) ls st h Q) : wp P d bt ((107, [b], z) :: r) ls st h Q := (wp_jmp (b := some b) (by decide) rfl).mpr k
theorem icw_0 (x y : Int) : icnd 0 x y = true ↔ w32 x = w32 y := by simp [icnd]
theorem x_icmp_eq {b : Nat} {x y : Int} (k1 : w32 x = w32 y → wp P d bt (bt.getD b []) ls st h Q) (k2 : ¬ (w32 x = w32 y) → wp P d bt r ls st h Q) : wp P d bt ((102, [0, b], z) :: r) ls (vI y :: vI x :: st) h Q := by
  by_cases hc : icnd 0 x y = true
  · exact (wp_jmp (b := some b) (by decide) (by unfold jmp; simp [hc])).mpr (k1 ((icw_0 x y).mp hc))
  · exact (wp_jmp (b := none) (by decide) (by unfold jmp; simp [hc])).mpr (k2 (fun q => hc ((icw_0 x y).mpr q)))
theorem x_if_eq {b : Nat} {x : Int} (k1 : w32 x = 0 → wp P d bt (bt.getD b []) ls st h Q) (k2 : ¬ (w32 x = 0) → wp P d bt r ls st h Q) : wp P d bt ((101, [0, b], z) :: r) ls (vI x :: st) h Q := by
  by_cases hc : icnd 0 x 0 = true
  · exact (wp_jmp (b := some b) (by decide) (by unfold jmp; simp [hc])).mpr (k1 ((icw_0 x 0).mp hc))
  · exact (wp_jmp (b := none) (by decide) (by unfold jmp; simp [hc])).mpr (k2 (fun q => hc ((icw_0 x 0).mpr q)))
theorem icw_1 (x y : Int) : icnd 1 x y = true ↔ w32 x ≠ w32 y := by simp [icnd]
theorem x_icmp_ne {b : Nat} {x y : Int} (k1 : w32 x ≠ w32 y → wp P d bt (bt.getD b []) ls st h Q) (k2 : ¬ (w32 x ≠ w32 y) → wp P d bt r ls st h Q) : wp P d bt ((102, [1, b], z) :: r) ls (vI y :: vI x :: st) h Q := by
  by_cases hc : icnd 1 x y = true
  · exact (wp_jmp (b := some b) (by decide) (by unfold jmp; simp [hc])).mpr (k1 ((icw_1 x y).mp hc))
  · exact (wp_jmp (b := none) (by decide) (by unfold jmp; simp [hc])).mpr (k2 (fun q => hc ((icw_1 x y).mpr q)))
theorem x_if_ne {b : Nat} {x : Int} (k1 : w32 x ≠ 0 → wp P d bt (bt.getD b []) ls st h Q) (k2 : ¬ (w32 x ≠ 0) → wp P d bt r ls st h Q) : wp P d bt ((101, [1, b], z) :: r) ls (vI x :: st) h Q := by
  by_cases hc : icnd 1 x 0 = true
  · exact (wp_jmp (b := some b) (by decide) (by unfold jmp; simp [hc])).mpr (k1 ((icw_1 x 0).mp hc))
  · exact (wp_jmp (b := none) (by decide) (by unfold jmp; simp [hc])).mpr (k2 (fun q => hc ((icw_1 x 0).mpr q)))
theorem icw_2 (x y : Int) : icnd 2 x y = true ↔ w32 x < w32 y := by simp [icnd]
theorem x_icmp_lt {b : Nat} {x y : Int} (k1 : w32 x < w32 y → wp P d bt (bt.getD b []) ls st h Q) (k2 : ¬ (w32 x < w32 y) → wp P d bt r ls st h Q) : wp P d bt ((102, [2, b], z) :: r) ls (vI y :: vI x :: st) h Q := by
  by_cases hc : icnd 2 x y = true
  · exact (wp_jmp (b := some b) (by decide) (by unfold jmp; simp [hc])).mpr (k1 ((icw_2 x y).mp hc))
  · exact (wp_jmp (b := none) (by decide) (by unfold jmp; simp [hc])).mpr (k2 (fun q => hc ((icw_2 x y).mpr q)))
theorem x_if_lt {b : Nat} {x : Int} (k1 : w32 x < 0 → wp P d bt (bt.getD b []) ls st h Q) (k2 : ¬ (w32 x < 0) → wp P d bt r ls st h Q) : wp P d bt ((101, [2, b], z) :: r) ls (vI x :: st) h Q := by
  by_cases hc : icnd 2 x 0 = true
  · exact (wp_jmp (b := some b) (by decide) (by unfold jmp; simp [hc])).mpr (k1 ((icw_2 x 0).mp hc))
  · exact (wp_jmp (b := none) (by decide) (by unfold jmp; simp [hc])).mpr (k2 (fun q => hc ((icw_2 x 0).mpr q)))
theorem icw_3 (x y : Int) : icnd 3 x y = true ↔ w32 y ≤ w32 x := by simp [icnd]
theorem x_icmp_ge {b : Nat} {x y : Int} (k1 : w32 y ≤ w32 x → wp P d bt (bt.getD b []) ls st h Q) (k2 : ¬ (w32 y ≤ w32 x) → wp P d bt r ls st h Q) : wp P d bt ((102, [3, b], z) :: r) ls (vI y :: vI x :: st) h Q := by
  by_cases hc : icnd 3 x y = true
  · exact (wp_jmp (b := some b) (by decide) (by unfold jmp; simp [hc])).mpr (k1 ((icw_3 x y).mp hc))
  · exact (wp_jmp (b := none) (by decide) (by unfold jmp; simp [hc])).mpr (k2 (fun q => hc ((icw_3 x y).mpr q)))
theorem x_if_ge {b : Nat} {x : Int} (k1 : 0 ≤ w32 x → wp P d bt (bt.getD b []) ls st h Q) (k2 : ¬ (0 ≤ w32 x) → wp P d bt r ls st h Q) : wp P d bt ((101, [3, b], z) :: r) ls (vI x :: st) h Q := by
  by_cases hc : icnd 3 x 0 = true
  · exact (wp_jmp (b := some b) (by decide) (by unfold jmp; simp [hc])).mpr (k1 ((icw_3 x 0).mp hc))
  · exact (wp_jmp (b := none) (by decide) (by unfold jmp; simp [hc])).mpr (k2 (fun q => hc ((icw_3 x 0).mpr q)))
theorem icw_4 (x y : Int) : icnd 4 x y = true ↔ w32 y < w32 x := by simp [icnd]
theorem x_icmp_gt {b : Nat} {x y : Int} (k1 : w32 y < w32 x → wp P d bt (bt.getD b []) ls st h Q) (k2 : ¬ (w32 y < w32 x) → wp P d bt r ls st h Q) : wp P d bt ((102, [4, b], z) :: r) ls (vI y :: vI x :: st) h Q := by
  by_cases hc : icnd 4 x y = true
  · exact (wp_jmp (b := some b) (by decide) (by unfold jmp; simp [hc])).mpr (k1 ((icw_4 x y).mp hc))
  · exact (wp_jmp (b := none) (by decide) (by unfold jmp; simp [hc])).mpr (k2 (fun q => hc ((icw_4 x y).mpr q)))
theorem x_if_gt {b : Nat} {x : Int} (k1 : 0 < w32 x → wp P d bt (bt.getD b []) ls st h Q) (k2 : ¬ (0 < w32 x) → wp P d bt r ls st h Q) : wp P d bt ((101, [4, b], z) :: r) ls (vI x :: st) h Q := by
  by_cases hc : icnd 4 x 0 = true
  · exact (wp_jmp (b := some b) (by decide) (by unfold jmp; simp [hc])).mpr (k1 ((icw_4 x 0).mp hc))
  · exact (wp_jmp (b := none) (by decide) (by unfold jmp; simp [hc])).mpr (k2 (fun q => hc ((icw_4 x 0).mpr q)))
theorem icw_5 (x y : Int) : icnd 5 x y = true ↔ w32 x ≤ w32 y := by simp [icnd]
theorem x_icmp_le {b : Nat} {x y : Int} (k1 : w32 x ≤ w32 y → wp P d bt (bt.getD b []) ls st h Q) (k2 : ¬ (w32 x ≤ w32 y) → wp P d bt r ls st h Q) : wp P d bt ((102, [5, b], z) :: r) ls (vI y :: vI x :: st) h Q := by
  by_cases hc : icnd 5 x y = true
  · exact (wp_jmp (b := some b) (by decide) (by unfold jmp; simp [hc])).mpr (k1 ((icw_5 x y).mp hc))
  · exact (wp_jmp (b := none) (by decide) (by unfold jmp; simp [hc])).mpr (k2 (fun q => hc ((icw_5 x y).mpr q)))
theorem x_if_le {b : Nat} {x : Int} (k1 : w32 x ≤ 0 → wp P d bt (bt.getD b []) ls st h Q) (k2 : ¬ (w32 x ≤ 0) → wp P d bt r ls st h Q) : wp P d bt ((101, [5, b], z) :: r) ls (vI x :: st) h Q := by
  by_cases hc : icnd 5 x 0 = true
  · exact (wp_jmp (b := some b) (by decide) (by unfold jmp; simp [hc])).mpr (k1 ((icw_5 x 0).mp hc))
  · exact (wp_jmp (b := none) (by decide) (by unfold jmp; simp [hc])).mpr (k2 (fun q => hc ((icw_5 x 0).mpr q)))
theorem x_ret (k : Q none h) : wp P d bt ((110, as, z) :: r) ls [] h Q := (wp_fin (by decide) rfl).mpr k
theorem x_iret {x : Int} (k : Q (some (vI x)) h) : wp P d bt ((111, [0], z) :: r) ls [vI x] h Q := (wp_fin (by decide) (by unfold fin; simp)).mpr k
theorem x_zret {x : Int} (e : x = 0 ∨ x = 1) (k : Q (some (vI x)) h) : wp P d bt ((111, [1], z) :: r) ls [vI x] h Q := (wp_fin (by decide) (by unfold fin; simp [e])).mpr k
theorem x_lret {x : Int} (k : Q (some (vL x)) h) : wp P d bt ((112, as, z) :: r) ls [vL x] h Q := (wp_fin (by decide) rfl).mpr k
theorem x_aret {x : Option Nat} (k : Q (some (.inr x)) h) : wp P d bt ((113, as, z) :: r) ls [.inr x] h Q := (wp_fin (by decide) rfl).mpr k
theorem x_call {m kk : Nat} {as0 : List pv} {st2 : List pv} (hd : 0 < d) (hk : kk ≤ st.length) (e1 : (st.take kk).reverse = as0) (e2 : st.drop kk = st2) (hc : scat st2 ≤ 8) (k : wpM P (d - 1) m as0 h (fun v h' => wp P d bt r ls (v.toList ++ st2) h' Q)) : wp P d bt ((120, m :: kk :: as, z) :: r) ls st h Q := by
  obtain ⟨d, rfl⟩ : ∃ e, d = e + 1 := ⟨d - 1, by omega⟩
  subst e1 e2
  exact (wp_call hk hc).mpr k
theorem x_i_max {a b : Int} (hd : 8 ≤ d) (hc : scat st ≤ 8) (k : wp P d bt r ls (vI (i_max a b) :: st) h Q) : wp P d bt ((121, as, z) :: r) ls (vI b :: vI a :: st) h Q := (wp_sM (by decide) hd rfl hc).mpr k
theorem x_i_min {a b : Int} (hd : 8 ≤ d) (hc : scat st ≤ 8) (k : wp P d bt r ls (vI (i_min a b) :: st) h Q) : wp P d bt ((122, as, z) :: r) ls (vI b :: vI a :: st) h Q := (wp_sM (by decide) hd rfl hc).mpr k
theorem x_i_abs {a : Int} (hd : 8 ≤ d) (hc : scat st ≤ 8) (k : wp P d bt r ls (vI (i_abs a) :: st) h Q) : wp P d bt ((123, as, z) :: r) ls (vI a :: st) h Q := (wp_sM (by decide) hd rfl hc).mpr k
theorem x_l_max {a b : Int} (hd : 8 ≤ d) (hc : scat st ≤ 8) (k : wp P d bt r ls (vL (l_max a b) :: st) h Q) : wp P d bt ((124, as, z) :: r) ls (vL b :: vL a :: st) h Q := (wp_sM (by decide) hd rfl hc).mpr k
theorem x_l_min {a b : Int} (hd : 8 ≤ d) (hc : scat st ≤ 8) (k : wp P d bt r ls (vL (l_min a b) :: st) h Q) : wp P d bt ((125, as, z) :: r) ls (vL b :: vL a :: st) h Q := (wp_sM (by decide) hd rfl hc).mpr k
theorem x_l_abs {a : Int} (hd : 8 ≤ d) (hc : scat st ≤ 8) (k : wp P d bt r ls (vL (l_abs a) :: st) h Q) : wp P d bt ((126, as, z) :: r) ls (vL a :: st) h Q := (wp_sM (by decide) hd rfl hc).mpr k
end RU
theorem wpM_at {m d : Nat} {as : List pv} {h : pheap} {Q : Option pv → pheap → Prop} {q : mrec} {kn : Nat × Nat} (h1 : MT[m]? = some q) (h2 : MK[m]? = some kn) (hr : rcv kn.1 q.2.1 h as = true) (hl : (ent1 as).length ≤ q.2.2.2.1)
    (w : wp PP d q.2.2.2.2.2.2 (q.2.2.2.2.2.2.getD 0 []) (ent q.2.2.2.1 as) [] h Q) : wpM PP d m as h Q := ⟨_, _, _, _, PP_at h1 h2, ⟨hr, hl⟩, w⟩
theorem rcv_ob {h : pheap} {a c : Nat} {fs : List pv} {t : List pv} (o : Ob h a c fs) : rcv 0 c h (vR a :: t) = true := by
  have h22 : a ≠ 22 := by have := o.1; omega
  simp [rcv, h22, o.1, o.2.1, o.2.2]
