/-! the law's frame: rules -/
theorem lkLs_get : ∀ {ps : List Nat} {bs : List (List PI)}, lkLs ps bs = true → ∀ (b t : Nat), ps[b]? = some t → lkL t (bs.getD b []) = true
  | [], [], _, b, t, h => by simp at h
  | [], _ :: _, h, _, _, _ => by simp [lkLs] at h
  | _ :: _, [], h, _, _, _ => by simp [lkLs] at h
  | p :: ps, x :: bs, h, b, t, hb => by
    simp only [lkLs, Bool.and_eq_true] at h
    cases b with
    | zero =>
      rw [List.getElem?_cons_zero] at hb
      cases hb
      exact h.1
    | succ b =>
      rw [List.getElem?_cons_succ] at hb
      have := lkLs_get h.2 b t hb
      simpa using this
theorem lkL_s1 {cc : ByteArray} {sts : List Nat} {pc op : Nat} {as : List Nat} {z : Int} {r : List PI} (hlk : lkG cc sts pc ((op, as, z) :: r) = true) (ho : op < 100) : ∃ ins len, decode cc pc = .ok (ins, len) ∧ (if 80 ≤ op then lkS 13 ins len op as else lk1 13 false pc sts ins len op as z) = true ∧ lkG cc sts (pc + len) r = true := by
  unfold lkG at hlk
  rw [if_neg (by omega)] at hlk
  split at hlk
  · rename_i ins len hd
    rw [Bool.and_eq_true, if_neg (by omega), if_pos ho] at hlk
    exact ⟨ins, len, hd, hlk.1, hlk.2⟩
  · cases hlk
theorem lkL_s2 {cc : ByteArray} {sts : List Nat} {pc op : Nat} {as : List Nat} {z : Int} {r : List PI} (hlk : lkG cc sts pc ((op, as, z) :: r) = true) (ho : 100 ≤ op ∧ op ≠ 107) (hne : ¬ (op = 120 ∧ as = [9999, 0])) : ∃ ins len, decode cc pc = .ok (ins, len) ∧ lk1 13 false pc sts ins len op as z = true ∧ lkG cc sts (pc + len) r = true := by
  unfold lkG at hlk
  rw [if_neg ho.2] at hlk
  split at hlk
  · rename_i ins len hd
    rw [Bool.and_eq_true, if_neg hne, if_neg (by omega)] at hlk
    exact ⟨ins, len, hd, hlk.1, hlk.2⟩
  · cases hlk
theorem lkL_dn {cc : ByteArray} {sts : List Nat} {pc : Nat} {z : Int} {r : List PI} (hlk : lkG cc sts pc ((120, [9999, 0], z) :: r) = true) : decode cc pc = .ok (.invokestatic 39, 3) ∧ lkG cc sts (pc + 3) r = true := by
  unfold lkG at hlk
  rw [if_neg (by decide)] at hlk
  split at hlk
  · rename_i ins len hd
    rw [Bool.and_eq_true, if_pos ⟨rfl, rfl⟩] at hlk
    obtain ⟨h1, h2⟩ := hlk
    split at h1
    · simp only [Bool.and_eq_true, beq_iff_eq] at h1
      obtain ⟨rfl, rfl⟩ := h1
      exact ⟨hd, h2⟩
    · cases h1
  · cases hlk
theorem lkG_fall {cc : ByteArray} {sts : List Nat} {pc b : Nat} {z : Int} {r : List PI} (hlk : lkG cc sts pc ((107, [b], z) :: r) = true) : sts[b]? = some pc := by
  unfold lkG at hlk
  rw [if_pos rfl] at hlk
  exact of_decide_eq_true hlk
theorem lkL_fall {pc b : Nat} {z : Int} {r : List PI} (hlk : lkL pc ((107, [b], z) :: r) = true) : lkL pc (lawB.getD b []) = true := lkLs_get lkLall b pc (lkG_fall hlk)
section WLS
variable {pJ : Program} {lJ : Launch} {eJ : Env} {sJ : State} {mJ : MethodId} {aJ : Array Value} {bJ : List Frame} {tJ : Method} {cJ : Code} {QJ : State → Prop}
variable {sa : Nat → Nat} {base L : Nat} {xs : Nat → Int} {ca : Nat → ClassId} {D : va_G}
def HO (L : Nat) (xs : Nat → Int) (h : pheap) (nx : Nat) : Prop := h.2.2 0 = .inl (0, L, xs) ∧ h.1 + nx ≤ 600128 ∧ h.2.1 + 6 * nx ≤ 7301098
/-- from the code, with these locals, this stack, this heap and nx exceptions made, the law comes to its end -/
def wlw (pJ : Program) (lJ : Launch) (eJ : Env) (sJ : State) (mJ : MethodId) (aJ : Array Value) (bJ : List Frame) (tJ : Method) (cJ : Code) (QJ : State → Prop) (sa : Nat → Nat) (base : Nat) (ca : Nat → ClassId) (D : va_G) (L : Nat) (xs : Nat → Int) (cd : List PI) (ls : plocs) (st : List pv) (h : pheap) (nx : Nat) : Prop :=
  HO L xs h nx → ∀ pc, lkL pc cd = true → WP pJ lJ eJ room_1 sJ mJ aJ bJ tJ cJ QJ sa base ca D 7 pc ls st h (h.1 + nx) (h.2.1 + 6 * nx)
variable {r : List PI} {op : Nat} {as : List Nat} {z : Int} {ls ls' : plocs} {st st' : List pv} {h : pheap} {nx : Nat}
theorem wl_s0 (C : CX pJ sJ mJ aJ cJ sa base L xs ca D 13 7 code) (ho : op < 100) (e : s1 op as z ls st h = some (ls', st', h)) (k : wlw pJ lJ eJ sJ mJ aJ bJ tJ cJ QJ sa base ca D L xs r ls' st' h nx) : wlw pJ lJ eJ sJ mJ aJ bJ tJ cJ QJ sa base ca D L xs ((op, as, z) :: r) ls st h nx := by
  intro hO pc hlk
  obtain ⟨ins, len, hd, h1, h2⟩ := lkL_s1 hlk ho
  exact WP_s0 C hO.1 hd h1 ho e hO.2.1 hO.2.2 (k hO _ h2)
theorem wl_jmp (C : CX pJ sJ mJ aJ cJ sa base L xs ca D 13 7 code) {ob : Option Nat} (ho : 100 ≤ op ∧ op < 107) (hj : jmp op as z st = some (ob, st')) (k : match ob with | some b => wlw pJ lJ eJ sJ mJ aJ bJ tJ cJ QJ sa base ca D L xs (lawB.getD b []) ls st' h nx | none => wlw pJ lJ eJ sJ mJ aJ bJ tJ cJ QJ sa base ca D L xs r ls st' h nx) : wlw pJ lJ eJ sJ mJ aJ bJ tJ cJ QJ sa base ca D L xs ((op, as, z) :: r) ls st h nx := by
  intro hO pc hlk
  obtain ⟨ins, len, hd, h1, h2⟩ := lkL_s2 hlk ⟨ho.1, by omega⟩ (by omega)
  refine WP_jmp C hd h1 ho hj (fun b t hb ht => ?_) (fun hn => ?_)
  · subst hb
    exact k hO t (lkLs_get lkLall b t ht)
  · subst hn
    exact k hO _ h2
theorem y_fall (C : CX pJ sJ mJ aJ cJ sa base L xs ca D 13 7 code) {b : Nat} (k : wlw pJ lJ eJ sJ mJ aJ bJ tJ cJ QJ sa base ca D L xs (lawB.getD b []) ls st h nx) : wlw pJ lJ eJ sJ mJ aJ bJ tJ cJ QJ sa base ca D L xs ((107, [b], z) :: r) ls st h nx := fun hO pc hlk => k hO pc (lkL_fall hlk)
theorem y_call (C : CX pJ sJ mJ aJ cJ sa base L xs ca D 13 7 code) {m0 kk : Nat} (as0 st2 : List pv) (hne : m0 ≠ 9999) (hk : kk ≤ st.length) (e1 : (st.take kk).reverse = as0) (e2 : st.drop kk = st2) (hc : scat st2 ≤ 8)
    (k : wpM PP 2000 m0 as0 h (fun v h' => (h'.1 = h.1 ∧ h'.2.1 = h.2.1 ∧ h'.2.2 0 = h.2.2 0) ∧ wlw pJ lJ eJ sJ mJ aJ bJ tJ cJ QJ sa base ca D L xs r ls (v.toList ++ st2) h' nx)) : wlw pJ lJ eJ sJ mJ aJ bJ tJ cJ QJ sa base ca D L xs ((120, m0 :: kk :: as, z) :: r) ls st h nx := by
  intro hO pc hlk
  subst e1 e2
  obtain ⟨ins, len, hd, h1, h2⟩ := lkL_s2 hlk (by decide) (fun q => hne (List.cons.inj q.2).1)
  refine WP_call C hO.1 hd h1 hk hc k (fun v h' q => ?_) (Nat.le_of_ble_eq_true rfl) (Nat.le_of_ble_eq_true rfl) (fun v h' q => ?_)
  · obtain ⟨⟨a1, a2, a3⟩, -⟩ := q
    rw [a1, a2, Nat.sub_self, Nat.sub_self]
    exact ⟨Or.inr rfl, hO.2.1, hO.2.2⟩
  · obtain ⟨⟨a1, a2, a3⟩, q⟩ := q
    have q2 := q ⟨a3.trans hO.1, by rw [a1]; exact hO.2.1, by rw [a2]; exact hO.2.2⟩ _ h2
    rw [a1, a2] at q2
    rw [a1, a2, Nat.sub_self, Nat.sub_self]
    exact q2
theorem y_ci (C : CX pJ sJ mJ aJ cJ sa base L xs ca D 13 7 code) (k : wlw pJ lJ eJ sJ mJ aJ bJ tJ cJ QJ sa base ca D L xs r ls (vI z :: st) h nx) : wlw pJ lJ eJ sJ mJ aJ bJ tJ cJ QJ sa base ca D L xs ((0, as, z) :: r) ls st h nx := wl_s0 C (by decide) rfl k
theorem y_iload (C : CX pJ sJ mJ aJ cJ sa base L xs ca D 13 7 code) {i : Nat} {x : Int} (e : ls[i]? = some (some (vI x))) (k : wlw pJ lJ eJ sJ mJ aJ bJ tJ cJ QJ sa base ca D L xs r ls (vI x :: st) h nx) : wlw pJ lJ eJ sJ mJ aJ bJ tJ cJ QJ sa base ca D L xs ((3, [i], z) :: r) ls st h nx := wl_s0 C (by decide) (by unfold s1 sA; simp [e]) k
theorem y_aload (C : CX pJ sJ mJ aJ cJ sa base L xs ca D 13 7 code) {i : Nat} {x : Option Nat} (e : ls[i]? = some (some (.inr x))) (k : wlw pJ lJ eJ sJ mJ aJ bJ tJ cJ QJ sa base ca D L xs r ls (.inr x :: st) h nx) : wlw pJ lJ eJ sJ mJ aJ bJ tJ cJ QJ sa base ca D L xs ((5, [i], z) :: r) ls st h nx := wl_s0 C (by decide) (by unfold s1 sA; simp [e]) k
theorem y_istore (C : CX pJ sJ mJ aJ cJ sa base L xs ca D 13 7 code) {i : Nat} {x : Int} (ls2 : plocs) (e : i < ls.length) (e2 : sto ls i (some (vI x)) = ls2) (k : wlw pJ lJ eJ sJ mJ aJ bJ tJ cJ QJ sa base ca D L xs r ls2 st h nx) : wlw pJ lJ eJ sJ mJ aJ bJ tJ cJ QJ sa base ca D L xs ((6, [i], z) :: r) ls (vI x :: st) h nx := wl_s0 C (by decide) (by unfold s1 sA; simp [e, e2]) k
theorem y_iinc (C : CX pJ sJ mJ aJ cJ sa base L xs ca D 13 7 code) {i : Nat} {x : Int} (ls2 : plocs) (e : ls[i]? = some (some (vI x))) (e2 : sto ls i (some (vI (x + z))) = ls2) (k : wlw pJ lJ eJ sJ mJ aJ bJ tJ cJ QJ sa base ca D L xs r ls2 st h nx) : wlw pJ lJ eJ sJ mJ aJ bJ tJ cJ QJ sa base ca D L xs ((9, [i], z) :: r) ls st h nx := wl_s0 C (by decide) (by unfold s1 sA; simp [e, e2]) k
theorem y_iadd (C : CX pJ sJ mJ aJ cJ sa base L xs ca D 13 7 code) {a b : Int} (k : wlw pJ lJ eJ sJ mJ aJ bJ tJ cJ QJ sa base ca D L xs r ls (vI (a + b) :: st) h nx) : wlw pJ lJ eJ sJ mJ aJ bJ tJ cJ QJ sa base ca D L xs ((20, as, z) :: r) ls (vI b :: vI a :: st) h nx := wl_s0 C (by decide) rfl k
theorem y_isub (C : CX pJ sJ mJ aJ cJ sa base L xs ca D 13 7 code) {a b : Int} (k : wlw pJ lJ eJ sJ mJ aJ bJ tJ cJ QJ sa base ca D L xs r ls (vI (a - b) :: st) h nx) : wlw pJ lJ eJ sJ mJ aJ bJ tJ cJ QJ sa base ca D L xs ((21, as, z) :: r) ls (vI b :: vI a :: st) h nx := wl_s0 C (by decide) rfl k
theorem y_iand (C : CX pJ sJ mJ aJ cJ sa base L xs ca D 13 7 code) {a b : Int} (k : wlw pJ lJ eJ sJ mJ aJ bJ tJ cJ QJ sa base ca D L xs r ls (vI (i_and a b) :: st) h nx) : wlw pJ lJ eJ sJ mJ aJ bJ tJ cJ QJ sa base ca D L xs ((28, as, z) :: r) ls (vI b :: vI a :: st) h nx := wl_s0 C (by decide) rfl k
theorem y_i2l (C : CX pJ sJ mJ aJ cJ sa base L xs ca D 13 7 code) {a : Int} (k : wlw pJ lJ eJ sJ mJ aJ bJ tJ cJ QJ sa base ca D L xs r ls (vL (w32 a) :: st) h nx) : wlw pJ lJ eJ sJ mJ aJ bJ tJ cJ QJ sa base ca D L xs ((37, as, z) :: r) ls (vI a :: st) h nx := wl_s0 C (by decide) rfl k
theorem y_lcmp (C : CX pJ sJ mJ aJ cJ sa base L xs ca D 13 7 code) {a b : Int} (k : wlw pJ lJ eJ sJ mJ aJ bJ tJ cJ QJ sa base ca D L xs r ls (vI (l_cmp a b) :: st) h nx) : wlw pJ lJ eJ sJ mJ aJ bJ tJ cJ QJ sa base ca D L xs ((46, as, z) :: r) ls (vL b :: vL a :: st) h nx := wl_s0 C (by decide) rfl k
theorem y_84_0 (C : CX pJ sJ mJ aJ cJ sa base L xs ca D 13 7 code) (e : h.2.2 0 = .inl (0, L, xs)) (k : wlw pJ lJ eJ sJ mJ aJ bJ tJ cJ QJ sa base ca D L xs r ls (vI L :: st) h nx) : wlw pJ lJ eJ sJ mJ aJ bJ tJ cJ QJ sa base ca D L xs ((84, [0], z) :: r) ls (vR 0 :: st) h nx := wl_s0 C (by decide) (by unfold s1 sS; simp [e]) k
theorem y_83_0 (C : CX pJ sJ mJ aJ cJ sa base L xs ca D 13 7 code) (e : h.2.2 0 = .inl (0, L, xs)) (hN : L < 2147483648) {i : Int} (hi : 0 ≤ i ∧ i < L) (k : wlw pJ lJ eJ sJ mJ aJ bJ tJ cJ QJ sa base ca D L xs r ls (vI (xs i.toNat) :: st) h nx) : wlw pJ lJ eJ sJ mJ aJ bJ tJ cJ QJ sa base ca D L xs ((83, [0], z) :: r) ls (vI i :: vR 0 :: st) h nx := by
  have e1 := ix_ok hi.1 hi.2 hN
  refine wl_s0 C (by decide) (ls' := ls) (st' := vI (xs i.toNat) :: st) ?_ k
  unfold s1 sS
  simp [e, e1.1, e1.2]
theorem y_lald (C : CX pJ sJ mJ aJ cJ sa base L xs ca D 13 7 code) {a n : Nat} {f : Nat → Int} {i : Int} (o : Ar h a 3 n f) (e0 : 0 ≤ i) (e1 : i < n) (e2 : n < 2147483648) (k : wlw pJ lJ eJ sJ mJ aJ bJ tJ cJ QJ sa base ca D L xs r ls (vL (f i.toNat) :: st) h nx) : wlw pJ lJ eJ sJ mJ aJ bJ tJ cJ QJ sa base ca D L xs ((64, as, z) :: r) ls (vI i :: vR a :: st) h nx := wl_s0 C (by decide) (by unfold s1 sE; simp [o.1, o.2.1, o.2.2, (ix_ok e0 e1 e2).1, (ix_ok e0 e1 e2).2]) k
theorem y_goto (C : CX pJ sJ mJ aJ cJ sa base L xs ca D 13 7 code) {b : Nat} (k : wlw pJ lJ eJ sJ mJ aJ bJ tJ cJ QJ sa base ca D L xs (lawB.getD b []) ls st h nx) : wlw pJ lJ eJ sJ mJ aJ bJ tJ cJ QJ sa base ca D L xs ((100, [b], z) :: r) ls st h nx := wl_jmp C (ob := some b) (by decide) rfl k
theorem y_icmp_eq (C : CX pJ sJ mJ aJ cJ sa base L xs ca D 13 7 code) {b : Nat} {x y : Int} (k1 : w32 x = w32 y → wlw pJ lJ eJ sJ mJ aJ bJ tJ cJ QJ sa base ca D L xs (lawB.getD b []) ls st h nx) (k2 : ¬ (w32 x = w32 y) → wlw pJ lJ eJ sJ mJ aJ bJ tJ cJ QJ sa base ca D L xs r ls st h nx) : wlw pJ lJ eJ sJ mJ aJ bJ tJ cJ QJ sa base ca D L xs ((102, [0, b], z) :: r) ls (vI y :: vI x :: st) h nx := by
  by_cases hc : icnd 0 x y = true
  · exact wl_jmp C (ob := some b) (by decide) (by unfold jmp; simp [hc]) (k1 ((icw_0 x y).mp hc))
  · exact wl_jmp C (ob := none) (by decide) (by unfold jmp; simp [hc]) (k2 (fun q => hc ((icw_0 x y).mpr q)))
theorem y_if_eq (C : CX pJ sJ mJ aJ cJ sa base L xs ca D 13 7 code) {b : Nat} {x : Int} (hx : iR x) (k1 : x = 0 → wlw pJ lJ eJ sJ mJ aJ bJ tJ cJ QJ sa base ca D L xs (lawB.getD b []) ls st h nx) (k2 : ¬ x = 0 → wlw pJ lJ eJ sJ mJ aJ bJ tJ cJ QJ sa base ca D L xs r ls st h nx) : wlw pJ lJ eJ sJ mJ aJ bJ tJ cJ QJ sa base ca D L xs ((101, [0, b], z) :: r) ls (vI x :: st) h nx := by
  by_cases hc : icnd 0 x 0 = true
  · exact wl_jmp C (ob := some b) (by decide) (by unfold jmp; simp [hc]) (k1 (by have c9 := (icw_0 x 0).mp hc; rw [w32_R hx, w32_R (by decide)] at c9; exact c9))
  · exact wl_jmp C (ob := none) (by decide) (by unfold jmp; simp [hc]) (k2 (fun q => hc ((icw_0 x 0).mpr (by rw [q]))))
theorem y_if_ne (C : CX pJ sJ mJ aJ cJ sa base L xs ca D 13 7 code) {b : Nat} {x : Int} (hx : iR x) (k1 : ¬ x = 0 → wlw pJ lJ eJ sJ mJ aJ bJ tJ cJ QJ sa base ca D L xs (lawB.getD b []) ls st h nx) (k2 : x = 0 → wlw pJ lJ eJ sJ mJ aJ bJ tJ cJ QJ sa base ca D L xs r ls st h nx) : wlw pJ lJ eJ sJ mJ aJ bJ tJ cJ QJ sa base ca D L xs ((101, [1, b], z) :: r) ls (vI x :: st) h nx := by
  by_cases hc : icnd 1 x 0 = true
  · exact wl_jmp C (ob := some b) (by decide) (by unfold jmp; simp [hc]) (k1 (fun q => (icw_1 x 0).mp hc (by rw [q])))
  · exact wl_jmp C (ob := none) (by decide) (by unfold jmp; simp [hc]) (k2 (by
      by_cases q : x = 0
      · exact q
      · exact absurd ((icw_1 x 0).mpr (by rw [w32_R hx, w32_R (by decide)]; exact q)) hc))
theorem y_icmp_gt (C : CX pJ sJ mJ aJ cJ sa base L xs ca D 13 7 code) {b : Nat} {x y : Int} (hx : iR x) (hy : iR y) (k1 : y < x → wlw pJ lJ eJ sJ mJ aJ bJ tJ cJ QJ sa base ca D L xs (lawB.getD b []) ls st h nx) (k2 : x ≤ y → wlw pJ lJ eJ sJ mJ aJ bJ tJ cJ QJ sa base ca D L xs r ls st h nx) : wlw pJ lJ eJ sJ mJ aJ bJ tJ cJ QJ sa base ca D L xs ((102, [4, b], z) :: r) ls (vI y :: vI x :: st) h nx := by
  by_cases hc : icnd 4 x y = true
  · exact wl_jmp C (ob := some b) (by decide) (by unfold jmp; simp [hc]) (k1 (by have c9 := (icw_4 x y).mp hc; rw [w32_R hx, w32_R hy] at c9; exact c9))
  · exact wl_jmp C (ob := none) (by decide) (by unfold jmp; simp [hc]) (k2 (by
      by_cases q : y < x
      · exact absurd ((icw_4 x y).mpr (by rw [w32_R hx, w32_R hy]; exact q)) hc
      · omega))
theorem y_tsw (C : CX pJ sJ mJ aJ cJ sa base L xs ca D 13 7 code) {df : Nat} {bs : List Nat} {x : Int} (n : Int) (hn : n = (bs.length : Int)) (hx : iR x) (k1 : (x < z ∨ z + n ≤ x) → wlw pJ lJ eJ sJ mJ aJ bJ tJ cJ QJ sa base ca D L xs (lawB.getD df []) ls st h nx) (k2 : tswK x (fun b => wlw pJ lJ eJ sJ mJ aJ bJ tJ cJ QJ sa base ca D L xs (lawB.getD b []) ls st h nx) bs z) : wlw pJ lJ eJ sJ mJ aJ bJ tJ cJ QJ sa base ca D L xs ((105, df :: bs, z) :: r) ls (vI x :: st) h nx := by
  refine wl_jmp C (st' := st) (ob := some (if w32 x < z then df else bs.getD (w32 x - z).toNat df)) (by decide) (by unfold jmp; simp) ?_
  show wlw pJ lJ eJ sJ mJ aJ bJ tJ cJ QJ sa base ca D L xs (lawB.getD (if w32 x < z then df else bs.getD (w32 x - z).toNat df) []) ls st h nx
  rw [w32_R hx]
  by_cases c : x < z
  · rw [if_pos c]
    exact k1 (Or.inl c)
  · rw [if_neg c]
    by_cases c2 : z + n ≤ x
    · have : bs.getD (x - z).toNat df = df := by
        rw [List.getD_eq_getElem?_getD, List.getElem?_eq_none (by omega)]
        rfl
      rw [this]
      exact k1 (Or.inr c2)
    · exact tswK_at (W := fun b => wlw pJ lJ eJ sJ mJ aJ bJ tJ cJ QJ sa base ca D L xs (lawB.getD b []) ls st h nx) bs z k2 (by omega) (by omega)
theorem ty_I {x : Int} (y : Int) (e : x = y) (k : wlw pJ lJ eJ sJ mJ aJ bJ tJ cJ QJ sa base ca D L xs r ls (vI y :: st) h nx) : wlw pJ lJ eJ sJ mJ aJ bJ tJ cJ QJ sa base ca D L xs r ls (vI x :: st) h nx := e ▸ k
theorem ty_L {x : Int} (y : Int) (e : x = y) (k : wlw pJ lJ eJ sJ mJ aJ bJ tJ cJ QJ sa base ca D L xs r ls (vL y :: st) h nx) : wlw pJ lJ eJ sJ mJ aJ bJ tJ cJ QJ sa base ca D L xs r ls (vL x :: st) h nx := e ▸ k
theorem y_dan (C : CX pJ sJ mJ aJ cJ sa base L xs ca D 13 7 code) (hX : XS base sJ) {x y k : Int} {h1 : pheap} {dd mc : Nat} (hM : Met lJ yLD (Cond.codeWith yLD method_3_code 5 (some .int) hhL :: gTbl) (rmD dd mc (6 * mc)) (va_Pc ([vR 32, vI x, vI y, vR 130].map (tv sa base)) (PX sa base L xs ca D h)) (QB sa base ca D (some (vI k)) h1) mc (6 * mc) (fun q : Nat => base ≤ q)) (hdd : dd ≤ 2040) (e1 : h1.1 = h.1) (e2 : h1.2.1 = h.2.1) (e3 : h1.2.2 0 = h.2.2 0) (hO : HO L xs h1 (nx + mc)) (kk : wlw pJ lJ eJ sJ mJ aJ bJ tJ cJ QJ sa base ca D L xs r ls [vI k] h1 (nx + mc)) : wlw pJ lJ eJ sJ mJ aJ bJ tJ cJ QJ sa base ca D L xs ((120, [9999, 0], z) :: r) ls [vR 130, vI y, vI x, vR 32] h nx := by
  intro hO0 pc hlk
  obtain ⟨hd, h2⟩ := lkL_dn hlk
  obtain ⟨o1, o2, o3⟩ := id hO
  rw [e1] at o2
  rw [e2] at o3
  refine WP_dan C hX hM hd (by show dd + 1 ≤ 2048; omega) (by show 8 + (5 + 11) + 40 * dd ≤ 84000; omega) (by show h.1 + nx + mc ≤ 600128; omega) (by show h.2.1 + 6 * nx + 6 * mc ≤ 7301098; omega) ?_
  have q := kk hO _ h2
  rw [e1, e2] at q
  rw [show h.1 + nx + mc = h.1 + (nx + mc) by omega, show h.2.1 + 6 * nx + 6 * mc = h.2.1 + 6 * (nx + mc) by omega]
  exact q
end WLS
section WLR
variable {pJ : Program} {lJ : Launch} {eJ : Env} {sJ : State} {mJ : MethodId} {bJ : List Frame} {tJ : Method} {cJ : Code} {bb : Nat}
variable {sa : Nat → Nat} {base L : Nat} {xs : Nat → Int} {ca : Nat → ClassId} {D : va_G} {r : List PI} {z : Int} {ls : plocs} {h : pheap} {nx : Nat}
theorem y_ret1 (C : CX pJ sJ mJ #[Value.ref bb] cJ sa base L xs ca D 13 7 code) (hB : sJ.heap.size ≤ base) (hr : tJ.sig.returnType = ret) (hlocks : tJ.locks = false) : wlw pJ lJ eJ sJ mJ #[Value.ref bb] bJ tJ cJ (lw_Z bJ #[Value.ref bb] sJ) sa base ca D L xs ((111, [1], z) :: r) ls [vI 1] h nx := by
  intro hO pc hlk H locs lsK hl hHR hS
  obtain ⟨ins, len, hd, h1, -⟩ := lkL_s2 hlk (by decide) (fun q => absurd q.1 (by decide))
  obtain ⟨rfl, hcase⟩ := lk_fin h1 (by decide)
  have hi : ins = .ireturn := by
    rcases hcase with h | h | h | h
    · exact absurd h.1 (by decide)
    · exact h.2
    · exact absurd h.1 (by decide)
    · exact absurd h.1 (by decide)
  rw [hi] at hd
  exact va_forget (fun q hq => Nat.le_trans hB (hS.2.2 q hq)) (W.widen hO.2.1 hO.2.2 (lw_ret C.1 C.2.1 hr hlocks hd))
end WLR
