/-! SOUND, 1: values, locals; constants, locals, stack, whole numbers -/
def fa (sa : Nat → Nat) (base k : Nat) : Nat := if k < 32 then sa k else base + (k - 32)
def tv (sa : Nat → Nat) (base : Nat) : pv → Value
  | .inl (.inl x) => .int (Int32.ofInt x)
  | .inl (.inr x) => .long (Int64.ofInt x)
  | .inr (some k) => .ref (fa sa base k)
  | .inr none => .null
def asc (sa : Nat → Nat) (base : Nat) : Nat → plocs → List (Nat × Value)
  | _, [] => []
  | i, some v :: t => (i, tv sa base v) :: asc sa base (i + 1) t
  | i, none :: t => asc sa base (i + 1) t
theorem asc_mem {sa : Nat → Nat} {base : Nat} : ∀ (ls : plocs) (i j : Nat) (w : Value), (j, w) ∈ asc sa base i ls ↔ ∃ v, i ≤ j ∧ ls[j - i]? = some (some v) ∧ w = tv sa base v
  | [], i, j, w => by simp [asc]
  | none :: t, i, j, w => by
    rw [asc, asc_mem t (i + 1) j w]
    constructor
    · rintro ⟨v, h1, h2, h3⟩
      refine ⟨v, by omega, ?_, h3⟩
      rw [show j - i = (j - (i + 1)) + 1 by omega, List.getElem?_cons_succ]
      exact h2
    · rintro ⟨v, h1, h2, h3⟩
      by_cases hj : j = i
      · subst hj
        rw [Nat.sub_self, List.getElem?_cons_zero] at h2
        cases h2
      · refine ⟨v, by omega, ?_, h3⟩
        rw [show j - i = (j - (i + 1)) + 1 by omega, List.getElem?_cons_succ] at h2
        exact h2
  | some u :: t, i, j, w => by
    rw [asc, List.mem_cons, asc_mem t (i + 1) j w]
    constructor
    · rintro (h | ⟨v, h1, h2, h3⟩)
      · cases h
        exact ⟨u, Nat.le_refl _, by rw [Nat.sub_self]; rfl, rfl⟩
      · refine ⟨v, by omega, ?_, h3⟩
        rw [show j - i = (j - (i + 1)) + 1 by omega, List.getElem?_cons_succ]
        exact h2
    · rintro ⟨v, h1, h2, h3⟩
      by_cases hj : j = i
      · subst hj
        rw [Nat.sub_self, List.getElem?_cons_zero] at h2
        cases h2
        exact Or.inl (by rw [h3])
      · refine Or.inr ⟨v, by omega, ?_, h3⟩
        rw [show j - i = (j - (i + 1)) + 1 by omega, List.getElem?_cons_succ] at h2
        exact h2
def LR (sa : Nat → Nat) (base : Nat) (lsK : Array Slot) (mx : Nat) (ls : plocs) : Prop := ls.length = mx ∧ lv_has lsK mx (asc sa base 0 ls)
theorem LR.get {sa : Nat → Nat} {base : Nat} {lsK : Array Slot} {mx : Nat} {ls : plocs} (h : LR sa base lsK mx ls) {i : Nat} {v : pv} (hi : ls[i]? = some (some v)) : lsK[i]? = some (.val (tv sa base v)) :=
  h.2.2.2 (i, tv sa base v) ((asc_mem ls 0 i _).mpr ⟨v, Nat.zero_le _, hi, rfl⟩)
theorem sto_len : ∀ (ls : plocs) (i : Nat) (x : Option pv), (sto ls i x).length = ls.length
  | [], _, _ => by simp [sto]
  | _ :: t, 0, x => by simp [sto]
  | a :: t, 1, x => by simp [sto, sto_len t 0 x]
  | a :: t, n + 2, x => by simp [sto, sto_len t (n + 1) x]
theorem sto_get : ∀ (ls : plocs) (i j : Nat) (x : Option pv), (sto ls i x)[j]? = if j = i then (if i < ls.length then some x else none) else if j + 1 = i then (ls[j]?).map kl else ls[j]?
  | [], i, j, x => by simp [sto]
  | a :: t, 0, 0, x => by simp [sto]
  | a :: t, 0, j + 1, x => by simp [sto]
  | a :: t, 1, 0, x => by simp [sto]
  | a :: t, 1, j + 1, x => by
    rw [sto, List.getElem?_cons_succ, sto_get t 0 j x]
    by_cases h : j = 0
    · subst h; simp
    · rw [if_neg h, if_neg (by omega), if_neg (by omega), if_neg (by omega), List.getElem?_cons_succ]
  | a :: t, n + 2, 0, x => by simp [sto]
  | a :: t, n + 2, j + 1, x => by
    rw [sto, List.getElem?_cons_succ, sto_get t (n + 1) j x, List.length_cons, List.getElem?_cons_succ]
    by_cases h : j = n + 1
    · subst h
      by_cases hh : n + 1 < t.length
      · have a3 : n + 2 < t.length + 1 := by omega
        simp [hh, a3]
      · have a3 : ¬ n + 2 < t.length + 1 := by omega
        simp [hh, a3]
    · have a1 : ¬ (j + 1 = n + 2) := by omega
      by_cases h2 : j + 1 = n + 1
      · have a2 : j + 1 + 1 = n + 2 := by omega
        rw [if_neg h, if_pos h2, if_neg a1, if_pos a2]
      · have a2 : ¬ (j + 1 + 1 = n + 2) := by omega
        rw [if_neg h, if_neg h2, if_neg a1, if_neg a2]
theorem tv_cat (sa : Nat → Nat) (base : Nat) (v : pv) : (tv sa base v).category = vcat v := by
  rcases v with (x | x) | (_ | k) <;> rfl
theorem kl_some {o : Option pv} {v : pv} (h : kl o = some v) : o = some v ∧ vcat v = 1 := by
  rcases o with _ | ((x | x) | k)
  · cases h
  · cases h; exact ⟨rfl, rfl⟩
  · cases h
  · cases h; exact ⟨rfl, rfl⟩
theorem LR.sto1 {sa : Nat → Nat} {base : Nat} {lsK lsK' : Array Slot} {mx : Nat} {ls : plocs} (h : LR sa base lsK mx ls) {i : Nat} {v : pv}
    (h' : lv_has lsK' mx ((i, tv sa base v) :: (asc sa base 0 ls).filter (fun q => !(q.1 == i) && !(q.1 + 1 == i && q.2.category == 2)))) : LR sa base lsK' mx (sto ls i (some v)) := by
  refine ⟨by rw [sto_len]; exact h.1, h'.1, h'.2.1, ?_⟩
  rintro ⟨j, w⟩ hq
  obtain ⟨u, -, h2, rfl⟩ := (asc_mem _ 0 j w).mp hq
  rw [Nat.sub_zero, sto_get] at h2
  refine h'.2.2 (j, tv sa base u) ?_
  by_cases hj : j = i
  · rw [if_pos hj] at h2
    split at h2
    · cases h2
      rw [hj]
      exact List.mem_cons_self
    · cases h2
  · rw [if_neg hj] at h2
    refine List.mem_cons_of_mem _ (List.mem_filter.mpr ?_)
    by_cases hj2 : j + 1 = i
    · rw [if_pos hj2] at h2
      cases hu : ls[j]? with
      | none => rw [hu] at h2; cases h2
      | some o =>
        rw [hu] at h2
        obtain ⟨e1, e2⟩ := kl_some (Option.some.inj h2)
        subst e1
        refine ⟨(asc_mem ls 0 j _).mpr ⟨u, Nat.zero_le _, hu, rfl⟩, ?_⟩
        simp [hj, tv_cat, e2]
    · rw [if_neg hj2] at h2
      refine ⟨(asc_mem ls 0 j _).mpr ⟨u, Nat.zero_le _, h2, rfl⟩, ?_⟩
      simp [hj, hj2]
theorem LR.sto2 {sa : Nat → Nat} {base : Nat} {lsK lsK' : Array Slot} {mx : Nat} {ls : plocs} (h : LR sa base lsK mx ls) {i : Nat} {v : pv}
    (h' : lv_has lsK' mx ((i, tv sa base v) :: (asc sa base 0 ls).filter (fun q => !(q.1 == i) && (!(q.1 == i + 1) && !(q.1 + 1 == i && q.2.category == 2))))) : LR sa base lsK' mx (sto (sto ls (i + 1) none) i (some v)) := by
  refine ⟨by rw [sto_len, sto_len]; exact h.1, h'.1, h'.2.1, ?_⟩
  rintro ⟨j, w⟩ hq
  obtain ⟨u, -, h2, rfl⟩ := (asc_mem _ 0 j w).mp hq
  rw [Nat.sub_zero, sto_get, sto_get] at h2
  refine h'.2.2 (j, tv sa base u) ?_
  by_cases hj : j = i
  · rw [if_pos hj] at h2
    split at h2
    · cases h2
      rw [hj]
      exact List.mem_cons_self
    · cases h2
  · rw [if_neg hj] at h2
    refine List.mem_cons_of_mem _ (List.mem_filter.mpr ?_)
    by_cases hj3 : j = i + 1
    · rw [if_neg (by omega), if_pos hj3] at h2
      split at h2 <;> cases h2
    · rw [if_neg hj3, if_neg (by omega : ¬ j + 1 = i + 1)] at h2
      by_cases hj2 : j + 1 = i
      · rw [if_pos hj2] at h2
        cases hu : ls[j]? with
        | none => rw [hu] at h2; cases h2
        | some o =>
          rw [hu] at h2
          obtain ⟨e1, e2⟩ := kl_some (Option.some.inj h2)
          subst e1
          refine ⟨(asc_mem ls 0 j _).mpr ⟨u, Nat.zero_le _, hu, rfl⟩, ?_⟩
          simp [hj, hj3, tv_cat, e2]
      · rw [if_neg hj2] at h2
        refine ⟨(asc_mem ls 0 j _).mpr ⟨u, Nat.zero_le _, h2, rfl⟩, ?_⟩
        simp [hj, hj2, hj3]
theorem asc_at {sa : Nat → Nat} {base : Nat} {ls : plocs} {i : Nat} {v : pv} (h : ls[i]? = some (some v)) : ∃ k : Nat, (asc sa base 0 ls)[k]? = some (i, tv sa base v) :=
  List.getElem?_of_mem ((asc_mem ls 0 i _).mpr ⟨v, Nat.zero_le _, h, rfl⟩)
theorem e_byte (a : Int) : (Int32.ofInt a).toInt8.toInt32 = Int32.ofInt (i_byte a) := by rw [i_byte, Int32.ofInt_toInt]
theorem e_char (a : Int) : ((Int32.ofInt a).toUInt32 % 65536).toInt32 = Int32.ofInt (i_char a) := by
  rw [i_char, Int32.ofInt_toInt]
theorem e_l2i (a : Int) : (Int64.ofInt a).toInt32 = Int32.ofInt a := by
  apply Int32.toInt_inj.mp
  simp
theorem e_i2l (a : Int) : (Int32.ofInt a).toInt64 = Int64.ofInt (w32 a) := by
  apply Int64.toInt_inj.mp
  rw [w32, Int32.toInt_toInt64]
  rw [Int64.toInt_ofInt_of_le]
  · have := (Int32.ofInt a).le_toInt; omega
  · have := (Int32.ofInt a).toInt_lt; omega
section SN1
variable {p : Program} {l : Launch} {e : Env} {R : Room} {s : State} {m : MethodId} {args : Array Value} {below : List Frame} {meth : Method} {c : Code} {H : Heap} {locs : List Loc} {cells slots : Nat} {Q : State → Prop}
variable {cc : ByteArray} {pc mx own len op : Nat} {lsK : Array Slot} {sts : List Nat} {sa : Nat → Nat} {base : Nat} {ls ls' : plocs} {st st' : List pv} {as : List Nat} {z : Int} {ins : Instr} {isIn : Bool}

theorem sndA (hx : p.tables.exec = Jvm.exec) (hb : c.code = cc) (hown : s.vm.findClass (cnm own) = some m.cls) (hts : ∀ w ∈ gTbl, w.before args s = true) (hl : LR sa base lsK mx ls) (hd : decode cc pc = .ok (ins, len)) (lk : lk1 own isIn pc sts ins len op as z = true) (ho : op < 20) (ex : sA op as z ls st = some (ls', st'))
    (k : ∀ lsK', LR sa base lsK' mx ls' → W p l e R s m args below meth c H locs cells slots Q (F0 m (pc + len) lsK' (st'.map (tv sa base)))) : W p l e R s m args below meth c H locs cells slots Q (F0 m pc lsK (st.map (tv sa base))) := by
  cases ins with
  | iload i =>
    simp only [lk1, Bool.and_eq_true, beq_iff_eq, decide_eq_true_eq] at lk
    obtain ⟨⟨rfl, rfl⟩, rfl⟩ := lk
    unfold sA at ex
    simp only [Nat.reduceEqDiff, ↓reduceIte] at ex
    split at ex
    · rename_i x hg
      cases ex
      refine lv_iload hx hb hd (hl.get hg) ?_
      exact k _ hl
    · cases ex
  | iload_n i =>
    simp only [lk1, Bool.and_eq_true, beq_iff_eq, decide_eq_true_eq] at lk
    obtain ⟨⟨rfl, rfl⟩, rfl⟩ := lk
    unfold sA at ex
    simp only [Nat.reduceEqDiff, ↓reduceIte] at ex
    split at ex
    · rename_i x hg
      cases ex
      refine lv_iload_n hx hb hd rfl (hl.get hg) ?_
      exact k _ hl
    · cases ex
  | lload i =>
    simp only [lk1, Bool.and_eq_true, beq_iff_eq, decide_eq_true_eq] at lk
    obtain ⟨⟨rfl, rfl⟩, rfl⟩ := lk
    unfold sA at ex
    simp only [Nat.reduceEqDiff, ↓reduceIte] at ex
    split at ex
    · rename_i x hg
      cases ex
      refine lv_lload hx hb hd (hl.get hg) ?_
      exact k _ hl
    · cases ex
  | lload_n i =>
    simp only [lk1, Bool.and_eq_true, beq_iff_eq, decide_eq_true_eq] at lk
    obtain ⟨⟨rfl, rfl⟩, rfl⟩ := lk
    unfold sA at ex
    simp only [Nat.reduceEqDiff, ↓reduceIte] at ex
    split at ex
    · rename_i x hg
      cases ex
      refine lv_lload_n hx hb hd rfl (hl.get hg) ?_
      exact k _ hl
    · cases ex
  | aload i =>
    simp only [lk1, Bool.and_eq_true, beq_iff_eq, decide_eq_true_eq] at lk
    obtain ⟨⟨rfl, rfl⟩, rfl⟩ := lk
    unfold sA at ex
    simp only [Nat.reduceEqDiff, ↓reduceIte] at ex
    split at ex
    · rename_i x hg
      cases ex
      cases x with
      | none =>
        refine lv_aloadN hx hb hd (hl.get hg) ?_
        exact k _ hl
      | some x =>
        refine lv_aload hx hb hd (hl.get hg) ?_
        exact k _ hl
    · cases ex
  | aload_n i =>
    simp only [lk1, Bool.and_eq_true, beq_iff_eq, decide_eq_true_eq] at lk
    obtain ⟨⟨rfl, rfl⟩, rfl⟩ := lk
    unfold sA at ex
    simp only [Nat.reduceEqDiff, ↓reduceIte] at ex
    split at ex
    · rename_i x hg
      cases ex
      cases x with
      | none =>
        refine lv_aload_nN hx hb hd rfl (hl.get hg) ?_
        exact k _ hl
      | some x =>
        refine lv_aload_n hx hb hd rfl (hl.get hg) ?_
        exact k _ hl
    · cases ex
  | istore i =>
    simp only [lk1, Bool.and_eq_true, beq_iff_eq, decide_eq_true_eq] at lk
    obtain ⟨⟨rfl, rfl⟩, rfl⟩ := lk
    unfold sA at ex
    simp only [Nat.reduceEqDiff, ↓reduceIte] at ex
    split at ex
    · rename_i i x st0 he
      cases he
      split at ex
      · rename_i hlt
        cases ex
        rw [hl.1] at hlt
        refine lv_istore hx hb hd hl.2 hlt rfl (fun lsK' hh => ?_)
        exact k _ (hl.sto1 (v := vI x) hh)
      · cases ex
    · cases ex
  | istore_n i =>
    simp only [lk1, Bool.and_eq_true, beq_iff_eq, decide_eq_true_eq] at lk
    obtain ⟨⟨rfl, rfl⟩, rfl⟩ := lk
    unfold sA at ex
    simp only [Nat.reduceEqDiff, ↓reduceIte] at ex
    split at ex
    · rename_i i x st0 he
      cases he
      split at ex
      · rename_i hlt
        cases ex
        rw [hl.1] at hlt
        refine lv_istore_n hx hb hd rfl hl.2 hlt rfl (fun lsK' hh => ?_)
        exact k _ (hl.sto1 (v := vI x) hh)
      · cases ex
    · cases ex
  | lstore i =>
    simp only [lk1, Bool.and_eq_true, beq_iff_eq, decide_eq_true_eq] at lk
    obtain ⟨⟨rfl, rfl⟩, rfl⟩ := lk
    unfold sA at ex
    simp only [Nat.reduceEqDiff, ↓reduceIte] at ex
    split at ex
    · rename_i i x st0 he
      cases he
      split at ex
      · rename_i hlt
        cases ex
        rw [hl.1] at hlt
        refine lv_lstore hx hb hd hl.2 hlt rfl (fun lsK' hh => ?_)
        exact k _ (hl.sto2 (v := vL x) hh)
      · cases ex
    · cases ex
  | lstore_n i =>
    simp only [lk1, Bool.and_eq_true, beq_iff_eq, decide_eq_true_eq] at lk
    obtain ⟨⟨rfl, rfl⟩, rfl⟩ := lk
    unfold sA at ex
    simp only [Nat.reduceEqDiff, ↓reduceIte] at ex
    split at ex
    · rename_i i x st0 he
      cases he
      split at ex
      · rename_i hlt
        cases ex
        rw [hl.1] at hlt
        refine lv_lstore_n hx hb hd rfl hl.2 hlt rfl (fun lsK' hh => ?_)
        exact k _ (hl.sto2 (v := vL x) hh)
      · cases ex
    · cases ex
  | astore i =>
    simp only [lk1, Bool.and_eq_true, beq_iff_eq, decide_eq_true_eq] at lk
    obtain ⟨⟨rfl, rfl⟩, rfl⟩ := lk
    unfold sA at ex
    simp only [Nat.reduceEqDiff, ↓reduceIte] at ex
    split at ex
    · rename_i i x st0 he
      cases he
      split at ex
      · rename_i hlt
        cases ex
        rw [hl.1] at hlt
        cases x with
        | none =>
          refine lv_astoreN hx hb hd hl.2 hlt rfl (fun lsK' hh => ?_)
          exact k _ (hl.sto1 (v := vN) hh)
        | some x =>
          refine lv_astore hx hb hd hl.2 hlt rfl (fun lsK' hh => ?_)
          exact k _ (hl.sto1 (v := vR x) hh)
      · cases ex
    · cases ex
  | astore_n i =>
    simp only [lk1, Bool.and_eq_true, beq_iff_eq, decide_eq_true_eq] at lk
    obtain ⟨⟨rfl, rfl⟩, rfl⟩ := lk
    unfold sA at ex
    simp only [Nat.reduceEqDiff, ↓reduceIte] at ex
    split at ex
    · rename_i i x st0 he
      cases he
      split at ex
      · rename_i hlt
        cases ex
        rw [hl.1] at hlt
        cases x with
        | none =>
          refine lv_astore_nN hx hb hd rfl hl.2 hlt rfl (fun lsK' hh => ?_)
          exact k _ (hl.sto1 (v := vN) hh)
        | some x =>
          refine lv_astore_n hx hb hd rfl hl.2 hlt rfl (fun lsK' hh => ?_)
          exact k _ (hl.sto1 (v := vR x) hh)
      · cases ex
    · cases ex
  | iinc i n =>
    simp only [lk1, Bool.and_eq_true, beq_iff_eq, decide_eq_true_eq] at lk
    obtain ⟨⟨⟨rfl, rfl⟩, rfl⟩, rfl⟩ := lk
    unfold sA at ex
    simp only [Nat.reduceEqDiff, ↓reduceIte] at ex
    split at ex
    · rename_i x hg
      cases ex
      obtain ⟨q, hq⟩ := asc_at (sa := sa) (base := base) hg
      have hlt : i < mx := by rw [← hl.1]; exact (List.getElem?_eq_some_iff.mp hg).1
      refine lv_iinc hx hb hd hl.2 (k := q) hq (v := Int32.ofInt (x + z)) (Int32.ofInt_add x z).symm hlt rfl (fun lsK' hh => ?_)
      exact k _ (hl.sto1 (v := vI (x + z)) hh)
    · cases ex
  | aconst_null =>
    simp only [lk1, Bool.and_eq_true, beq_iff_eq] at lk
    obtain ⟨rfl, rfl⟩ := lk
    unfold sA at ex
    simp only [Nat.reduceEqDiff, ↓reduceIte] at ex
    cases ex
    exact lv_null hx hb hd (k _ hl)
  | iconst n =>
    simp only [lk1, Bool.and_eq_true, beq_iff_eq] at lk
    obtain ⟨⟨rfl, rfl⟩, rfl⟩ := lk
    unfold sA at ex
    simp only [Nat.reduceEqDiff, ↓reduceIte] at ex
    cases ex
    exact lv_iconst hx hb hd rfl (k _ hl)
  | bipush n =>
    simp only [lk1, Bool.and_eq_true, beq_iff_eq, decide_eq_true_eq] at lk
    obtain ⟨⟨rfl, hv⟩, rfl⟩ := lk
    unfold sA at ex
    simp only [Nat.reduceEqDiff, ↓reduceIte] at ex
    cases ex
    exact lv_bipush hx hb hd hv (k _ hl)
  | sipush n =>
    simp only [lk1, Bool.and_eq_true, beq_iff_eq, decide_eq_true_eq] at lk
    obtain ⟨⟨rfl, hv⟩, rfl⟩ := lk
    unfold sA at ex
    simp only [Nat.reduceEqDiff, ↓reduceIte] at ex
    cases ex
    exact lv_sipush hx hb hd hv (k _ hl)
  | lconst n =>
    simp only [lk1, Bool.and_eq_true, beq_iff_eq, decide_eq_true_eq] at lk
    obtain ⟨⟨rfl, rfl⟩, rfl⟩ := lk
    unfold sA at ex
    simp only [Nat.reduceEqDiff, ↓reduceIte] at ex
    cases ex
    exact lv_lconst hx hb hd rfl (k _ hl)
  | ldc n =>
    simp only [lk1, Bool.and_eq_true, beq_iff_eq, List.any_eq_true] at lk
    obtain ⟨⟨rfl, rfl⟩, ⟨q1, q2, q3, q4⟩, hq, ⟨rfl, rfl⟩, rfl⟩ := lk
    unfold sA at ex
    simp only [Nat.reduceEqDiff, ↓reduceIte] at ex
    cases ex
    exact lv_ldc hx hb hown (hts _ (cit_all _ hq)) hd (k _ hl)
  | ldc_w n =>
    simp only [lk1, Bool.and_eq_true, beq_iff_eq, List.any_eq_true] at lk
    obtain ⟨⟨rfl, rfl⟩, ⟨q1, q2, q3, q4⟩, hq, ⟨rfl, rfl⟩, rfl⟩ := lk
    unfold sA at ex
    simp only [Nat.reduceEqDiff, ↓reduceIte] at ex
    cases ex
    exact lv_ldcw hx hb hown (hts _ (cit_all _ hq)) hd (k _ hl)
  | ldc2_w n =>
    simp only [lk1, Bool.and_eq_true, beq_iff_eq, List.any_eq_true] at lk
    obtain ⟨⟨rfl, rfl⟩, ⟨q1, q2, q3, q4⟩, hq, ⟨rfl, rfl⟩, rfl⟩ := lk
    unfold sA at ex
    simp only [Nat.reduceEqDiff, ↓reduceIte] at ex
    cases ex
    exact lv_ldc2 hx hb hown (hts _ (clt_all _ hq)) hd (k _ hl)
  | dup =>
    simp only [lk1, Bool.and_eq_true, beq_iff_eq] at lk
    obtain ⟨rfl, rfl⟩ := lk
    unfold sA at ex
    simp only [Nat.reduceEqDiff, ↓reduceIte] at ex
    split at ex
    · cases ex
    · rename_i v st0 hv
      cases ex
      exact lv_dup hx hb hd (by rw [tv_cat]; rcases v with (x | x) | x <;> first | rfl | exact (hv _ rfl).elim) (k _ hl)
    · cases ex
  | dup2 =>
    simp only [lk1, Bool.and_eq_true, beq_iff_eq] at lk
    obtain ⟨rfl, rfl⟩ := lk
    unfold sA at ex
    simp only [Nat.reduceEqDiff, ↓reduceIte] at ex
    split at ex
    · cases ex
    · cases ex
    · rename_i v w st0 h1 h2
      cases ex
      exact lv_dup2_11 hx hb hd (by rw [tv_cat]; rcases v with (x | x) | x <;> first | rfl | exact (h1 _ rfl).elim) (by rw [tv_cat]; rcases w with (x | x) | x <;> first | rfl | exact (h2 _ rfl).elim) (k _ hl)
    · cases ex
  | pop =>
    simp only [lk1, Bool.and_eq_true, beq_iff_eq] at lk
    obtain ⟨rfl, rfl⟩ := lk
    unfold sA at ex
    simp only [Nat.reduceEqDiff, ↓reduceIte] at ex
    split at ex
    · cases ex
    · rename_i v st0 hv
      cases ex
      exact lv_pop hx hb hd (by rw [tv_cat]; rcases v with (x | x) | x <;> first | rfl | exact (hv _ rfl).elim) (k _ hl)
    · cases ex
  | pop2 =>
    simp only [lk1, Bool.and_eq_true, beq_iff_eq] at lk
    obtain ⟨rfl, rfl⟩ := lk
    unfold sA at ex
    simp only [Nat.reduceEqDiff, ↓reduceIte] at ex
    split at ex
    · cases ex
      exact lv_pop2_2 hx hb hd rfl (k _ hl)
    · cases ex
  | _ =>
    first
      | (exfalso; simp [lk1] at lk; done)
      | (exfalso; simp only [lk1, Bool.and_eq_true, Bool.or_eq_true, beq_iff_eq] at lk; omega)
theorem sndB (hx : p.tables.exec = Jvm.exec) (hb : c.code = cc) (hown : s.vm.findClass (cnm own) = some m.cls) (hts : ∀ w ∈ gTbl, w.before args s = true) (hl : LR sa base lsK mx ls) (hd : decode cc pc = .ok (ins, len)) (lk : lk1 own isIn pc sts ins len op as z = true) (ho : 20 ≤ op ∧ op < 40) (ex : sB op st = some st')
    (k : W p l e R s m args below meth c H locs cells slots Q (F0 m (pc + len) lsK (st'.map (tv sa base)))) : W p l e R s m args below meth c H locs cells slots Q (F0 m pc lsK (st.map (tv sa base))) := by
  cases ins with
  | iadd =>
    simp only [lk1, Bool.and_eq_true, beq_iff_eq] at lk
    obtain ⟨rfl, rfl⟩ := lk
    unfold sB at ex
    simp only [Nat.reduceEqDiff, ↓reduceIte] at ex
    split at ex
    · rename_i b a st0
      cases ex
      refine lv_iadd hx hb hd ?_
      simpa only [List.map_cons, tv, Int32.ofInt_add] using k
    · cases ex
  | isub =>
    simp only [lk1, Bool.and_eq_true, beq_iff_eq] at lk
    obtain ⟨rfl, rfl⟩ := lk
    unfold sB at ex
    simp only [Nat.reduceEqDiff, ↓reduceIte] at ex
    split at ex
    · rename_i b a st0
      cases ex
      refine lv_isub hx hb hd ?_
      simpa only [List.map_cons, tv, Int32.ofInt_sub] using k
    · cases ex
  | imul =>
    simp only [lk1, Bool.and_eq_true, beq_iff_eq] at lk
    obtain ⟨rfl, rfl⟩ := lk
    unfold sB at ex
    simp only [Nat.reduceEqDiff, ↓reduceIte] at ex
    split at ex
    · rename_i b a st0
      cases ex
      refine lv_imul hx hb hd ?_
      simpa only [List.map_cons, tv, Int32.ofInt_mul] using k
    · cases ex
  | idiv =>
    simp only [lk1, Bool.and_eq_true, beq_iff_eq] at lk
    obtain ⟨rfl, rfl⟩ := lk
    unfold sB at ex
    simp only [Nat.reduceEqDiff, ↓reduceIte] at ex
    split at ex
    · rename_i b a st0
      split at ex
      · cases ex
      · rename_i hz
        cases ex
        refine lv_idiv hx hb hd (fun q => hz ?_) ?_
        · rw [w32, q]; rfl
        · simpa only [List.map_cons, tv, i_div, Int32.ofInt_toInt] using k
    · cases ex
  | irem =>
    simp only [lk1, Bool.and_eq_true, beq_iff_eq] at lk
    obtain ⟨rfl, rfl⟩ := lk
    unfold sB at ex
    simp only [Nat.reduceEqDiff, ↓reduceIte] at ex
    split at ex
    · rename_i b a st0
      split at ex
      · cases ex
      · rename_i hz
        cases ex
        refine lv_irem hx hb hd (fun q => hz ?_) ?_
        · rw [w32, q]; rfl
        · simpa only [List.map_cons, tv, i_rem, Int32.ofInt_toInt] using k
    · cases ex
  | ishl =>
    simp only [lk1, Bool.and_eq_true, beq_iff_eq] at lk
    obtain ⟨rfl, rfl⟩ := lk
    unfold sB at ex
    simp only [Nat.reduceEqDiff, ↓reduceIte] at ex
    split at ex
    · rename_i b a st0
      cases ex
      refine lv_ishl hx hb hd ?_
      simpa only [List.map_cons, tv, i_shl, Int32.ofInt_toInt] using k
    · cases ex
  | ishr =>
    simp only [lk1, Bool.and_eq_true, beq_iff_eq] at lk
    obtain ⟨rfl, rfl⟩ := lk
    unfold sB at ex
    simp only [Nat.reduceEqDiff, ↓reduceIte] at ex
    split at ex
    · rename_i b a st0
      cases ex
      refine lv_ishr hx hb hd ?_
      simpa only [List.map_cons, tv, i_shr, Int32.ofInt_toInt] using k
    · cases ex
  | iushr =>
    simp only [lk1, Bool.and_eq_true, beq_iff_eq] at lk
    obtain ⟨rfl, rfl⟩ := lk
    unfold sB at ex
    simp only [Nat.reduceEqDiff, ↓reduceIte] at ex
    split at ex
    · rename_i b a st0
      cases ex
      refine lv_iushr hx hb hd rfl ?_
      simpa only [List.map_cons, tv, i_ushr, Int32.ofInt_toInt] using k
    · cases ex
  | iand =>
    simp only [lk1, Bool.and_eq_true, beq_iff_eq] at lk
    obtain ⟨rfl, rfl⟩ := lk
    unfold sB at ex
    simp only [Nat.reduceEqDiff, ↓reduceIte] at ex
    split at ex
    · rename_i b a st0
      cases ex
      refine lv_iand hx hb hd ?_
      simpa only [List.map_cons, tv, i_and, Int32.ofInt_toInt] using k
    · cases ex
  | ior =>
    simp only [lk1, Bool.and_eq_true, beq_iff_eq] at lk
    obtain ⟨rfl, rfl⟩ := lk
    unfold sB at ex
    simp only [Nat.reduceEqDiff, ↓reduceIte] at ex
    split at ex
    · rename_i b a st0
      cases ex
      refine lv_ior hx hb hd ?_
      simpa only [List.map_cons, tv, i_or, Int32.ofInt_toInt] using k
    · cases ex
  | ixor =>
    simp only [lk1, Bool.and_eq_true, beq_iff_eq] at lk
    obtain ⟨rfl, rfl⟩ := lk
    unfold sB at ex
    simp only [Nat.reduceEqDiff, ↓reduceIte] at ex
    split at ex
    · rename_i b a st0
      cases ex
      refine lv_ixor hx hb hd ?_
      simpa only [List.map_cons, tv, i_xor, Int32.ofInt_toInt] using k
    · cases ex
  | ineg =>
    simp only [lk1, Bool.and_eq_true, beq_iff_eq] at lk
    obtain ⟨rfl, rfl⟩ := lk
    unfold sB at ex
    simp only [Nat.reduceEqDiff, ↓reduceIte] at ex
    split at ex
    · cases ex
      refine lv_ineg hx hb hd ?_
      simpa only [List.map_cons, tv, Int32.ofInt_neg] using k
    · cases ex
  | i2b =>
    simp only [lk1, Bool.and_eq_true, beq_iff_eq] at lk
    obtain ⟨rfl, rfl⟩ := lk
    unfold sB at ex
    simp only [Nat.reduceEqDiff, ↓reduceIte] at ex
    split at ex
    · cases ex
      refine lv_i2b hx hb hd (e_byte _) ?_
      simpa only [List.map_cons, tv, ] using k
    · cases ex
  | i2l =>
    simp only [lk1, Bool.and_eq_true, beq_iff_eq] at lk
    obtain ⟨rfl, rfl⟩ := lk
    unfold sB at ex
    simp only [Nat.reduceEqDiff, ↓reduceIte] at ex
    split at ex
    · cases ex
      refine lv_i2l hx hb hd (e_i2l _) ?_
      simpa only [List.map_cons, tv, ] using k
    · cases ex
  | i2c =>
    simp only [lk1, Bool.and_eq_true, beq_iff_eq] at lk
    obtain ⟨rfl, rfl⟩ := lk
    unfold sB at ex
    simp only [Nat.reduceEqDiff, ↓reduceIte] at ex
    split at ex
    · cases ex
      refine lv_i2c hx hb hd (e_char _) ?_
      simpa only [List.map_cons, tv, ] using k
    · cases ex
  | _ =>
    first
      | (exfalso; simp [lk1] at lk; done)
      | (exfalso; simp only [lk1, Bool.and_eq_true, Bool.or_eq_true, beq_iff_eq] at lk; omega)
theorem sndC (hx : p.tables.exec = Jvm.exec) (hb : c.code = cc) (hown : s.vm.findClass (cnm own) = some m.cls) (hts : ∀ w ∈ gTbl, w.before args s = true) (hl : LR sa base lsK mx ls) (hd : decode cc pc = .ok (ins, len)) (lk : lk1 own isIn pc sts ins len op as z = true) (ho : 40 ≤ op ∧ op < 60) (ex : sC op st = some st')
    (k : W p l e R s m args below meth c H locs cells slots Q (F0 m (pc + len) lsK (st'.map (tv sa base)))) : W p l e R s m args below meth c H locs cells slots Q (F0 m pc lsK (st.map (tv sa base))) := by
  cases ins with
  | ladd =>
    simp only [lk1, Bool.and_eq_true, beq_iff_eq] at lk
    obtain ⟨rfl, rfl⟩ := lk
    unfold sC at ex
    simp only [Nat.reduceEqDiff, ↓reduceIte] at ex
    split at ex
    · rename_i b a st0
      cases ex
      refine lv_ladd hx hb hd ?_
      simpa only [List.map_cons, tv, Int64.ofInt_add] using k
    · cases ex
  | lsub =>
    simp only [lk1, Bool.and_eq_true, beq_iff_eq] at lk
    obtain ⟨rfl, rfl⟩ := lk
    unfold sC at ex
    simp only [Nat.reduceEqDiff, ↓reduceIte] at ex
    split at ex
    · rename_i b a st0
      cases ex
      refine lv_lsub hx hb hd ?_
      simpa only [List.map_cons, tv, Int64.ofInt_sub] using k
    · cases ex
  | lmul =>
    simp only [lk1, Bool.and_eq_true, beq_iff_eq] at lk
    obtain ⟨rfl, rfl⟩ := lk
    unfold sC at ex
    simp only [Nat.reduceEqDiff, ↓reduceIte] at ex
    split at ex
    · rename_i b a st0
      cases ex
      refine lv_lmul hx hb hd ?_
      simpa only [List.map_cons, tv, Int64.ofInt_mul] using k
    · cases ex
  | ldiv =>
    simp only [lk1, Bool.and_eq_true, beq_iff_eq] at lk
    obtain ⟨rfl, rfl⟩ := lk
    unfold sC at ex
    simp only [Nat.reduceEqDiff, ↓reduceIte] at ex
    split at ex
    · rename_i b a st0
      split at ex
      · cases ex
      · rename_i hz
        cases ex
        refine lv_ldiv hx hb hd (fun q => hz ?_) ?_
        · rw [w64, q]; rfl
        · simpa only [List.map_cons, tv, l_div, Int64.ofInt_toInt] using k
    · cases ex
  | lrem =>
    simp only [lk1, Bool.and_eq_true, beq_iff_eq] at lk
    obtain ⟨rfl, rfl⟩ := lk
    unfold sC at ex
    simp only [Nat.reduceEqDiff, ↓reduceIte] at ex
    split at ex
    · rename_i b a st0
      split at ex
      · cases ex
      · rename_i hz
        cases ex
        refine lv_lrem hx hb hd (fun q => hz ?_) ?_
        · rw [w64, q]; rfl
        · simpa only [List.map_cons, tv, l_rem, Int64.ofInt_toInt] using k
    · cases ex
  | land =>
    simp only [lk1, Bool.and_eq_true, beq_iff_eq] at lk
    obtain ⟨rfl, rfl⟩ := lk
    unfold sC at ex
    simp only [Nat.reduceEqDiff, ↓reduceIte] at ex
    split at ex
    · rename_i b a st0
      cases ex
      refine lv_land hx hb hd ?_
      simpa only [List.map_cons, tv, l_and, Int64.ofInt_toInt] using k
    · cases ex
  | lcmp =>
    simp only [lk1, Bool.and_eq_true, beq_iff_eq] at lk
    obtain ⟨rfl, rfl⟩ := lk
    unfold sC at ex
    simp only [Nat.reduceEqDiff, ↓reduceIte] at ex
    split at ex
    · rename_i b a st0
      cases ex
      refine W.lcmp hx hb hd ?_
      simpa only [List.map_cons, tv, l_cmp, Int32.ofInt_toInt] using k
    · cases ex
  | lneg =>
    simp only [lk1, Bool.and_eq_true, beq_iff_eq] at lk
    obtain ⟨rfl, rfl⟩ := lk
    unfold sC at ex
    simp only [Nat.reduceEqDiff, ↓reduceIte] at ex
    split at ex
    · cases ex
      refine lv_lneg hx hb hd ?_
      simpa only [List.map_cons, tv, Int64.ofInt_neg] using k
    · cases ex
  | l2i =>
    simp only [lk1, Bool.and_eq_true, beq_iff_eq] at lk
    obtain ⟨rfl, rfl⟩ := lk
    unfold sC at ex
    simp only [Nat.reduceEqDiff, ↓reduceIte] at ex
    split at ex
    · cases ex
      refine lv_l2i hx hb hd (e_l2i _) ?_
      simpa only [List.map_cons, tv, ] using k
    · cases ex
  | _ =>
    first
      | (exfalso; simp [lk1] at lk; done)
      | (exfalso; simp only [lk1, Bool.and_eq_true, Bool.or_eq_true, beq_iff_eq] at lk; omega)
end SN1
