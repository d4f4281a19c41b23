/-! WHAT STOOD AT THE START: the script, the words, the text of the words, the links of nest mates -/
def wFl : List (String × String × String × List Int32) := [("MaypoleRegister$Word", "packed", "I", sPack.map Int32.ofInt), ("MaypoleRegister$Word", "kind", "I", sKind.map Int32.ofInt), ("MaypoleRegister$Word", "number", "I", sNum.map Int32.ofInt)]
def wTx : String := "dancer over under slip seed law may vow loosen or and not above below place bond many left year "
def NWs (U : State) : Prop := (∀ q ∈ MLT, ¬ q.2.2.2.1 < 3 → va_Nw (.methodLinkNest (cnm q.1) q.2.1 (mY q.2.2.1) "MaypoleRegister") U) ∧ va_Nw (.fieldLinkNest "MaypoleRegister$TextReader" 213 "MaypoleRegister" "CLOSENESS" "[I" "MaypoleRegister") U
def SW (sa : Nat → Nat) (base L : Nat) (xs : Nat → Int) (U : State) (H : Heap) : Prop :=
  NWs U ∧ ((∀ k, k < 24 → sa k < base) ∧ (∀ j k, 1 ≤ j → j < 20 → 1 ≤ k → k < 20 → sa j = sa k → j = k)) ∧ base ≤ H.size ∧ va_X (sa 0) L (fun j => Int32.ofInt (xs j)) U H
  ∧ va_En "MaypoleRegister$Word" "LMaypoleRegister$Word;" wNm wFl (fun i => sa (1 + i)) (fun q : Nat => base ≤ q) U H
  ∧ va_Z "MaypoleRegister$Word" "ALL" "[LMaypoleRegister$Word;" (.ref (sa 20)) (fun q : Nat => base ≤ q) U H
  ∧ va_T (.object "MaypoleRegister$Word") (sa 20) 19 (fun j => .ref (sa (1 + j))) (fun q : Nat => base ≤ q) U H
  ∧ va_Z "MaypoleRegister" "CLOSENESS" "[I" (.ref (sa 21)) (fun q : Nat => base ≤ q) U H
  ∧ va_T .int (sa 21) 16 (fun j => .int (Int32.ofInt (sClo.getD j 0))) (fun q : Nat => base ≤ q) U H
  ∧ vk_R "MaypoleRegisterModel" 170 wTx (sa 22) U
  ∧ vk_S 1 [96] [sTxt.map Int32.ofInt] (fun _ => sa 22) (fun _ => sa 23) (fun q : Nat => base ≤ q) U H
  ∧ va_Z "java/lang/String" "COMPACT_STRINGS" "Z" (.int 1) (fun q : Nat => base ≤ q) U H
  ∧ va_Zq "jdk/internal/util/Preconditions" "SIOOBE_FORMATTER" "Ljava/util/function/BiFunction;" (fun q : Nat => base ≤ q) U H
theorem NWs.warm {s U : State} (hW : s.WarmedH U.vm) (h : NWs s) : NWs U := ⟨fun q hq hk => va_Nw.warmM hW (h.1 q hq hk), va_Nw.warmF hW h.2⟩
theorem NWs.same {s U : State} (hv : U.vm = s.vm) (h : NWs s) : NWs U := ⟨fun q hq hk => va_Nw.same rfl hv.symm (h.1 q hq hk), va_Nw.same rfl hv.symm h.2⟩
theorem SW.kept {sa : Nat → Nat} {base L : Nat} {xs : Nat → Int} {U : State} {H H1 : Heap} (h : SW sa base L xs U H) (hz : base ≤ H1.size) (hq : ∀ a : Nat, a < H.size → ¬ base ≤ a → H1[a]? = H[a]?) : SW sa base L xs U H1 := by
  obtain ⟨h1, h2, h3, h4, h5, h6, h7, h8, h9, h10, h11, h12, h13⟩ := h
  have h0 : sa 0 < base := h2.1 0 (by decide)
  exact ⟨h1, h2, hz, h4.kept (hq _ (by omega) (by omega)), h5.kept hq, h6.kept hq, h7.kept hq, h8.kept hq, h9.kept hq, h10, h11.kept hq, h12.kept hq, h13.kept hq⟩
theorem SW.warm {sa : Nat → Nat} {base L : Nat} {xs : Nat → Int} {s U : State} {H : Heap} (hW : s.WarmedH U.vm) (h : SW sa base L xs s H) : SW sa base L xs U H := by
  obtain ⟨h1, h2, h3, h4, h5, h6, h7, h8, h9, h10, h11, h12, h13⟩ := h
  have hA := hW.alike
  exact ⟨h1.warm hW, h2, h3, h4.moved hA, h5.moved hA, h6.moved hA, h7.moved hA, h8.moved hA, h9.moved hA, h10.warm hW, h11.moved hA, h12.moved hA, h13.moved hA⟩
theorem SW.same {sa : Nat → Nat} {base L : Nat} {xs : Nat → Int} {s U : State} {H : Heap} (hv : U.vm = s.vm) (h : SW sa base L xs s H) : SW sa base L xs U H := by
  obtain ⟨h1, h2, h3, h4, h5, h6, h7, h8, h9, h10, h11, h12, h13⟩ := h
  have hA : s.vm.Alike U.vm := by rw [hv]; exact Vm.Alike.refl _
  exact ⟨h1.same hv, h2, h3, h4.moved hA, h5.moved hA, h6.moved hA, h7.moved hA, h8.moved hA, h9.moved hA, h10.same hv, h11.moved hA, h12.moved hA, h13.moved hA⟩
theorem SW.inj {sa : Nat → Nat} {base L : Nat} {xs : Nat → Int} {U : State} {H : Heap} (h : SW sa base L xs U H) : ∀ j k, ((1 ≤ j ∧ j < 20) ∨ 32 ≤ j) → ((1 ≤ k ∧ k < 20) ∨ 32 ≤ k) → fa sa base j = fa sa base k → j = k := by
  obtain ⟨-, ⟨h2, h3⟩, -⟩ := h
  intro j k hj hk e
  unfold fa at e
  by_cases h4 : j < 32 <;> by_cases h5 : k < 32
  · rw [if_pos h4, if_pos h5] at e
    exact h3 j k (by omega) (by omega) (by omega) (by omega) e
  · rw [if_pos h4, if_neg h5] at e
    have := h2 j (by omega)
    omega
  · rw [if_neg h4, if_pos h5] at e
    have := h2 k (by omega)
    omega
  · rw [if_neg h4, if_neg h5] at e
    omega
theorem sMapGet (l : List Int) (j : Nat) : (l.map Int32.ofInt).getD j 0 = Int32.ofInt (l.getD j 0) := by
  rw [List.getD_eq_getElem?_getD, List.getD_eq_getElem?_getD, List.getElem?_map]
  cases l[j]? <;> rfl
section SN4
variable {p : Program} {l : Launch} {e : Env} {R : Room} {s : State} {m : MethodId} {args : Array Value} {below : List Frame} {meth : Method} {c : Code} {H : Heap} {locs : List Loc} {cells slots : Nat} {Q : State → Prop}
variable {cc : ByteArray} {pc mx own len op : Nat} {lsK : Array Slot} {sa : Nat → Nat} {base L : Nat} {xs : Nat → Int} {st st' vs : List pv} {as : List Nat} {ins : Instr} {h h' : pheap}
theorem sndS (hx : p.tables.exec = Jvm.exec) (hb : c.code = cc) (hown : s.vm.findClass (cnm own) = some m.cls) (hts : ∀ w ∈ gTbl, w.before args s = true) (hd : decode cc pc = .ok (ins, len)) (lk : lkS own ins len op as = true)
    (hSW : SW sa base L xs s s.heap) (hS : va_S (fun q : Nat => base ≤ q) s.heap H locs) (hsc : h.2.2 0 = .inl (0, L, xs)) (ho : 80 ≤ op ∧ op < 90) (ex : sS op as st h = some (st', h'))
    (k : W p l e R s m args below meth c H locs cells slots Q (F0 m (pc + len) lsK (st'.map (tv sa base)))) : W p l e R s m args below meth c H locs cells slots Q (F0 m pc lsK (st.map (tv sa base))) := by
  obtain ⟨w1, w2, w3, w4, w5, w6, w7, w8, w9, w10, w11, w12, w13⟩ := hSW
  have hsb : ∀ j, j < 24 → ¬ base ≤ sa j := fun j hj => by have := w2.1 j hj; omega
  cases ins
  case ldc i =>
    simp only [lkS, Bool.and_eq_true, beq_iff_eq] at lk
    obtain ⟨⟨⟨⟨rfl, rfl⟩, rfl⟩, rfl⟩, hi⟩ := lk
    unfold sS at ex
    simp only [↓reduceIte] at ex
    rw [if_pos (by decide)] at ex
    cases ex
    subst hi
    exact va_ldcS hx hb hown w10 hd k
  case aaload =>
    simp only [lkS, Bool.and_eq_true, beq_iff_eq] at lk
    obtain ⟨rfl, rfl⟩ := lk
    unfold sS at ex
    simp only [Nat.reduceEqDiff, ↓reduceIte] at ex
    split at ex
    · rename_i i a st0
      split at ex
      · rename_i ha
        cases ex
        obtain ⟨rfl, hix⟩ := ha
        exact vb_tq (C := "MaypoleRegister$Word") hx hb w7 hS (inx_in hix) (v := tv sa base (vR (1 + ix i))) (by
          have hlt : ix i < 19 := Nat.not_le.mp fun q => (inx_in hix) (Or.inr q)
          show Value.ref (sa (1 + ix i)) = Value.ref (fa sa base (1 + ix i))
          unfold fa
          rw [if_pos (by omega)]) hd k
      · cases ex
    · cases ex
  case iaload =>
    simp only [lkS, Bool.and_eq_true, beq_iff_eq] at lk
    obtain ⟨rfl, rfl⟩ := lk
    unfold sS at ex
    simp only [Nat.reduceEqDiff, ↓reduceIte] at ex
    split at ex
    · rename_i i a st0
      split at ex
      · rename_i ha
        subst ha
        rw [hsc] at ex
        have ex2 : (if inx i L = true then some (vI (xs (ix i)) :: st0, h) else none) = some (st', h') := ex
        clear ex
        split at ex2
        · rename_i hix
          cases ex2
          exact va_sld hx hb w4 (Nat.lt_of_lt_of_le (w2.1 0 (by decide)) w3) (hsb 0 (by decide)) hS (inx_in hix) hd k
        · cases ex2
      · cases ex
    · rename_i i a st0
      split at ex
      · rename_i ha
        cases ex
        obtain ⟨rfl, hix⟩ := ha
        exact va_ti hx hb w9 hS (inx_in hix) rfl hd k
      · cases ex
    · cases ex
  case arraylength =>
    simp only [lkS, Bool.and_eq_true, beq_iff_eq] at lk
    obtain ⟨rfl, rfl⟩ := lk
    unfold sS at ex
    simp only [Nat.reduceEqDiff, ↓reduceIte] at ex
    split at ex
    · rename_i a st0
      split at ex
      · rename_i ha
        subst ha
        rw [hsc] at ex
        have ex2 : some (vI (L : Int) :: st0, h) = some (st', h') := ex
        clear ex
        cases ex2
        refine va_slen hx hb w4 (Nat.lt_of_lt_of_le (w2.1 0 (by decide)) w3) (hsb 0 (by decide)) hS hd ?_
        rw [← Int32.ofInt_eq_ofNat]
        exact k
      · cases ex
    · rename_i a st0
      split at ex
      · rename_i ha
        subst ha
        cases ex
        exact va_tlen hx hb w7 hS (v := Int32.ofInt 19) rfl hd k
      · cases ex
    · rename_i a st0
      split at ex
      · rename_i ha
        subst ha
        cases ex
        exact va_tlen hx hb w9 hS (v := Int32.ofInt 16) rfl hd k
      · cases ex
    · rename_i a st0
      split at ex
      · rename_i ha
        subst ha
        cases ex
        exact va_tlen hx hb (w11.1 0 (by decide)).2.2.2 hS (v := Int32.ofInt 96) rfl hd k
      · cases ex
    · cases ex
  case baload =>
    simp only [lkS, Bool.and_eq_true, beq_iff_eq] at lk
    obtain ⟨rfl, rfl⟩ := lk
    unfold sS at ex
    simp only [Nat.reduceEqDiff, ↓reduceIte] at ex
    split at ex
    · rename_i i a st0
      split at ex
      · rename_i ha
        cases ex
        obtain ⟨rfl, hix⟩ := ha
        refine va_tb hx hb (w11.1 0 (by decide)).2.2.2 hS (inx_in hix) (v := tv sa base (vI (sTxt.getD (ix i) 0))) ?_ hd k
        show Value.int ((sTxt.map Int32.ofInt).getD (ix i) 0) = Value.int (Int32.ofInt (sTxt.getD (ix i) 0))
        congr 1
        rw [List.getD_eq_getElem?_getD, List.getD_eq_getElem?_getD, List.getElem?_map]
        cases sTxt[ix i]? <;> rfl
      · cases ex
    · cases ex
  case getfield i =>
    simp only [lkS, Bool.and_eq_true, beq_iff_eq] at lk
    obtain ⟨rfl, lk⟩ := lk
    split at lk
    · rename_i k0
      simp only [Bool.or_eq_true, Bool.and_eq_true, beq_iff_eq, List.any_eq_true] at lk
      rcases lk with ⟨rfl, ⟨q1, q2, q3⟩, hq, ⟨rfl, rfl⟩, rfl⟩ | ⟨rfl, ⟨q1, q2, q3⟩, hq, ⟨rfl, rfl⟩, rfl⟩
      · obtain ⟨f1, f2⟩ := wlt_all _ hq
        dsimp only at f1 f2 hown hd ex
        unfold sS at ex
        simp only [Nat.reduceEqDiff, ↓reduceIte] at ex
        split at ex
        · rename_i k1 a st0 hk1
          cases hk1
          split at ex
          · rename_i ha
            cases ex
            have hfa : fa sa base a = sa (1 + (a - 1)) := by
              unfold fa
              rw [if_pos (by omega), show 1 + (a - 1) = a by omega]
            have hi : a - 1 < wNm.length := by show a - 1 < 19; omega
            refine W.eq (g2 := F0 m pc lsK (.ref (sa (1 + (a - 1))) :: st0.map (tv sa base))) (by rw [List.map_cons, tv, hfa]) ?_
            rcases (show q3 = 0 ∨ q3 = 1 ∨ q3 = 2 by omega) with rfl | rfl | rfl
            · refine va_getE (ad := fun i => sa (1 + i)) (i := a - 1) hx hb w5 hi hS hown (q := ("MaypoleRegister$Word", "packed", "I", sPack.map Int32.ofInt)) (by simp [wFl]) (hts _ f2) (fun _ h => h) hd ?_
              dsimp only
              rw [sMapGet]
              exact k
            · refine va_getE (ad := fun i => sa (1 + i)) (i := a - 1) hx hb w5 hi hS hown (q := ("MaypoleRegister$Word", "kind", "I", sKind.map Int32.ofInt)) (by simp [wFl]) (hts _ f2) (fun _ h => h) hd ?_
              dsimp only
              rw [sMapGet]
              exact k
            · refine va_getE (ad := fun i => sa (1 + i)) (i := a - 1) hx hb w5 hi hS hown (q := ("MaypoleRegister$Word", "number", "I", sNum.map Int32.ofInt)) (by simp [wFl]) (hts _ f2) (fun _ h => h) hd ?_
              dsimp only
              rw [sMapGet]
              exact k
          · cases ex
        · cases ex
      · obtain ⟨f1, f2⟩ := qlt_all _ hq
        dsimp only at f1 f2 hown hd ex
        unfold sS at ex
        simp only [Nat.reduceEqDiff, ↓reduceIte] at ex
        split at ex
        · rename_i a st0 hk1
          cases hk1
          split at ex
          · rename_i ha
            cases ex
            subst ha
            exact vk_getf hx hb (w11.1 0 (by decide)).2.2.1 hS hown (hts _ f2) (fun _ h => h) hd k
          · cases ex
        · rename_i a st0 hk1
          cases hk1
          split at ex
          · rename_i ha
            cases ex
            subst ha
            exact vk_getf hx hb (w11.1 0 (by decide)).2.1 hS hown (hts _ f2) (fun _ h => h) hd k
          · cases ex
        · cases ex
    · cases lk
  case getstatic i =>
    simp only [lkS, Bool.and_eq_true, beq_iff_eq] at lk
    obtain ⟨rfl, lk⟩ := lk
    simp only [Bool.or_eq_true, Bool.and_eq_true, beq_iff_eq, List.any_eq_true] at lk
    rcases lk with ⟨rfl, lk⟩ | ⟨rfl, ⟨q1, q2⟩, hq, rfl, rfl⟩
    · split at lk
      · rename_i s0
        simp only [Bool.and_eq_true, beq_iff_eq, List.any_eq_true] at lk
        obtain ⟨⟨q1, q2, q3⟩, hq, ⟨rfl, rfl⟩, rfl⟩ := lk
        have hf := slt_all _ hq
        dsimp only at hown hd ex
        unfold sS at ex
        simp only [↓reduceIte] at ex
        split at ex
        · cases ex
          rcases hf with ⟨h1, h2, h3⟩ | ⟨h1, h2⟩ | ⟨h1, h2, h3⟩
          · dsimp only at h1 h2 h3
            subst h1
            subst h3
            rw [h2] at hown
            exact va_getsN hx hb w8 hS hown (va_Nw.use rfl w1.2) (fun _ h => h) hd k
          · dsimp only at h1 h2
            subst h1
            exact va_gets hx hb w6 hS hown (hts _ h2) (fun _ h => h) hd k
          · dsimp only at h1 h2 h3
            have hi : q3 - 1 < wNm.length := by show q3 - 1 < 19; omega
            have hz := (w5.1 (q3 - 1) hi).1
            have hfa : fa sa base q3 = sa (1 + (q3 - 1)) := by
              unfold fa
              rw [if_pos (by omega), show 1 + (q3 - 1) = q3 by omega]
            refine va_gets hx hb hz hS hown (hts _ h3) (fun _ h => h) hd ?_
            dsimp only
            rw [← hfa]
            exact k
        · cases ex
      · cases lk
    · have hf := qct_all _ hq
      dsimp only at hown hd
      unfold sS at ex
      simp only [Nat.reduceEqDiff, ↓reduceIte] at ex
      cases ex
      exact va_gets hx hb w12 hS hown (hts _ hf) (fun _ h => h) hd k
  case invokestatic i =>
    exfalso
    simp only [lkS, Bool.and_eq_true, Bool.or_eq_true, beq_iff_eq, decide_eq_true_eq] at lk
    omega
  all_goals (exfalso; simp [lkS] at lk)
def CkP (v : List Value) (H0 : State → Prop) : Array Value → State → Prop := fun a U => a = v.toArray ∧ H0 U
def CkQ (r : Option Value) : Array Value → State → Outcome → State → Prop := fun _ st o t => o = .returned r ∧ t.heap = st.heap
theorem dk3_0 : decode cCk3 0 = .ok (.iload_n 0, 1) := by decide +kernel
theorem dk3_1 : decode cCk3 1 = .ok (.ifCond .lt 8, 3) := by decide +kernel
theorem dk3_4 : decode cCk3 4 = .ok (.iload_n 0, 1) := by decide +kernel
theorem dk3_5 : decode cCk3 5 = .ok (.iload_n 1, 1) := by decide +kernel
theorem dk3_6 : decode cCk3 6 = .ok (.if_icmp .lt 10, 3) := by decide +kernel
theorem dk3_16 : decode cCk3 16 = .ok (.iload_n 0, 1) := by decide +kernel
theorem dk3_17 : decode cCk3 17 = .ok (.ireturn, 1) := by decide +kernel
theorem dk0_0 : decode cCk0 0 = .ok (.iload_n 0, 1) := by decide +kernel
theorem dk0_1 : decode cCk0 1 = .ok (.iload_n 1, 1) := by decide +kernel
theorem dk0_2 : decode cCk0 2 = .ok (.getstatic 1053, 3) := by decide +kernel
theorem dk0_5 : decode cCk0 5 = .ok (.invokestatic 1059, 3) := by decide +kernel
theorem dk0_8 : decode cCk0 8 = .ok (.pop, 1) := by decide +kernel
theorem dk0_9 : decode cCk0 9 = .ok (.return_, 1) := by decide +kernel
theorem ck3 (l : Launch) (i n : Int32) (w : Option Nat) (hi : ¬ i < 0) (hn : i < n) : Met l yCk3 (Cond.code yCk3 cCk3 3 (some .int) :: []) ({ frames := 1, cells := 0, slots := 0, locals := 12 }) (CkP [.int i, .int n, va_rf w] (fun _ => True)) (CkQ (some (.int i))) 0 0 (fun _ => False) := by
  refine Met.ofW (cc := cCk3) (maxL := 3) (ret := some .int) (by decide +kernel) rfl ?_
  intro p e s m args below meth c s₁ B hml hv
  obtain ⟨rfl, -⟩ := hv
  have hx := B.exec
  have hb := B.bytes
  have hr := B.returns
  have hlocks := B.notSynchronized
  have hl := lv_entry ([.int i, .int n, va_rf w]) (n := 3) (by cases w <;> exact Nat.le_refl _)
  rw [lg_entry_eq]
  generalize (lg_sl ([.int i, .int n, va_rf w]) ++ List.replicate (3 - (lg_sl ([.int i, .int n, va_rf w])).length) Slot.unset).toArray = ls at hl ⊢
  have h0 : ls[0]? = some (.val (.int i)) := hl.2.2 (0, .int i) (by simp [lv_args])
  have h1 : ls[1]? = some (.val (.int n)) := hl.2.2 (1, .int n) (by simp [lv_args, Value.category])
  refine lv_iload_n hx hb dk3_0 rfl h0 ?_
  refine lv_if_lt (tgt := 9) hx hb dk3_1 (by decide) (fun q => absurd q hi) (fun _ => ?_)
  refine lv_iload_n hx hb dk3_4 rfl h0 ?_
  refine lv_iload_n hx hb dk3_5 rfl h1 ?_
  refine lv_icmp_lt (tgt := 16) hx hb dk3_6 (by decide) (fun _ => ?_) (fun q => absurd hn q)
  refine lv_iload_n hx hb dk3_16 rfl h0 ?_
  exact W.iret hx hb hr (fun t ht _ => ⟨rfl, ht⟩) (fun q hq => by cases hq) dk3_17
theorem ck0 (l : Launch) (base : Nat) (i n : Int32) (hi : ¬ i < 0) (hn : i < n) : Met l yCk0 (Cond.code yCk0 cCk0 2 none :: gTbl) ({ frames := 2, cells := 0, slots := 0, locals := 40 }) (CkP [.int i, .int n] (fun U => va_Zq "jdk/internal/util/Preconditions" "SIOOBE_FORMATTER" "Ljava/util/function/BiFunction;" (fun q : Nat => base ≤ q) U U.heap)) (CkQ none) 0 0 (fun _ => False) := by
  refine Met.ofW (cc := cCk0) (maxL := 2) (ret := none) (by decide +kernel) rfl ?_
  intro p e s m args below meth c s₁ B hml hv
  obtain ⟨rfl, hz⟩ := hv
  have hx := B.exec
  have hb := B.bytes
  have hr := B.returns
  have hlocks := B.notSynchronized
  have hts : ∀ w ∈ gTbl, w.before ([.int i, .int n] : List Value).toArray s = true := fun w hw => atoms_spec (ws := Cond.code yCk0 cCk0 2 none :: gTbl) B.pre w (List.mem_cons_of_mem _ hw)
  have hown : s.vm.findClass "java/lang/String" = some m.cls := findClass_of_methodNamed B.named
  have hl := lv_entry ([.int i, .int n]) (n := 2) (Nat.le_refl _)
  rw [lg_entry_eq]
  generalize (lg_sl ([.int i, .int n]) ++ List.replicate (2 - (lg_sl ([.int i, .int n])).length) Slot.unset).toArray = ls at hl ⊢
  have hl : lv_has ls 2 [(0, .int i), (1, .int n)] := hl
  refine lv_iload_n hx hb dk0_0 rfl (lv_at hl 0 rfl) ?_
  refine lv_iload_n hx hb dk0_1 rfl (lv_at hl 1 rfl) ?_
  have hz2 : ∃ w : Option Nat, va_Z "jdk/internal/util/Preconditions" "SIOOBE_FORMATTER" "Ljava/util/function/BiFunction;" (va_rf w) (fun q : Nat => base ≤ q) s s.heap := by
    rcases hz with h | ⟨t, h⟩
    · exact ⟨none, h⟩
    · exact ⟨some t, h⟩
  obtain ⟨w, hz3⟩ := hz2
  refine va_gets hx hb hz3 va_S.rf hown (hts _ ckF3.2.2.2.2) (fun _ h => h) dk0_2 ?_
  have hM := ck3 l i n w hi hn
  have hrun : va_Run p l e (headSpec (Cond.code yCk0 cCk0 2 none :: gTbl) ({ frames := 2, cells := 0, slots := 0, locals := 40 })).room s m ([.int i, .int n] : List Value).toArray below meth c s.heap [] 0 0 0 0 (F0 m 5 ls [va_rf w, .int n, .int i]) [] (CkQ (some (.int i)) ([.int i, .int n, va_rf w] : List Value).toArray) (fun _ => False) :=
    va_runS (nL := 2) (Ts := gTbl) (own := "java/lang/String") (As := [.int i, .int n, va_rf w]) (rest := []) ⟨hx, hb, hml, hown, hts⟩ hM ⟨callB_of 3 hts (fun w hw => by
      rcases List.mem_cons.mp hw with rfl | hw
      · exact ⟨ckF3.1, good_of_word (List.mem_filter.mp ckF3.1).2⟩
      · cases hw) rfl rfl rfl (hts _ ckF3.2.2.1) (hts _ ckF3.2.2.2.1) ⟨by decide +kernel, by decide +kernel, by decide +kernel⟩ ⟨by decide, by decide⟩, hts _ ckF3.2.1⟩ ⟨fun a U g mk q => q, fun U hU hW => ⟨rfl, trivial⟩⟩ rfl rfl hl.1 rfl (Nat.zero_le _) dk0_5 ⟨Nat.le_refl _, Nat.le_refl _⟩
  intro T hT X
  obtain ⟨v, st₀, t, T', L0, h0, X', hL, e1, e2, ⟨hv, hh⟩, st⟩ := hrun T hT X
  cases hv
  have hkk : W p l e (headSpec (Cond.code yCk0 cCk0 2 none :: gTbl) ({ frames := 2, cells := 0, slots := 0, locals := 40 })).room s m ([.int i, .int n] : List Value).toArray below meth c s.heap L0 0 0 (MQ below (CkQ none) ([.int i, .int n] : List Value).toArray s 0 0 (fun _ => False)) (F0 m 8 ls [.int i]) := by
    refine lv_pop hx hb dk0_8 rfl ?_
    exact W.vret hx hb hr (fun t ht _ => ⟨rfl, ht⟩) (fun q hq => hL q hq) dk0_9
  obtain ⟨t2, a1, b1⟩ := hkk T' (by rw [e1, hh, h0]) X'
  exact ⟨t2, st t2 a1, b1⟩
theorem sndCI (hx : p.tables.exec = Jvm.exec) (hb : c.code = cc) (hml : c.maxLocals = lsK.size) (hown : s.vm.findClass (cnm own) = some m.cls) (hts : ∀ w ∈ gTbl, w.before args s = true) {i : Nat} (hlk : KCI.any (fun q => q.1 == own && q.2 == i) = true) (hd : decode cc pc = .ok (.invokestatic i, 3))
    (hSW : SW sa base L xs s s.heap) (hS : va_S (fun q : Nat => base ≤ q) s.heap H locs) (ex : sM 127 st = some (vs, st')) (hsc : scat st' ≤ 8) (hfr : 8 ≤ R.frames) (hlo : 320 ≤ R.locals) (hcl : cells ≤ R.cells) (hsl : slots ≤ R.slots)
    (k : ∀ H' locs', (∀ q : Nat, base ≤ q → H'[q]? = H[q]?) → H'.size = H.size → va_S (fun q : Nat => base ≤ q) s.heap H' locs' → W p l e R s m args below meth c H' locs' cells slots Q (F0 m (pc + 3) lsK ((vs ++ st').map (tv sa base)))) : W p l e R s m args below meth c H locs cells slots Q (F0 m pc lsK (st.map (tv sa base))) := by
  simp only [List.any_eq_true, Bool.and_eq_true, beq_iff_eq] at hlk
  obtain ⟨⟨q1, q2⟩, hq, rfl, rfl⟩ := hlk
  unfold KCI at hq
  simp only [List.mem_cons, List.not_mem_nil, or_false, Prod.mk.injEq] at hq
  obtain ⟨rfl, rfl⟩ := hq
  unfold sM at ex
  simp only [Nat.reduceEqDiff, ↓reduceIte] at ex
  split at ex
  · rename_i n i st0
    split at ex
    · rename_i hin
      obtain ⟨e1, e2⟩ := Prod.mk.inj (Option.some.inj ex)
      subst e1 e2
      have hi1 : (Int32.ofInt i).toInt = i := Int32.toInt_ofInt_of_le (by omega) (by omega)
      have hn1 : (Int32.ofInt n).toInt = n := Int32.toInt_ofInt_of_le (by omega) (by omega)
      have hi : ¬ Int32.ofInt i < 0 := by
        rw [Int32.lt_iff_toInt_lt, hi1]
        show ¬ i < 0
        omega
      have hn : Int32.ofInt i < Int32.ofInt n := by
        rw [Int32.lt_iff_toInt_lt, hi1, hn1]
        omega
      have hM := ck0 l base (Int32.ofInt i) (Int32.ofInt n) hi hn
      have hz := hSW.2.2.2.2.2.2.2.2.2.2.2.2
      have hrun : va_Run p l e R s m args below meth c H locs cells slots 0 0 (F0 m pc lsK (.int (Int32.ofInt n) :: .int (Int32.ofInt i) :: st0.map (tv sa base))) (st0.map (tv sa base)) (CkQ none ([.int (Int32.ofInt i), .int (Int32.ofInt n)] : List Value).toArray) (fun _ => False) :=
        va_runS (nL := lsK.size) (Ts := gTbl) (own := cnm 17) (As := [.int (Int32.ofInt i), .int (Int32.ofInt n)]) (rest := st0.map (tv sa base)) ⟨hx, hb, hml, hown, hts⟩ hM ⟨callB_of 2 hts (fun w hw => by
          rcases List.mem_cons.mp hw with rfl | hw
          · exact ⟨ckF0.1, good_of_word (List.mem_filter.mp ckF0.1).2⟩
          · exact ⟨hw, good_of_word (List.mem_filter.mp hw).2⟩) rfl rfl rfl (hts _ ckF0.2.2.1) (hts _ ckF0.2.2.2) ⟨by decide +kernel, by decide +kernel, by decide +kernel⟩ ⟨by show 2 + 1 ≤ R.frames; omega, by show 8 + (2 + 11) + 40 ≤ R.locals; omega⟩, hts _ ckF0.2.1⟩ ⟨fun a U g mk q => ⟨q.1, (va_Zq.moved (u := U) (Vm.Alike.refl _) q.2)⟩, fun U hU hW => ⟨rfl, by dsimp only; rw [hU]; exact (hz.kept (fun a h1 h2 => hS.2.1 a h1 h2)).moved hW.alike⟩⟩ rfl rfl rfl rfl (by rw [scat_map]; show 2 * 0 + _ ≤ 8; omega) hd ⟨hcl, hsl⟩
      intro T hT X
      obtain ⟨v, st₀, t, T', L0, h0, X', hL, e1, e2, ⟨hv, hh⟩, stp⟩ := hrun T hT X
      cases hv
      have hkk := k H (locs ++ L0) (fun _ _ => rfl) rfl ⟨hS.1, hS.2.1, fun q hq => by
        rcases List.mem_append.mp hq with h | h
        · exact hS.2.2 q h
        · exact (hL q h).elim⟩
      obtain ⟨t2, a1, b1⟩ := hkk T' (by rw [e1, hh, h0]) X'
      exact ⟨t2, stp t2 a1, b1⟩
    · cases ex
  · cases ex
end SN4
