/-! WHAT STOOD AT THE START: the script, the words, the text of the words, the links of nest mates -/
def wNm : List String := ["DANCER", "OVER", "UNDER", "SLIP", "SEED", "LAW", "MAY_RULE", "VOW_RULE", "LOOSEN_RULE", "OR_WORD", "AND_WORD", "NOT_WORD", "ABOVE_NAME", "BELOW_NAME", "PLACE_NAME", "BOND_NAME", "MANY_NAME", "LEFT_NAME", "YEAR_NAME"]
def wFl : List (String × String × String × List Int32) := [("MaypoleRegister$Word", "packed", "I", sPack.map Int32.ofInt), ("MaypoleRegister$Word", "kind", "I", sKind.map Int32.ofInt), ("MaypoleRegister$Word", "number", "I", sNum.map Int32.ofInt)]
def wTx : String := "dancer over under slip seed law may vow loosen or and not above below place bond many left year "
def NWs (U : State) : Prop := (∀ q ∈ MLT, ¬ q.2.2.2.1 < 3 → va_Nw (.methodLinkNest (cnm q.1) q.2.1 (mY q.2.2.1) "MaypoleRegister") U) ∧ va_Nw (.fieldLinkNest "MaypoleRegister$TextReader" 213 "MaypoleRegister" "CLOSENESS" "[I" "MaypoleRegister") U
def SW (sa : Nat → Nat) (base L : Nat) (xs : Nat → Int) (U : State) (H : Heap) : Prop :=
  NWs U ∧ ((∀ k, k < 24 → sa k < base) ∧ (∀ j k, j < 24 → k < 24 → sa j = sa k → j = k)) ∧ base ≤ H.size ∧ va_X (sa 0) L (fun j => Int32.ofInt (xs j)) U H
  ∧ va_En "MaypoleRegister$Word" "LMaypoleRegister$Word;" wNm wFl (fun i => sa (1 + i)) (fun q : Nat => base ≤ q) U H
  ∧ va_Z "MaypoleRegister$Word" "ALL" "[LMaypoleRegister$Word;" (.ref (sa 20)) (fun q : Nat => base ≤ q) U H
  ∧ va_T (.object "MaypoleRegister$Word") (sa 20) 19 (fun j => .ref (sa (1 + j))) (fun q : Nat => base ≤ q) U H
  ∧ va_Z "MaypoleRegister" "CLOSENESS" "[I" (.ref (sa 21)) (fun q : Nat => base ≤ q) U H
  ∧ va_T .int (sa 21) 16 (fun j => .int (Int32.ofInt (sClo.getD j 0))) (fun q : Nat => base ≤ q) U H
  ∧ vk_R "MaypoleRegisterModel" 170 wTx (sa 22) U
  ∧ vk_S 1 [96] [sTxt.map Int32.ofInt] (fun _ => sa 22) (fun _ => sa 23) (fun q : Nat => base ≤ q) U H
  ∧ va_Z "java/lang/String" "COMPACT_STRINGS" "Z" (.int 1) (fun q : Nat => base ≤ q) U H
  ∧ va_Zq "jdk/internal/util/Preconditions" "SIOOBE_FORMATTER" "Ljava/util/function/BiFunction;" (fun q : Nat => base ≤ q) U H
theorem NWs.warm {s U : State} (hW : s.WarmedH U.vm) (h : NWs s) : NWs U := ⟨fun q hq hk => va_Nw.warmM hW (h.1 q hq hk), va_Nw.warmF hW h.2⟩
theorem NWs.same {s U : State} (hv : U.vm = s.vm) (h : NWs s) : NWs U := ⟨fun q hq hk => va_Nw.same rfl hv.symm (h.1 q hq hk), va_Nw.same rfl hv.symm h.2⟩
theorem SW.kept {sa : Nat → Nat} {base L : Nat} {xs : Nat → Int} {U : State} {H H1 : Heap} (h : SW sa base L xs U H) (hz : base ≤ H1.size) (hq : ∀ a : Nat, a < H.size → ¬ base ≤ a → H1[a]? = H[a]?) : SW sa base L xs U H1 := by
  obtain ⟨h1, h2, h3, h4, h5, h6, h7, h8, h9, h10, h11, h12, h13⟩ := h
  have h0 : sa 0 < base := h2.1 0 (by decide)
  exact ⟨h1, h2, hz, h4.kept (hq _ (by omega) (by omega)), h5.kept hq, h6.kept hq, h7.kept hq, h8.kept hq, h9.kept hq, h10, h11.kept hq, h12.kept hq, h13.kept hq⟩
theorem SW.warm {sa : Nat → Nat} {base L : Nat} {xs : Nat → Int} {s U : State} {H : Heap} (hW : s.WarmedH U.vm) (h : SW sa base L xs s H) : SW sa base L xs U H := by
  obtain ⟨h1, h2, h3, h4, h5, h6, h7, h8, h9, h10, h11, h12, h13⟩ := h
  have hA := hW.alike
  exact ⟨h1.warm hW, h2, h3, h4.moved hA, h5.moved hA, h6.moved hA, h7.moved hA, h8.moved hA, h9.moved hA, h10.warm hW, h11.moved hA, h12.moved hA, h13.moved hA⟩
theorem SW.same {sa : Nat → Nat} {base L : Nat} {xs : Nat → Int} {s U : State} {H : Heap} (hv : U.vm = s.vm) (h : SW sa base L xs s H) : SW sa base L xs U H := by
  obtain ⟨h1, h2, h3, h4, h5, h6, h7, h8, h9, h10, h11, h12, h13⟩ := h
  have hA : s.vm.Alike U.vm := by rw [hv]; exact Vm.Alike.refl _
  exact ⟨h1.same hv, h2, h3, h4.moved hA, h5.moved hA, h6.moved hA, h7.moved hA, h8.moved hA, h9.moved hA, h10.same hv, h11.moved hA, h12.moved hA, h13.moved hA⟩
theorem SW.inj {sa : Nat → Nat} {base L : Nat} {xs : Nat → Int} {U : State} {H : Heap} (h : SW sa base L xs U H) : ∀ j k, (j < 23 ∨ 32 ≤ j) → (k < 23 ∨ 32 ≤ k) → fa sa base j = fa sa base k → j = k := by
  obtain ⟨-, ⟨h2, h3⟩, -⟩ := h
  intro j k hj hk e
  unfold fa at e
  by_cases h4 : j < 32 <;> by_cases h5 : k < 32
  · rw [if_pos h4, if_pos h5] at e
    exact h3 j k (by omega) (by omega) e
  · rw [if_pos h4, if_neg h5] at e
    have := h2 j (by omega)
    omega
  · rw [if_neg h4, if_pos h5] at e
    have := h2 k (by omega)
    omega
  · rw [if_neg h4, if_neg h5] at e
    omega
section SN4
variable {p : Program} {l : Launch} {e : Env} {R : Room} {s : State} {m : MethodId} {args : Array Value} {below : List Frame} {meth : Method} {c : Code} {H : Heap} {locs : List Loc} {cells slots : Nat} {Q : State → Prop}
variable {cc : ByteArray} {pc mx own len op : Nat} {lsK : Array Slot} {sa : Nat → Nat} {base L : Nat} {xs : Nat → Int} {st st' vs : List pv} {as : List Nat} {ins : Instr} {h h' : pheap}
theorem sndS (hx : p.tables.exec = Jvm.exec) (hb : c.code = cc) (hown : s.vm.findClass (cnm own) = some m.cls) (hts : ∀ w ∈ gTbl, w.before args s = true) (hd : decode cc pc = .ok (ins, len)) (lk : lkS own ins len op as = true)
    (hSW : SW sa base L xs s s.heap) (hS : va_S (fun q : Nat => base ≤ q) s.heap H locs) (hsc : h.2.2 0 = .inl (0, L, xs)) (ho : 80 ≤ op ∧ op < 90) (ex : sS op as st h = some (st', h'))
    (k : W p l e R s m args below meth c H locs cells slots Q (F0 m (pc + len) lsK (st'.map (tv sa base)))) : W p l e R s m args below meth c H locs cells slots Q (F0 m pc lsK (st.map (tv sa base))) := by
  sorry
theorem sndCI (hx : p.tables.exec = Jvm.exec) (hb : c.code = cc) (hml : c.maxLocals = lsK.size) (hown : s.vm.findClass (cnm own) = some m.cls) (hts : ∀ w ∈ gTbl, w.before args s = true) {i : Nat} (hlk : KCI.any (fun q => q.1 == own && q.2 == i) = true) (hd : decode cc pc = .ok (.invokestatic i, 3))
    (hSW : SW sa base L xs s s.heap) (hS : va_S (fun q : Nat => base ≤ q) s.heap H locs) (ex : sM 127 st = some (vs, st')) (hsc : scat st' ≤ 8) (hfr : 8 ≤ R.frames) (hlo : 320 ≤ R.locals) (hcl : cells ≤ R.cells) (hsl : slots ≤ R.slots)
    (k : ∀ H' locs', (∀ q : Nat, base ≤ q → H'[q]? = H[q]?) → H'.size = H.size → va_S (fun q : Nat => base ≤ q) s.heap H' locs' → W p l e R s m args below meth c H' locs' cells slots Q (F0 m (pc + 3) lsK ((vs ++ st').map (tv sa base)))) : W p l e R s m args below meth c H locs cells slots Q (F0 m pc lsK (st.map (tv sa base))) := by
  sorry
end SN4
