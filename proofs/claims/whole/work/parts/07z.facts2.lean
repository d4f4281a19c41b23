/-! links of static members -/
def wNm : List String := ["DANCER", "OVER", "UNDER", "SLIP", "SEED", "LAW", "MAY_RULE", "VOW_RULE", "LOOSEN_RULE", "OR_WORD", "AND_WORD", "NOT_WORD", "ABOVE_NAME", "BELOW_NAME", "PLACE_NAME", "BOND_NAME", "MANY_NAME", "LEFT_NAME", "YEAR_NAME"]
def wltF (q : Nat × Nat × Nat) : Prop := q.2.2 < 3 ∧ Gd (Cond.fieldLink (cnm q.1) q.2.1 "MaypoleRegister$Word" ((["packed", "kind", "number"] : List String).getD q.2.2 "") "I")
def qltF (q : Nat × Nat × Nat) : Prop := q.2.2 < 2 ∧ Gd (Cond.fieldLink (cnm q.1) q.2.1 "java/lang/String" ((["value", "coder"] : List String).getD q.2.2 "") ((["[B", "B"] : List String).getD q.2.2 ""))
def qctF (q : Nat × Nat) : Prop := Gd (Cond.fieldLink (cnm q.1) q.2 "java/lang/String" "COMPACT_STRINGS" "Z")
def sltF (q : Nat × Nat × Nat) : Prop := (q.2.2 = 21 ∧ cnm q.1 = "MaypoleRegister$TextReader" ∧ q.2.1 = 213) ∨ (q.2.2 = 20 ∧ Gd (Cond.fieldLink (cnm q.1) q.2.1 "MaypoleRegister$Word" "ALL" "[LMaypoleRegister$Word;")) ∨ (1 ≤ q.2.2 ∧ q.2.2 < 20 ∧ Gd (Cond.fieldLink (cnm q.1) q.2.1 "MaypoleRegister$Word" (wNm.getD (q.2.2 - 1) "") "LMaypoleRegister$Word;"))
theorem wlt_all : ∀ q ∈ WLT, wltF q := by
  intro q hq
  unfold WLT at hq
  simp only [List.mem_cons, List.not_mem_nil, or_false] at hq
  rcases hq with rfl | rfl | rfl
  · exact ⟨by decide, g_in 9 142 rfl rfl⟩
  · exact ⟨by decide, g_in 9 143 rfl rfl⟩
  · exact ⟨by decide, g_in 9 141 rfl rfl⟩
theorem qlt_all : ∀ q ∈ QLT, qltF q := by
  intro q hq
  unfold QLT at hq
  simp only [List.mem_cons, List.not_mem_nil, or_false] at hq
  rcases hq with rfl | rfl
  · exact ⟨by decide, g_in 9 144 rfl rfl⟩
  · exact ⟨by decide, g_in 9 145 rfl rfl⟩
theorem qct_all : ∀ q ∈ QCT, qctF q := by
  intro q hq
  unfold QCT at hq
  simp only [List.mem_cons, List.not_mem_nil, or_false] at hq
  rcases hq with rfl
  · exact g_in 7 95 rfl rfl
theorem slt_all : ∀ q ∈ SLT, sltF q := by
  intro q hq
  unfold SLT at hq
  simp only [List.mem_cons, List.not_mem_nil, or_false] at hq
  rcases hq with rfl | rfl | rfl | rfl | rfl | rfl | rfl
  · exact Or.inr (Or.inr ⟨by decide, by decide, g_in 3 34 rfl rfl⟩)
  · exact Or.inr (Or.inr ⟨by decide, by decide, g_in 3 56 rfl rfl⟩)
  · exact Or.inr (Or.inr ⟨by decide, by decide, g_in 3 58 rfl rfl⟩)
  · exact Or.inr (Or.inr ⟨by decide, by decide, g_in 3 75 rfl rfl⟩)
  · exact Or.inr (Or.inr ⟨by decide, by decide, g_in 3 81 rfl rfl⟩)
  · exact Or.inl ⟨rfl, rfl, rfl⟩
  · exact Or.inr (Or.inl ⟨rfl, g_in 3 2 rfl rfl⟩)
def yCk0 : MethodName := ⟨"java/lang/String", "checkIndex", "(II)V"⟩
def yCk3 : MethodName := ⟨"jdk/internal/util/Preconditions", "checkIndex", "(IILjava/util/function/BiFunction;)I"⟩
abbrev cCk0 : ByteArray := prog_24_method_155_code
abbrev cCk3 : ByteArray := prog_31_method_11_code
theorem ckF0 : Gd (Cond.code yCk0 cCk0 2 none) ∧ Gd (Cond.static yCk0) ∧ Gd (Cond.initialized "java/lang/String") ∧ Gd (Cond.methodLink "java/lang/StringLatin1" 9 yCk0) := ⟨g_in 7 110 rfl rfl, g_in 7 109 rfl rfl, g_in 1 16 rfl rfl, g_in 7 108 rfl rfl⟩
theorem ckF3 : Gd (Cond.code yCk3 cCk3 3 (some .int)) ∧ Gd (Cond.static yCk3) ∧ Gd (Cond.initialized "jdk/internal/util/Preconditions") ∧ Gd (Cond.methodLink "java/lang/String" 1059 yCk3) ∧ Gd (Cond.fieldLink "java/lang/String" 1053 "jdk/internal/util/Preconditions" "SIOOBE_FORMATTER" "Ljava/util/function/BiFunction;") := ⟨g_in 7 115 rfl rfl, g_in 7 114 rfl rfl, g_in 1 18 rfl rfl, g_in 7 113 rfl rfl, g_in 7 111 rfl rfl⟩
