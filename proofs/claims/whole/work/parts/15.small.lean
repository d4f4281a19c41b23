/-! SMALL METHODS: Main's static ones, the Plait's leaves -/
theorem sc_32 : isC 32 (.inr (10, [33, 35, 3, 3, 0, 0, 53, 58, 1, 63, 68, 70, 75, 82, 90, 92])) := ⟨by decide, by decide, rfl⟩
theorem sc_33 : isC 33 (.inr (8, [34, 0, 0, 0, 0, 0, 3, 0, 0, 0])) := ⟨by decide, by decide, rfl⟩
theorem sc_34 : isC 34 (.inl (1, 700)) := ⟨by decide, by decide, rfl⟩
theorem sc_35 : isC 35 (.inr (7, [0, 0, 33, 36, 0, 0, 1, 1])) := ⟨by decide, by decide, rfl⟩
theorem sc_36 : isC 36 (.inl (0, 72)) := ⟨by decide, by decide, rfl⟩
theorem sc_37 : isC 37 (.inr (5, [38, 0, 39, 40, 0, 0, 1, 0, 1, 0, 41, 0, 42, 43, 44, 0])) := ⟨by decide, by decide, rfl⟩
theorem sc_38 : isC 38 (.inl (0, 6)) := ⟨by decide, by decide, rfl⟩
theorem sc_39 : isC 39 (.inl (0, 24)) := ⟨by decide, by decide, rfl⟩
theorem sc_40 : isC 40 (.inl (0, 24)) := ⟨by decide, by decide, rfl⟩
theorem sc_41 : isC 41 (.inl (0, 64)) := ⟨by decide, by decide, rfl⟩
theorem sc_42 : isC 42 (.inl (0, 3)) := ⟨by decide, by decide, rfl⟩
theorem sc_43 : isC 43 (.inl (0, 3)) := ⟨by decide, by decide, rfl⟩
theorem sc_44 : isC 44 (.inl (3, 64)) := ⟨by decide, by decide, rfl⟩
theorem sc_45 : isC 45 (.inr (5, [46, 0, 47, 48, 0, 0, 1, 0, 1, 0, 49, 0, 50, 51, 52, 0])) := ⟨by decide, by decide, rfl⟩
theorem sc_46 : isC 46 (.inl (0, 6)) := ⟨by decide, by decide, rfl⟩
theorem sc_47 : isC 47 (.inl (0, 24)) := ⟨by decide, by decide, rfl⟩
theorem sc_48 : isC 48 (.inl (0, 24)) := ⟨by decide, by decide, rfl⟩
theorem sc_49 : isC 49 (.inl (0, 64)) := ⟨by decide, by decide, rfl⟩
theorem sc_50 : isC 50 (.inl (0, 3)) := ⟨by decide, by decide, rfl⟩
theorem sc_51 : isC 51 (.inl (0, 3)) := ⟨by decide, by decide, rfl⟩
theorem sc_52 : isC 52 (.inl (3, 64)) := ⟨by decide, by decide, rfl⟩
theorem sc_53 : isC 53 (.inr (1, [54, 0, 0, 0, 0, 2])) := ⟨by decide, by decide, rfl⟩
theorem sc_54 : isC 54 (.inr (3, [55, 56, 57, 0, 0, 0, 0])) := ⟨by decide, by decide, rfl⟩
theorem sc_55 : isC 55 (.inl (0, 52)) := ⟨by decide, by decide, rfl⟩
theorem sc_56 : isC 56 (.inl (0, 6)) := ⟨by decide, by decide, rfl⟩
theorem sc_57 : isC 57 (.inl (0, 36)) := ⟨by decide, by decide, rfl⟩
theorem sc_58 : isC 58 (.inr (1, [59, 0, 0, 0, 0, 2])) := ⟨by decide, by decide, rfl⟩
theorem sc_59 : isC 59 (.inr (3, [60, 61, 62, 0, 0, 0, 0])) := ⟨by decide, by decide, rfl⟩
theorem sc_60 : isC 60 (.inl (0, 52)) := ⟨by decide, by decide, rfl⟩
theorem sc_61 : isC 61 (.inl (0, 6)) := ⟨by decide, by decide, rfl⟩
theorem sc_62 : isC 62 (.inl (0, 36)) := ⟨by decide, by decide, rfl⟩
theorem sc_63 : isC 63 (.inr (1, [64, 0, 0, 0, 0, 2])) := ⟨by decide, by decide, rfl⟩
theorem sc_64 : isC 64 (.inr (3, [65, 66, 67, 0, 0, 0, 0])) := ⟨by decide, by decide, rfl⟩
theorem sc_65 : isC 65 (.inl (0, 52)) := ⟨by decide, by decide, rfl⟩
theorem sc_66 : isC 66 (.inl (0, 6)) := ⟨by decide, by decide, rfl⟩
theorem sc_67 : isC 67 (.inl (0, 36)) := ⟨by decide, by decide, rfl⟩
theorem sc_68 : isC 68 (.inr (9, [69, 0, 1, 1])) := ⟨by decide, by decide, rfl⟩
theorem sc_69 : isC 69 (.inl (3, 7)) := ⟨by decide, by decide, rfl⟩
theorem sc_70 : isC 70 (.inr (2, [71, 72, 73, 74, 0, 0])) := ⟨by decide, by decide, rfl⟩
theorem sc_71 : isC 71 (.inl (0, 960)) := ⟨by decide, by decide, rfl⟩
theorem sc_72 : isC 72 (.inl (0, 20)) := ⟨by decide, by decide, rfl⟩
theorem sc_73 : isC 73 (.inl (0, 20)) := ⟨by decide, by decide, rfl⟩
theorem sc_74 : isC 74 (.inl (0, 20)) := ⟨by decide, by decide, rfl⟩
theorem sc_75 : isC 75 (.inr (4, [76, 77, 78, 79, 80, 81, 0, 0])) := ⟨by decide, by decide, rfl⟩
theorem sc_76 : isC 76 (.inl (0, 24)) := ⟨by decide, by decide, rfl⟩
theorem sc_77 : isC 77 (.inl (0, 24)) := ⟨by decide, by decide, rfl⟩
theorem sc_78 : isC 78 (.inl (0, 24)) := ⟨by decide, by decide, rfl⟩
theorem sc_79 : isC 79 (.inl (0, 24)) := ⟨by decide, by decide, rfl⟩
theorem sc_80 : isC 80 (.inl (2, 24)) := ⟨by decide, by decide, rfl⟩
theorem sc_81 : isC 81 (.inl (2, 24)) := ⟨by decide, by decide, rfl⟩
theorem sc_82 : isC 82 (.inr (6, [83, 87, 89, 0, 0, 1, 0])) := ⟨by decide, by decide, rfl⟩
theorem sc_83 : isC 83 (.inr (3, [84, 85, 86, 0, 0, 0, 0])) := ⟨by decide, by decide, rfl⟩
theorem sc_84 : isC 84 (.inl (0, 52)) := ⟨by decide, by decide, rfl⟩
theorem sc_85 : isC 85 (.inl (0, 6)) := ⟨by decide, by decide, rfl⟩
theorem sc_86 : isC 86 (.inl (0, 36)) := ⟨by decide, by decide, rfl⟩
theorem sc_87 : isC 87 (.inr (0, [88])) := ⟨by decide, by decide, rfl⟩
theorem sc_88 : isC 88 (.inl (3, 12)) := ⟨by decide, by decide, rfl⟩
theorem sc_89 : isC 89 (.inl (0, 4)) := ⟨by decide, by decide, rfl⟩
theorem sc_90 : isC 90 (.inr (0, [91])) := ⟨by decide, by decide, rfl⟩
theorem sc_91 : isC 91 (.inl (3, 12)) := ⟨by decide, by decide, rfl⟩
theorem sc_92 : isC 92 (.inr (0, [93])) := ⟨by decide, by decide, rfl⟩
theorem sc_93 : isC 93 (.inl (3, 12)) := ⟨by decide, by decide, rfl⟩
theorem sc_94 : isC 94 (.inr (11, [0, 95, 0, 96, 97, 98, 99, 100, 101, 102, 103, 0, 0, 0, 0, 0, 0, 0, 0, 0, 0, 0, 0, 0, 104, 105, 0, 106, 107, 108, 109, 110, 111, 112, 113, 1, 0, 114, 115, 116, 117, 0, 118, 119, 120, 0, 121, 0, 122, 123, 0, 0, 124, 125, 126, 127, 128, 129])) := ⟨by decide, by decide, rfl⟩
theorem sc_95 : isC 95 (.inl (0, 700)) := ⟨by decide, by decide, rfl⟩
theorem sc_96 : isC 96 (.inl (0, 10)) := ⟨by decide, by decide, rfl⟩
theorem sc_97 : isC 97 (.inl (0, 12)) := ⟨by decide, by decide, rfl⟩
theorem sc_98 : isC 98 (.inl (0, 48)) := ⟨by decide, by decide, rfl⟩
theorem sc_99 : isC 99 (.inl (0, 48)) := ⟨by decide, by decide, rfl⟩
theorem sc_100 : isC 100 (.inl (0, 6)) := ⟨by decide, by decide, rfl⟩
theorem sc_101 : isC 101 (.inl (0, 6)) := ⟨by decide, by decide, rfl⟩
theorem sc_102 : isC 102 (.inl (0, 128)) := ⟨by decide, by decide, rfl⟩
theorem sc_103 : isC 103 (.inl (0, 128)) := ⟨by decide, by decide, rfl⟩
theorem sc_104 : isC 104 (.inl (3, 7)) := ⟨by decide, by decide, rfl⟩
theorem sc_105 : isC 105 (.inl (3, 64)) := ⟨by decide, by decide, rfl⟩
theorem sc_106 : isC 106 (.inl (0, 23)) := ⟨by decide, by decide, rfl⟩
theorem sc_107 : isC 107 (.inl (0, 23)) := ⟨by decide, by decide, rfl⟩
theorem sc_108 : isC 108 (.inl (0, 23)) := ⟨by decide, by decide, rfl⟩
theorem sc_109 : isC 109 (.inl (0, 23)) := ⟨by decide, by decide, rfl⟩
theorem sc_110 : isC 110 (.inl (0, 23)) := ⟨by decide, by decide, rfl⟩
theorem sc_111 : isC 111 (.inl (0, 23)) := ⟨by decide, by decide, rfl⟩
theorem sc_112 : isC 112 (.inl (0, 23)) := ⟨by decide, by decide, rfl⟩
theorem sc_113 : isC 113 (.inl (0, 1104)) := ⟨by decide, by decide, rfl⟩
theorem sc_114 : isC 114 (.inl (0, 6)) := ⟨by decide, by decide, rfl⟩
theorem sc_115 : isC 115 (.inl (0, 36)) := ⟨by decide, by decide, rfl⟩
theorem sc_116 : isC 116 (.inl (0, 6)) := ⟨by decide, by decide, rfl⟩
theorem sc_117 : isC 117 (.inl (0, 6)) := ⟨by decide, by decide, rfl⟩
theorem sc_118 : isC 118 (.inl (0, 2)) := ⟨by decide, by decide, rfl⟩
theorem sc_119 : isC 119 (.inl (0, 2)) := ⟨by decide, by decide, rfl⟩
theorem sc_120 : isC 120 (.inl (0, 1200)) := ⟨by decide, by decide, rfl⟩
theorem sc_121 : isC 121 (.inl (2, 48)) := ⟨by decide, by decide, rfl⟩
theorem sc_122 : isC 122 (.inl (0, 4)) := ⟨by decide, by decide, rfl⟩
theorem sc_123 : isC 123 (.inl (0, 6)) := ⟨by decide, by decide, rfl⟩
theorem sc_124 : isC 124 (.inl (0, 24)) := ⟨by decide, by decide, rfl⟩
theorem sc_125 : isC 125 (.inl (0, 24)) := ⟨by decide, by decide, rfl⟩
theorem sc_126 : isC 126 (.inl (0, 24)) := ⟨by decide, by decide, rfl⟩
theorem sc_127 : isC 127 (.inl (0, 24)) := ⟨by decide, by decide, rfl⟩
theorem sc_128 : isC 128 (.inl (2, 24)) := ⟨by decide, by decide, rfl⟩
theorem sc_129 : isC 129 (.inl (2, 24)) := ⟨by decide, by decide, rfl⟩
theorem sc_130 : isC 130 (.inl (3, 1)) := ⟨by decide, by decide, rfl⟩
def isPl (a : Nat) : Prop := isC a (.inr (3, [a + 1, a + 2, a + 3, 0, 0, 0, 0])) ∧ isC (a + 1) (.inl (0, 52)) ∧ isC (a + 2) (.inl (0, 6)) ∧ isC (a + 3) (.inl (0, 36))
def isDa (a : Nat) : Prop := isC a (.inr (1, [a + 1, 0, 0, 0, 0, 2])) ∧ isPl (a + 1)
def isCo (a : Nat) : Prop := isC a (.inr (0, [a + 1])) ∧ isC (a + 1) (.inl (3, 12))
def isSc (a : Nat) : Prop := isC a (.inr (5, [a + 1, 0, a + 2, a + 3, 0, 0, 1, 0, 1, 0, a + 4, 0, a + 5, a + 6, a + 7, 0])) ∧ isC (a + 1) (.inl (0, 6)) ∧ isC (a + 2) (.inl (0, 24)) ∧ isC (a + 3) (.inl (0, 24)) ∧ isC (a + 4) (.inl (0, 64)) ∧ isC (a + 5) (.inl (0, 3)) ∧ isC (a + 6) (.inl (0, 3)) ∧ isC (a + 7) (.inl (3, 64))
theorem pl_54 : isPl 54 := ⟨sc_54, sc_55, sc_56, sc_57⟩
theorem pl_59 : isPl 59 := ⟨sc_59, sc_60, sc_61, sc_62⟩
theorem pl_64 : isPl 64 := ⟨sc_64, sc_65, sc_66, sc_67⟩
theorem pl_83 : isPl 83 := ⟨sc_83, sc_84, sc_85, sc_86⟩
theorem da_53 : isDa 53 := ⟨sc_53, pl_54⟩
theorem da_58 : isDa 58 := ⟨sc_58, pl_59⟩
theorem da_63 : isDa 63 := ⟨sc_63, pl_64⟩
theorem co_87 : isCo 87 := ⟨sc_87, sc_88⟩
theorem co_90 : isCo 90 := ⟨sc_90, sc_91⟩
theorem co_92 : isCo 92 := ⟨sc_92, sc_93⟩
theorem isc_37 : isSc 37 := ⟨sc_37, sc_38, sc_39, sc_40, sc_41, sc_42, sc_43, sc_44⟩
theorem isc_45 : isSc 45 := ⟨sc_45, sc_46, sc_47, sc_48, sc_49, sc_50, sc_51, sc_52⟩
section SM
variable {d a : Nat} {h0 h : pheap} {s : St} {Q : Option pv → pheap → Prop}
theorem m_bit {x : Int} (hx : x = 0 ∨ x = 1) (k : Q (some (vI x)) h) : wpM PP d 46 [vI x] h Q := by
  refine n_at (m := 46) (q := mr46) (kn := (1, 1)) [some (vI _)] mb46 rfl rfl rfl (Nat.le_of_ble_eq_true rfl) rfl rfl ?_
  refine x_iload rfl ?_
  refine n_if_eq ⟨by omega, by omega⟩ (fun c1 => ?_) (fun c1 => ?_)
  · refine x_ci ?_
    refine x_fall ?_
    refine x_iret ?_
    exact cI k (by omega)
  · refine x_ci ?_
    refine x_goto ?_
    refine x_iret ?_
    exact cI k (by omega)
theorem m_codeOf {p x : Int} (hx : x = 0 ∨ x = 1) (k : Q (some (vI (2 * p + (1 - x)))) h) : wpM PP d 47 [vI p, vI x] h Q := by
  refine n_at (m := 47) (q := mr47) (kn := (1, 2)) [some (vI _), some (vI _)] mb47 rfl rfl rfl (Nat.le_of_ble_eq_true rfl) rfl rfl ?_
  refine x_ci ?_
  refine x_iload rfl ?_
  refine x_imul ?_
  refine x_iload rfl ?_
  refine n_if_eq ⟨by omega, by omega⟩ (fun c1 => ?_) (fun c1 => ?_)
  · refine x_ci ?_
    refine x_fall ?_
    refine x_iadd ?_
    refine x_iret ?_
    exact cI k (by omega)
  · refine x_ci ?_
    refine x_goto ?_
    refine x_iadd ?_
    refine x_iret ?_
    exact cI k (by omega)
theorem m_placeOfCode {x : Int} (hx : 0 ≤ x ∧ x < 64) (k : Q (some (vI (x / 2))) h) : wpM PP d 48 [vI x] h Q := by
  refine n_at (m := 48) (q := mr48) (kn := (1, 1)) [some (vI _)] mb48 rfl rfl rfl (Nat.le_of_ble_eq_true rfl) rfl rfl ?_
  refine x_iload rfl ?_
  refine x_ci ?_
  refine x_ishr ?_
  rw [shr1 hx.1 hx.2]
  refine x_iret ?_
  exact cI k (by omega)
theorem m_isOver {x : Int} (hx : 0 ≤ x ∧ x < 64) (k : Q (some (vI (bI (x % 2 = 0)))) h) : wpM PP d 49 [vI x] h Q := by
  refine n_at (m := 49) (q := mr49) (kn := (1, 1)) [some (vI _)] mb49 rfl rfl rfl (Nat.le_of_ble_eq_true rfl) rfl rfl ?_
  refine x_iload rfl ?_
  refine x_ci ?_
  refine x_iand ?_
  rw [and1 hx.1 hx.2]
  refine n_if_ne ⟨by omega, by omega⟩ (fun c1 => ?_) (fun c1 => ?_)
  · refine x_ci ?_
    refine x_fall ?_
    refine x_zret (by first | exact bI_01 _ | omega) ?_
    exact cB0 k (by omega)
  · refine x_ci ?_
    refine x_goto ?_
    refine x_zret (by first | exact bI_01 _ | omega) ?_
    exact cB1 k (by omega)
theorem m_apart {x y : Int} (hd : 9 ≤ d) (hx : 0 ≤ x ∧ x < 64) (hy : 0 ≤ y ∧ y < 64) (k : Q (some (vI (max (x / 2 - y / 2) (-(x / 2 - y / 2))))) h) : wpM PP d 50 [vI x, vI y] h Q := by
  refine n_at (m := 50) (q := mr50) (kn := (1, 2)) [some (vI _), some (vI _)] mb50 rfl rfl rfl (Nat.le_of_ble_eq_true rfl) rfl rfl ?_
  refine x_iload rfl ?_
  refine n_call [vI _] [] (by omega) (Nat.le_of_ble_eq_true rfl) rfl rfl (Nat.le_of_ble_eq_true rfl) ?_
  refine m_placeOfCode ⟨by omega, by omega⟩ ?_
  show wp PP _ _ _ [some (vI _), some (vI _)] [vI _] _ _
  refine x_iload rfl ?_
  refine n_call [vI _] [vI _] (by omega) (Nat.le_of_ble_eq_true rfl) rfl rfl (Nat.le_of_ble_eq_true rfl) ?_
  refine m_placeOfCode ⟨by omega, by omega⟩ ?_
  show wp PP _ _ _ [some (vI _), some (vI _)] [vI _, vI _] _ _
  refine x_isub ?_
  refine n_iabs ⟨by omega, by omega⟩ (by omega) (Nat.le_of_ble_eq_true rfl) ?_
  refine x_iret ?_
  exact cI k (by omega)
theorem m_undo {x y : Int} (hx : 0 ≤ x ∧ x < 16) (hy : 0 ≤ y ∧ y < 16) (k : Q (some (vI (bI (x = y + 1 - 2 * (y % 2))))) h) : wpM PP d 51 [vI x, vI y] h Q := by
  refine n_at (m := 51) (q := mr51) (kn := (1, 2)) [some (vI _), some (vI _)] mb51 rfl rfl rfl (Nat.le_of_ble_eq_true rfl) rfl rfl ?_
  refine x_iload rfl ?_
  refine x_iload rfl ?_
  refine x_ixor ?_
  obtain ⟨e1, e2⟩ := xor_is hx hy
  refine x_ci ?_
  refine n_icmp_ne ⟨by omega, by omega⟩ ⟨by omega, by omega⟩ (fun c1 => ?_) (fun c1 => ?_)
  · refine x_ci ?_
    refine x_fall ?_
    refine x_zret (by first | exact bI_01 _ | omega) ?_
    first | exact cB1 k (e1.mp (by omega)) | exact cB0 k (fun q => absurd (e1.mpr q) (by omega))
  · refine x_ci ?_
    refine x_goto ?_
    refine x_zret (by first | exact bI_01 _ | omega) ?_
    first | exact cB1 k (e1.mp (by omega)) | exact cB0 k (fun q => absurd (e1.mpr q) (by omega))
theorem m_isLeft (hP : isPl a) (hL : 0 ≤ s a 3 ∧ s a 3 < 64) {x : Int} (hx : iR x) (k : Q (some (vI (bI (0 ≤ x ∧ x < 6 ∧ bt (s a 3) x = 1)))) (HP h0 s)) : wpM PP d 202 [vR a, vI x] (HP h0 s) Q := by
  have ha := hP.1.1
  refine n_at (m := 202) (q := mr202) (kn := (0, 2)) [some (vR _), some (vI _)] mb202 rfl rfl (h_rcv hP.1) (Nat.le_of_ble_eq_true rfl) rfl rfl ?_
  refine x_iload rfl ?_
  refine n_if_lt ⟨by omega, by omega⟩ (fun c1 => ?_) (fun c1 => ?_)
  · refine x_ci ?_
    refine x_fall ?_
    refine x_zret (by first | exact bI_01 _ | omega) ?_
    exact cB0 k (by omega)
  · refine x_iload rfl ?_
    refine x_ci ?_
    refine n_icmp_ge ⟨by omega, by omega⟩ ⟨by omega, by omega⟩ (fun c2 => ?_) (fun c2 => ?_)
    · refine x_ci ?_
      refine x_fall ?_
      refine x_zret (by first | exact bI_01 _ | omega) ?_
      exact cB0 k (by omega)
    · refine x_aload rfl ?_
      refine h_getI 3 hP.1 rfl rfl ?_
      refine x_iload rfl ?_
      refine x_ishr ?_
      refine x_ci ?_
      refine x_iand ?_
      rw [bt_shr hL ⟨by omega, by omega⟩]
      have hb := bt_R (s a 3) x
      refine n_if_eq ⟨by omega, by omega⟩ (fun c3 => ?_) (fun c3 => ?_)
      · refine x_ci ?_
        refine x_fall ?_
        refine x_zret (by first | exact bI_01 _ | omega) ?_
        exact cB0 k (by omega)
      · refine x_ci ?_
        refine x_goto ?_
        refine x_zret (by first | exact bI_01 _ | omega) ?_
        exact cB1 k (by omega)
theorem m_hasPlace (hP : isPl a) (hC : 0 ≤ s a 4 ∧ s a 4 ≤ 6) {x : Int} (hx : iR x) (k : Q (some (vI (bI (0 ≤ x ∧ x < s a 4 - 1)))) (HP h0 s)) : wpM PP d 203 [vR a, vI x] (HP h0 s) Q := by
  have ha := hP.1.1
  refine n_at (m := 203) (q := mr203) (kn := (0, 2)) [some (vR _), some (vI _)] mb203 rfl rfl (h_rcv hP.1) (Nat.le_of_ble_eq_true rfl) rfl rfl ?_
  refine x_iload rfl ?_
  refine n_if_lt ⟨by omega, by omega⟩ (fun c1 => ?_) (fun c1 => ?_)
  · refine x_ci ?_
    refine x_fall ?_
    refine x_zret (by first | exact bI_01 _ | omega) ?_
    exact cB0 k (by omega)
  · refine x_iload rfl ?_
    refine x_aload rfl ?_
    refine h_getI 4 hP.1 rfl rfl ?_
    refine x_ci ?_
    refine x_isub ?_
    refine n_icmp_ge ⟨by omega, by omega⟩ ⟨by omega, by omega⟩ (fun c2 => ?_) (fun c2 => ?_)
    · refine x_ci ?_
      refine x_fall ?_
      refine x_zret (by first | exact bI_01 _ | omega) ?_
      exact cB0 k (by omega)
    · refine x_ci ?_
      refine x_goto ?_
      refine x_zret (by first | exact bI_01 _ | omega) ?_
      exact cB1 k (by omega)
theorem m_codeCount (hP : isPl a) (hd : 9 ≤ d) (hC : 0 ≤ s a 4 ∧ s a 4 ≤ 6) (k : Q (some (vI (max 0 (2 * (s a 4 - 1))))) (HP h0 s)) : wpM PP d 204 [vR a] (HP h0 s) Q := by
  have ha := hP.1.1
  refine n_at (m := 204) (q := mr204) (kn := (0, 1)) [some (vR _)] mb204 rfl rfl (h_rcv hP.1) (Nat.le_of_ble_eq_true rfl) rfl rfl ?_
  refine x_ci ?_
  refine x_ci ?_
  refine x_aload rfl ?_
  refine h_getI 4 hP.1 rfl rfl ?_
  refine x_ci ?_
  refine x_isub ?_
  refine x_imul ?_
  refine n_imax ⟨by omega, by omega⟩ ⟨by omega, by omega⟩ (by omega) (Nat.le_of_ble_eq_true rfl) ?_
  refine x_iret ?_
  exact cI k (by omega)
theorem m_hasCode (hP : isPl a) (hd : 10 ≤ d) (hC : 0 ≤ s a 4 ∧ s a 4 ≤ 6) {x : Int} (hx : iR x) (k : Q (some (vI (bI (0 ≤ x ∧ x < 2 * (s a 4 - 1))))) (HP h0 s)) : wpM PP d 205 [vR a, vI x] (HP h0 s) Q := by
  have ha := hP.1.1
  refine n_at (m := 205) (q := mr205) (kn := (0, 2)) [some (vR _), some (vI _)] mb205 rfl rfl (h_rcv hP.1) (Nat.le_of_ble_eq_true rfl) rfl rfl ?_
  refine x_iload rfl ?_
  refine n_if_lt ⟨by omega, by omega⟩ (fun c1 => ?_) (fun c1 => ?_)
  · refine x_ci ?_
    refine x_fall ?_
    refine x_zret (by first | exact bI_01 _ | omega) ?_
    exact cB0 k (by omega)
  · refine x_iload rfl ?_
    refine x_aload rfl ?_
    refine n_call [vR _] [vI _] (by omega) (Nat.le_of_ble_eq_true rfl) rfl rfl (Nat.le_of_ble_eq_true rfl) ?_
    refine m_codeCount hP (by omega) (by first | assumption | omega | (simp [up]; omega)) ?_
    show wp PP _ _ _ [some (vR _), some (vI _)] [vI _, vI _] _ _
    refine n_icmp_ge ⟨by omega, by omega⟩ ⟨by omega, by omega⟩ (fun c2 => ?_) (fun c2 => ?_)
    · refine x_ci ?_
      refine x_fall ?_
      refine x_zret (by first | exact bI_01 _ | omega) ?_
      exact cB0 k (by omega)
    · refine x_ci ?_
      refine x_goto ?_
      refine x_zret (by first | exact bI_01 _ | omega) ?_
      exact cB1 k (by omega)
theorem m_codeAt (hP : isPl a) {x : Int} (hx : 0 ≤ x ∧ x < 52) (k : Q (some (vI (s (a + 1) x))) (HP h0 s)) : wpM PP d 206 [vR a, vI x] (HP h0 s) Q := by
  have ha := hP.1.1
  refine n_at (m := 206) (q := mr206) (kn := (0, 2)) [some (vR _), some (vI _)] mb206 rfl rfl (h_rcv hP.1) (Nat.le_of_ble_eq_true rfl) rfl rfl ?_
  refine x_iload rfl ?_
  refine n_if_lt ⟨by omega, by omega⟩ (fun c1 => ?_) (fun c1 => ?_)
  · refine x_ci ?_
    refine x_fall ?_
    refine x_iret ?_
    first | exact k | (exfalso; omega)
  · refine x_iload rfl ?_
    refine x_aload rfl ?_
    refine h_getR hP.1 rfl (by omega) ?_
    refine h_alen 52 hP.2.1 (by decide) rfl ?_
    refine n_icmp_ge ⟨by omega, by omega⟩ ⟨by omega, by omega⟩ (fun c2 => ?_) (fun c2 => ?_)
    · refine x_ci ?_
      refine x_fall ?_
      refine x_iret ?_
      first | exact k | (exfalso; omega)
    · refine x_aload rfl ?_
      refine h_getR hP.1 rfl (by omega) ?_
      refine x_iload rfl ?_
      refine h_iald hP.2.1 ⟨by omega, by omega⟩ (by decide) ?_
      refine x_goto ?_
      refine x_iret ?_
      first | exact k | (exfalso; omega)
theorem m_setCode (hP : isPl a) {x y : Int} (hs : 0 ≤ s a 5 ∧ s a 5 ≤ 52) (hx : 0 ≤ x ∧ x < s a 5) (k : Q none (HP h0 (up s (a + 1) x y))) : wpM PP d 207 [vR a, vI x, vI y] (HP h0 s) Q := by
  have ha := hP.1.1
  refine n_at (m := 207) (q := mr207) (kn := (0, 3)) [some (vR _), some (vI _), some (vI _)] mb207 rfl rfl (h_rcv hP.1) (Nat.le_of_ble_eq_true rfl) rfl rfl ?_
  refine x_iload rfl ?_
  refine n_if_lt ⟨by omega, by omega⟩ (fun c1 => ?_) (fun c1 => ?_)
  · refine x_ret ?_
    first | exact k | (exfalso; omega)
  · refine x_iload rfl ?_
    refine x_aload rfl ?_
    refine h_getI 5 hP.1 rfl rfl ?_
    refine n_icmp_ge ⟨by omega, by omega⟩ ⟨by omega, by omega⟩ (fun c2 => ?_) (fun c2 => ?_)
    · refine x_ret ?_
      first | exact k | (exfalso; omega)
    · refine x_iload rfl ?_
      refine x_aload rfl ?_
      refine h_getR hP.1 rfl (by omega) ?_
      refine h_alen 52 hP.2.1 (by decide) rfl ?_
      refine n_icmp_ge ⟨by omega, by omega⟩ ⟨by omega, by omega⟩ (fun c3 => ?_) (fun c3 => ?_)
      · refine x_ret ?_
        first | exact k | (exfalso; omega)
      · refine x_aload rfl ?_
        refine h_getR hP.1 rfl (by omega) ?_
        refine x_iload rfl ?_
        refine x_iload rfl ?_
        refine h_iast hP.2.1 ⟨by omega, by omega⟩ (by decide) ?_
        refine x_fall ?_
        refine x_ret ?_
        first | exact k | (exfalso; omega)
theorem m_standsAt (hP : isPl a) {x : Int} (hC : 0 ≤ s a 4 ∧ s a 4 ≤ 6) (hx : 0 ≤ x ∧ x < s a 4) (k : Q (some (vI (s (a + 2) x))) (HP h0 s)) : wpM PP d 208 [vR a, vI x] (HP h0 s) Q := by
  have ha := hP.1.1
  refine n_at (m := 208) (q := mr208) (kn := (0, 2)) [some (vR _), some (vI _)] mb208 rfl rfl (h_rcv hP.1) (Nat.le_of_ble_eq_true rfl) rfl rfl ?_
  refine x_iload rfl ?_
  refine n_if_lt ⟨by omega, by omega⟩ (fun c1 => ?_) (fun c1 => ?_)
  · refine x_ci ?_
    refine x_fall ?_
    refine x_iret ?_
    first | exact k | (exfalso; omega)
  · refine x_iload rfl ?_
    refine x_aload rfl ?_
    refine h_getI 4 hP.1 rfl rfl ?_
    refine n_icmp_ge ⟨by omega, by omega⟩ ⟨by omega, by omega⟩ (fun c2 => ?_) (fun c2 => ?_)
    · refine x_ci ?_
      refine x_fall ?_
      refine x_iret ?_
      first | exact k | (exfalso; omega)
    · refine x_iload rfl ?_
      refine x_aload rfl ?_
      refine h_getR hP.1 rfl (by omega) ?_
      refine h_alen 6 hP.2.2.1 (by decide) rfl ?_
      refine n_icmp_ge ⟨by omega, by omega⟩ ⟨by omega, by omega⟩ (fun c3 => ?_) (fun c3 => ?_)
      · refine x_ci ?_
        refine x_fall ?_
        refine x_iret ?_
        first | exact k | (exfalso; omega)
      · refine x_aload rfl ?_
        refine h_getR hP.1 rfl (by omega) ?_
        refine x_iload rfl ?_
        refine h_iald hP.2.2.1 ⟨by omega, by omega⟩ (by decide) ?_
        refine x_goto ?_
        refine x_iret ?_
        first | exact k | (exfalso; omega)
theorem m_standsNo (hP : isPl a) {x : Int} (hx : iR x) (hC : 0 ≤ s a 4 ∧ s a 4 ≤ 6) (hy : x < 0 ∨ s a 4 ≤ x) (k : Q (some (vI (-1))) (HP h0 s)) : wpM PP d 208 [vR a, vI x] (HP h0 s) Q := by
  have ha := hP.1.1
  refine n_at (m := 208) (q := mr208) (kn := (0, 2)) [some (vR _), some (vI _)] mb208 rfl rfl (h_rcv hP.1) (Nat.le_of_ble_eq_true rfl) rfl rfl ?_
  refine x_iload rfl ?_
  refine n_if_lt ⟨by omega, by omega⟩ (fun c1 => ?_) (fun c1 => ?_)
  · refine x_ci ?_
    refine x_fall ?_
    refine x_iret ?_
    first | exact k | (exfalso; omega)
  · refine x_iload rfl ?_
    refine x_aload rfl ?_
    refine h_getI 4 hP.1 rfl rfl ?_
    refine n_icmp_ge ⟨by omega, by omega⟩ ⟨by omega, by omega⟩ (fun c2 => ?_) (fun c2 => ?_)
    · refine x_ci ?_
      refine x_fall ?_
      refine x_iret ?_
      first | exact k | (exfalso; omega)
    · refine x_iload rfl ?_
      refine x_aload rfl ?_
      refine h_getR hP.1 rfl (by omega) ?_
      refine h_alen 6 hP.2.2.1 (by decide) rfl ?_
      refine n_icmp_ge ⟨by omega, by omega⟩ ⟨by omega, by omega⟩ (fun c3 => ?_) (fun c3 => ?_)
      · refine x_ci ?_
        refine x_fall ?_
        refine x_iret ?_
        first | exact k | (exfalso; omega)
      · refine x_aload rfl ?_
        refine h_getR hP.1 rfl (by omega) ?_
        refine x_iload rfl ?_
        refine h_iald hP.2.2.1 ⟨by omega, by omega⟩ (by decide) ?_
        refine x_goto ?_
        refine x_iret ?_
        first | exact k | (exfalso; omega)
theorem m_bondOf (hP : isPl a) (hd : 1 ≤ d) (hL : 0 ≤ s a 3 ∧ s a 3 < 64) {x y : Int} (hx : 0 ≤ x ∧ x < 6 ∧ bt (s a 3) x = 1) (hy : 0 ≤ y ∧ y < 6 ∧ bt (s a 3) y = 1) (k : Q (some (vI (s (a + 3) (6 * x + y)))) (HP h0 s)) : wpM PP d 210 [vR a, vI x, vI y] (HP h0 s) Q := by
  have ha := hP.1.1
  refine n_at (m := 210) (q := mr210) (kn := (0, 3)) [some (vR _), some (vI _), some (vI _), none] mb210 rfl rfl (h_rcv hP.1) (Nat.le_of_ble_eq_true rfl) rfl rfl ?_
  refine x_iload rfl ?_
  refine x_ci ?_
  refine x_imul ?_
  refine x_iload rfl ?_
  refine x_iadd ?_
  refine n_istore [some (vR _), some (vI _), some (vI _), some (vI _)] (Nat.le_of_ble_eq_true rfl) rfl ?_
  refine x_aload rfl ?_
  refine x_iload rfl ?_
  refine n_call [vR _, vI _] [] (by omega) (Nat.le_of_ble_eq_true rfl) rfl rfl (Nat.le_of_ble_eq_true rfl) ?_
  refine m_isLeft hP (by first | assumption | omega | (simp [up]; omega)) ⟨by omega, by omega⟩ ?_
  show wp PP _ _ _ [some (vR _), some (vI _), some (vI _), some (vI _)] [vI _] _ _
  refine z_if_eq (fun c1 => ?_) (fun c1 => ?_)
  · refine x_ci ?_
    refine x_fall ?_
    refine x_iret ?_
    first | (exfalso; omega) | (exact cI k (by rw [Int.mul_comm]))
  · refine x_aload rfl ?_
    refine x_iload rfl ?_
    refine n_call [vR _, vI _] [] (by omega) (Nat.le_of_ble_eq_true rfl) rfl rfl (Nat.le_of_ble_eq_true rfl) ?_
    refine m_isLeft hP (by first | assumption | omega | (simp [up]; omega)) ⟨by omega, by omega⟩ ?_
    show wp PP _ _ _ [some (vR _), some (vI _), some (vI _), some (vI _)] [vI _] _ _
    refine z_if_eq (fun c2 => ?_) (fun c2 => ?_)
    · refine x_ci ?_
      refine x_fall ?_
      refine x_iret ?_
      first | (exfalso; omega) | (exact cI k (by rw [Int.mul_comm]))
    · refine x_iload rfl ?_
      refine n_if_lt ⟨by omega, by omega⟩ (fun c3 => ?_) (fun c3 => ?_)
      · refine x_ci ?_
        refine x_fall ?_
        refine x_iret ?_
        first | (exfalso; omega) | (exact cI k (by rw [Int.mul_comm]))
      · refine x_iload rfl ?_
        refine x_aload rfl ?_
        refine h_getR hP.1 rfl (by omega) ?_
        refine h_alen 36 hP.2.2.2 (by decide) rfl ?_
        refine n_icmp_ge ⟨by omega, by omega⟩ ⟨by omega, by omega⟩ (fun c4 => ?_) (fun c4 => ?_)
        · refine x_ci ?_
          refine x_fall ?_
          refine x_iret ?_
          first | (exfalso; omega) | (exact cI k (by rw [Int.mul_comm]))
        · refine x_aload rfl ?_
          refine h_getR hP.1 rfl (by omega) ?_
          refine x_iload rfl ?_
          refine h_iald hP.2.2.2 ⟨by omega, by omega⟩ (by decide) ?_
          refine x_goto ?_
          refine x_iret ?_
          first | (exfalso; omega) | (exact cI k (by rw [Int.mul_comm]))
end SM
