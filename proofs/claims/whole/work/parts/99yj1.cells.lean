/-! THE LAW's first block -/
section BLK
variable {pJ : Program} {lJ : Launch} {eJ : Env} {sJ : State} {mJ : MethodId} {aJ : Array Value} {bJ : List Frame} {tJ : Method} {cJ : Code} {QJ : State → Prop}
variable {sa : Nat → Nat} {base L : Nat} {xs : Nat → Int} {ca : Nat → ClassId} {D : va_G} {r : List PI} {op : Nat} {as : List Nat} {z : Int} {ls ls' : plocs} {st st' : List pv} {h h' : pheap}
theorem wl_gs1 (C : CX pJ sJ mJ aJ cJ sa base L xs ca D 13 7 code) (hB : sJ.heap.size = base) (ho : op < 100) (h' : pheap) (e : s1 op as z ls st h = some (ls', st', h')) (g1 : h.1 ≤ h'.1) (g2 : h.2.1 ≤ h'.2.1) (g3 : h'.2.2 0 = h.2.2 0) (g4 : h'.1 ≤ 600128) (g5 : h'.2.1 ≤ 7301098) (k : wlw pJ lJ eJ sJ mJ aJ bJ tJ cJ QJ sa base ca D L xs r ls' st' h' 0) : wlw pJ lJ eJ sJ mJ aJ bJ tJ cJ QJ sa base ca D L xs ((op, as, z) :: r) ls st h 0 := by
  intro hO pc hlk
  obtain ⟨ins, len, hd, h1, h2⟩ := lkL_s1 hlk ho
  have q := k ⟨g3.trans hO.1, g4, g5⟩ _ h2
  refine WP_s1 C hO.1 hd h1 ho e (Or.inl (by omega)) (by show h.1 + 0 + (h'.1 - h.1) ≤ 600128; omega) (by show h.2.1 + 6 * 0 + (h'.2.1 - h.2.1) ≤ 7301098; omega) ?_
  rw [show h.1 + 0 + (h'.1 - h.1) = h'.1 + 0 by omega, show h.2.1 + 6 * 0 + (h'.2.1 - h.2.1) = h'.2.1 + 6 * 0 by omega]
  exact q
theorem wl_gcall (C : CX pJ sJ mJ aJ cJ sa base L xs ca D 13 7 code) (hB : sJ.heap.size = base) {m0 kk : Nat} (as0 st2 : List pv) (hne : m0 ≠ 9999) (hk : kk ≤ st.length) (e1 : (st.take kk).reverse = as0) (e2 : st.drop kk = st2) (hc : scat st2 ≤ 8)
    (k : wpM PP 2000 m0 as0 h (fun v h' => ((h.1 ≤ h'.1 ∧ h.2.1 ≤ h'.2.1 ∧ h'.2.2 0 = h.2.2 0) ∧ h'.1 ≤ 600128 ∧ h'.2.1 ≤ 7301098) ∧ wlw pJ lJ eJ sJ mJ aJ bJ tJ cJ QJ sa base ca D L xs r ls (v.toList ++ st2) h' 0)) : wlw pJ lJ eJ sJ mJ aJ bJ tJ cJ QJ sa base ca D L xs ((120, m0 :: kk :: as, z) :: r) ls st h 0 := by
  intro hO pc hlk
  subst e1 e2
  obtain ⟨ins, len, hd, h1, h2⟩ := lkL_s2 hlk (by decide) (fun q => hne (List.cons.inj q.2).1)
  refine WP_call C hO.1 hd h1 hk hc k (fun v h' q => ?_) (Nat.le_of_ble_eq_true rfl) (Nat.le_of_ble_eq_true rfl) (fun v h' q => ?_)
  · obtain ⟨⟨⟨g1, g2, g3⟩, g4, g5⟩, -⟩ := q
    exact ⟨Or.inl (by omega), by show h.1 + 0 + (h'.1 - h.1) ≤ 600128; omega, by show h.2.1 + 6 * 0 + (h'.2.1 - h.2.1) ≤ 7301098; omega⟩
  · obtain ⟨⟨⟨g1, g2, g3⟩, g4, g5⟩, q⟩ := q
    have q2 := q ⟨g3.trans hO.1, g4, g5⟩ _ h2
    rw [show h.1 + 0 + (h'.1 - h.1) = h'.1 + 0 by omega, show h.2.1 + 6 * 0 + (h'.2.1 - h.2.1) = h'.2.1 + 6 * 0 by omega]
    exact q2
def endF (f : Nat → pcell) : Nat → pcell := updC (modelG (mainF f)) 130 (.inl (3, 1, fun _ => 0))
set_option maxRecDepth 100000 in
theorem fe_32 (f : Nat → pcell) : endF f 32 = cellOf (shl.getD 0 (.inl (0, 0))) (st0 32) := rfl
set_option maxRecDepth 100000 in
theorem fe_33 (f : Nat → pcell) : endF f 33 = cellOf (shl.getD 1 (.inl (0, 0))) (st0 33) := rfl
set_option maxRecDepth 100000 in
theorem fe_34 (f : Nat → pcell) : endF f 34 = cellOf (shl.getD 2 (.inl (0, 0))) (st0 34) := rfl
set_option maxRecDepth 100000 in
theorem fe_35 (f : Nat → pcell) : endF f 35 = cellOf (shl.getD 3 (.inl (0, 0))) (st0 35) := rfl
set_option maxRecDepth 100000 in
theorem fe_36 (f : Nat → pcell) : endF f 36 = cellOf (shl.getD 4 (.inl (0, 0))) (st0 36) := rfl
set_option maxRecDepth 100000 in
theorem fe_37 (f : Nat → pcell) : endF f 37 = cellOf (shl.getD 5 (.inl (0, 0))) (st0 37) := rfl
set_option maxRecDepth 100000 in
theorem fe_38 (f : Nat → pcell) : endF f 38 = cellOf (shl.getD 6 (.inl (0, 0))) (st0 38) := rfl
set_option maxRecDepth 100000 in
theorem fe_39 (f : Nat → pcell) : endF f 39 = cellOf (shl.getD 7 (.inl (0, 0))) (st0 39) := rfl
set_option maxRecDepth 100000 in
theorem fe_40 (f : Nat → pcell) : endF f 40 = cellOf (shl.getD 8 (.inl (0, 0))) (st0 40) := rfl
set_option maxRecDepth 100000 in
theorem fe_41 (f : Nat → pcell) : endF f 41 = cellOf (shl.getD 9 (.inl (0, 0))) (st0 41) := rfl
set_option maxRecDepth 100000 in
theorem fe_42 (f : Nat → pcell) : endF f 42 = cellOf (shl.getD 10 (.inl (0, 0))) (st0 42) := rfl
set_option maxRecDepth 100000 in
theorem fe_43 (f : Nat → pcell) : endF f 43 = cellOf (shl.getD 11 (.inl (0, 0))) (st0 43) := rfl
set_option maxRecDepth 100000 in
theorem fe_44 (f : Nat → pcell) : endF f 44 = cellOf (shl.getD 12 (.inl (0, 0))) (st0 44) := rfl
set_option maxRecDepth 100000 in
theorem fe_45 (f : Nat → pcell) : endF f 45 = cellOf (shl.getD 13 (.inl (0, 0))) (st0 45) := rfl
set_option maxRecDepth 100000 in
theorem fe_46 (f : Nat → pcell) : endF f 46 = cellOf (shl.getD 14 (.inl (0, 0))) (st0 46) := rfl
set_option maxRecDepth 100000 in
theorem fe_47 (f : Nat → pcell) : endF f 47 = cellOf (shl.getD 15 (.inl (0, 0))) (st0 47) := rfl
set_option maxRecDepth 100000 in
theorem fe_48 (f : Nat → pcell) : endF f 48 = cellOf (shl.getD 16 (.inl (0, 0))) (st0 48) := rfl
set_option maxRecDepth 100000 in
theorem fe_49 (f : Nat → pcell) : endF f 49 = cellOf (shl.getD 17 (.inl (0, 0))) (st0 49) := rfl
set_option maxRecDepth 100000 in
theorem fe_50 (f : Nat → pcell) : endF f 50 = cellOf (shl.getD 18 (.inl (0, 0))) (st0 50) := rfl
set_option maxRecDepth 100000 in
theorem fe_51 (f : Nat → pcell) : endF f 51 = cellOf (shl.getD 19 (.inl (0, 0))) (st0 51) := rfl
set_option maxRecDepth 100000 in
theorem fe_52 (f : Nat → pcell) : endF f 52 = cellOf (shl.getD 20 (.inl (0, 0))) (st0 52) := rfl
set_option maxRecDepth 100000 in
theorem fe_53 (f : Nat → pcell) : endF f 53 = cellOf (shl.getD 21 (.inl (0, 0))) (st0 53) := rfl
set_option maxRecDepth 100000 in
theorem fe_54 (f : Nat → pcell) : endF f 54 = cellOf (shl.getD 22 (.inl (0, 0))) (st0 54) := rfl
set_option maxRecDepth 100000 in
theorem fe_55 (f : Nat → pcell) : endF f 55 = cellOf (shl.getD 23 (.inl (0, 0))) (st0 55) := rfl
set_option maxRecDepth 100000 in
theorem fe_56 (f : Nat → pcell) : endF f 56 = cellOf (shl.getD 24 (.inl (0, 0))) (st0 56) := rfl
set_option maxRecDepth 100000 in
theorem fe_57 (f : Nat → pcell) : endF f 57 = cellOf (shl.getD 25 (.inl (0, 0))) (st0 57) := rfl
set_option maxRecDepth 100000 in
theorem fe_58 (f : Nat → pcell) : endF f 58 = cellOf (shl.getD 26 (.inl (0, 0))) (st0 58) := rfl
set_option maxRecDepth 100000 in
theorem fe_59 (f : Nat → pcell) : endF f 59 = cellOf (shl.getD 27 (.inl (0, 0))) (st0 59) := rfl
set_option maxRecDepth 100000 in
theorem fe_60 (f : Nat → pcell) : endF f 60 = cellOf (shl.getD 28 (.inl (0, 0))) (st0 60) := rfl
set_option maxRecDepth 100000 in
theorem fe_61 (f : Nat → pcell) : endF f 61 = cellOf (shl.getD 29 (.inl (0, 0))) (st0 61) := rfl
set_option maxRecDepth 100000 in
theorem fe_62 (f : Nat → pcell) : endF f 62 = cellOf (shl.getD 30 (.inl (0, 0))) (st0 62) := rfl
set_option maxRecDepth 100000 in
theorem fe_63 (f : Nat → pcell) : endF f 63 = cellOf (shl.getD 31 (.inl (0, 0))) (st0 63) := rfl
set_option maxRecDepth 100000 in
theorem fe_64 (f : Nat → pcell) : endF f 64 = cellOf (shl.getD 32 (.inl (0, 0))) (st0 64) := rfl
set_option maxRecDepth 100000 in
theorem fe_65 (f : Nat → pcell) : endF f 65 = cellOf (shl.getD 33 (.inl (0, 0))) (st0 65) := rfl
set_option maxRecDepth 100000 in
theorem fe_66 (f : Nat → pcell) : endF f 66 = cellOf (shl.getD 34 (.inl (0, 0))) (st0 66) := rfl
set_option maxRecDepth 100000 in
theorem fe_67 (f : Nat → pcell) : endF f 67 = cellOf (shl.getD 35 (.inl (0, 0))) (st0 67) := rfl
set_option maxRecDepth 100000 in
theorem fe_68 (f : Nat → pcell) : endF f 68 = cellOf (shl.getD 36 (.inl (0, 0))) (st0 68) := rfl
set_option maxRecDepth 100000 in
theorem fe_69 (f : Nat → pcell) : endF f 69 = cellOf (shl.getD 37 (.inl (0, 0))) (st0 69) := rfl
set_option maxRecDepth 100000 in
theorem fe_70 (f : Nat → pcell) : endF f 70 = cellOf (shl.getD 38 (.inl (0, 0))) (st0 70) := rfl
set_option maxRecDepth 100000 in
theorem fe_71 (f : Nat → pcell) : endF f 71 = cellOf (shl.getD 39 (.inl (0, 0))) (st0 71) := rfl
set_option maxRecDepth 100000 in
theorem fe_72 (f : Nat → pcell) : endF f 72 = cellOf (shl.getD 40 (.inl (0, 0))) (st0 72) := rfl
set_option maxRecDepth 100000 in
theorem fe_73 (f : Nat → pcell) : endF f 73 = cellOf (shl.getD 41 (.inl (0, 0))) (st0 73) := rfl
set_option maxRecDepth 100000 in
theorem fe_74 (f : Nat → pcell) : endF f 74 = cellOf (shl.getD 42 (.inl (0, 0))) (st0 74) := rfl
set_option maxRecDepth 100000 in
theorem fe_75 (f : Nat → pcell) : endF f 75 = cellOf (shl.getD 43 (.inl (0, 0))) (st0 75) := rfl
set_option maxRecDepth 100000 in
theorem fe_76 (f : Nat → pcell) : endF f 76 = cellOf (shl.getD 44 (.inl (0, 0))) (st0 76) := rfl
set_option maxRecDepth 100000 in
theorem fe_77 (f : Nat → pcell) : endF f 77 = cellOf (shl.getD 45 (.inl (0, 0))) (st0 77) := rfl
set_option maxRecDepth 100000 in
theorem fe_78 (f : Nat → pcell) : endF f 78 = cellOf (shl.getD 46 (.inl (0, 0))) (st0 78) := rfl
set_option maxRecDepth 100000 in
theorem fe_79 (f : Nat → pcell) : endF f 79 = cellOf (shl.getD 47 (.inl (0, 0))) (st0 79) := rfl
set_option maxRecDepth 100000 in
theorem fe_80 (f : Nat → pcell) : endF f 80 = cellOf (shl.getD 48 (.inl (0, 0))) (st0 80) := rfl
set_option maxRecDepth 100000 in
theorem fe_81 (f : Nat → pcell) : endF f 81 = cellOf (shl.getD 49 (.inl (0, 0))) (st0 81) := rfl
set_option maxRecDepth 100000 in
theorem fe_82 (f : Nat → pcell) : endF f 82 = cellOf (shl.getD 50 (.inl (0, 0))) (st0 82) := rfl
set_option maxRecDepth 100000 in
theorem fe_83 (f : Nat → pcell) : endF f 83 = cellOf (shl.getD 51 (.inl (0, 0))) (st0 83) := rfl
set_option maxRecDepth 100000 in
theorem fe_84 (f : Nat → pcell) : endF f 84 = cellOf (shl.getD 52 (.inl (0, 0))) (st0 84) := rfl
set_option maxRecDepth 100000 in
theorem fe_85 (f : Nat → pcell) : endF f 85 = cellOf (shl.getD 53 (.inl (0, 0))) (st0 85) := rfl
set_option maxRecDepth 100000 in
theorem fe_86 (f : Nat → pcell) : endF f 86 = cellOf (shl.getD 54 (.inl (0, 0))) (st0 86) := rfl
set_option maxRecDepth 100000 in
theorem fe_87 (f : Nat → pcell) : endF f 87 = cellOf (shl.getD 55 (.inl (0, 0))) (st0 87) := rfl
set_option maxRecDepth 100000 in
theorem fe_88 (f : Nat → pcell) : endF f 88 = cellOf (shl.getD 56 (.inl (0, 0))) (st0 88) := rfl
set_option maxRecDepth 100000 in
theorem fe_89 (f : Nat → pcell) : endF f 89 = cellOf (shl.getD 57 (.inl (0, 0))) (st0 89) := rfl
set_option maxRecDepth 100000 in
theorem fe_90 (f : Nat → pcell) : endF f 90 = cellOf (shl.getD 58 (.inl (0, 0))) (st0 90) := rfl
set_option maxRecDepth 100000 in
theorem fe_91 (f : Nat → pcell) : endF f 91 = cellOf (shl.getD 59 (.inl (0, 0))) (st0 91) := rfl
set_option maxRecDepth 100000 in
theorem fe_92 (f : Nat → pcell) : endF f 92 = cellOf (shl.getD 60 (.inl (0, 0))) (st0 92) := rfl
set_option maxRecDepth 100000 in
theorem fe_93 (f : Nat → pcell) : endF f 93 = cellOf (shl.getD 61 (.inl (0, 0))) (st0 93) := rfl
set_option maxRecDepth 100000 in
theorem fe_94 (f : Nat → pcell) : endF f 94 = cellOf (shl.getD 62 (.inl (0, 0))) (st0 94) := rfl
set_option maxRecDepth 100000 in
theorem fe_95 (f : Nat → pcell) : endF f 95 = cellOf (shl.getD 63 (.inl (0, 0))) (st0 95) := rfl
set_option maxRecDepth 100000 in
theorem fe_96 (f : Nat → pcell) : endF f 96 = cellOf (shl.getD 64 (.inl (0, 0))) (st0 96) := rfl
set_option maxRecDepth 100000 in
theorem fe_97 (f : Nat → pcell) : endF f 97 = cellOf (shl.getD 65 (.inl (0, 0))) (st0 97) := rfl
set_option maxRecDepth 100000 in
theorem fe_98 (f : Nat → pcell) : endF f 98 = cellOf (shl.getD 66 (.inl (0, 0))) (st0 98) := rfl
set_option maxRecDepth 100000 in
theorem fe_99 (f : Nat → pcell) : endF f 99 = cellOf (shl.getD 67 (.inl (0, 0))) (st0 99) := rfl
set_option maxRecDepth 100000 in
theorem fe_100 (f : Nat → pcell) : endF f 100 = cellOf (shl.getD 68 (.inl (0, 0))) (st0 100) := rfl
set_option maxRecDepth 100000 in
theorem fe_101 (f : Nat → pcell) : endF f 101 = cellOf (shl.getD 69 (.inl (0, 0))) (st0 101) := rfl
set_option maxRecDepth 100000 in
theorem fe_102 (f : Nat → pcell) : endF f 102 = cellOf (shl.getD 70 (.inl (0, 0))) (st0 102) := rfl
set_option maxRecDepth 100000 in
theorem fe_103 (f : Nat → pcell) : endF f 103 = cellOf (shl.getD 71 (.inl (0, 0))) (st0 103) := rfl
set_option maxRecDepth 100000 in
theorem fe_104 (f : Nat → pcell) : endF f 104 = cellOf (shl.getD 72 (.inl (0, 0))) (st0 104) := rfl
set_option maxRecDepth 100000 in
theorem fe_105 (f : Nat → pcell) : endF f 105 = cellOf (shl.getD 73 (.inl (0, 0))) (st0 105) := rfl
set_option maxRecDepth 100000 in
theorem fe_106 (f : Nat → pcell) : endF f 106 = cellOf (shl.getD 74 (.inl (0, 0))) (st0 106) := by
  show (.inl (0, 23, updI (fun _ => 0) 0 0) : pcell) = .inl (0, 23, fun j => st0 106 j)
  have e : updI (fun _ => 0) 0 0 = (fun j : Nat => st0 106 j) := by
    funext j
    unfold updI
    split <;> rfl
  rw [e]
set_option maxRecDepth 100000 in
theorem fe_107 (f : Nat → pcell) : endF f 107 = cellOf (shl.getD 75 (.inl (0, 0))) (st0 107) := by
  show (.inl (0, 23, updI (fun _ => 0) 0 0) : pcell) = .inl (0, 23, fun j => st0 107 j)
  have e : updI (fun _ => 0) 0 0 = (fun j : Nat => st0 107 j) := by
    funext j
    unfold updI
    split <;> rfl
  rw [e]
set_option maxRecDepth 100000 in
theorem fe_108 (f : Nat → pcell) : endF f 108 = cellOf (shl.getD 76 (.inl (0, 0))) (st0 108) := by
  show (.inl (0, 23, updI (fun _ => 0) 0 0) : pcell) = .inl (0, 23, fun j => st0 108 j)
  have e : updI (fun _ => 0) 0 0 = (fun j : Nat => st0 108 j) := by
    funext j
    unfold updI
    split <;> rfl
  rw [e]
set_option maxRecDepth 100000 in
theorem fe_109 (f : Nat → pcell) : endF f 109 = cellOf (shl.getD 77 (.inl (0, 0))) (st0 109) := by
  show (.inl (0, 23, updI (fun _ => 0) 0 0) : pcell) = .inl (0, 23, fun j => st0 109 j)
  have e : updI (fun _ => 0) 0 0 = (fun j : Nat => st0 109 j) := by
    funext j
    unfold updI
    split <;> rfl
  rw [e]
set_option maxRecDepth 100000 in
theorem fe_110 (f : Nat → pcell) : endF f 110 = cellOf (shl.getD 78 (.inl (0, 0))) (st0 110) := by
  show (.inl (0, 23, updI (fun _ => 0) 0 0) : pcell) = .inl (0, 23, fun j => st0 110 j)
  have e : updI (fun _ => 0) 0 0 = (fun j : Nat => st0 110 j) := by
    funext j
    unfold updI
    split <;> rfl
  rw [e]
set_option maxRecDepth 100000 in
theorem fe_111 (f : Nat → pcell) : endF f 111 = cellOf (shl.getD 79 (.inl (0, 0))) (st0 111) := by
  show (.inl (0, 23, updI (fun _ => 0) 0 0) : pcell) = .inl (0, 23, fun j => st0 111 j)
  have e : updI (fun _ => 0) 0 0 = (fun j : Nat => st0 111 j) := by
    funext j
    unfold updI
    split <;> rfl
  rw [e]
set_option maxRecDepth 100000 in
theorem fe_112 (f : Nat → pcell) : endF f 112 = cellOf (shl.getD 80 (.inl (0, 0))) (st0 112) := by
  show (.inl (0, 23, updI (fun _ => 0) 0 0) : pcell) = .inl (0, 23, fun j => st0 112 j)
  have e : updI (fun _ => 0) 0 0 = (fun j : Nat => st0 112 j) := by
    funext j
    unfold updI
    split <;> rfl
  rw [e]
set_option maxRecDepth 100000 in
theorem fe_113 (f : Nat → pcell) : endF f 113 = cellOf (shl.getD 81 (.inl (0, 0))) (st0 113) := rfl
set_option maxRecDepth 100000 in
theorem fe_114 (f : Nat → pcell) : endF f 114 = cellOf (shl.getD 82 (.inl (0, 0))) (st0 114) := rfl
set_option maxRecDepth 100000 in
theorem fe_115 (f : Nat → pcell) : endF f 115 = cellOf (shl.getD 83 (.inl (0, 0))) (st0 115) := rfl
set_option maxRecDepth 100000 in
theorem fe_116 (f : Nat → pcell) : endF f 116 = cellOf (shl.getD 84 (.inl (0, 0))) (st0 116) := rfl
set_option maxRecDepth 100000 in
theorem fe_117 (f : Nat → pcell) : endF f 117 = cellOf (shl.getD 85 (.inl (0, 0))) (st0 117) := rfl
set_option maxRecDepth 100000 in
theorem fe_118 (f : Nat → pcell) : endF f 118 = cellOf (shl.getD 86 (.inl (0, 0))) (st0 118) := rfl
set_option maxRecDepth 100000 in
theorem fe_119 (f : Nat → pcell) : endF f 119 = cellOf (shl.getD 87 (.inl (0, 0))) (st0 119) := rfl
set_option maxRecDepth 100000 in
theorem fe_120 (f : Nat → pcell) : endF f 120 = cellOf (shl.getD 88 (.inl (0, 0))) (st0 120) := rfl
set_option maxRecDepth 100000 in
theorem fe_121 (f : Nat → pcell) : endF f 121 = cellOf (shl.getD 89 (.inl (0, 0))) (st0 121) := rfl
set_option maxRecDepth 100000 in
theorem fe_122 (f : Nat → pcell) : endF f 122 = cellOf (shl.getD 90 (.inl (0, 0))) (st0 122) := rfl
set_option maxRecDepth 100000 in
theorem fe_123 (f : Nat → pcell) : endF f 123 = cellOf (shl.getD 91 (.inl (0, 0))) (st0 123) := rfl
set_option maxRecDepth 100000 in
theorem fe_124 (f : Nat → pcell) : endF f 124 = cellOf (shl.getD 92 (.inl (0, 0))) (st0 124) := rfl
set_option maxRecDepth 100000 in
theorem fe_125 (f : Nat → pcell) : endF f 125 = cellOf (shl.getD 93 (.inl (0, 0))) (st0 125) := rfl
set_option maxRecDepth 100000 in
theorem fe_126 (f : Nat → pcell) : endF f 126 = cellOf (shl.getD 94 (.inl (0, 0))) (st0 126) := rfl
set_option maxRecDepth 100000 in
theorem fe_127 (f : Nat → pcell) : endF f 127 = cellOf (shl.getD 95 (.inl (0, 0))) (st0 127) := rfl
set_option maxRecDepth 100000 in
theorem fe_128 (f : Nat → pcell) : endF f 128 = cellOf (shl.getD 96 (.inl (0, 0))) (st0 128) := rfl
set_option maxRecDepth 100000 in
theorem fe_129 (f : Nat → pcell) : endF f 129 = cellOf (shl.getD 97 (.inl (0, 0))) (st0 129) := rfl
set_option maxRecDepth 100000 in
theorem fe_130 (f : Nat → pcell) : endF f 130 = cellOf (shl.getD 98 (.inl (0, 0))) (st0 130) := rfl
set_option maxRecDepth 100000 in
theorem fe_all (f : Nat → pcell) : ∀ k, k < 99 → endF f (32 + k) = cellOf (shl.getD k (.inl (0, 0))) (st0 (32 + k)) := fun k hk => match k, hk with
  | 0, _ => fe_32 f
  | 1, _ => fe_33 f
  | 2, _ => fe_34 f
  | 3, _ => fe_35 f
  | 4, _ => fe_36 f
  | 5, _ => fe_37 f
  | 6, _ => fe_38 f
  | 7, _ => fe_39 f
  | 8, _ => fe_40 f
  | 9, _ => fe_41 f
  | 10, _ => fe_42 f
  | 11, _ => fe_43 f
  | 12, _ => fe_44 f
  | 13, _ => fe_45 f
  | 14, _ => fe_46 f
  | 15, _ => fe_47 f
  | 16, _ => fe_48 f
  | 17, _ => fe_49 f
  | 18, _ => fe_50 f
  | 19, _ => fe_51 f
  | 20, _ => fe_52 f
  | 21, _ => fe_53 f
  | 22, _ => fe_54 f
  | 23, _ => fe_55 f
  | 24, _ => fe_56 f
  | 25, _ => fe_57 f
  | 26, _ => fe_58 f
  | 27, _ => fe_59 f
  | 28, _ => fe_60 f
  | 29, _ => fe_61 f
  | 30, _ => fe_62 f
  | 31, _ => fe_63 f
  | 32, _ => fe_64 f
  | 33, _ => fe_65 f
  | 34, _ => fe_66 f
  | 35, _ => fe_67 f
  | 36, _ => fe_68 f
  | 37, _ => fe_69 f
  | 38, _ => fe_70 f
  | 39, _ => fe_71 f
  | 40, _ => fe_72 f
  | 41, _ => fe_73 f
  | 42, _ => fe_74 f
  | 43, _ => fe_75 f
  | 44, _ => fe_76 f
  | 45, _ => fe_77 f
  | 46, _ => fe_78 f
  | 47, _ => fe_79 f
  | 48, _ => fe_80 f
  | 49, _ => fe_81 f
  | 50, _ => fe_82 f
  | 51, _ => fe_83 f
  | 52, _ => fe_84 f
  | 53, _ => fe_85 f
  | 54, _ => fe_86 f
  | 55, _ => fe_87 f
  | 56, _ => fe_88 f
  | 57, _ => fe_89 f
  | 58, _ => fe_90 f
  | 59, _ => fe_91 f
  | 60, _ => fe_92 f
  | 61, _ => fe_93 f
  | 62, _ => fe_94 f
  | 63, _ => fe_95 f
  | 64, _ => fe_96 f
  | 65, _ => fe_97 f
  | 66, _ => fe_98 f
  | 67, _ => fe_99 f
  | 68, _ => fe_100 f
  | 69, _ => fe_101 f
  | 70, _ => fe_102 f
  | 71, _ => fe_103 f
  | 72, _ => fe_104 f
  | 73, _ => fe_105 f
  | 74, _ => fe_106 f
  | 75, _ => fe_107 f
  | 76, _ => fe_108 f
  | 77, _ => fe_109 f
  | 78, _ => fe_110 f
  | 79, _ => fe_111 f
  | 80, _ => fe_112 f
  | 81, _ => fe_113 f
  | 82, _ => fe_114 f
  | 83, _ => fe_115 f
  | 84, _ => fe_116 f
  | 85, _ => fe_117 f
  | 86, _ => fe_118 f
  | 87, _ => fe_119 f
  | 88, _ => fe_120 f
  | 89, _ => fe_121 f
  | 90, _ => fe_122 f
  | 91, _ => fe_123 f
  | 92, _ => fe_124 f
  | 93, _ => fe_125 f
  | 94, _ => fe_126 f
  | 95, _ => fe_127 f
  | 96, _ => fe_128 f
  | 97, _ => fe_129 f
  | 98, _ => fe_130 f
  | k + 99, h => absurd h (by omega)
end BLK
