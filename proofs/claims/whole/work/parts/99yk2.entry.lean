/-! what stands at the law's entry -/
section ENTRY
theorem va_En_congr {E d : String} {nm : List String} {F : List (String × String × String × List Int32)} {ad ad' : Nat → Nat} {A : Nat → Prop} {U : State} {H : Heap} (h : va_En E d nm F ad A U H) (e : ∀ i, i < nm.length → ad' i = ad i) : va_En E d nm F ad' A U H :=
  ⟨fun i hi => by rw [e i hi]; exact h.1 i hi, fun i j hi hj q => h.2 i j hi hj (by rw [← e i hi, ← e j hj]; exact q)⟩
theorem va_T_congr {ty : FieldType} {a N : Nat} {f g : Nat → Value} {A : Nat → Prop} {U : State} {H : Heap} (h : va_T ty a N f A U H) (e : ∀ j, j < N → f j = g j) : va_T ty a N g A U H := by
  obtain ⟨cell, h1, h2, h3, h4, h5, h6, h7⟩ := h
  exact ⟨cell, h1, h2, h3, h4, h5, fun j hj => by rw [← e j hj]; exact h6 j hj, h7⟩
def saF (b tA tC tK tV : Nat) (ad : Nat → Nat) (k : Nat) : Nat := if k = 0 then b else if k < 20 then ad (k - 1) else if k = 20 then tA else if k = 21 then tC else if k = 22 then tK else tV
theorem saF_w {b tA tC tK tV : Nat} {ad : Nat → Nat} {i : Nat} (h : i < 19) : saF b tA tC tK tV ad (1 + i) = ad i := by
  unfold saF
  rw [if_neg (by omega), if_pos (by omega), Nat.add_sub_cancel_left]
theorem SW_of {args : Array Value} {s : State} {b L : Nat} {x32 : Nat → Int32} (hts : ∀ w ∈ lw_tbl, w.before args s = true) (hnw : ∀ w ∈ nwF, w.before args s = true) (hX : va_X b L x32 s s.heap) (hbl : b < s.heap.size) : ∃ sa : Nat → Nat, sa 0 = b ∧ SW sa s.heap.size L (fun j => (x32 j).toInt) s s.heap := by
  have hA : ∀ a : Nat, a < s.heap.size → ¬ (fun q : Nat => s.heap.size ≤ q) a := fun a h => Nat.not_le.mpr h
  have hwl : wNm.length = 19 := rfl
  obtain ⟨ad, hE, hev⟩ := va_Enof2 (E := "MaypoleRegister$Word") (d := "LMaypoleRegister$Word;") (nm := wNm) (F := wFl) (A := fun q : Nat => s.heap.size ≤ q) (args := args) (s := s)
    (fun i hi => hts _ (lt1 i (List.mem_range.mpr hi))) (hts _ (l_in 1 14 rfl)) (fun i hi => hnw _ (nw1 i (List.mem_range.mpr hi))) (fun q hq i hi => hnw _ (nw2 q hq i (List.mem_range.mpr hi)))
    (fun i j hi hj hij => by
      rcases Nat.lt_or_gt_of_ne hij with h | h
      · exact Or.inl (hnw _ (nw3 i hi j (List.mem_range.mpr hj) h))
      · exact Or.inr (hnw _ (nw3 j hj i (List.mem_range.mpr hi) h))) hA
  obtain ⟨tA, hAe, hAT⟩ := va_Tof (args := args) (s := s) (tm := wAll) (ty := .object "MaypoleRegister$Word") (N := 19) (f := fun j => .ref (ad j)) (A := fun q : Nat => s.heap.size ≤ q) (by decide) (hnw _ nw4.1) (va_eqt (hnw _ nw4.2.1)) (fun j hj => va_eqv (hnw _ (nw4.2.2 j (List.mem_range.mpr hj))) (hev j hj)) hA
  obtain ⟨tC, hCe, hCT⟩ := va_Tof (args := args) (s := s) (tm := wClo) (ty := .int) (N := 16) (f := fun j => .int (Int32.ofInt (sClo.getD j 0))) (A := fun q : Nat => s.heap.size ≤ q) (by decide) (hnw _ nw5.1) (va_eqt (hnw _ nw5.2.1)) (fun j hj => va_eqt (hnw _ (nw5.2.2 j (List.mem_range.mpr hj)))) hA
  obtain ⟨adK, adV, hS1, hSe⟩ := vk_Sof (args := args) (s := s) (N := 1) (tm := fun _ => wStr) (len := [96]) (byt := [sTxt.map Int32.ofInt]) (A := fun q : Nat => s.heap.size ≤ q)
    (fun i hi => by have e : i = 0 := (by omega); subst e; decide) (fun i hi => hnw _ nw6.1) (fun i hi => hnw _ nw6.2.1) (fun i hi => hnw _ nw6.2.2.1) (fun i hi => by
      obtain rfl : i = 0 := by omega
      exact hnw _ nw6.2.2.2) (fun i hi j hj => by
      obtain rfl : i = 0 := by omega
      exact hnw _ (nw8 j hj)) (fun i j hi hj hij => by omega) hA
  have hK0 := hS1.1 0 (by decide)
  have szO : ∀ {E : String} {a : Nat}, va_O E a (fun q : Nat => s.heap.size ≤ q) s s.heap → a < s.heap.size := fun h => by
    obtain ⟨cell, h1, -⟩ := h
    exact (Array.getElem?_eq_some_iff.mp h1).1
  have szT : ∀ {ty : FieldType} {a N : Nat} {f : Nat → Value}, va_T ty a N f (fun q : Nat => s.heap.size ≤ q) s s.heap → a < s.heap.size := fun h => by
    obtain ⟨cell, h1, -⟩ := h
    exact (Array.getElem?_eq_some_iff.mp h1).1
  refine ⟨saF b tA tC (adK 0) (adV 0) ad, rfl, ⟨fun q hq hk => ?_, va_Nw.of rfl (hts _ (l_in 3 115 rfl))⟩, ⟨fun k hk => ?_, fun j k h1 h2 h3 h4 e => ?_⟩, Nat.le_refl _, ?_, ?_, ?_, ?_, ?_, ?_, ?_, ?_, ?_, ?_⟩
  · have h := (mlt_all q hq).2
    rw [if_neg hk] at h
    exact va_Nw.of rfl (hts _ h)
  · unfold saF
    split
    · exact hbl
    · split
      · exact szO (hE.1 (k - 1) (by rw [hwl]; omega)).2.1
      · split
        · exact szT hAT
        · split
          · exact szT hCT
          · split
            · exact szO hK0.1
            · exact szT hK0.2.2.2
  · obtain ⟨j, rfl⟩ : ∃ x, j = 1 + x := ⟨j - 1, by omega⟩
    obtain ⟨k, rfl⟩ : ∃ x, k = 1 + x := ⟨k - 1, by omega⟩
    rw [saF_w (by omega), saF_w (by omega)] at e
    rw [hE.2 j k (by rw [hwl]; omega) (by rw [hwl]; omega) e]
  · have e : (fun j => Int32.ofInt ((fun j => (x32 j).toInt) j)) = x32 := funext fun j => Int32.ofInt_toInt (x32 j)
    show va_X b L (fun j => Int32.ofInt ((fun j => (x32 j).toInt) j)) s s.heap
    rw [e]
    exact hX
  · exact va_En_congr hE (fun i hi => saF_w hi)
  · exact va_Zref (hts _ (l_in 3 3 rfl)) (hts _ (l_in 1 14 rfl)) hAe hA
  · exact va_T_congr hAT (fun j hj => congrArg Value.ref (saF_w hj).symm)
  · exact va_Zref (hts _ (l_in 3 116 rfl)) (hts _ (l_in 1 1 rfl)) hCe hA
  · exact hCT
  · exact vk_R.of (hts _ (l_in 7 86 rfl)) (hSe 0 (by decide))
  · exact ⟨fun i hi => by
      obtain rfl : i = 0 := by omega
      exact hK0, fun i j hi hj _ => by omega⟩
  · exact va_Zof (hts _ (l_in 7 96 rfl)) (hts _ (l_in 1 16 rfl)) (va_eqi (hnw _ nw7.1)) hA
  · exact va_Zqof (hts _ (l_in 7 112 rfl)) (hts _ (l_in 1 18 rfl)) (hnw _ nw7.2.1) hA
theorem XS_of {args : Array Value} {s : State} (hts : ∀ w ∈ lw_tbl, w.before args s = true) (hnw : ∀ w ∈ nwF, w.before args s = true) : XS s.heap.size s := by
  have hA : ∀ a : Nat, a < s.heap.size → ¬ (fun q : Nat => s.heap.size ≤ q) a := fun a h => Nat.not_le.mpr h
  exact ⟨vx_Zqof (hts _ (l_in 6 47 rfl)) (hts _ (l_in 1 20 rfl)) (hnw _ nw7.2.2.1) hA, vx_Zqof (hts _ (l_in 6 49 rfl)) (hts _ (l_in 1 20 rfl)) (hnw _ nw7.2.2.2.1) hA, va_Nc.of (hnw _ nw7.2.2.2.2), fun w hw => va_Nw.of (xbT w hw) (hts w (xbI w hw))⟩
theorem inst12 : ∀ c, c < 12 → Gd (Cond.instantiable (clR c) (clN c)) := fun c hc => match c, hc with
  | 0, _ => g_in 2 108 rfl rfl
  | 1, _ => g_in 1 186 rfl rfl
  | 2, _ => g_in 2 41 rfl rfl
  | 3, _ => g_in 1 192 rfl rfl
  | 4, _ => g_in 2 67 rfl rfl
  | 5, _ => g_in 1 114 rfl rfl
  | 6, _ => g_in 2 100 rfl rfl
  | 7, _ => g_in 1 80 rfl rfl
  | 8, _ => g_in 1 35 rfl rfl
  | 9, _ => g_in 2 22 rfl rfl
  | 10, _ => g_in 1 27 rfl rfl
  | 11, _ => g_in 6 107 rfl rfl
  | c + 12, h => absurd h (by omega)
theorem arrOf {args : Array Value} {s : State} {ty : FieldType} (h : (Cond.arrayClass ty).before args s = true) : ∃ cA : ClassId, ArrOfT s cA ty ∧ s.vm.findClass ("[" ++ ty.toString) = some cA := by
  obtain ⟨cA, kA, comp, h1, h2, h3⟩ := Cond.arrayClass_spec h
  exact ⟨cA, fun n z => ⟨fun k h => (by cases h), kA, h2, comp, h3⟩, h1⟩
theorem K_of {args : Array Value} {s : State} (hts : ∀ w ∈ lw_tbl, w.before args s = true) : ∃ (D : va_G) (ca : Nat → ClassId), va_K D myCl (ktys ca) s := by
  have htg : ∀ w ∈ gTbl, w.before args s = true := fun w hw => hts w (List.mem_filter.mp hw).1
  have h0 : ∀ c : Nat, ∃ q : ClassId × (Nat → Nat), u_Kn s (clR (c % 12)) (clT (c % 12)) (clN (c % 12)) q.1 q.2 := by
    intro c
    have hc : c % 12 < 12 := Nat.mod_lt _ (by decide)
    obtain ⟨cC, iS, h⟩ := u_known htg (clIn (c % 12) hc) (htg _ (inst12 (c % 12) hc))
    exact ⟨(cC, iS), h⟩
  obtain ⟨f, hf⟩ := Classical.axiomOfChoice h0
  obtain ⟨a0, b0, c0⟩ := arrOf (htg _ aposOk.1)
  obtain ⟨a1, b1, c1⟩ := arrOf (htg _ aposOk.2.1)
  obtain ⟨a2, b2, c2⟩ := arrOf (htg _ aposOk.2.2.1)
  obtain ⟨a3, b3, c3⟩ := arrOf (htg _ aposOk.2.2.2)
  refine ⟨(fun c => (f c).1, fun c => (f c).2), fun k => if k = 0 then a0 else if k = 1 then a1 else if k = 2 then a2 else a3, fun c q h => ?_, fun k q h => ?_⟩
  · have hc : c < 12 := (List.getElem?_eq_some_iff.mp h).1
    cases (clFacts c hc).1.symm.trans h
    have h2 := hf c
    rw [Nat.mod_eq_of_lt hc] at h2
    exact h2
  · match k, h with
    | 0, h =>
      obtain rfl := Option.some.inj (show some (a0, FieldType.int) = some q from h)
      exact ⟨b0, c0⟩
    | 1, h =>
      obtain rfl := Option.some.inj (show some (a1, FieldType.byte) = some q from h)
      exact ⟨b1, c1⟩
    | 2, h =>
      obtain rfl := Option.some.inj (show some (a2, FieldType.boolean) = some q from h)
      exact ⟨b2, c2⟩
    | 3, h =>
      obtain rfl := Option.some.inj (show some (a3, FieldType.long) = some q from h)
      exact ⟨b3, c3⟩
    | k + 4, h => simp [ktys] at h
end ENTRY
