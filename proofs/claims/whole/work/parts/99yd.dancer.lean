/-! THE DANCER: the class's where it throws, the law's -/
section DNC
variable {l : Launch} {sa : Nat → Nat} {base L : Nat} {xs : Nat → Int} {ca : Nat → ClassId} {D : va_G}
def mrD : mrec := (⟨"MaypoleRegister", "dancer", "(II)I"⟩, 10, prog_1_method_6_code, 3, (some .int), [0, 16, 56, 71, 99, 101, 102, 115, 128, 144, 156], cdB)
set_option maxRecDepth 100000 in
theorem mkD : mkF mrD (0, 3) := ⟨g_in 6 19 rfl rfl, g_in 1 1 rfl rfl, g_in 6 17 rfl rfl, g_in 6 18 rfl rfl, rfl, by decide +kernel, ⟨by decide +kernel, by decide +kernel⟩, by decide +kernel, fun h => absurd h (by decide), by decide⟩
theorem lkD : lkM mrD = true := by decide +kernel
def XB : List Cond := [.declares (Bundle.init0 "java/lang/RuntimeException"), .declares (Bundle.init0 "java/lang/Exception"), .declares (Bundle.init0 Bundle.tN), .castable "java/lang/IndexOutOfBoundsException" "java/lang/IndexOutOfBoundsException", .castable "java/util/NoSuchElementException" "java/util/NoSuchElementException"]
theorem xbT : ∀ w ∈ XB, w.onTables = true := by decide +kernel
theorem xbI : ∀ w ∈ XB, w ∈ lw_tbl := by decide +kernel
def XN (U : State) : Prop := ∀ w ∈ XB, va_Nw w U
theorem XN.warm {s U : State} (hW : s.WarmedH U.vm) (h : XN s) : XN U := by
  intro w hw
  have h2 := h w hw
  simp only [XB, List.mem_cons, List.not_mem_nil, or_false] at hw
  rcases hw with rfl | rfl | rfl | rfl | rfl
  · exact va_Nw.warmD hW h2
  · exact va_Nw.warmD hW h2
  · exact va_Nw.warmD hW h2
  · exact va_Nw.warmC hW h2
  · exact va_Nw.warmC hW h2
theorem XN.same {s U : State} (hv : s.vm = U.vm) (h : XN s) : XN U := fun w hw => va_Nw.same (xbT w hw) hv (h w hw)
theorem XN.use {args : Array Value} {s : State} (h : XN s) : ∀ w ∈ XB, w.before args s = true := fun w hw => va_Nw.use (xbT w hw) (h w hw)
theorem xw0 : ∀ w ∈ vx_at0 "MaypoleRegister" 146 "java/lang/IndexOutOfBoundsException" ["java/lang/RuntimeException", "java/lang/Exception"], w ∈ lw_tbl := by decide +kernel
theorem xh0 : ∀ w ∈ (vx_at0 "MaypoleRegister" 146 "java/lang/IndexOutOfBoundsException" ["java/lang/RuntimeException", "java/lang/Exception"]).filter (fun w => !goodWord w), w ∈ XB := by decide +kernel
theorem xo0 : ∀ w ∈ Cond.classLink "MaypoleRegister" 144 "java/lang/IndexOutOfBoundsException" :: Cond.initialized "java/lang/IndexOutOfBoundsException" :: vx_at0 "MaypoleRegister" 146 "java/lang/IndexOutOfBoundsException" ["java/lang/RuntimeException", "java/lang/Exception"], vx_ot w = true := by decide +kernel
theorem xw1 : ∀ w ∈ vx_at0 "MaypoleRegister" 176 "java/util/NoSuchElementException" ["java/lang/RuntimeException", "java/lang/Exception"], w ∈ lw_tbl := by decide +kernel
theorem xh1 : ∀ w ∈ (vx_at0 "MaypoleRegister" 176 "java/util/NoSuchElementException" ["java/lang/RuntimeException", "java/lang/Exception"]).filter (fun w => !goodWord w), w ∈ XB := by decide +kernel
theorem xo1 : ∀ w ∈ Cond.classLink "MaypoleRegister" 174 "java/util/NoSuchElementException" :: Cond.initialized "java/util/NoSuchElementException" :: vx_at0 "MaypoleRegister" 176 "java/util/NoSuchElementException" ["java/lang/RuntimeException", "java/lang/Exception"], vx_ot w = true := by decide +kernel
theorem dD_0 : decode mrD.2.2.1 0 = .ok (.aload_n 0, 1) := by decide +kernel
theorem dD_1 : decode mrD.2.2.1 1 = .ok (.iload_n 1, 1) := by decide +kernel
theorem dD_2 : decode mrD.2.2.1 2 = .ok (.invokevirtual 141, 3) := by decide +kernel
theorem dD_5 : decode mrD.2.2.1 5 = .ok (.ifCond .ne 11, 3) := by decide +kernel
theorem dD_8 : decode mrD.2.2.1 8 = .ok (.new 144, 3) := by decide +kernel
theorem dD_11 : decode mrD.2.2.1 11 = .ok (.dup, 1) := by decide +kernel
theorem dD_12 : decode mrD.2.2.1 12 = .ok (.invokespecial 146, 3) := by decide +kernel
theorem dD_15 : decode mrD.2.2.1 15 = .ok (.athrow, 1) := by decide +kernel
theorem dD_16 : decode mrD.2.2.1 16 = .ok (.iload_n 2, 1) := by decide +kernel
theorem dD_17 : decode mrD.2.2.1 17 = .ok (.tableswitch 139 0 5 #[39, 54, 85, 98, 111, 127], 39) := by decide +kernel
theorem dD_156 : decode mrD.2.2.1 156 = .ok (.new 174, 3) := by decide +kernel
theorem dD_159 : decode mrD.2.2.1 159 = .ok (.dup, 1) := by decide +kernel
theorem dD_160 : decode mrD.2.2.1 160 = .ok (.invokespecial 176, 3) := by decide +kernel
theorem dD_163 : decode mrD.2.2.1 163 = .ok (.athrow, 1) := by decide +kernel
def PX (sa : Nat → Nat) (base L : Nat) (xs : Nat → Int) (ca : Nat → ClassId) (D : va_G) (h : pheap) : State → Prop := fun U => PB sa base L xs ca D h h U ∧ vx_Zq Bundle.tN "UNASSIGNED_STACK" Bundle.steD (fun q : Nat => base ≤ q) U U.heap ∧ vx_Zq Bundle.tN "SUPPRESSED_SENTINEL" Bundle.listD (fun q : Nat => base ≤ q) U U.heap ∧ va_Nc "java/util/NoSuchElementException" "java/lang/IndexOutOfBoundsException" U ∧ XN U
theorem PXblind {h : pheap} (as : List Value) : FrameBlind (va_Pc as (PX sa base L xs ca D h)) := by
  intro a U g mk hP
  obtain ⟨h1, h2, h3, h4, h5, h6⟩ := hP
  exact ⟨h1, (PBblind as a U g mk ⟨h1, h2⟩).2, vx_Zq.moved (u := U) (U := U.calling g mk a) (Vm.Alike.refl U.vm) h3, vx_Zq.moved (u := U) (U := U.calling g mk a) (Vm.Alike.refl U.vm) h4, va_Nc.moved (u := U) (U := U.calling g mk a) (Vm.Alike.refl U.vm) h5, XN.same (s := U) (U := U.calling g mk a) rfl h6⟩
/-- what a walk keeps of the statics and the classes that a throw asks for -/
def XS (base : Nat) (s : State) : Prop := vx_Zq Bundle.tN "UNASSIGNED_STACK" Bundle.steD (fun q : Nat => base ≤ q) s s.heap ∧ vx_Zq Bundle.tN "SUPPRESSED_SENTINEL" Bundle.listD (fun q : Nat => base ≤ q) s s.heap ∧ va_Nc "java/util/NoSuchElementException" "java/lang/IndexOutOfBoundsException" s ∧ XN s
theorem PXof {s : State} {h : pheap} {H : Heap} {locs : List Loc} (hHR : HR sa base ca D h H) (hK : va_K D myCl (ktys ca) s) (hSW : SW sa base L xs s s.heap) (hS : va_S (fun q : Nat => base ≤ q) s.heap H locs) (hX : XS base s) : ∀ U : State, U.heap = H → s.WarmedH U.vm → PX sa base L xs ca D h U := by
  intro U hU hW
  have hB := PBof (h := h) (h1 := h) (Or.inr rfl) hHR hK hSW hS U hU hW
  subst hU
  exact ⟨hB, vx_Zq.moved hW.alike (hX.1.kept hS.2.1), vx_Zq.moved hW.alike (hX.2.1.kept hS.2.1), va_Nc.moved hW.alike hX.2.2.1, hX.2.2.2.warm hW⟩
theorem WP_s0 {p : Program} {e : Env} {R : Room} {s : State} {m : MethodId} {args : Array Value} {below : List Frame} {meth : Method} {c : Code} {Q : State → Prop} {own mx : Nat} {cc : ByteArray} {pc len op cells slots : Nat} {sts : List Nat} {ins : Instr} {as : List Nat} {z : Int} {ls ls' : plocs} {st st' : List pv} {h : pheap} (C : CX p s m args c sa base L xs ca D own mx cc) (hsc : h.2.2 0 = .inl (0, L, xs)) (hd : decode cc pc = .ok (ins, len)) (lk : (if 80 ≤ op then lkS own ins len op as else lk1 own false pc sts ins len op as z) = true) (ho : op < 100) (hs : s1 op as z ls st h = some (ls', st', h))
    (hcl : cells ≤ R.cells) (hsl : slots ≤ R.slots)
    (k : WP p l e R s m args below meth c Q sa base ca D mx (pc + len) ls' st' h cells slots) : WP p l e R s m args below meth c Q sa base ca D mx pc ls st h cells slots :=
  WP_s1 C hsc hd lk ho hs (Or.inr rfl) (by rw [Nat.sub_self]; exact hcl) (by rw [Nat.sub_self]; exact hsl) (by rw [Nat.sub_self, Nat.sub_self]; exact k)
theorem dnX0 (hl : l.stackTraces = false) {h : pheap} {x y b : Int} {d : Nat} (hd : 8 ≤ d) (hsc : h.2.2 0 = .inl (0, L, xs)) (hw : wpM PP d 44 [vR 32, vI x] h (fun v h1 => v = some (vI b) ∧ h1 = h)) (hb0 : w32 b = 0) :
    vx_Met l mrD.1 (Cond.code mrD.1 mrD.2.2.1 3 (some .int) :: gTbl) (rmD (d + 4) 1 6) (va_Pc ([vR 32, vI x, vI y].map (tv sa base)) (PX sa base L xs ca D h)) (va_Qi (S := Nat) (fun _ _ => False) (fun _ _ => True) (fun q : Nat => base ≤ q)) (vx_X (S := Nat) (fun _ => True) (fun E _ t => E = "java/lang/IndexOutOfBoundsException" ∧ HR sa base ca D h t.heap) (fun q : Nat => base ≤ q)) 1 6 (fun q : Nat => base ≤ q) := by
  refine vx_ofW (cc := mrD.2.2.1) (maxL := 3) (ret := some .int) (by decide) rfl ?_
  intro p e s m args below meth c s₁ B hml htab hv
  obtain ⟨rfl, ⟨hsz, hHR, hKs, hSW⟩, hU, hN, hNc, hXN⟩ := hv
  have hx := B.exec
  have hb := B.bytes
  have hlocks := B.notSynchronized
  have hts : ∀ w ∈ gTbl, w.before ([vR 32, vI x, vI y].map (tv sa base)).toArray s = true := fun w hw => atoms_spec (ws := Cond.code mrD.1 mrD.2.2.1 3 (some .int) :: gTbl) B.pre w (List.mem_cons_of_mem _ hw)
  have hown : s.vm.findClass "MaypoleRegister" = some m.cls := findClass_of_methodNamed B.named
  have C : CX p s m ([vR 32, vI x, vI y].map (tv sa base)).toArray c sa base L xs ca D 10 3 mrD.2.2.1 := ⟨hx, hb, hml, hown, hts, hKs, hSW⟩
  rw [lg_entry_eq]
  refine (show WP p l e (rmD (d + 4) 1 6) s m ([vR 32, vI x, vI y].map (tv sa base)).toArray below meth c _ sa base ca D 3 0 [some (vR 32), some (vI x), some (vI y)] [] h 0 0 from ?_) s.heap [] _ (LR.entry sa base (as := [vR 32, vI x, vI y]) (mx := 3) (Nat.le_of_ble_eq_true rfl)) hHR va_S.rf
  refine WP_s0 C hsc (op := 5) (as := [0]) (z := 0) (sts := mrD.2.2.2.2.2.1) dD_0 (by decide +kernel) (by decide) rfl (Nat.zero_le _) (Nat.zero_le _) ?_
  refine WP_s0 C hsc (op := 3) (as := [1]) (z := 0) (sts := mrD.2.2.2.2.2.1) dD_1 (by decide +kernel) (by decide) rfl (Nat.zero_le _) (Nat.zero_le _) ?_
  refine WP_call C (m0 := 44) (kk := 2) (as := []) (z := 0) (d := d) (sts := mrD.2.2.2.2.2.1) hsc dD_2 (by decide +kernel) (Nat.le_of_ble_eq_true rfl) (Nat.le_of_ble_eq_true rfl) hw (fun v h1 q => ?_) (by show d + 1 ≤ d + 4; omega) (by show 40 * (d + 1) ≤ 40 * (d + 4); omega) (fun v h1 q => ?_)
  · obtain ⟨-, e2⟩ := q
    rw [e2, Nat.sub_self, Nat.sub_self]
    exact ⟨Or.inr rfl, Nat.zero_le _, Nat.zero_le _⟩
  obtain ⟨e1, e2⟩ := q
  subst e1
  rw [e2, Nat.sub_self, Nat.sub_self]
  refine WP_jmp C (op := 101) (as := [1, 1]) (z := 0) (ob := none) (sts := mrD.2.2.2.2.2.1) dD_5 (by decide +kernel) (by decide) (by unfold jmp; simp [show ¬ icnd 1 b 0 = true from fun q => (icw_1 b 0).mp q (hb0.trans (by decide))]; rfl) (fun _ _ hb _ => by cases hb) (fun _ => ?_)
  intro H locs lsK hlr hHR1 hS
  exact vx_throw0 (own := "MaypoleRegister") (cls := "java/lang/IndexOutOfBoundsException") (names := ["java/lang/RuntimeException", "java/lang/Exception"]) (ik := 144) (ic := 146) (mc := 1) (ms := 6) (A := fun q : Nat => base ≤ q) hx hb hl hown (by decide +kernel) (by decide +kernel) (hts _ (g_in 6 20 rfl rfl)) (hts _ (g_in 1 23 rfl rfl)) (vx_hat (fun w hw => hts w (List.mem_filter.mpr ⟨xw0 w (List.mem_filter.mp hw).1, (List.mem_filter.mp hw).2⟩)) xh0 hXN.use) xo0 hU hN hS (hlr.2.1.trans hml.symm) dD_8 dD_11 dD_12 dD_15 (fun x hx => (htab x hx).elim) (by show 2 + 3 < d + 4; omega) (by show 0 + (13 * (2 + 1) + 42) ≤ 40 * (d + 4); omega) (Nat.le_of_ble_eq_true rfl) (Nat.le_of_ble_eq_true rfl) hlocks (fun t9 _ hz9 hq9 => ⟨0, trivial, ⟨rfl, hHR1.1.kept (fun k x hk => hq9 _ (hHR1.1 k x hk).lt), hHR1.2⟩, Nat.le_trans hS.1 hz9, fun q h1 h2 => (hq9 q (Nat.lt_of_lt_of_le h1 hS.1)).trans (hS.2.1 q h1 h2)⟩) hS.2.2 (Nat.le_of_ble_eq_true rfl) (Nat.le_of_ble_eq_true rfl)
theorem dnX1 (hl : l.stackTraces = false) {h : pheap} {x y b : Int} {d : Nat} (hd : 8 ≤ d) (hsc : h.2.2 0 = .inl (0, L, xs)) (hw : wpM PP d 44 [vR 32, vI x] h (fun v h1 => v = some (vI b) ∧ h1 = h)) (hb0 : w32 b ≠ 0) (hy : y < 0 ∨ 5 < y) (hyR : iR y) :
    vx_Met l mrD.1 (Cond.code mrD.1 mrD.2.2.1 3 (some .int) :: gTbl) (rmD (d + 4) 1 6) (va_Pc ([vR 32, vI x, vI y].map (tv sa base)) (PX sa base L xs ca D h)) (va_Qi (S := Nat) (fun _ _ => False) (fun _ _ => True) (fun q : Nat => base ≤ q)) (vx_X (S := Nat) (fun _ => True) (fun E _ t => E = "java/util/NoSuchElementException" ∧ HR sa base ca D h t.heap) (fun q : Nat => base ≤ q)) 1 6 (fun q : Nat => base ≤ q) := by
  refine vx_ofW (cc := mrD.2.2.1) (maxL := 3) (ret := some .int) (by decide) rfl ?_
  intro p e s m args below meth c s₁ B hml htab hv
  obtain ⟨rfl, ⟨hsz, hHR, hKs, hSW⟩, hU, hN, hNc, hXN⟩ := hv
  have hx := B.exec
  have hb := B.bytes
  have hlocks := B.notSynchronized
  have hts : ∀ w ∈ gTbl, w.before ([vR 32, vI x, vI y].map (tv sa base)).toArray s = true := fun w hw => atoms_spec (ws := Cond.code mrD.1 mrD.2.2.1 3 (some .int) :: gTbl) B.pre w (List.mem_cons_of_mem _ hw)
  have hown : s.vm.findClass "MaypoleRegister" = some m.cls := findClass_of_methodNamed B.named
  have C : CX p s m ([vR 32, vI x, vI y].map (tv sa base)).toArray c sa base L xs ca D 10 3 mrD.2.2.1 := ⟨hx, hb, hml, hown, hts, hKs, hSW⟩
  rw [lg_entry_eq]
  refine (show WP p l e (rmD (d + 4) 1 6) s m ([vR 32, vI x, vI y].map (tv sa base)).toArray below meth c _ sa base ca D 3 0 [some (vR 32), some (vI x), some (vI y)] [] h 0 0 from ?_) s.heap [] _ (LR.entry sa base (as := [vR 32, vI x, vI y]) (mx := 3) (Nat.le_of_ble_eq_true rfl)) hHR va_S.rf
  refine WP_s0 C hsc (op := 5) (as := [0]) (z := 0) (sts := mrD.2.2.2.2.2.1) dD_0 (by decide +kernel) (by decide) rfl (Nat.zero_le _) (Nat.zero_le _) ?_
  refine WP_s0 C hsc (op := 3) (as := [1]) (z := 0) (sts := mrD.2.2.2.2.2.1) dD_1 (by decide +kernel) (by decide) rfl (Nat.zero_le _) (Nat.zero_le _) ?_
  refine WP_call C (m0 := 44) (kk := 2) (as := []) (z := 0) (d := d) (sts := mrD.2.2.2.2.2.1) hsc dD_2 (by decide +kernel) (Nat.le_of_ble_eq_true rfl) (Nat.le_of_ble_eq_true rfl) hw (fun v h1 q => ?_) (by show d + 1 ≤ d + 4; omega) (by show 40 * (d + 1) ≤ 40 * (d + 4); omega) (fun v h1 q => ?_)
  · obtain ⟨-, e2⟩ := q
    rw [e2, Nat.sub_self, Nat.sub_self]
    exact ⟨Or.inr rfl, Nat.zero_le _, Nat.zero_le _⟩
  obtain ⟨e1, e2⟩ := q
  subst e1
  rw [e2, Nat.sub_self, Nat.sub_self]
  refine WP_jmp C (op := 101) (as := [1, 1]) (z := 0) (ob := some 1) (sts := mrD.2.2.2.2.2.1) dD_5 (by decide +kernel) (by decide) (by unfold jmp; simp [show icnd 1 b 0 = true from (icw_1 b 0).mpr (fun q => hb0 (q.trans (by decide)))]; rfl) (fun b9 t9 hb9 ht9 => ?_) (fun hn => by cases hn)
  cases hb9
  obtain rfl : 16 = t9 := Option.some.inj (show some 16 = some t9 from ht9)
  refine WP_s0 C hsc (op := 3) (as := [2]) (z := 0) (sts := mrD.2.2.2.2.2.1) dD_16 (by decide +kernel) (by decide) rfl (Nat.zero_le _) (Nat.zero_le _) ?_
  have hj : jmp 105 [10, 2, 3, 6, 7, 8, 9] 0 [vI y] = some (some 10, []) := by
    have h1 : jmp 105 [10, 2, 3, 6, 7, 8, 9] 0 [vI y] = some (some (if w32 y < 0 then 10 else ([2, 3, 6, 7, 8, 9] : List Nat).getD (w32 y - 0).toNat 10), []) := rfl
    rw [h1, w32_R hyR]
    by_cases c9 : y < 0
    · rw [if_pos c9]
    · rw [if_neg c9, List.getD_eq_getElem?_getD, List.getElem?_eq_none (by show 6 ≤ (y - 0).toNat; omega)]
      rfl
  refine WP_jmp C (op := 105) (as := [10, 2, 3, 6, 7, 8, 9]) (z := 0) (ob := some 10) (sts := mrD.2.2.2.2.2.1) dD_17 (by decide +kernel) (by decide) hj (fun b9 t9 hb9 ht9 => ?_) (fun hn => by cases hn)
  cases hb9
  obtain rfl : 156 = t9 := Option.some.inj (show some 156 = some t9 from ht9)
  intro H locs lsK hlr hHR1 hS
  exact vx_throw0 (own := "MaypoleRegister") (cls := "java/util/NoSuchElementException") (names := ["java/lang/RuntimeException", "java/lang/Exception"]) (ik := 174) (ic := 176) (mc := 1) (ms := 6) (A := fun q : Nat => base ≤ q) hx hb hl hown (by decide +kernel) (by decide +kernel) (hts _ (g_in 6 91 rfl rfl)) (hts _ (g_in 1 25 rfl rfl)) (vx_hat (fun w hw => hts w (List.mem_filter.mpr ⟨xw1 w (List.mem_filter.mp hw).1, (List.mem_filter.mp hw).2⟩)) xh1 hXN.use) xo1 hU hN hS (hlr.2.1.trans hml.symm) dD_156 dD_159 dD_160 dD_163 (fun x hx => (htab x hx).elim) (by show 2 + 3 < d + 4; omega) (by show 0 + (13 * (2 + 1) + 42) ≤ 40 * (d + 4); omega) (Nat.le_of_ble_eq_true rfl) (Nat.le_of_ble_eq_true rfl) hlocks (fun t9 _ hz9 hq9 => ⟨0, trivial, ⟨rfl, hHR1.1.kept (fun k x hk => hq9 _ (hHR1.1 k x hk).lt), hHR1.2⟩, Nat.le_trans hS.1 hz9, fun q h1 h2 => (hq9 q (Nat.lt_of_lt_of_le h1 hS.1)).trans (hS.2.1 q h1 h2)⟩) hS.2.2 (Nat.le_of_ble_eq_true rfl) (Nat.le_of_ble_eq_true rfl)
end DNC
