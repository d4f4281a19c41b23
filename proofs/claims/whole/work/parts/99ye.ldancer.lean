/-! THE LAW's DANCER: it throws nothing -/
section LDN
variable {l : Launch} {sa : Nat → Nat} {base L : Nat} {xs : Nat → Int} {ca : Nat → ClassId} {D : va_G}
def yLD : MethodName := ⟨"MaypoleRegisterLaw", "dancer", "(LMaypoleRegister;II[J)I"⟩
def hhL : List (Nat × Nat × Nat × Nat) := [(0, 10, 13, 13), (0, 10, 17, 15)]
theorem ldF : Gd (Cond.codeWith yLD method_3_code 5 (some .int) hhL) ∧ Gd (Cond.static yLD) ∧ Gd (Cond.initialized "MaypoleRegisterLaw") ∧ Gd (Cond.methodLink "MaypoleRegisterLaw" 39 yLD) ∧ Gd (Cond.methodLink "MaypoleRegisterLaw" 7 mrD.1) := ⟨g_in 6 13 rfl rfl, g_in 6 12 rfl rfl, g_in 1 0 rfl rfl, g_in 6 11 rfl rfl, g_in 6 16 rfl rfl⟩
theorem ldC : Gd (Cond.classLink "MaypoleRegisterLaw" 13 "java/lang/IndexOutOfBoundsException") ∧ Gd (Cond.classLink "MaypoleRegisterLaw" 15 "java/util/NoSuchElementException") := ⟨g_in 6 14 rfl rfl, g_in 6 15 rfl rfl⟩
theorem dL_0 : decode method_3_code 0 = .ok (.aload_n 3, 1) := by decide +kernel
theorem dL_1 : decode method_3_code 1 = .ok (.iconst 0, 1) := by decide +kernel
theorem dL_2 : decode method_3_code 2 = .ok (.aload_n 0, 1) := by decide +kernel
theorem dL_3 : decode method_3_code 3 = .ok (.iload_n 1, 1) := by decide +kernel
theorem dL_4 : decode method_3_code 4 = .ok (.iload_n 2, 1) := by decide +kernel
theorem dL_5 : decode method_3_code 5 = .ok (.invokevirtual 7, 3) := by decide +kernel
theorem dL_8 : decode method_3_code 8 = .ok (.i2l, 1) := by decide +kernel
theorem dL_9 : decode method_3_code 9 = .ok (.lastore, 1) := by decide +kernel
theorem dL_10 : decode method_3_code 10 = .ok (.goto 11, 3) := by decide +kernel
theorem dL_13 : decode method_3_code 13 = .ok (.astore 4, 2) := by decide +kernel
theorem dL_15 : decode method_3_code 15 = .ok (.iconst 1, 1) := by decide +kernel
theorem dL_16 : decode method_3_code 16 = .ok (.ireturn, 1) := by decide +kernel
theorem dL_17 : decode method_3_code 17 = .ok (.astore 4, 2) := by decide +kernel
theorem dL_19 : decode method_3_code 19 = .ok (.iconst 2, 1) := by decide +kernel
theorem dL_20 : decode method_3_code 20 = .ok (.ireturn, 1) := by decide +kernel
theorem dL_21 : decode method_3_code 21 = .ok (.iconst 0, 1) := by decide +kernel
theorem dL_22 : decode method_3_code 22 = .ok (.ireturn, 1) := by decide +kernel
theorem gG1 {w : Cond} (h : Gd w) : w ∈ gTbl ∧ ((w.onTables && w.keeps) = true ∨ ∃ ty, w = .arrayClass ty) := ⟨h, good_of_word (List.mem_filter.mp h).2⟩
theorem ldG : GoodIn gTbl (va_wsS "MaypoleRegisterLaw" 39 yLD (Cond.codeWith yLD method_3_code 5 (some .int) hhL :: gTbl)) := by
  intro w hw
  unfold va_wsS at hw
  rcases List.mem_append.mp hw with h | h
  · simp only [List.mem_cons, List.not_mem_nil, or_false] at h
    rcases h with rfl | rfl | rfl
    · exact gG1 ldF.2.2.2.1
    · exact gG1 ldF.2.1
    · exact gG1 ldF.2.2.1
  · rcases List.mem_cons.mp h with rfl | h
    · exact gG1 ldF.1
    · exact gG1 h
theorem WP_s2 {p : Program} {e : Env} {R : Room} {s : State} {m : MethodId} {args : Array Value} {below : List Frame} {meth : Method} {c : Code} {Q : State → Prop} {own mx : Nat} {cc : ByteArray} {pc len op cells slots : Nat} {sts : List Nat} {ins : Instr} {as : List Nat} {z : Int} {ls ls' : plocs} {st st' : List pv} {h h' : pheap} (C : CX p s m args c sa base L xs ca D own mx cc) (hsc : h.2.2 0 = .inl (0, L, xs)) (hd : decode cc pc = .ok (ins, len)) (lk : (if 80 ≤ op then lkS own ins len op as else lk1 own false pc sts ins len op as z) = true) (ho : op < 100) (hs : s1 op as z ls st h = some (ls', st', h')) (e1 : h'.1 = h.1) (e2 : h'.2.1 = h.2.1)
    (hcl : cells ≤ R.cells) (hsl : slots ≤ R.slots)
    (k : WP p l e R s m args below meth c Q sa base ca D mx (pc + len) ls' st' h' cells slots) : WP p l e R s m args below meth c Q sa base ca D mx pc ls st h cells slots :=
  WP_s1 C hsc hd lk ho hs (Or.inr e1) (by rw [e1, Nat.sub_self]; exact hcl) (by rw [e2, Nat.sub_self]; exact hsl) (by rw [e1, e2, Nat.sub_self, Nat.sub_self]; exact k)
theorem ldRec {s : State} {H : Heap} {h : pheap} {fs : List pv} (hK : va_K D myCl (ktys ca) s) (hHR : HR sa base ca D h H) (h32 : h.2.2 32 = .inr (10, fs)) (hh : 98 < h.1) : ∃ cellB : Cell, H[fa sa base 32]? = some cellB ∧ cellB.vm.isStatics = false ∧ s.vm.findClass "MaypoleRegister" = some cellB.cls := by
  obtain ⟨hc, -, -, -, hcn, -⟩ := clFacts 10 (by decide)
  have hv := va_recv hK hHR.1 hc (wof_at (sa := sa) (base := base) (ca := ca) ⟨by decide, by omega⟩ h32)
  rw [fa_dyn (by decide), show ("MaypoleRegister" : String) = cnm 10 from rfl, hcn]
  exact hv
theorem ldN {h : pheap} {x y a : Int} {d n : Nat} {f : Nat → Int} {fs : List pv} (hsc : h.2.2 0 = .inl (0, L, xs)) (h32 : h.2.2 32 = .inr (10, fs)) (h130 : h.2.2 130 = .inl (3, 1, f)) (hh : 98 < h.1)
    (ex : exec PP n d cdB (cdB.getD 0 []) [some (vR 32), some (vI x), some (vI y)] [] h = some (some (vI a), h)) :
    Met l yLD (Cond.codeWith yLD method_3_code 5 (some .int) hhL :: gTbl) (rmD (d + 4) 0 0) (va_Pc ([vR 32, vI x, vI y, vR 130].map (tv sa base)) (PX sa base L xs ca D h)) (QB sa base ca D (some (vI 0)) (hput h 130 (.inl (3, 1, updI f 0 (w32 a))))) 0 0 (fun q : Nat => base ≤ q) := by
  have hM := metOf (frameP l sa base L xs ca D n) (q := mrD) (kn := (0, 3)) lkD mkD (as := [vR 32, vI x, vI y]) (d := d) (h := h) (h' := h) (v := some (vI a)) (Nat.le_of_ble_eq_true rfl) hsc ex
  rw [Nat.sub_self, Nat.sub_self] at hM
  refine m_ofWH (cc := method_3_code) (maxL := 5) (ret := some .int) (hh := hhL) (by decide) rfl ?_
  intro p e s m args below meth c s₁ B hml hv
  obtain ⟨rfl, ⟨hsz, hHR, hKs, hSW⟩, hX⟩ := hv
  have hx := B.exec
  have hb := B.bytes
  have hr := B.returns
  have hlocks := B.notSynchronized
  have hts0 := atoms_spec (ws := Cond.codeWith yLD method_3_code 5 (some .int) hhL :: gTbl) B.pre
  have hts : ∀ w ∈ gTbl, w.before ([vR 32, vI x, vI y, vR 130].map (tv sa base)).toArray s = true := fun w hw => hts0 w (List.mem_cons_of_mem _ hw)
  have hown : s.vm.findClass "MaypoleRegisterLaw" = some m.cls := findClass_of_methodNamed B.named
  have C : CX p s m ([vR 32, vI x, vI y, vR 130].map (tv sa base)).toArray c sa base L xs ca D 13 5 method_3_code := ⟨hx, hb, hml, hown, hts, hKs, hSW⟩
  rw [lg_entry_eq]
  refine (show WP p l e (rmD (d + 4) 0 0) s m ([vR 32, vI x, vI y, vR 130].map (tv sa base)).toArray below meth c _ sa base ca D 5 0 [some (vR 32), some (vI x), some (vI y), some (vR 130), none] [] h 0 0 from ?_) s.heap [] _ (LR.entry sa base (as := [vR 32, vI x, vI y, vR 130]) (mx := 5) (Nat.le_of_ble_eq_true rfl)) hHR va_S.rf
  refine WP_s0 C hsc (op := 5) (as := [3]) (z := 0) (sts := [0, 21]) dL_0 (by decide +kernel) (by decide) rfl (Nat.zero_le _) (Nat.zero_le _) ?_
  refine WP_s0 C hsc (op := 0) (as := []) (z := 0) (sts := [0, 21]) dL_1 (by decide +kernel) (by decide) rfl (Nat.zero_le _) (Nat.zero_le _) ?_
  refine WP_s0 C hsc (op := 5) (as := [0]) (z := 0) (sts := [0, 21]) dL_2 (by decide +kernel) (by decide) rfl (Nat.zero_le _) (Nat.zero_le _) ?_
  refine WP_s0 C hsc (op := 3) (as := [1]) (z := 0) (sts := [0, 21]) dL_3 (by decide +kernel) (by decide) rfl (Nat.zero_le _) (Nat.zero_le _) ?_
  refine WP_s0 C hsc (op := 3) (as := [2]) (z := 0) (sts := [0, 21]) dL_4 (by decide +kernel) (by decide) rfl (Nat.zero_le _) (Nat.zero_le _) ?_
  intro H locs lsK hlr hHR1 hS
  have hrec := ldRec hKs hHR1 h32 hh
  have hfix : CallFix p m c method_3_code 5 s ([vR 32, vI x, vI y, vR 130].map (tv sa base)).toArray gTbl "MaypoleRegisterLaw" := ⟨hx, hb, hml, hown, hts⟩
  refine sndRun (rest := [vI 0, vR 130].map (tv sa base)) (a := ([vR 32, vI x, vI y].map (tv sa base)).toArray) (mc := 0) (ms := 0) (va_runV (As := [tv sa base (vI x), tv sa base (vI y)]) (b := fa sa base 32) hfix hM ⟨callB_of 2 hts (gGood mkD.1) rfl rfl rfl (hts _ mkD.2.1) (hts _ ldF.2.2.2.2) ⟨by decide +kernel, by decide +kernel, by decide +kernel⟩ ⟨by show d + 1 ≤ d + 4; omega, by show 8 + (3 + 11) + 40 * d ≤ 40 * (d + 4); omega⟩, hts _ (show Gd (Cond.instanceMethod mrD.1) from g_in 6 17 rfl rfl), hts _ (show Gd (Cond.selects "MaypoleRegister" mrD.1 mrD.1) from g_in 6 18 rfl rfl)⟩ ⟨PBblind _, hrec, fun U hU hW => ⟨rfl, PBof (Or.inr rfl) hHR1 hKs hSW hS U hU hW⟩⟩ rfl rfl hlr.2.1 rfl (by show 2 * 0 + _ ≤ 8; exact Nat.le_of_ble_eq_true rfl) dL_5 ⟨Nat.le_refl _, Nat.le_refl _⟩) hS (fun H1 locs1 a1 a2 => ?_)
  refine (show WP p l e (rmD (d + 4) 0 0) s m ([vR 32, vI x, vI y, vR 130].map (tv sa base)).toArray below meth c _ sa base ca D 5 8 [some (vR 32), some (vI x), some (vI y), some (vR 130), none] [vI a, vI 0, vR 130] h 0 0 from ?_) H1 locs1 lsK hlr a1 a2
  refine WP_s0 C hsc (op := 37) (as := []) (z := 0) (sts := [0, 21]) dL_8 (by decide +kernel) (by decide) rfl (Nat.zero_le _) (Nat.zero_le _) ?_
  have o : Ar h 130 3 1 f := ⟨by decide, by omega, h130⟩
  refine WP_s2 C hsc (op := 65) (as := []) (z := 0) (sts := [0, 21]) (h' := hput h 130 (.inl (3, 1, updI f 0 (w32 a)))) dL_9 (by decide +kernel) (by decide) (by unfold s1 sE; simp [o.1, o.2.1, o.2.2, (ix_ok (i := 0) (n := 1) (by decide) (by decide) (by decide)).1, (ix_ok (i := 0) (n := 1) (by decide) (by decide) (by decide)).2, hput]; exact ⟨rfl, rfl⟩) rfl rfl (Nat.zero_le _) (Nat.zero_le _) ?_
  have hsc : (hput h 130 (.inl (3, 1, updI f 0 (w32 a)))).2.2 0 = .inl (0, L, xs) := by show (if (0 : Nat) = 130 then (.inl (3, 1, updI f 0 (w32 a)) : pcell) else h.2.2 0) = _; rw [if_neg (by decide)]; exact hsc
  refine WP_jmp C (op := 100) (as := [1]) (z := 0) (ob := some 1) (sts := [0, 21]) dL_10 (by decide +kernel) (by decide) rfl (fun b9 t9 hb9 ht9 => ?_) (fun hn => by cases hn)
  cases hb9
  obtain rfl : 21 = t9 := Option.some.inj (show some 21 = some t9 from ht9)
  refine WP_s0 C hsc (op := 0) (as := []) (z := 0) (sts := [0, 21]) dL_21 (by decide +kernel) (by decide) rfl (Nat.zero_le _) (Nat.zero_le _) ?_
  intro H2 locs2 lsK2 hl2 hHR2 hS2
  exact W.iret hx hb hr (fun t ht hW => ⟨rfl, by rw [ht]; exact hHR2, hS2.F ht⟩) hS2.2.2 dL_22
theorem ldX0 (hl : l.stackTraces = false) {h : pheap} {x y b : Int} {d : Nat} {fs : List pv} (hd : 8 ≤ d) (hsc : h.2.2 0 = .inl (0, L, xs)) (h32 : h.2.2 32 = .inr (10, fs)) (hh : 98 < h.1) (hw : wpM PP d 44 [vR 32, vI x] h (fun v h1 => v = some (vI b) ∧ h1 = h)) (hb0 : w32 b = 0) :
    Met l yLD (Cond.codeWith yLD method_3_code 5 (some .int) hhL :: gTbl) (rmD (d + 8) 1 6) (va_Pc ([vR 32, vI x, vI y, vR 130].map (tv sa base)) (PX sa base L xs ca D h)) (QB sa base ca D (some (vI 1)) h) 1 6 (fun q : Nat => base ≤ q) := by
  refine m_ofWH (cc := method_3_code) (maxL := 5) (ret := some .int) (hh := hhL) (by decide) rfl ?_
  intro p e s m args below meth c s₁ B hml hv
  obtain ⟨rfl, ⟨hsz, hHR, hKs, hSW⟩, hX⟩ := hv
  have hx := B.exec
  have hb := B.bytes
  have hr := B.returns
  have hlocks := B.notSynchronized
  have hts0 := atoms_spec (ws := Cond.codeWith yLD method_3_code 5 (some .int) hhL :: gTbl) B.pre
  have hts : ∀ w ∈ gTbl, w.before ([vR 32, vI x, vI y, vR 130].map (tv sa base)).toArray s = true := fun w hw => hts0 w (List.mem_cons_of_mem _ hw)
  have hown : s.vm.findClass "MaypoleRegisterLaw" = some m.cls := findClass_of_methodNamed B.named
  have C : CX p s m ([vR 32, vI x, vI y, vR 130].map (tv sa base)).toArray c sa base L xs ca D 13 5 method_3_code := ⟨hx, hb, hml, hown, hts, hKs, hSW⟩
  rw [lg_entry_eq]
  refine (show WP p l e (rmD (d + 8) 1 6) s m ([vR 32, vI x, vI y, vR 130].map (tv sa base)).toArray below meth c _ sa base ca D 5 0 [some (vR 32), some (vI x), some (vI y), some (vR 130), none] [] h 0 0 from ?_) s.heap [] _ (LR.entry sa base (as := [vR 32, vI x, vI y, vR 130]) (mx := 5) (Nat.le_of_ble_eq_true rfl)) hHR va_S.rf
  refine WP_s0 C hsc (op := 5) (as := [3]) (z := 0) (sts := [0, 21]) dL_0 (by decide +kernel) (by decide) rfl (Nat.zero_le _) (Nat.zero_le _) ?_
  refine WP_s0 C hsc (op := 0) (as := []) (z := 0) (sts := [0, 21]) dL_1 (by decide +kernel) (by decide) rfl (Nat.zero_le _) (Nat.zero_le _) ?_
  refine WP_s0 C hsc (op := 5) (as := [0]) (z := 0) (sts := [0, 21]) dL_2 (by decide +kernel) (by decide) rfl (Nat.zero_le _) (Nat.zero_le _) ?_
  refine WP_s0 C hsc (op := 3) (as := [1]) (z := 0) (sts := [0, 21]) dL_3 (by decide +kernel) (by decide) rfl (Nat.zero_le _) (Nat.zero_le _) ?_
  refine WP_s0 C hsc (op := 3) (as := [2]) (z := 0) (sts := [0, 21]) dL_4 (by decide +kernel) (by decide) rfl (Nat.zero_le _) (Nat.zero_le _) ?_
  intro H locs lsK hlr hHR1 hS
  have hrec := ldRec hKs hHR1 h32 hh
  have hfix : CallFix p m c method_3_code 5 s ([vR 32, vI x, vI y, vR 130].map (tv sa base)).toArray gTbl "MaypoleRegisterLaw" := ⟨hx, hb, hml, hown, hts⟩
  refine vx_calli (rest := [vI 0, vR 130].map (tv sa base)) (vx_runV (As := [tv sa base (vI x), tv sa base (vI y)]) (b := fa sa base 32) hfix (dnX0 (ca := ca) (D := D) hl hd hsc hw hb0) ⟨callB_of 2 hts (gGood mkD.1) rfl rfl rfl (hts _ mkD.2.1) (hts _ ldF.2.2.2.2) ⟨by decide +kernel, by decide +kernel, by decide +kernel⟩ ⟨by show d + 4 + 1 ≤ d + 8; omega, by show 8 + (3 + 11) + 40 * (d + 4) ≤ 40 * (d + 8); omega⟩, hts _ (show Gd (Cond.instanceMethod mrD.1) from g_in 6 17 rfl rfl), hts _ (show Gd (Cond.selects "MaypoleRegister" mrD.1 mrD.1) from g_in 6 18 rfl rfl)⟩ ⟨PXblind _, hrec, fun U hU hW => ⟨rfl, PXof hHR1 hKs hSW hS hX U hU hW⟩⟩ rfl rfl hlr.2.1 rfl (by show 2 * 0 + _ ≤ 8; exact Nat.le_of_ble_eq_true rfl) dL_5 ⟨Nat.le_refl _, Nat.le_refl _⟩) hS (fun q _ h => h) (fun q h => h) (fun q _ h => h) (fun E ce q9 u t H1 locs1 ht hvm _ hB hz hk hS1 hcell hcv hcl => ?_) (fun r u t H1 locs1 _ _ hf => hf.elim)
  obtain ⟨rfl, hHR2⟩ := hB
  have htab : c.exceptionTable.toList = tableOf hhL := vx_table (x := yLD) B (hts0 _ List.mem_cons_self)
  refine vx_catch (own := "MaypoleRegisterLaw") (name := "java/lang/IndexOutOfBoundsException") hown [] ⟨0, 10, 13, 13⟩ [⟨0, 10, 17, 15⟩] (htab.trans rfl) (fun z hz => absurd hz List.not_mem_nil) rfl (by decide) (hts _ ldC.1) (hX.2.2.2.use _ (by simp [XB])) hcell hcv hcl ?_
  refine lv_astore hx hb dL_13 hlr.2 (by decide) rfl (fun ls2 hl2 => ?_)
  refine lv_iconst hx hb dL_15 rfl ?_
  exact W.iret hx hb hr (fun t9 ht9 hW => ⟨rfl, by rw [ht9, ← ht]; exact hHR2, hS1.F ht9⟩) hS1.2.2 dL_16
theorem ldX1 (hl : l.stackTraces = false) {h : pheap} {x y b : Int} {d : Nat} {fs : List pv} (hd : 8 ≤ d) (hsc : h.2.2 0 = .inl (0, L, xs)) (h32 : h.2.2 32 = .inr (10, fs)) (hh : 98 < h.1) (hw : wpM PP d 44 [vR 32, vI x] h (fun v h1 => v = some (vI b) ∧ h1 = h)) (hb0 : w32 b ≠ 0) (hy : y < 0 ∨ 5 < y) (hyR : iR y) :
    Met l yLD (Cond.codeWith yLD method_3_code 5 (some .int) hhL :: gTbl) (rmD (d + 8) 1 6) (va_Pc ([vR 32, vI x, vI y, vR 130].map (tv sa base)) (PX sa base L xs ca D h)) (QB sa base ca D (some (vI 2)) h) 1 6 (fun q : Nat => base ≤ q) := by
  refine m_ofWH (cc := method_3_code) (maxL := 5) (ret := some .int) (hh := hhL) (by decide) rfl ?_
  intro p e s m args below meth c s₁ B hml hv
  obtain ⟨rfl, ⟨hsz, hHR, hKs, hSW⟩, hX⟩ := hv
  have hx := B.exec
  have hb := B.bytes
  have hr := B.returns
  have hlocks := B.notSynchronized
  have hts0 := atoms_spec (ws := Cond.codeWith yLD method_3_code 5 (some .int) hhL :: gTbl) B.pre
  have hts : ∀ w ∈ gTbl, w.before ([vR 32, vI x, vI y, vR 130].map (tv sa base)).toArray s = true := fun w hw => hts0 w (List.mem_cons_of_mem _ hw)
  have hown : s.vm.findClass "MaypoleRegisterLaw" = some m.cls := findClass_of_methodNamed B.named
  have C : CX p s m ([vR 32, vI x, vI y, vR 130].map (tv sa base)).toArray c sa base L xs ca D 13 5 method_3_code := ⟨hx, hb, hml, hown, hts, hKs, hSW⟩
  rw [lg_entry_eq]
  refine (show WP p l e (rmD (d + 8) 1 6) s m ([vR 32, vI x, vI y, vR 130].map (tv sa base)).toArray below meth c _ sa base ca D 5 0 [some (vR 32), some (vI x), some (vI y), some (vR 130), none] [] h 0 0 from ?_) s.heap [] _ (LR.entry sa base (as := [vR 32, vI x, vI y, vR 130]) (mx := 5) (Nat.le_of_ble_eq_true rfl)) hHR va_S.rf
  refine WP_s0 C hsc (op := 5) (as := [3]) (z := 0) (sts := [0, 21]) dL_0 (by decide +kernel) (by decide) rfl (Nat.zero_le _) (Nat.zero_le _) ?_
  refine WP_s0 C hsc (op := 0) (as := []) (z := 0) (sts := [0, 21]) dL_1 (by decide +kernel) (by decide) rfl (Nat.zero_le _) (Nat.zero_le _) ?_
  refine WP_s0 C hsc (op := 5) (as := [0]) (z := 0) (sts := [0, 21]) dL_2 (by decide +kernel) (by decide) rfl (Nat.zero_le _) (Nat.zero_le _) ?_
  refine WP_s0 C hsc (op := 3) (as := [1]) (z := 0) (sts := [0, 21]) dL_3 (by decide +kernel) (by decide) rfl (Nat.zero_le _) (Nat.zero_le _) ?_
  refine WP_s0 C hsc (op := 3) (as := [2]) (z := 0) (sts := [0, 21]) dL_4 (by decide +kernel) (by decide) rfl (Nat.zero_le _) (Nat.zero_le _) ?_
  intro H locs lsK hlr hHR1 hS
  have hrec := ldRec hKs hHR1 h32 hh
  have hfix : CallFix p m c method_3_code 5 s ([vR 32, vI x, vI y, vR 130].map (tv sa base)).toArray gTbl "MaypoleRegisterLaw" := ⟨hx, hb, hml, hown, hts⟩
  refine vx_calli (rest := [vI 0, vR 130].map (tv sa base)) (vx_runV (As := [tv sa base (vI x), tv sa base (vI y)]) (b := fa sa base 32) hfix (dnX1 (ca := ca) (D := D) hl hd hsc hw hb0 hy hyR) ⟨callB_of 2 hts (gGood mkD.1) rfl rfl rfl (hts _ mkD.2.1) (hts _ ldF.2.2.2.2) ⟨by decide +kernel, by decide +kernel, by decide +kernel⟩ ⟨by show d + 4 + 1 ≤ d + 8; omega, by show 8 + (3 + 11) + 40 * (d + 4) ≤ 40 * (d + 8); omega⟩, hts _ (show Gd (Cond.instanceMethod mrD.1) from g_in 6 17 rfl rfl), hts _ (show Gd (Cond.selects "MaypoleRegister" mrD.1 mrD.1) from g_in 6 18 rfl rfl)⟩ ⟨PXblind _, hrec, fun U hU hW => ⟨rfl, PXof hHR1 hKs hSW hS hX U hU hW⟩⟩ rfl rfl hlr.2.1 rfl (by show 2 * 0 + _ ≤ 8; exact Nat.le_of_ble_eq_true rfl) dL_5 ⟨Nat.le_refl _, Nat.le_refl _⟩) hS (fun q _ h => h) (fun q h => h) (fun q _ h => h) (fun E ce q9 u t H1 locs1 ht hvm _ hB hz hk hS1 hcell hcv hcl => ?_) (fun r u t H1 locs1 _ _ hf => hf.elim)
  obtain ⟨rfl, hHR2⟩ := hB
  have htab : c.exceptionTable.toList = tableOf hhL := vx_table (x := yLD) B (hts0 _ List.mem_cons_self)
  refine vx_catch (own := "MaypoleRegisterLaw") (name := "java/util/NoSuchElementException") hown [⟨0, 10, 13, 13⟩] ⟨0, 10, 17, 15⟩ [] (htab.trans rfl) (fun z hz => by rw [List.mem_singleton.mp hz]; exact Or.inr ⟨by decide, "java/lang/IndexOutOfBoundsException", hts _ ldC.1, hX.2.2.1⟩) rfl (by decide) (hts _ ldC.2) (hX.2.2.2.use _ (by simp [XB])) hcell hcv hcl ?_
  refine lv_astore hx hb dL_17 hlr.2 (by decide) rfl (fun ls2 hl2 => ?_)
  refine lv_iconst hx hb dL_19 rfl ?_
  exact W.iret hx hb hr (fun t9 ht9 hW => ⟨rfl, by rw [ht9, ← ht]; exact hHR2, hS1.F ht9⟩) hS1.2.2 dL_20
theorem WP_dan {p : Program} {e : Env} {R : Room} {s : State} {m : MethodId} {args : Array Value} {below : List Frame} {meth : Method} {c : Code} {Q : State → Prop} {pc cells slots dd mc ms : Nat} {ls : plocs} {h h1 : pheap} {x y k : Int} (C : CX p s m args c sa base L xs ca D 13 7 code) (hX : XS base s)
    (hM : Met l yLD (Cond.codeWith yLD method_3_code 5 (some .int) hhL :: gTbl) (rmD dd mc ms) (va_Pc ([vR 32, vI x, vI y, vR 130].map (tv sa base)) (PX sa base L xs ca D h)) (QB sa base ca D (some (vI k)) h1) mc ms (fun q : Nat => base ≤ q)) (hd : decode code pc = .ok (.invokestatic 39, 3)) (hfr : dd + 1 ≤ R.frames) (hlo : 8 + (5 + 11) + 40 * dd ≤ R.locals) (hcl : cells + mc ≤ R.cells) (hsl : slots + ms ≤ R.slots)
    (kk : WP p l e R s m args below meth c Q sa base ca D 7 (pc + 3) ls [vI k] h1 (cells + mc) (slots + ms)) : WP p l e R s m args below meth c Q sa base ca D 7 pc ls [vR 130, vI y, vI x, vR 32] h cells slots := by
  obtain ⟨hx, hb, hml, hown, hts, hK, hSW⟩ := C
  intro H locs lsK hl hHR hS
  refine sndRun (rest := []) (a := ([vR 32, vI x, vI y, vR 130].map (tv sa base)).toArray) (mc := mc) (ms := ms) (vx_runSW (nL := 7) (As := [vR 32, vI x, vI y, vR 130].map (tv sa base)) ⟨hx, hb, hml, hown, hts⟩ hM (vx_cwSW 4 hts ldG rfl rfl rfl ⟨by decide +kernel, by decide +kernel, by decide +kernel⟩ ⟨hfr, hlo⟩) ⟨PXblind _, fun U hU hW => ⟨rfl, PXof hHR hK hSW hS hX U hU hW⟩⟩ rfl rfl hl.2.1 rfl (by show 2 * 0 + _ ≤ 8; exact Nat.le_of_ble_eq_true rfl) hd ⟨hcl, hsl⟩) hS (fun H1 locs1 a1 a2 => kk H1 locs1 lsK hl a1 a2)
end LDN
