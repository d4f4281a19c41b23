/-! SOUND, 5: calls; every run -/
theorem sS_op {op : Nat} {as : List Nat} {st : List pv} {h : pheap} {x : List pv × pheap} (e : sS op as st h = some x) : op < 90 := by
  unfold sS at e
  repeat' split at e
  all_goals first
    | (cases e; done)
    | omega
theorem gGood {y : MethodName} {cc : ByteArray} {mx : Nat} {ret : Option FieldType} (h : Gd (Cond.code y cc mx ret)) : GoodIn gTbl (Cond.code y cc mx ret :: gTbl) := by
  intro w hw
  rcases List.mem_cons.mp hw with rfl | hw
  · exact ⟨h, good_of_word (List.mem_filter.mp h).2⟩
  · exact ⟨hw, good_of_word (List.mem_filter.mp hw).2⟩
theorem PBblind {sa : Nat → Nat} {base L : Nat} {xs : Nat → Int} {ca : Nat → ClassId} {D : va_G} {h h' : pheap} (as : List Value) : FrameBlind (va_Pc as (PB sa base L xs ca D h h')) := by
  intro a U g mk hP
  obtain ⟨h1, h2, h3, h4, h5⟩ := hP
  exact ⟨h1, h2, h3, va_K.moved (u := U) (Vm.Alike.refl _) h4, SW.same (s := U) rfl h5⟩
section SN5
variable {p : Program} {l : Launch} {e : Env} {R : Room} {s : State} {m : MethodId} {args : Array Value} {below : List Frame} {meth : Method} {c : Code} {H : Heap} {locs : List Loc} {cells slots : Nat} {Q : State → Prop}
variable {pc mc ms : Nat} {lsK : Array Slot} {sa : Nat → Nat} {base L : Nat} {xs : Nat → Int} {ca : Nat → ClassId} {D : va_G} {h h1 : pheap} {v1 : Option pv} {st0 rest : List Value} {a : Array Value}
theorem sndRun (hr : va_Run p l e R s m args below meth c H locs cells slots mc ms (F0 m pc lsK st0) rest (QB sa base ca D v1 h1 a) (fun q : Nat => base ≤ q)) (hS : va_S (fun q : Nat => base ≤ q) s.heap H locs)
    (kk : ∀ (H1 : Heap) (locs1 : List Loc), HR sa base ca D h1 H1 → va_S (fun q : Nat => base ≤ q) s.heap H1 locs1 → W p l e R s m args below meth c H1 locs1 (cells + mc) (slots + ms) Q (F0 m (pc + 3) lsK ((v1.map (tv sa base)).toList ++ rest))) : W p l e R s m args below meth c H locs cells slots Q (F0 m pc lsK st0) := by
  intro T hT X
  obtain ⟨v, st₀, t, T', L0, h0, X', hL, e1, e2, ⟨hv, hHR, hz, hk⟩, st⟩ := hr T hT X
  cases hv
  rw [h0] at hz hk
  obtain ⟨t2, a1, b1⟩ := kk T'.heap (locs ++ L0) (by rw [e1]; exact hHR)
    ⟨Nat.le_trans hS.1 (by rw [e1]; exact hz), fun q h1 h2 => by rw [e1, hk q (Nat.lt_of_lt_of_le h1 hS.1) h2]; exact hS.2.1 q h1 h2, fun q hq => by
      rcases List.mem_append.mp hq with h | h
      · exact hS.2.2 q h
      · exact hL q h⟩ T' rfl X'
  exact ⟨t2, st t2 a1, b1⟩
theorem PBof (hsz : H.size = base + h.1 ∨ h1.1 = h.1) (hHR : HR sa base ca D h H) (hK : va_K D myCl (ktys ca) s) (hSW : SW sa base L xs s s.heap) (hS : va_S (fun q : Nat => base ≤ q) s.heap H locs) : ∀ U : State, U.heap = H → s.WarmedH U.vm → PB sa base L xs ca D h h1 U := by
  intro U hU hW
  subst hU
  exact ⟨hsz, hHR, hK.moved hW.alike, (hSW.kept (Nat.le_trans hSW.2.2.1 hS.1) (fun a h1 h2 => hS.2.1 a h1 h2)).warm hW⟩
set_option maxHeartbeats 2000000 in
theorem sndCall {n : Nat} (IH : FrameP l sa base L xs ca D n) {q : mrec} (hx : p.tables.exec = Jvm.exec) {cc : ByteArray} (hb : c.code = cc) {mx own : Nat} (hml : c.maxLocals = mx) (hlsz : lsK.size = mx) (hown : s.vm.findClass (cnm own) = some m.cls) (hts : ∀ w ∈ gTbl, w.before args s = true)
    (hK : va_K D myCl (ktys ca) s) (hSW : SW sa base L xs s s.heap) (hsc : h.2.2 0 = .inl (0, L, xs)) (hHR : HR sa base ca D h H) (hS : va_S (fun q : Nat => base ≤ q) s.heap H locs) (hsz : H.size = base + h.1 ∨ h1.1 = h.1)
    {len m0 k : Nat} {sts : List Nat} {ins : Instr} {as : List Nat} {z : Int} {isIn : Bool} (hd : decode cc pc = .ok (ins, len)) (lk : lk1 own isIn pc sts ins len 120 (m0 :: k :: as) z = true)
    {d kd ow mx' : Nat} {bt' : List (List PI)} {st : List pv} (hks : k ≤ st.length) (hcat : scat (st.drop k) ≤ 8) (hPP : PP m0 = some (kd, ow, mx', bt')) (hrcv : rcv kd ow h (st.take k).reverse = true) (hlen : (ent1 (st.take k).reverse).length ≤ mx')
    (ex : exec PP n d bt' (bt'.getD 0 []) (ent mx' (st.take k).reverse) [] h = some (v1, h1))
    (hfr : d + 1 ≤ R.frames) (hlo : 40 * (d + 1) ≤ R.locals) (hcl : cells + (h1.1 - h.1) ≤ R.cells) (hsl : slots + (h1.2.1 - h.2.1) ≤ R.slots)
    (kk : ∀ (H1 : Heap) (locs1 : List Loc), HR sa base ca D h1 H1 → va_S (fun q : Nat => base ≤ q) s.heap H1 locs1 → W p l e R s m args below meth c H1 locs1 (cells + (h1.1 - h.1)) (slots + (h1.2.1 - h.2.1)) Q (F0 m (pc + len) lsK ((v1.toList ++ st.drop k).map (tv sa base)))) :
    W p l e R s m args below meth c H locs cells slots Q (F0 m pc lsK (st.map (tv sa base))) := by
  unfold PP at hPP
  split at hPP
  · rename_i q' kn hq' hkn
    simp only [Option.some.injEq, Prod.mk.injEq] at hPP
    obtain ⟨rfl, rfl, rfl, rfl⟩ := hPP
    have hlk' := lkAll hq'
    have hmk := mkAll hq' hkn
    have hM := metOf IH hlk' hmk hlen hsc ex
    obtain ⟨hk1, hk2, hk3, hk4, hk5, hk6, hk7, hk8, hk9, hk10⟩ := hmk
    have hmY : mY m0 = q'.1 := by
      unfold mY mR
      rw [List.getD_eq_getElem?_getD, hq']
      rfl
    have hmx : q'.2.2.2.1 ≤ 21 := by
      simp only [lkM, Bool.and_eq_true, decide_eq_true_eq] at hlk'
      exact hlk'.1.2
    have hRm : (rmD d (h1.1 - h.1) (h1.2.1 - h.2.1)).frames + 1 ≤ R.frames ∧ 8 + (q'.2.2.2.1 + 11) + (rmD d (h1.1 - h.1) (h1.2.1 - h.2.1)).locals ≤ R.locals := by
      refine ⟨hfr, ?_⟩
      show 8 + (q'.2.2.2.1 + 11) + 40 * d ≤ R.locals
      omega
    have hfix : CallFix p m c cc lsK.size s args gTbl (cnm own) := ⟨hx, hb, by rw [hml, hlsz], hown, hts⟩
    have hsplit : st = (st.take k).reverse.reverse ++ st.drop k := by rw [List.reverse_reverse, List.take_append_drop]
    have hW8 : 2 * (F0 m pc lsK (st.map (tv sa base))).monitorRoom + (((st.drop k).map (tv sa base)).map fun v => v.category).sum ≤ 8 := by
      rw [scat_map]
      show 2 * 0 + _ ≤ 8
      omega
    have hnlen : (st.take k).reverse.length = k := by rw [List.length_reverse, List.length_take]; omega
    generalize hA : (st.take k).reverse = as0 at *
    have hPre := PBof (L := L) (xs := xs) hsz hHR hK hSW hS
    have hkk : ∀ (H1 : Heap) (locs1 : List Loc), HR sa base ca D h1 H1 → va_S (fun q : Nat => base ≤ q) s.heap H1 locs1 → len = 3 → W p l e R s m args below meth c H1 locs1 (cells + (h1.1 - h.1)) (slots + (h1.2.1 - h.2.1)) Q (F0 m (pc + 3) lsK ((v1.map (tv sa base)).toList ++ (st.drop k).map (tv sa base))) := by
      intro H1 locs1 a1 a2 hl3
      have := kk H1 locs1 a1 a2
      rw [hl3] at this
      have e9 : (v1.toList ++ st.drop k).map (tv sa base) = (v1.map (tv sa base)).toList ++ (st.drop k).map (tv sa base) := by cases v1 <;> rfl
      rw [e9] at this
      exact this
    have hstk : st.map (tv sa base) = (as0.map (tv sa base)).reverse ++ (st.drop k).map (tv sa base) := by
      conv => lhs; rw [hsplit]
      rw [List.map_append, List.map_reverse]
    cases ins
    case invokestatic i =>
      simp only [lk1, Bool.and_eq_true, beq_iff_eq, List.any_eq_true, Bool.or_eq_true] at lk
      obtain ⟨⟨rfl, -⟩, ⟨r1, r2, r3, r4, r5⟩, hr, ⟨⟨rfl, rfl⟩, hkind⟩, has⟩ := lk
      obtain ⟨⟨f1, f2⟩, f3⟩ := mlt_all _ hr
      dsimp only at f1 f2 f3 hkind hd hown hfix has
      simp only [List.cons.injEq] at has
      obtain ⟨hm0, hk0, -⟩ := has
      subst hm0
      rw [hkn] at f2
      have hkd : kn.1 = 1 := by
        rcases hkind with rfl | rfl <;> exact (Option.some.inj f2)
      rw [hmY] at f3
      rw [if_pos hkd] at hk3
      have hdd : (parseMethodDescriptor q'.1.desc).map (fun d => d.parameters.length) = some kn.2 := by rw [hk8, if_pos hkd]
      have hkn2 : k = kn.2 := by rw [hk0, List.getD_eq_getElem?_getD, hkn]; rfl
      clear hk0
      subst hkn2
      refine sndRun (rest := (st.drop kn.2).map (tv sa base)) (a := (as0.map (tv sa base)).toArray) (mc := h1.1 - h.1) (ms := h1.2.1 - h.2.1) ?_ hS (fun H1 locs1 a1 a2 => hkk H1 locs1 a1 a2 rfl)
      rcases hkind with rfl | rfl
      · exact va_runS hfix hM ⟨callB_of kn.2 hts (gGood hk1) rfl rfl rfl (hts _ hk2) (hts _ f3) ⟨hk7.1, hk7.2, hdd⟩ hRm, hts _ hk3⟩ ⟨PBblind _, fun U hU hW => ⟨rfl, hPre U hU hW⟩⟩ rfl (by rw [List.length_map, hnlen]) rfl hstk hW8 hd ⟨hcl, hsl⟩
      · exact va_runSN hfix hM ⟨va_cnB kn.2 hts (gGood hk1) rfl rfl rfl (by have h9 := hSW.1.1 _ hr (by simp); dsimp only at h9; rw [hmY] at h9; exact h9) (hts _ hk2) ⟨hk7.1, hk7.2, hdd⟩ hRm, hts _ hk3, trivial⟩ ⟨PBblind _, fun U hU hW => ⟨rfl, hPre U hU hW⟩⟩ rfl (by rw [List.length_map, hnlen]) rfl hstk hW8 hd ⟨hcl, hsl⟩
    case invokespecial i =>
      simp only [lk1, Bool.and_eq_true, beq_iff_eq, List.any_eq_true, Bool.or_eq_true] at lk
      obtain ⟨rfl, h129 | ⟨-, ⟨r1, r2, r3, r4, r5⟩, hr, ⟨⟨rfl, rfl⟩, hkind⟩, has⟩⟩ := lk
      · exact absurd h129.1 (by decide)
      obtain ⟨⟨f1, f2⟩, f3⟩ := mlt_all _ hr
      dsimp only at f1 f2 f3 hkind hd hown hfix has
      simp only [List.cons.injEq] at has
      obtain ⟨hm0, hk0, -⟩ := has
      subst hm0
      rw [hkn] at f2
      have hkd : kn.1 = 2 := by
        rcases hkind with rfl | rfl <;> exact (Option.some.inj f2)
      rw [hmY] at f3
      rw [if_neg (by rw [hkd]; decide)] at hk3
      have hdd : (parseMethodDescriptor q'.1.desc).map (fun d => d.parameters.length) = some (kn.2 - 1) := by rw [hk8, if_neg (by rw [hkd]; decide)]
      have hkn2 : k = kn.2 := by rw [hk0, List.getD_eq_getElem?_getD, hkn]; rfl
      clear hk0
      subst hkn2
      obtain ⟨hni, hnr⟩ := hk9 hkd
      unfold rcv at hrcv
      rw [if_neg (by rw [hkd]; decide)] at hrcv
      split at hrcv
      · rename_i a0 t0
        have hal : (t0.map (tv sa base)).length = kn.2 - 1 := by rw [List.length_map]; rw [List.length_cons] at hnlen; omega
        have hst2 : st.map (tv sa base) = (t0.map (tv sa base)).reverse ++ .ref (fa sa base a0) :: (st.drop kn.2).map (tv sa base) := by
          rw [hstk]
          simp [tv]
        rw [hnr] at hM hk1
        refine sndRun (rest := (st.drop kn.2).map (tv sa base)) (a := (Value.ref (fa sa base a0) :: t0.map (tv sa base)).toArray) (mc := h1.1 - h.1) (ms := h1.2.1 - h.2.1) ?_ hS (fun H1 locs1 a1 a2 => hkk H1 locs1 a1 a2 rfl)
        rcases hkind with rfl | rfl
        · exact va_runI hfix hM ⟨callB_of (kn.2 - 1) hts (gGood hk1) rfl rfl rfl (hts _ hk2) (hts _ f3) ⟨hk7.1, hk7.2, hdd⟩ hRm, hni, hts _ hk3⟩ ⟨PBblind _, fun U hU hW => ⟨rfl, hPre U hU hW⟩⟩ rfl hal rfl hst2 hW8 hd ⟨hcl, hsl⟩
        · exact va_runIN hfix hM ⟨va_cnB (kn.2 - 1) hts (gGood hk1) rfl rfl rfl (by have h9 := hSW.1.1 _ hr (by simp); dsimp only at h9; rw [hmY] at h9; exact h9) (hts _ hk2) ⟨hk7.1, hk7.2, hdd⟩ hRm, hni, hts _ hk3⟩ ⟨PBblind _, fun U hU hW => ⟨rfl, hPre U hU hW⟩⟩ rfl hal rfl hst2 hW8 hd ⟨hcl, hsl⟩
      · cases hrcv
    case invokevirtual i =>
      simp only [lk1, Bool.and_eq_true, beq_iff_eq, List.any_eq_true, Bool.or_eq_true] at lk
      obtain ⟨⟨rfl, -⟩, ⟨r1, r2, r3, r4, r5⟩, hr, ⟨⟨rfl, rfl⟩, hkind⟩, has⟩ := lk
      obtain ⟨⟨f1, f2⟩, f3⟩ := mlt_all _ hr
      dsimp only at f1 f2 f3 hkind hd hown hfix has
      simp only [List.cons.injEq] at has
      obtain ⟨hm0, hk0, -⟩ := has
      subst hm0
      rw [hkn] at f2
      have hkd : kn.1 = 0 := by
        rcases hkind with rfl | rfl <;> exact (Option.some.inj f2)
      rw [hmY] at f3
      rw [if_neg (by rw [hkd]; decide)] at hk3
      rw [if_pos hkd] at hk4
      have hdd : (parseMethodDescriptor q'.1.desc).map (fun d => d.parameters.length) = some (kn.2 - 1) := by rw [hk8, if_neg (by rw [hkd]; decide)]
      have hkn2 : k = kn.2 := by rw [hk0, List.getD_eq_getElem?_getD, hkn]; rfl
      clear hk0
      subst hkn2
      unfold rcv at hrcv
      rw [if_neg (by rw [hkd]; decide)] at hrcv
      split at hrcv
      · rename_i a0 t0
        have hal : (t0.map (tv sa base)).length = kn.2 - 1 := by rw [List.length_map]; rw [List.length_cons] at hnlen; omega
        have hst2 : st.map (tv sa base) = (t0.map (tv sa base)).reverse ++ .ref (fa sa base a0) :: (st.drop kn.2).map (tv sa base) := by
          rw [hstk]
          simp [tv]
        rw [if_neg (by rw [hkd]; decide)] at hrcv
        have hrec : ∃ cellB : Cell, H[fa sa base a0]? = some cellB ∧ cellB.vm.isStatics = false ∧ s.vm.findClass q'.1.cls = some cellB.cls := by
          split at hrcv
          · rename_i h22
            have h16 : q'.2.1 = 16 := of_decide_eq_true hrcv
            have hv := vk_recv (i := 0) hSW.2.2.2.2.2.2.2.2.2.2.1 (by decide) hS
            rw [hk5, h16, h22]
            exact hv
          · simp only [Bool.and_eq_true, decide_eq_true_eq] at hrcv
            obtain ⟨⟨a1, a2⟩, a3⟩ := hrcv
            split at a3
            · rename_i c0 fs hcell
              have hc0 : c0 = q'.2.1 := of_decide_eq_true a3
              have hw := wof_at (sa := sa) (base := base) (ca := ca) ⟨a1, a2⟩ hcell
              obtain ⟨r, hr1, -⟩ := hHR.1 (a0 - 32) _ hw
              have hlt : c0 < 12 := (List.getElem?_eq_some_iff.mp hr1).1
              obtain ⟨hc, -, -, -, hcn, -⟩ := clFacts c0 hlt
              have hv := va_recv hK hHR.1 hc hw
              rw [fa_dyn a1, hk5, ← hc0, hcn]
              exact hv
            · cases a3
        refine sndRun (rest := (st.drop kn.2).map (tv sa base)) (a := (Value.ref (fa sa base a0) :: t0.map (tv sa base)).toArray) (mc := h1.1 - h.1) (ms := h1.2.1 - h.2.1) ?_ hS (fun H1 locs1 a1 a2 => hkk H1 locs1 a1 a2 rfl)
        rcases hkind with rfl | rfl
        · exact va_runV hfix hM ⟨callB_of (kn.2 - 1) hts (gGood hk1) rfl rfl rfl (hts _ hk2) (hts _ f3) ⟨hk7.1, hk7.2, hdd⟩ hRm, hts _ hk3, hts _ hk4⟩ ⟨PBblind _, hrec, fun U hU hW => ⟨rfl, hPre U hU hW⟩⟩ rfl hal rfl hst2 hW8 hd ⟨hcl, hsl⟩
        · exact va_runVN hfix hM ⟨va_cnB (kn.2 - 1) hts (gGood hk1) rfl rfl rfl (by have h9 := hSW.1.1 _ hr (by simp); dsimp only at h9; rw [hmY] at h9; exact h9) (hts _ hk2) ⟨hk7.1, hk7.2, hdd⟩ hRm, hts _ hk3, hts _ hk4⟩ ⟨PBblind _, hrec, fun U hU hW => ⟨rfl, hPre U hU hW⟩⟩ rfl hal rfl hst2 hW8 hd ⟨hcl, hsl⟩
      · cases hrcv
    all_goals (exfalso; simp [lk1] at lk)
  · cases hPP
end SN5
set_option maxHeartbeats 4000000 in
/-- EVERY RUN OF THE PURE MACHINE IS A WALK -/
theorem frameP (l : Launch) (sa : Nat → Nat) (base L : Nat) (xs : Nat → Int) (ca : Nat → ClassId) (D : va_G) : ∀ n, FrameP l sa base L xs ca D n := by
  intro n
  induction n with
  | zero =>
    intro q hq p e R s m args below meth c H locs cells slots Q d code ls st h h' v lsK pc ex
    simp [exec] at ex
  | succ n ih =>
    intro q hq p e R s m args below meth c H locs cells slots Q d code ls st h h' v lsK pc ex hlk hrt hx hb hml hown hts hin hK hSW hsc hl hHR hS hcz hfr hlo hcl hsl hret
    have hlsz : lsK.size = q.2.2.2.1 := hl.2.1
    have hbase : base ≤ s.heap.size := hSW.2.2.1
    cases code with
    | nil => simp [exec] at ex
    | cons i r =>
      obtain ⟨op, as, z⟩ := i
      rw [List.all_cons, Bool.and_eq_true] at hrt
      obtain ⟨hrt1, hrt2⟩ := hrt
      unfold lkb at hlk
      unfold exec at ex
      dsimp only at ex
      by_cases h107 : op = 107
      · subst h107
        rw [if_pos rfl] at hlk
        rw [if_neg (by decide), if_pos (by decide)] at ex
        split at hlk
        · rename_i b
          have hb2 := of_decide_eq_true hlk
          have hj : jmp 107 [b] z st = some (some b, st) := rfl
          rw [hj] at ex
          have hq2 : lkBs q.2.1 (q.1.name == "<init>") q.2.2.1 q.2.2.2.2.2.1 q.2.2.2.2.2.1 q.2.2.2.2.2.2 = true ∧ retsOk q.2.2.2.2.1 q.2.2.2.2.2.2 = true := by
            have hq1 := hq
            simp only [lkM, Bool.and_eq_true, decide_eq_true_eq] at hq1
            exact hq1.1.1
          exact ih q hq p e R s m args below meth c H locs cells slots Q d _ ls st h h' v lsK pc ex (lkBs_get hq2.1 b pc hb2) (retsOk_get hq2.2 b) hx hb hml hown hts hin hK hSW hsc hl hHR hS hcz hfr hlo hcl hsl hret
        · cases hlk
      rw [if_neg h107] at hlk
      split at hlk
      · rename_i ins len hd
        rw [Bool.and_eq_true] at hlk
        obtain ⟨hlk1, hlk2⟩ := hlk
        by_cases h100 : op < 100
        · rw [if_pos h100] at ex
          split at ex
          · rename_i ls' st' h1 hs1
            have hg1 := s1_grow hs1
            have hg2 := exec_grow n ex
            have hgo : ∀ (H' : Heap) (locs' : List Loc) (lsK' : Array Slot), LR sa base lsK' q.2.2.2.1 ls' → HR sa base ca D h1 H' → va_S (fun a : Nat => base ≤ a) s.heap H' locs' → W p l e R s m args below meth c H' locs' (cells + (h1.1 - h.1)) (slots + (h1.2.1 - h.2.1)) Q (F0 m (pc + len) lsK' (st'.map (tv sa base))) := by
              intro H' locs' lsK' a1 a2 a3
              refine ih q hq p e R s m args below meth c H' locs' _ _ Q d r ls' st' h1 h' v lsK' (pc + len) ex hlk2 hrt2 hx hb hml hown hts hin hK hSW (hg1.2.2.trans hsc) a1 a2 a3 (by omega) hfr hlo (by omega) (by omega) ?_
              have e1 : cells + (h1.1 - h.1) + (h'.1 - h1.1) = cells + (h'.1 - h.1) := by omega
              have e2 : slots + (h1.2.1 - h.2.1) + (h'.2.1 - h1.2.1) = slots + (h'.2.1 - h.2.1) := by omega
              rw [e1, e2]
              exact hret
            unfold s1 at hs1
            by_cases h20 : op < 20
            · rw [if_neg (by omega)] at hlk1
              rw [if_pos h20] at hs1
              split at hs1
              · rename_i l1 s1' hs
                cases hs1
                simp only [Nat.sub_self, Nat.add_zero] at hgo
                exact sndA hx hb hown hts hl hd hlk1 h20 hs (fun lsK' hl' => hgo H locs lsK' hl' hHR hS)
              · cases hs1
            rw [if_neg h20] at hs1
            by_cases h40 : op < 40
            · rw [if_neg (by omega)] at hlk1
              rw [if_pos h40] at hs1
              split at hs1
              · rename_i s1' hs
                cases hs1
                simp only [Nat.sub_self, Nat.add_zero] at hgo
                exact sndB hx hb hown hts hl hd hlk1 ⟨by omega, h40⟩ hs (hgo H locs lsK hl hHR hS)
              · cases hs1
            rw [if_neg h40] at hs1
            by_cases h60 : op < 60
            · rw [if_neg (by omega)] at hlk1
              rw [if_pos h60] at hs1
              split at hs1
              · rename_i s1' hs
                cases hs1
                simp only [Nat.sub_self, Nat.add_zero] at hgo
                exact sndC hx hb hown hts hl hd hlk1 ⟨by omega, h60⟩ hs (hgo H locs lsK hl hHR hS)
              · cases hs1
            rw [if_neg h60] at hs1
            by_cases h80 : op < 80
            · rw [if_neg (by omega)] at hlk1
              rw [if_pos h80] at hs1
              split at hs1
              · rename_i s1' h1' hs
                cases hs1
                exact sndE hx hb hown hts hd hlk1 hK hHR hS hbase (hcz.imp_right (fun yqq => by omega)) hin ⟨by omega, h80⟩ hs (by omega) (by omega) (fun H' locs' a1 a2 => hgo H' locs' lsK hl a1 a2)
              · cases hs1
            rw [if_neg h80] at hs1
            split at hs1
            · rename_i s1' h1' hs
              cases hs1
              have h90 := sS_op hs
              rw [if_pos (by omega)] at hlk1
              cases sS_same hs
              simp only [Nat.sub_self, Nat.add_zero] at hgo
              exact sndS hx hb hown hts hd hlk1 hSW hS hsc ⟨by omega, h90⟩ hs (hgo H locs lsK hl hHR hS)
            · cases hs1
          · cases ex
        rw [if_neg h100] at ex
        by_cases h110 : op < 110
        · rw [if_pos h110] at ex
          rw [if_neg (by omega)] at hlk1
          have hq2 : lkBs q.2.1 (q.1.name == "<init>") q.2.2.1 q.2.2.2.2.2.1 q.2.2.2.2.2.1 q.2.2.2.2.2.2 = true ∧ retsOk q.2.2.2.2.1 q.2.2.2.2.2.2 = true := by
            have hq1 := hq
            simp only [lkM, Bool.and_eq_true, decide_eq_true_eq] at hq1
            exact hq1.1.1
          have hjo : ∀ x, jmp op as z st = some x → op < 107 := by
            intro x hj
            by_cases h108 : op < 107
            · exact h108
            · exfalso
              rcases (show op = 108 ∨ op = 109 by omega) with rfl | rfl <;> (unfold jmp at hj; simp only [Nat.reduceEqDiff, ↓reduceIte] at hj; cases hj)
          split at ex
          · rename_i b st' hj
            refine sndJ (isIn := q.1.name == "<init>") hx hb hSW.inj hd hlk1 ⟨by omega, hjo _ hj⟩ hj (fun b' t hb' ht => ?_) (fun hn => by cases hn)
            cases hb'
            exact ih q hq p e R s m args below meth c H locs cells slots Q d _ ls st' h h' v lsK t ex (lkBs_get hq2.1 b t ht) (retsOk_get hq2.2 b) hx hb hml hown hts hin hK hSW hsc hl hHR hS hcz hfr hlo hcl hsl hret
          · rename_i st' hj
            refine sndJ (isIn := q.1.name == "<init>") hx hb hSW.inj hd hlk1 ⟨by omega, hjo _ hj⟩ hj (fun b' t hb' ht => by cases hb') (fun _ => ?_)
            exact ih q hq p e R s m args below meth c H locs cells slots Q d r ls st' h h' v lsK (pc + len) ex hlk2 hrt2 hx hb hml hown hts hin hK hSW hsc hl hHR hS hcz hfr hlo hcl hsl hret
          · cases ex
        rw [if_neg h110] at ex
        by_cases h120 : op < 120
        · rw [if_pos h120] at ex
          rw [if_neg (by omega)] at hlk1
          split at ex
          · rename_i v' hf
            cases ex
            have hro : retOk q.2.2.2.2.1 op as = true := by
              unfold rtB at hrt1
              have a1 : decide (110 ≤ op) = true := decide_eq_true (by omega)
              have a2 : decide (op < 120) = true := decide_eq_true h120
              simpa [a1, a2] using hrt1
            have hgo := hret pc H locs lsK op as z ins len st hf ⟨by omega, h120⟩ hd hlk1 hro hHR hS
            simp only [Nat.sub_self, Nat.add_zero] at hgo
            exact hgo
          · cases ex
        rw [if_neg h120] at ex
        by_cases hn120 : op ≠ 120
        · rw [if_pos hn120] at ex
          split at ex
          · rename_i h8
            split at ex
            · rename_i vs st' hM
              split at ex
              · rename_i hcat
                have hgo : ∀ (H' : Heap) (locs' : List Loc), HR sa base ca D h H' → va_S (fun a : Nat => base ≤ a) s.heap H' locs' → W p l e R s m args below meth c H' locs' cells slots Q (F0 m (pc + len) lsK ((vs ++ st').map (tv sa base))) := fun H' locs' a2 a3 =>
                  ih q hq p e R s m args below meth c H' locs' cells slots Q d r ls (vs ++ st') h h' v lsK (pc + len) ex hlk2 hrt2 hx hb hml hown hts hin hK hSW hsc hl a2 a3 hcz hfr hlo hcl hsl hret
                have hml2 : c.maxLocals = lsK.size := by rw [hml, hlsz]
                by_cases h129 : op = 129
                · subst h129
                  rw [if_neg (by omega)] at hlk1
                  cases ins
                  case invokespecial i =>
                    simp only [lk1, Bool.and_eq_true, beq_iff_eq, Bool.or_eq_true] at hlk1
                    obtain ⟨rfl, h1 | h1⟩ := hlk1
                    · exact sndOI hx hb hml2 hown hts h1.2 hd hM hcat (by omega) (by omega) (hgo H locs hHR hS)
                    · exact absurd h1.1 (by decide)
                  all_goals first
                    | (exfalso; simp [lk1] at hlk1; done)
                    | (exfalso; simp only [lk1, Bool.and_eq_true, Bool.or_eq_true, beq_iff_eq] at hlk1; omega)
                · have h128 : op < 129 := by
                    by_cases hgt : op < 129
                    · exact hgt
                    · exfalso
                      unfold sM at hM
                      rw [if_neg (by omega), if_neg (by omega), if_neg (by omega), if_neg (by omega), if_neg (by omega), if_neg (by omega), if_neg (by omega), if_neg (by omega)] at hM
                      cases hM
                  rw [if_pos (by omega)] at hlk1
                  cases ins
                  case invokestatic i =>
                    simp only [lkS, Bool.and_eq_true, beq_iff_eq, Bool.or_eq_true, decide_eq_true_eq] at hlk1
                    obtain ⟨rfl, ⟨⟨h1, h2⟩, h3⟩ | ⟨rfl, h1⟩⟩ := hlk1
                    · exact sndMath hx hb hml2 hown hts h1 hd ⟨h2, h3⟩ hM hcat (by omega) (by omega) (by omega) (by omega) (hgo H locs hHR hS)
                    · refine sndCI hx hb hml2 hown hts h1 hd hSW hS hM hcat (by omega) (by omega) (by omega) (by omega) (fun H' locs' hq' hz' hs' => hgo H' locs' ⟨?_, hHR.2⟩ hs')
                      exact hHR.1.kept (fun k x hk => hq' _ (hHR.2.2 k x hk))
                  case getfield i =>
                    exfalso
                    simp only [lkS, Bool.and_eq_true] at hlk1
                    obtain ⟨-, h1⟩ := hlk1
                    split at h1
                    · simp only [Bool.or_eq_true, Bool.and_eq_true, beq_iff_eq] at h1
                      rcases h1 with h1 | h1
                      · exact absurd h1.1 (by omega)
                      · exact absurd h1.1 (by omega)
                    · cases h1
                  all_goals (exfalso; simp [lkS] at hlk1; try omega)
              · cases ex
            · cases ex
          · cases ex
        rw [if_neg hn120] at ex
        have h120' : op = 120 := by omega
        subst h120'
        rw [if_neg (by omega)] at hlk1
        split at ex
        · rename_i m0 k as' d'
          split at ex
          · rename_i hkc
            split at ex
            · rename_i kd ow mx' bt' hP
              split at ex
              · rename_i hrl
                split at ex
                · rename_i v1 h1 he1
                  have hg1 := exec_grow n he1
                  have hg2 := exec_grow n ex
                  refine W.szle fun hsz => ?_
                  refine sndCall ih (q := q) hx hb hml hlsz hown hts hK hSW hsc hHR hS (hcz.imp (fun yqq => HR.size hHR hS hbase yqq hsz) (fun yqq => by omega)) hd hlk1 hkc.1 hkc.2 hP hrl.1 hrl.2 he1 hfr hlo (by omega) (by omega) (fun H1 locs1 a1 a2 => ?_)
                  refine ih q hq p e R s m args below meth c H1 locs1 _ _ Q (d' + 1) r ls _ h1 h' v lsK (pc + len) ex hlk2 hrt2 hx hb hml hown hts hin hK hSW (hg1.2.2.trans hsc) hl a1 a2 (by omega) hfr hlo (by omega) (by omega) ?_
                  have e1 : cells + (h1.1 - h.1) + (h'.1 - h1.1) = cells + (h'.1 - h.1) := by omega
                  have e2 : slots + (h1.2.1 - h.2.1) + (h'.2.1 - h1.2.1) = slots + (h'.2.1 - h.2.1) := by omega
                  rw [e1, e2]
                  exact hret
                · cases ex
              · cases ex
            · cases ex
          · cases ex
        · cases ex
      · cases hlk
