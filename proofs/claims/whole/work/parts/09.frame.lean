/-! SOUND, 4: a run of the pure machine is a walk of the machine -/
def PP : pprog := fun m => match MT[m]?, MK[m]? with
  | some q, some k => some (k.1, q.2.1, q.2.2.2.1, q.2.2.2.2.2.2)
  | _, _ => none
theorem mkAll {i : Nat} {q : mrec} {k : Nat × Nat} (h1 : MT[i]? = some q) (h2 : MK[i]? = some k) : mkF q k := by
  have hz : (MT.zip MK)[i]? = some (q, k) := by
    rw [List.getElem?_zip_eq_some]
    exact ⟨h1, h2⟩
  have hm := List.mem_of_getElem? hz
  rw [mtmk] at hm
  simp only [List.mem_append] at hm
  rcases hm with ((((((h | h) | h) | h) | h) | h) | h) | h
  · exact mkA_0 _ h
  · exact mkA_1 _ h
  · exact mkA_2 _ h
  · exact mkA_3 _ h
  · exact mkA_4 _ h
  · exact mkA_5 _ h
  · exact mkA_6 _ h
  · exact mkA_7 _ h
theorem asc_rep (sa : Nat → Nat) (base : Nat) : ∀ (n i : Nat), asc sa base i (List.replicate n none) = []
  | 0, _ => rfl
  | n + 1, i => by rw [List.replicate_succ, asc, asc_rep sa base n]
theorem asc_ent (sa : Nat → Nat) (base r : Nat) : ∀ (as : List pv) (i : Nat), asc sa base i (ent1 as ++ List.replicate r none) = lv_args i (as.map (tv sa base))
  | [], i => by rw [ent1, List.nil_append, asc_rep]; rfl
  | .inl (.inr x) :: t, i => by
    rw [ent1, List.cons_append, List.cons_append, asc, asc, asc_ent sa base r t (i + 2)]
    rfl
  | .inl (.inl x) :: t, i => by
    have e : ent1 (.inl (.inl x) :: t) = some (vI x) :: ent1 t := rfl
    rw [e, List.cons_append, asc, asc_ent sa base r t (i + 1)]
    rfl
  | .inr x :: t, i => by
    have e : ent1 (.inr x :: t) = some (.inr x) :: ent1 t := rfl
    rw [e, List.cons_append, asc, asc_ent sa base r t (i + 1)]
    cases x <;> rfl
theorem lg_ent (sa : Nat → Nat) (base : Nat) : ∀ (as : List pv), (lg_sl (as.map (tv sa base))).length = (ent1 as).length
  | [] => rfl
  | .inl (.inr x) :: t => by
    have h := lg_ent sa base t
    simp only [lg_sl, List.map_cons, List.flatMap_cons, List.length_append, ent1, List.length_cons] at h ⊢
    rw [h]
    simp [tv, Value.category]
    omega
  | .inl (.inl x) :: t => by
    have h := lg_ent sa base t
    simp only [lg_sl, List.map_cons, List.flatMap_cons, List.length_append, ent1, List.length_cons] at h ⊢
    rw [h]
    simp [tv, Value.category]
    omega
  | .inr x :: t => by
    have h := lg_ent sa base t
    simp only [lg_sl, List.map_cons, List.flatMap_cons, List.length_append, ent1, List.length_cons] at h ⊢
    rw [h]
    cases x <;> simp [tv, Value.category] <;> omega
theorem LR.entry (sa : Nat → Nat) (base : Nat) {as : List pv} {mx : Nat} (h : (ent1 as).length ≤ mx) : LR sa base ((lg_sl (as.map (tv sa base)) ++ List.replicate (mx - (lg_sl (as.map (tv sa base))).length) Slot.unset).toArray) mx (ent mx as) := by
  refine ⟨by unfold ent; rw [List.length_append, List.length_replicate]; omega, ?_⟩
  unfold ent
  rw [asc_ent]
  exact lv_entry _ (by rw [lg_ent]; exact h)
/-- what a method needs to be called, what it leaves -/
def PB (sa : Nat → Nat) (base L : Nat) (xs : Nat → Int) (ca : Nat → ClassId) (D : va_G) (h h' : pheap) : State → Prop := fun U => (U.heap.size = base + h.1 ∨ h'.1 = h.1) ∧ HR sa base ca D h U.heap ∧ va_K D myCl (ktys ca) U ∧ SW sa base L xs U U.heap
def QB (sa : Nat → Nat) (base : Nat) (ca : Nat → ClassId) (D : va_G) (v : Option pv) (h' : pheap) : Array Value → State → Outcome → State → Prop := fun _ st o t => o = .returned (v.map (tv sa base)) ∧ HR sa base ca D h' t.heap ∧ va_F (fun q : Nat => base ≤ q) st t
def rmD (d mc ms : Nat) : Room := { frames := d, cells := mc, slots := ms, locals := 40 * d }
theorem lkBs_get {own : Nat} {isIn : Bool} {cc : ByteArray} {sts : List Nat} : ∀ {ps : List Nat} {bs : List (List PI)}, lkBs own isIn cc sts ps bs = true → ∀ (b t : Nat), ps[b]? = some t → lkb own isIn cc sts t (bs.getD b []) = true
  | [], [], _, b, t, h => by simp at h
  | [], _ :: _, h, _, _, _ => by simp [lkBs] at h
  | _ :: _, [], h, _, _, _ => by simp [lkBs] at h
  | p :: ps, x :: bs, h, b, t, hb => by
    simp only [lkBs, Bool.and_eq_true] at h
    cases b with
    | zero =>
      rw [List.getElem?_cons_zero] at hb
      cases hb
      exact h.1
    | succ b =>
      rw [List.getElem?_cons_succ] at hb
      have := lkBs_get h.2 b t hb
      simpa using this
def rtB (ret : Option FieldType) (q : PI) : Bool := !(decide (110 ≤ q.1) && decide (q.1 < 120)) || retOk ret q.1 q.2.1
theorem retsOk_get {ret : Option FieldType} {bs : List (List PI)} (h : retsOk ret bs = true) (b : Nat) : (bs.getD b []).all (rtB ret) = true := by
  by_cases hb : b < bs.length
  · rw [List.getD_eq_getElem?_getD, List.getElem?_eq_getElem hb]
    exact List.all_eq_true.mp h _ (List.getElem_mem hb)
  · rw [List.getD_eq_getElem?_getD, List.getElem?_eq_none (by omega)]
    rfl
theorem nar_char {x : Int} (h : 0 ≤ x ∧ x < 65536) : narrow .char (.int (Int32.ofInt x)) = .int (Int32.ofInt x) := by
  obtain ⟨n, rfl⟩ := Int.eq_ofNat_of_zero_le h.1
  have hn : n < 65536 := by omega
  show Value.int ((Int32.ofInt (n : Int)).toUInt32.toUInt16.toUInt32.toInt32) = _
  congr 1
  rw [Int32.ofInt_eq_ofNat]
  have e : (Int32.ofNat n).toUInt32 = UInt32.ofNat n := rfl
  have e2 : (UInt32.ofNat n).toUInt16.toUInt32 = UInt32.ofNat n := by
    apply UInt32.toNat_inj.mp
    simp
    omega
  rw [e, e2]
  rfl
theorem nar_byte {x : Int} (h : -128 ≤ x ∧ x < 128) : narrow .byte (.int (Int32.ofInt x)) = .int (Int32.ofInt x) := by
  show Value.int ((Int32.ofInt x).toInt8.toInt32) = _
  congr 1
  apply Int32.toInt_inj.mp
  simp only [Int32.toInt8_ofInt, Int8.toInt_toInt32, Int8.toInt_ofInt, Int32.toInt_ofInt, Int8.size, Int32.size]
  rw [Int.bmod_eq_of_le (by omega) (by omega), Int.bmod_eq_of_le (by omega) (by omega)]
theorem lk_fin {own : Nat} {isIn : Bool} {pc len op : Nat} {sts : List Nat} {ins : Instr} {as : List Nat} {z : Int} (lk : lk1 own isIn pc sts ins len op as z = true) (ho : 110 ≤ op ∧ op < 120) :
    len = 1 ∧ ((op = 110 ∧ ins = .return_) ∨ (op = 111 ∧ ins = .ireturn) ∨ (op = 112 ∧ ins = .lreturn) ∨ (op = 113 ∧ ins = .areturn)) := by
  cases ins
  case return_ => simp only [lk1, Bool.and_eq_true, beq_iff_eq] at lk; exact ⟨lk.2, Or.inl ⟨lk.1, rfl⟩⟩
  case ireturn => simp only [lk1, Bool.and_eq_true, beq_iff_eq] at lk; exact ⟨lk.2, Or.inr (Or.inl ⟨lk.1, rfl⟩)⟩
  case lreturn => simp only [lk1, Bool.and_eq_true, beq_iff_eq] at lk; exact ⟨lk.2, Or.inr (Or.inr (Or.inl ⟨lk.1, rfl⟩))⟩
  case areturn => simp only [lk1, Bool.and_eq_true, beq_iff_eq] at lk; exact ⟨lk.2, Or.inr (Or.inr (Or.inr ⟨lk.1, rfl⟩))⟩
  all_goals first
    | (exfalso; simp [lk1] at lk; done)
    | (exfalso; simp only [lk1, Bool.and_eq_true, Bool.or_eq_true, beq_iff_eq] at lk; omega)
def FrameP (l : Launch) (sa : Nat → Nat) (base L : Nat) (xs : Nat → Int) (ca : Nat → ClassId) (D : va_G) (n : Nat) : Prop :=
  ∀ (q : mrec), lkM q = true → ∀ (p : Program) (e : Env) (R : Room) (s : State) (m : MethodId) (args : Array Value) (below : List Frame) (meth : Method) (c : Code) (H : Heap) (locs : List Loc) (cells slots : Nat) (Q : State → Prop) (d : Nat) (code : List PI) (ls : plocs) (st : List pv) (h h' : pheap) (v : Option pv) (lsK : Array Slot) (pc : Nat),
  exec PP n d q.2.2.2.2.2.2 code ls st h = some (v, h') →
  lkb q.2.1 (q.1.name == "<init>") q.2.2.1 q.2.2.2.2.2.1 pc code = true → code.all (rtB q.2.2.2.2.1) = true →
  p.tables.exec = Jvm.exec → c.code = q.2.2.1 → c.maxLocals = q.2.2.2.1 → s.vm.findClass (cnm q.2.1) = some m.cls → (∀ w ∈ gTbl, w.before args s = true) → ((q.1.name == "<init>") = true → meth.name = "<init>") →
  va_K D myCl (ktys ca) s → SW sa base L xs s s.heap → h.2.2 0 = .inl (0, L, xs) → LR sa base lsK q.2.2.2.1 ls → HR sa base ca D h H → va_S (fun a : Nat => base ≤ a) s.heap H locs → (s.heap.size + cells = base + h.1 ∨ h'.1 = h.1) →
  d ≤ R.frames → 40 * d ≤ R.locals → cells + (h'.1 - h.1) ≤ R.cells → slots + (h'.2.1 - h.2.1) ≤ R.slots →
  (∀ (pc' : Nat) (H' : Heap) (locs' : List Loc) (lsK' : Array Slot) (op : Nat) (as : List Nat) (z : Int) (ins : Instr) (len : Nat) (stv : List pv), fin op as stv = some v → 110 ≤ op ∧ op < 120 → decode q.2.2.1 pc' = .ok (ins, len) → lk1 q.2.1 (q.1.name == "<init>") pc' q.2.2.2.2.2.1 ins len op as z = true → retOk q.2.2.2.2.1 op as = true → HR sa base ca D h' H' → va_S (fun a : Nat => base ≤ a) s.heap H' locs' →
    W p l e R s m args below meth c H' locs' (cells + (h'.1 - h.1)) (slots + (h'.2.1 - h.2.1)) Q (F0 m pc' lsK' (stv.map (tv sa base)))) →
  W p l e R s m args below meth c H locs cells slots Q (F0 m pc lsK (st.map (tv sa base)))
set_option maxHeartbeats 4000000 in
theorem metOf {l : Launch} {sa : Nat → Nat} {base L : Nat} {xs : Nat → Int} {ca : Nat → ClassId} {D : va_G} {n : Nat} (IH : FrameP l sa base L xs ca D n) {q : mrec} {kn : Nat × Nat} (hq : lkM q = true) (hk : mkF q kn) {d : Nat} {as : List pv} {h h' : pheap} {v : Option pv}
    (hlen : (ent1 as).length ≤ q.2.2.2.1) (hsc : h.2.2 0 = .inl (0, L, xs)) (ex : exec PP n d q.2.2.2.2.2.2 (q.2.2.2.2.2.2.getD 0 []) (ent q.2.2.2.1 as) [] h = some (v, h')) :
    Met l q.1 (Cond.code q.1 q.2.2.1 q.2.2.2.1 q.2.2.2.2.1 :: gTbl) (rmD d (h'.1 - h.1) (h'.2.1 - h.2.1)) (va_Pc (as.map (tv sa base)) (PB sa base L xs ca D h h')) (QB sa base ca D v h') (h'.1 - h.1) (h'.2.1 - h.2.1) (fun a : Nat => base ≤ a) := by
  obtain ⟨hk1, hk2, hk3, hk4, hk5, hk6, hk7, hk8, hk9, hk10⟩ := hk
  refine Met.ofW (cc := q.2.2.1) (maxL := q.2.2.2.1) (ret := q.2.2.2.2.1) hk6 rfl ?_
  intro p e s m args below meth c s₁ B hml hv
  obtain ⟨rfl, hsz, hHR, hKs, hSW⟩ := hv
  have hx := B.exec
  have hb := B.bytes
  have hr := B.returns
  have hlocks := B.notSynchronized
  have hts : ∀ w ∈ gTbl, w.before (as.map (tv sa base)).toArray s = true := fun w hw => atoms_spec (ws := Cond.code q.1 q.2.2.1 q.2.2.2.1 q.2.2.2.2.1 :: gTbl) B.pre w (List.mem_cons_of_mem _ hw)
  have hown : s.vm.findClass (cnm q.2.1) = some m.cls := by rw [← hk5]; exact findClass_of_methodNamed B.named
  have hname : (q.1.name == "<init>") = true → meth.name = "<init>" := fun hi => by
    rw [(name_of_methodNamed B.named B.method).1]
    exact beq_iff_eq.mp hi
  simp only [lkM, Bool.and_eq_true, decide_eq_true_eq] at hq
  obtain ⟨⟨⟨hq1, hq2⟩, hq3⟩, hq4⟩ := hq
  have hst0 : q.2.2.2.2.2.1[0]? = some 0 := by
    rw [← hq4]
    exact (List.head?_eq_getElem? (l := q.2.2.2.2.2.1)).symm
  have hl := LR.entry sa base hlen
  rw [lg_entry_eq]
  refine IH q (by simp only [lkM, Bool.and_eq_true, decide_eq_true_eq]; exact ⟨⟨⟨hq1, hq2⟩, hq3⟩, hq4⟩) p e _ s m _ below meth c s.heap [] 0 0 _ d _ _ [] h h' v _ 0 ex (lkBs_get hq1 0 0 hst0) (retsOk_get hq2 0) hx hb hml hown hts hname hKs hSW hsc hl hHR va_S.rf hsz (Nat.le_refl _) (Nat.le_refl _) (by show 0 + _ ≤ h'.1 - h.1; omega) (by show 0 + _ ≤ h'.2.1 - h.2.1; omega) ?_
  intro pc' H' locs' lsK' op as' z ins len stv hfin hop hd hlk hret hHR' hS'
  simp only [Nat.zero_add]
  obtain ⟨rfl, hcase⟩ := lk_fin hlk hop
  have hfq : ∀ a ∈ locs', base ≤ a.base := hS'.2.2
  have hQ : ∀ t : State, t.heap = H' → s.WarmedH t.vm → QB sa base ca D v h' (as.map (tv sa base)).toArray s (.returned (v.map (tv sa base))) t := fun t ht _ => ⟨rfl, by rw [ht]; exact hHR', hS'.F ht⟩
  rcases hcase with ⟨rfl, rfl⟩ | ⟨rfl, rfl⟩ | ⟨rfl, rfl⟩ | ⟨rfl, rfl⟩
  · unfold fin at hfin
    simp only [↓reduceIte] at hfin
    split at hfin
    · cases hfin
      cases hrt : q.2.2.2.2.1 with
      | none => exact W.vret hx hb (hr.trans hrt) hQ hfq hd
      | some ty => rw [hrt] at hret; cases ty <;> simp [retOk] at hret
    · cases hfin
  · unfold fin at hfin
    simp only [Nat.reduceEqDiff, ↓reduceIte] at hfin
    split at hfin
    · rename_i t x
      split at hfin
      · rename_i hx2
        cases hfin
        cases hrt : q.2.2.2.2.1 with
        | none => rw [hrt] at hret; simp [retOk] at hret
        | some ty =>
          rw [hrt] at hret
          cases ty <;> simp [retOk] at hret
          · subst hret
            simp at hx2
            exact W.zret hx hb (hr.trans hrt) (nar_byte hx2) hQ hfq hd
          · subst hret
            simp at hx2
            exact W.zret hx hb (hr.trans hrt) (nar_char hx2) hQ hfq hd
          · exact W.iret hx hb (hr.trans hrt) hQ hfq hd
          · subst hret
            simp at hx2
            exact W.zret hx hb (hr.trans hrt) (by rcases hx2 with rfl | rfl <;> rfl) hQ hfq hd
      · cases hfin
    · cases hfin
  · unfold fin at hfin
    simp only [Nat.reduceEqDiff, ↓reduceIte] at hfin
    split at hfin
    · cases hfin
      cases hrt : q.2.2.2.2.1 with
      | none => rw [hrt] at hret; simp [retOk] at hret
      | some ty =>
        rw [hrt] at hret
        cases ty <;> simp [retOk] at hret
        exact W.lret hx hb (hr.trans hrt) hQ hfq hd
    · cases hfin
  · unfold fin at hfin
    simp only [Nat.reduceEqDiff, ↓reduceIte] at hfin
    split at hfin
    · rename_i x
      cases hfin
      cases hrt : q.2.2.2.2.1 with
      | none => rw [hrt] at hret; simp [retOk] at hret
      | some ty =>
        rw [hrt] at hret
        cases ty <;> simp [retOk] at hret
        exact W.aret hx hb (hr.trans hrt) (Or.inl ⟨_, rfl⟩) (by cases x with | none => exact Or.inl rfl | some a => exact Or.inr ⟨_, rfl⟩) hQ hfq hd
    · cases hfin
