/-! SOUND, 2: cells -/
def tc (sa : Nat → Nat) (base : Nat) (ca : Nat → ClassId) : pcell → va_E
  | .inl (t, n, f) => if t = 3 then .inl (ca 3, n, .inr (.inl (fun j => Int64.ofInt (f j)))) else .inl (ca t, n, .inl (fun j => Int32.ofInt (f j)))
  | .inr (c, fs) => .inr (c, fs.map (tv sa base))
def wof (sa : Nat → Nat) (base : Nat) (ca : Nat → ClassId) (h : pheap) : va_W := (List.range h.1).map (fun j => (base + j, tc sa base ca (h.2.2 (32 + j))))
theorem wof_get {sa : Nat → Nat} {base : Nat} {ca : Nat → ClassId} {h : pheap} {j : Nat} (hj : j < h.1) : (wof sa base ca h)[j]? = some (base + j, tc sa base ca (h.2.2 (32 + j))) := by
  unfold wof
  rw [List.getElem?_map, List.getElem?_range hj]
  rfl
theorem wof_at {sa : Nat → Nat} {base : Nat} {ca : Nat → ClassId} {h : pheap} {a : Nat} (ha : 32 ≤ a ∧ a < 32 + h.1) {x : pcell} (hx : h.2.2 a = x) : (wof sa base ca h)[a - 32]? = some (base + (a - 32), tc sa base ca x) := by
  rw [wof_get (by omega), show 32 + (a - 32) = a by omega, hx]
theorem fa_dyn {sa : Nat → Nat} {base a : Nat} (ha : 32 ≤ a) : fa sa base a = base + (a - 32) := by
  unfold fa
  rw [if_neg (by omega)]
theorem wof_set {sa : Nat → Nat} {base : Nat} {ca : Nat → ClassId} {h : pheap} {a u : Nat} (ha : 32 ≤ a ∧ a < 32 + h.1) (x : pcell) : (wof sa base ca h).set (a - 32) (base + (a - 32), tc sa base ca x) = wof sa base ca (h.1, u, updC h.2.2 a x) := by
  apply List.ext_getElem?
  intro j
  rw [List.getElem?_set]
  unfold wof
  simp only [List.length_map, List.length_range, List.getElem?_map]
  by_cases hj : a - 32 = j
  · rw [if_pos hj, if_pos (by omega), ← hj, List.getElem?_range (by omega)]
    simp only [Option.map_some, updC]
    rw [if_pos (by omega)]
  · rw [if_neg hj]
    by_cases h2 : j < h.1
    · rw [List.getElem?_range h2]
      simp only [Option.map_some, updC]
      rw [if_neg (by omega)]
    · rw [List.getElem?_eq_none (by simp; omega)]
      rfl
theorem wof_push {sa : Nat → Nat} {base : Nat} {ca : Nat → ClassId} {h : pheap} {u : Nat} (x : pcell) : wof sa base ca (h.1 + 1, u, updC h.2.2 (32 + h.1) x) = wof sa base ca h ++ [(base + h.1, tc sa base ca x)] := by
  unfold wof
  simp only [List.range_succ, List.map_append, List.map_cons, List.map_nil]
  congr 1
  · apply List.map_congr_left
    intro j hj
    have := List.mem_range.mp hj
    simp only [updC]
    rw [if_neg (by omega)]
  · simp only [updC, if_true]
def HR (sa : Nat → Nat) (base : Nat) (ca : Nat → ClassId) (D : va_G) (h : pheap) (H : Heap) : Prop := va_P D myCl (wof sa base ca h) H ∧ va_D (fun q : Nat => base ≤ q) (wof sa base ca h)
def ktys (ca : Nat → ClassId) : List (ClassId × FieldType) := [(ca 0, .int), (ca 1, .byte), (ca 2, .boolean), (ca 3, .long)]
theorem e_updI (f : Nat → Int) (k : Nat) (x : Int) : (fun j => Int32.ofInt (updI f k x j)) = upd (fun j => Int32.ofInt (f j)) k (Int32.ofInt x) := by
  funext j
  unfold updI upd
  split <;> rfl
theorem e_updL (f : Nat → Int) (k : Nat) (x : Int) : (fun j => Int64.ofInt (updI f k x j)) = vp_updL (fun j => Int64.ofInt (f j)) k (Int64.ofInt x) := by
  funext j
  unfold updI vp_updL
  split <;> rfl
theorem inx_in {i : Int} {n : Nat} (h : inx i n = true) : vp_in (Int32.ofInt i) n := by
  unfold inx at h
  have h2 := of_decide_eq_true h
  exact h2
def tyOk : FieldType → Bool
  | .int => true | .boolean => true | .long => true | .object _ => true | .array _ => true | _ => false
theorem myTy_ok : ∀ c, c < 12 → ∀ k, k < clN c → tyOk (myTy c k) = true := by decide +kernel
theorem fok_fits {ty : FieldType} {v : pv} (sa : Nat → Nat) (base : Nat) (ht : tyOk ty = true) (h : fok (fkN ty) v = true) : narrow ty (tv sa base v) = tv sa base v ∧ fits ty (tv sa base v) = true := by
  cases ty <;> simp only [tyOk, Bool.false_eq_true] at ht <;> simp only [fkN] at h <;> rcases v with (x | x) | (_ | x) <;> simp [fok] at h
  · exact ⟨rfl, rfl⟩
  · exact ⟨rfl, rfl⟩
  · rcases h with rfl | rfl <;> exact ⟨rfl, rfl⟩
  all_goals exact ⟨rfl, rfl⟩
theorem dflt_ok {ty : FieldType} (sa : Nat → Nat) (base : Nat) (ht : tyOk ty = true) : defaultValue ty = tv sa base (dflt (fkN ty)) := by
  cases ty <;> simp only [tyOk, Bool.false_eq_true] at ht <;> rfl
theorem clFacts (c : Nat) (hc : c < 12) : myCl[c]? = some (clR c, clT c, clN c) ∧ (∀ k, k < clN c → layF c k) ∧ (∀ k, k < clN c → parseFieldDescriptor (clT c k).2.2.1 = some (myTy c k)) ∧ (∀ a, a < clN c → ∀ b, b < clN c → a ≠ b → (clT c a).2.1 ≠ (clT c b).2.1) ∧ cnm c = clR c ∧ (myTys.getD c []).length = clN c := by
  match c, hc with
  | 0, _ => exact ⟨rfl, lay0, lty0, lnm0, rfl, rfl⟩
  | 1, _ => exact ⟨rfl, lay1, lty1, lnm1, rfl, rfl⟩
  | 2, _ => exact ⟨rfl, lay2, lty2, lnm2, rfl, rfl⟩
  | 3, _ => exact ⟨rfl, lay3, lty3, lnm3, rfl, rfl⟩
  | 4, _ => exact ⟨rfl, lay4, lty4, lnm4, rfl, rfl⟩
  | 5, _ => exact ⟨rfl, lay5, lty5, lnm5, rfl, rfl⟩
  | 6, _ => exact ⟨rfl, lay6, lty6, lnm6, rfl, rfl⟩
  | 7, _ => exact ⟨rfl, lay7, lty7, lnm7, rfl, rfl⟩
  | 8, _ => exact ⟨rfl, lay8, lty8, lnm8, rfl, rfl⟩
  | 9, _ => exact ⟨rfl, lay9, lty9, lnm9, rfl, rfl⟩
  | 10, _ => exact ⟨rfl, lay10, lty10, lnm10, rfl, rfl⟩
  | 11, _ => exact ⟨rfl, lay11, lty11, lnm11, rfl, rfl⟩
theorem clIn (c : Nat) (hc : c < 12) : ∀ w ∈ u_ws (clR c) (clT c) (clN c), w ∈ gTbl := by
  intro w hw
  obtain ⟨k, hk, rfl⟩ := List.mem_map.mp hw
  exact ((clFacts c hc).2.1 k (List.mem_range.mp hk)).1
section SN2
variable {p : Program} {l : Launch} {e : Env} {R : Room} {s : State} {m : MethodId} {args : Array Value} {below : List Frame} {meth : Method} {c : Code} {H : Heap} {locs : List Loc} {cells slots : Nat} {Q : State → Prop}
variable {cc : ByteArray} {pc mx own len op : Nat} {lsK : Array Slot} {sts : List Nat} {sa : Nat → Nat} {base : Nat} {ls ls' : plocs} {st st' : List pv} {as : List Nat} {z : Int} {ins : Instr} {isIn : Bool} {ca : Nat → ClassId} {D : va_G} {h h' : pheap}
theorem sndNewA (hx : p.tables.exec = Jvm.exec) (hb : c.code = cc) (hK : va_K D myCl (ktys ca) s) (hP : HR sa base ca D h H) (hS : va_S (fun q : Nat => base ≤ q) s.heap H locs) (hbase : base ≤ s.heap.size) (q3 : H.size = base + h.1)
    {atype : ArrayType} {t : Nat} {ty : FieldType} (hty : newarray.typeOf atype = ty) (harr : (Cond.arrayClass ty).before args s = true) (ht : (ktys ca)[t]? = some (ca t, ty)) (hob : ∀ C, ty ≠ .object C) (hcb : componentBytes ty ≤ 8)
    (hcell : ∀ (cA : ClassId) (N : Nat), arrV (ca t) N (fun _ => defaultValue ty) = vp_cell (ca t) (N, if t = 3 then .inr (.inl (fun _ => Int64.ofInt 0)) else .inl (fun _ => Int32.ofInt 0)))
    {n : Int} (hn : 0 ≤ n ∧ n ≤ 100000) (hcells : cells + 1 ≤ R.cells) (hslots : slots + n.toNat ≤ R.slots) (hd : decode cc pc = .ok (.newarray atype, 2)) {rest : List Value}
    (k : ∀ H' locs', HR sa base ca D (h.1 + 1, h.2.1 + n.toNat, updC h.2.2 (32 + h.1) (.inl (t, n.toNat, fun _ => 0))) H' → va_S (fun q : Nat => base ≤ q) s.heap H' locs' →
      W p l e R s m args below meth c H' locs' (cells + 1) (slots + n.toNat) Q (F0 m (pc + 2) lsK (.ref (fa sa base (32 + h.1)) :: rest))) :
    W p l e R s m args below meth c H locs cells slots Q (F0 m pc lsK (.int (Int32.ofInt n) :: rest)) := by
  subst hty
  have hn1 : (Int32.ofInt n).toInt = n := Int32.toInt_ofInt_of_le (by omega) (by omega)
  have hneg : ¬ Int32.ofInt n < 0 := by
    rw [Int32.lt_iff_toInt_lt, hn1]
    show ¬ n < 0
    omega
  have hN : (Int32.ofInt n).toNatClampNeg = n.toNat := by
    rw [← Int32.toNat_toInt, hn1]
  refine va_newaK hx hb harr rfl hd rfl hneg hN ?_ hcells hslots rfl (fun H1 cA e1 z1 o1 hA hf => ?_)
  · have : n.toNat ≤ 100000 := by omega
    calc n.toNat * componentBytes (newarray.typeOf atype) ≤ 100000 * 8 := Nat.mul_le_mul this hcb
      _ ≤ 536870912 := by omega
  · have hca : cA = ca t := by
      have h1 := (hK.2 t _ ht).2
      have h2 : s.vm.findClass ("[" ++ (newarray.typeOf atype).toString) = some (ca t) := by
        revert h1
        unfold va_RA
        split
        · rename_i C hC
          exact absurd hC (hob C)
        · exact id
      exact Option.some.inj (hf.symm.trans h2)
    subst hca
    obtain ⟨q1, q2⟩ := hP
    have hsz : base + h.1 = H.size := q3.symm
    have hk : ∀ (k : Nat) (x : Nat × va_E), (wof sa base ca h)[k]? = some x → H1[x.1]? = H[x.1]? := fun k x hx => o1 x.1 ((q1 k x hx).lt)
    have hfa : fa sa base (32 + h.1) = H.size := by rw [fa_dyn (by omega)]; omega
    have hA0 : base ≤ H.size := by omega
    have hkk := k H1 locs ⟨by
      rw [wof_push, hsz]
      refine (q1.kept hk).app (fun k x hx => ?_)
      have hz : k < 1 := (List.getElem?_eq_some_iff.mp hx).1
      rw [show k = 0 by omega] at hx
      cases hx
      by_cases h3 : t = 3
      · have h4 := hcell (ca t) n.toNat
        rw [if_pos h3] at h4
        simp only [tc, if_pos h3]
        show H1[H.size]? = some (vp_cell (ca 3) _)
        rw [e1, h4, h3]
      · have h4 := hcell (ca t) n.toNat
        rw [if_neg h3] at h4
        simp only [tc, if_neg h3]
        show H1[H.size]? = some (vp_cell (ca t) _)
        rw [e1, h4], by
      rw [wof_push, hsz]
      exact q2.push q1 rfl hA0⟩
      ⟨Nat.le_trans hS.1 (by omega), fun x h1 h2 => (o1 x (Nat.lt_of_lt_of_le h1 hS.1)).trans (hS.2.1 x h1 h2), hS.2.2⟩
    rw [hfa] at hkk
    exact hkk
theorem sndNew (hx : p.tables.exec = Jvm.exec) (hb : c.code = cc) (hown : s.vm.findClass (cnm own) = some m.cls) (hts : ∀ w ∈ gTbl, w.before args s = true) (hK : va_K D myCl (ktys ca) s) (hP : HR sa base ca D h H) (hS : va_S (fun q : Nat => base ≤ q) s.heap H locs) (hbase : base ≤ s.heap.size) (q3 : H.size = base + h.1)
    {i ci : Nat} (hci : ci < 12) (h1 : Gd (Cond.classLink (cnm own) i (clR ci))) (h2 : Gd (Cond.instantiable (clR ci) (clN ci))) (h3 : Gd (Cond.initialized (clR ci))) {ts : List Nat} (hts2 : ts = (myTys.getD ci []).map fkN)
    (hcells : cells + 1 ≤ R.cells) (hslots : slots + ts.length ≤ R.slots) (hd : decode cc pc = .ok (.new i, 3)) {rest : List Value}
    (k : ∀ H' locs', HR sa base ca D (h.1 + 1, h.2.1 + ts.length, updC h.2.2 (32 + h.1) (.inr (ci, ts.map dflt))) H' → va_S (fun q : Nat => base ≤ q) s.heap H' locs' →
      W p l e R s m args below meth c H' locs' (cells + 1) (slots + ts.length) Q (F0 m (pc + 3) lsK (.ref (fa sa base (32 + h.1)) :: rest))) :
    W p l e R s m args below meth c H locs cells slots Q (F0 m pc lsK rest) := by
  obtain ⟨hc, hlay, hty, hnm, hcn, hlen⟩ := clFacts ci hci
  have hl2 : ts.length = clN ci := by rw [hts2, List.length_map, hlen]
  rw [hl2] at hslots k
  have hKn := hK.1 ci _ hc
  refine W.newcK hx hb hown (hts _ h1) (hts _ h2) (hts _ h3) rfl hd hcells hslots hKn.2.1 rfl fun H1 kC hkC e1 z1 o1 => ?_
  obtain ⟨q1, q2⟩ := hP
  have hsz : base + h.1 = H.size := q3.symm
  have hk : ∀ (k : Nat) (x : Nat × va_E), (wof sa base ca h)[k]? = some x → H1[x.1]? = H[x.1]? := fun k x hx => o1 x.1 ((q1 k x hx).lt)
  have hfa : fa sa base (32 + h.1) = H.size := by rw [fa_dyn (by omega)]; omega
  have hA0 : base ≤ H.size := by omega
  have hkk := k H1 locs ⟨by
      rw [wof_push, hsz]
      refine (q1.kept hk).app (fun k x hx => ?_)
      have hz : k < 1 := (List.getElem?_eq_some_iff.mp hx).1
      rw [show k = 0 by omega] at hx
      cases hx
      refine ⟨_, hc, (u_born (myTy ci) hts (clIn ci hci) hKn hkC e1 hty).to (fun j hj => ?_)⟩
      rw [dflt_ok sa base (myTy_ok ci hci j hj)]
      unfold vp_V
      have hj2 : j < (myTys.getD ci []).length := by rw [hlen]; exact hj
      have hm : myTy ci j = (myTys.getD ci []).getD j .int := rfl
      rw [hts2, hm]
      generalize myTys.getD ci [] = L9 at hj2 ⊢
      simp [List.getD_eq_getElem?_getD, List.getElem?_eq_getElem hj2], by
      rw [wof_push, hsz]
      exact q2.push q1 rfl hA0⟩
      ⟨Nat.le_trans hS.1 (by omega), fun x h1 h2 => (o1 x (Nat.lt_of_lt_of_le h1 hS.1)).trans (hS.2.1 x h1 h2), hS.2.2⟩
  rw [hfa] at hkk
  exact hkk
theorem e_nar1 (x : Int) : Int32.ofInt (a_nar 1 x) = vp_nar .byte (Int32.ofInt x) := by
  unfold a_nar
  rw [if_pos rfl, Int32.ofInt_toInt]
theorem e_nar2 (x : Int) : Int32.ofInt (a_nar 2 x) = vp_nar .boolean (Int32.ofInt x) := by
  unfold a_nar
  rw [if_neg (by decide), if_pos rfl, Int32.ofInt_toInt]
theorem W.szle {g : JFrame} (k : H.size ≤ s.heap.size + cells → W p l e R s m args below meth c H locs cells slots Q g) : W p l e R s m args below meth c H locs cells slots Q g :=
  fun T hT X => k (by rw [← hT]; exact X.heapSize) T hT X
theorem HR.size (hP : HR sa base ca D h H) (hS : va_S (fun q : Nat => base ≤ q) s.heap H locs) (hbase : base ≤ s.heap.size) (hcz : s.heap.size + cells = base + h.1) (hsz : H.size ≤ s.heap.size + cells) : H.size = base + h.1 := by
  have h0 := hS.1
  by_cases hz : h.1 = 0
  · omega
  · have h1 := (hP.1 (h.1 - 1) _ (wof_get (by omega))).lt
    have h2 : base + (h.1 - 1) < H.size := h1
    omega
theorem sndE (hx : p.tables.exec = Jvm.exec) (hb : c.code = cc) (hown : s.vm.findClass (cnm own) = some m.cls) (hts : ∀ w ∈ gTbl, w.before args s = true) (hd : decode cc pc = .ok (ins, len)) (lk : lk1 own isIn pc sts ins len op as z = true)
    (hK : va_K D myCl (ktys ca) s) (hP : HR sa base ca D h H) (hS : va_S (fun q : Nat => base ≤ q) s.heap H locs) (hbase : base ≤ s.heap.size) (hcz : s.heap.size + cells = base + h.1 ∨ h'.1 = h.1) (hin : isIn = true → meth.name = "<init>") (ho : 60 ≤ op ∧ op < 80) (ex : sE op as st h = some (st', h')) (hcells : cells + (h'.1 - h.1) ≤ R.cells) (hslots : slots + (h'.2.1 - h.2.1) ≤ R.slots)
    (k : ∀ H' locs', HR sa base ca D h' H' → va_S (fun q : Nat => base ≤ q) s.heap H' locs' → W p l e R s m args below meth c H' locs' (cells + (h'.1 - h.1)) (slots + (h'.2.1 - h.2.1)) Q (F0 m (pc + len) lsK (st'.map (tv sa base)))) : W p l e R s m args below meth c H locs cells slots Q (F0 m pc lsK (st.map (tv sa base))) := by
  cases ins with
  | getfield i =>
    simp only [lk1, Bool.and_eq_true, beq_iff_eq, List.any_eq_true] at lk
    obtain ⟨⟨rfl, rfl⟩, ⟨q1, q2, q3, q4, q5⟩, hq, ⟨rfl, rfl⟩, rfl⟩ := lk
    unfold sE at ex
    simp only [Nat.reduceEqDiff, ↓reduceIte] at ex
    split at ex
    · rename_i k0 c0 a st0 hee
      cases hee
      split at ex
      · rename_i ha
        split at ex
        · rename_i c1 fs hcell
          split at ex
          · rename_i hcc
            subst hcc
            split at ex
            · rename_i v hv
              cases ex
              obtain ⟨f1, f2, f3⟩ := flt_all _ hq
              obtain ⟨hc, -, hty, hnm, -, -⟩ := clFacts _ f2
              have kk := k H locs hP hS
              simp only [Nat.sub_self, Nat.add_zero] at kk
              refine W.eq (g2 := F0 m pc lsK (.ref (base + (a - 32)) :: st0.map (tv sa base))) (by rw [List.map_cons, tv, fa_dyn ha.1]) ?_
              refine va_get hx hb hts (clIn _ f2) hown hK hP.1 (a - 32) (wof_at ha hcell) hc _ f1 (hts _ f3) (fun _ h => h) (v := tv sa base v) ?_ hd kk
              rw [List.getElem?_map, hv]
              rfl
            · cases ex
          · cases ex
        · cases ex
      · cases ex
    · cases ex
  | putfield i =>
    simp only [lk1, Bool.and_eq_true, beq_iff_eq, List.any_eq_true] at lk
    obtain ⟨⟨rfl, rfl⟩, ⟨q1, q2, q3, q4, q5⟩, hq, ⟨⟨rfl, rfl⟩, rfl⟩, hfin⟩ := lk
    unfold sE at ex
    simp only [Nat.reduceEqDiff, ↓reduceIte] at ex
    split at ex
    · rename_i k0 t0 c0 v a st0 hee
      cases hee
      split at ex
      · rename_i ha
        split at ex
        · rename_i c1 fs hcell
          split at ex
          · rename_i hcc
            obtain ⟨rfl, hlt⟩ := hcc
            obtain ⟨e1, e2⟩ := Prod.mk.inj (Option.some.inj ex)
            subst e1 e2
            obtain ⟨f1, f2, f3⟩ := flt_all _ hq
            obtain ⟨hc, hlay, hty, hnm, hcn, -⟩ := clFacts _ f2
            obtain ⟨g1, g2⟩ := fok_fits sa base (myTy_ok _ f2 _ f1) ha.2.2
            have kk := fun H' locs' hp hs => k H' locs' hp hs
            simp only [Nat.sub_self, Nat.add_zero] at kk
            refine W.eq (g2 := F0 m pc lsK (tv sa base v :: .ref (base + (a - 32)) :: st0.map (tv sa base))) (by rw [List.map_cons, List.map_cons, tv, fa_dyn ha.1]) ?_
            have kq : ∀ (H1 : Heap) (locs1 : List Loc), va_P D myCl ((wof sa base ca h).set (a - 32) (base + (a - 32), .inr (c1, (fs.map (tv sa base)).set q4 (tv sa base v)))) H1 → va_D (fun q : Nat => base ≤ q) ((wof sa base ca h).set (a - 32) (base + (a - 32), .inr (c1, (fs.map (tv sa base)).set q4 (tv sa base v)))) → va_S (fun q : Nat => base ≤ q) s.heap H1 locs1 → W p l e R s m args below meth c H1 locs1 cells slots Q (F0 m (pc + 3) lsK (st0.map (tv sa base))) := by
              intro H1 locs1 hp1 hd1 hs1
              refine kk H1 locs1 ⟨?_, ?_⟩ hs1
              · rw [← wof_set ⟨ha.1, ha.2.1⟩]; simp only [tc, List.map_set]; exact hp1
              · rw [← wof_set ⟨ha.1, ha.2.1⟩]; simp only [tc, List.map_set]; exact hd1
            have hw := wof_at (sa := sa) (base := base) (ca := ca) ⟨ha.1, ha.2.1⟩ hcell
            have hle : q4 < (fs.map (tv sa base)).length := by rw [List.length_map]; exact hlt
            cases hf : (clT c1 q4).2.2.2 with
            | false => exact va_put hx hb hts (clIn _ f2) (myTy c1) hty hnm hown hK hP.1 hP.2 hS (a - 32) hw hc q4 f1 (hts _ f3) (fun _ h => h) hf (hty q4 f1) g1 g2 hle hd kq
            | true =>
              rw [hf] at hfin
              simp only [Bool.not_true, Bool.false_or, Bool.and_eq_true, beq_iff_eq] at hfin
              obtain ⟨hi, rfl⟩ := hfin
              exact va_putF hx hb hts (clIn _ f2) (myTy q1) hty hnm hown hK hP.1 hP.2 hS (a - 32) hw hc q4 f1 (hts _ f3) (fun _ h => h) hf (hin hi) (by rw [hcn]; exact (hlay q4 f1).2) (hty q4 f1) g1 g2 hle hd kq
          · cases ex
        · cases ex
      · cases ex
    · cases ex
  | iaload =>
    simp only [lk1, Bool.and_eq_true, beq_iff_eq] at lk
    obtain ⟨rfl, rfl⟩ := lk
    unfold sE at ex
    simp only [Nat.reduceEqDiff, ↓reduceIte] at ex
    split at ex
    · rename_i i a st0
      split at ex
      · rename_i ha
        split at ex
        · rename_i n f hcell
          split at ex
          · rename_i hix
            cases ex
            have kk := k H locs hP hS
            simp only [Nat.sub_self, Nat.add_zero] at kk
            refine W.eq (g2 := F0 m pc lsK (.int (Int32.ofInt i) :: .ref (base + (a - 32)) :: st0.map (tv sa base))) (by simp only [List.map_cons, tv, fa_dyn ha.1]) ?_
            exact va_iald hx hb hK hP.1 (a - 32) 0 (wof_at ha hcell) rfl (inx_in hix) hd kk
          · cases ex
        · cases ex
      · cases ex
    · cases ex
  | laload =>
    simp only [lk1, Bool.and_eq_true, beq_iff_eq] at lk
    obtain ⟨rfl, rfl⟩ := lk
    unfold sE at ex
    simp only [Nat.reduceEqDiff, ↓reduceIte] at ex
    split at ex
    · rename_i i a st0
      split at ex
      · rename_i ha
        split at ex
        · rename_i n f hcell
          split at ex
          · rename_i hix
            cases ex
            have kk := k H locs hP hS
            simp only [Nat.sub_self, Nat.add_zero] at kk
            refine W.eq (g2 := F0 m pc lsK (.int (Int32.ofInt i) :: .ref (base + (a - 32)) :: st0.map (tv sa base))) (by simp only [List.map_cons, tv, fa_dyn ha.1]) ?_
            exact va_lald hx hb hK hP.1 (a - 32) 3 (wof_at ha hcell) rfl (inx_in hix) hd kk
          · cases ex
        · cases ex
      · cases ex
    · cases ex
  | baload =>
    simp only [lk1, Bool.and_eq_true, beq_iff_eq] at lk
    obtain ⟨rfl, rfl⟩ := lk
    unfold sE at ex
    simp only [Nat.reduceEqDiff, ↓reduceIte] at ex
    split at ex
    · rename_i i a st0
      split at ex
      · rename_i ha
        split at ex
        · rename_i n f hcell
          split at ex
          · rename_i hix
            cases ex
            have kk := k H locs hP hS
            simp only [Nat.sub_self, Nat.add_zero] at kk
            refine W.eq (g2 := F0 m pc lsK (.int (Int32.ofInt i) :: .ref (base + (a - 32)) :: st0.map (tv sa base))) (by simp only [List.map_cons, tv, fa_dyn ha.1]) ?_
            exact va_bald hx hb hK hP.1 (a - 32) 1 (wof_at ha hcell) rfl (inx_in hix) hd kk
          · cases ex
        · rename_i n f hcell
          split at ex
          · rename_i hix
            cases ex
            have kk := k H locs hP hS
            simp only [Nat.sub_self, Nat.add_zero] at kk
            refine W.eq (g2 := F0 m pc lsK (.int (Int32.ofInt i) :: .ref (base + (a - 32)) :: st0.map (tv sa base))) (by simp only [List.map_cons, tv, fa_dyn ha.1]) ?_
            exact va_zald hx hb hK hP.1 (a - 32) 2 (wof_at ha hcell) rfl (inx_in hix) hd kk
          · cases ex
        · cases ex
      · cases ex
    · cases ex
  | iastore =>
    simp only [lk1, Bool.and_eq_true, beq_iff_eq] at lk
    obtain ⟨rfl, rfl⟩ := lk
    unfold sE at ex
    simp only [Nat.reduceEqDiff, ↓reduceIte] at ex
    split at ex
    · rename_i x i a st0
      split at ex
      · rename_i ha
        split at ex
        · rename_i n f hcell
          split at ex
          · rename_i hix
            obtain ⟨e1, e2⟩ := Prod.mk.inj (Option.some.inj ex)
            subst e1 e2
            have kk := fun H' locs' hp hs => k H' locs' hp hs
            simp only [Nat.sub_self, Nat.add_zero] at kk
            refine W.eq (g2 := F0 m pc lsK (.int (Int32.ofInt x) :: .int (Int32.ofInt i) :: .ref (base + (a - 32)) :: st0.map (tv sa base))) (by simp only [List.map_cons, tv, fa_dyn ha.1]) ?_
            refine va_iast hx hb hK hP.1 hP.2 hS (a - 32) 0 (wof_at ha hcell) rfl (inx_in hix) hd (fun H1 locs1 hp1 hd1 hs1 => kk H1 locs1 ⟨?_, ?_⟩ hs1)
            · rw [← wof_set ha]; simp only [tc, Nat.reduceEqDiff, ↓reduceIte, e_updI]; exact hp1
            · rw [← wof_set ha]; simp only [tc, Nat.reduceEqDiff, ↓reduceIte, e_updI]; exact hd1
          · cases ex
        · cases ex
      · cases ex
    · cases ex
  | lastore =>
    simp only [lk1, Bool.and_eq_true, beq_iff_eq] at lk
    obtain ⟨rfl, rfl⟩ := lk
    unfold sE at ex
    simp only [Nat.reduceEqDiff, ↓reduceIte] at ex
    split at ex
    · rename_i x i a st0
      split at ex
      · rename_i ha
        split at ex
        · rename_i n f hcell
          split at ex
          · rename_i hix
            obtain ⟨e1, e2⟩ := Prod.mk.inj (Option.some.inj ex)
            subst e1 e2
            have kk := fun H' locs' hp hs => k H' locs' hp hs
            simp only [Nat.sub_self, Nat.add_zero] at kk
            refine W.eq (g2 := F0 m pc lsK (.long (Int64.ofInt x) :: .int (Int32.ofInt i) :: .ref (base + (a - 32)) :: st0.map (tv sa base))) (by simp only [List.map_cons, tv, fa_dyn ha.1]) ?_
            refine va_last hx hb hK hP.1 hP.2 hS (a - 32) 3 (wof_at ha hcell) rfl (inx_in hix) hd (fun H1 locs1 hp1 hd1 hs1 => kk H1 locs1 ⟨?_, ?_⟩ hs1)
            · rw [← wof_set ha]; simp only [tc, Nat.reduceEqDiff, ↓reduceIte, e_updL]; exact hp1
            · rw [← wof_set ha]; simp only [tc, Nat.reduceEqDiff, ↓reduceIte, e_updL]; exact hd1
          · cases ex
        · cases ex
      · cases ex
    · cases ex
  | bastore =>
    simp only [lk1, Bool.and_eq_true, beq_iff_eq] at lk
    obtain ⟨rfl, rfl⟩ := lk
    unfold sE at ex
    simp only [Nat.reduceEqDiff, ↓reduceIte] at ex
    split at ex
    · rename_i x i a st0
      split at ex
      · rename_i ha
        split at ex
        · rename_i n f hcell
          split at ex
          · rename_i hix
            obtain ⟨e1, e2⟩ := Prod.mk.inj (Option.some.inj ex)
            subst e1 e2
            have kk := fun H' locs' hp hs => k H' locs' hp hs
            simp only [Nat.sub_self, Nat.add_zero] at kk
            refine W.eq (g2 := F0 m pc lsK (.int (Int32.ofInt x) :: .int (Int32.ofInt i) :: .ref (base + (a - 32)) :: st0.map (tv sa base))) (by simp only [List.map_cons, tv, fa_dyn ha.1]) ?_
            refine va_bast hx hb hK hP.1 hP.2 hS (a - 32) 1 (wof_at ha hcell) rfl (inx_in hix) hd (fun H1 locs1 hp1 hd1 hs1 => kk H1 locs1 ⟨?_, ?_⟩ hs1)
            · rw [← wof_set ha]; simp only [tc, Nat.reduceEqDiff, ↓reduceIte, e_updI, e_nar1]; exact hp1
            · rw [← wof_set ha]; simp only [tc, Nat.reduceEqDiff, ↓reduceIte, e_updI, e_nar1]; exact hd1
          · cases ex
        · rename_i n f hcell
          split at ex
          · rename_i hix
            obtain ⟨e1, e2⟩ := Prod.mk.inj (Option.some.inj ex)
            subst e1 e2
            have kk := fun H' locs' hp hs => k H' locs' hp hs
            simp only [Nat.sub_self, Nat.add_zero] at kk
            refine W.eq (g2 := F0 m pc lsK (.int (Int32.ofInt x) :: .int (Int32.ofInt i) :: .ref (base + (a - 32)) :: st0.map (tv sa base))) (by simp only [List.map_cons, tv, fa_dyn ha.1]) ?_
            refine va_zast hx hb hK hP.1 hP.2 hS (a - 32) 2 (wof_at ha hcell) rfl (inx_in hix) hd (fun H1 locs1 hp1 hd1 hs1 => kk H1 locs1 ⟨?_, ?_⟩ hs1)
            · rw [← wof_set ha]; simp only [tc, Nat.reduceEqDiff, ↓reduceIte, e_updI, e_nar2]; exact hp1
            · rw [← wof_set ha]; simp only [tc, Nat.reduceEqDiff, ↓reduceIte, e_updI, e_nar2]; exact hd1
          · cases ex
        · cases ex
      · cases ex
    · cases ex
  | arraylength =>
    simp only [lk1, Bool.and_eq_true, beq_iff_eq] at lk
    obtain ⟨rfl, rfl⟩ := lk
    unfold sE at ex
    simp only [Nat.reduceEqDiff, ↓reduceIte] at ex
    split at ex
    · rename_i a st0
      split at ex
      · rename_i ha
        split at ex
        · rename_i t n f hcell
          split at ex
          · rename_i ht
            cases ex
            have kk := k H locs hP hS
            simp only [Nat.sub_self, Nat.add_zero] at kk
            refine W.eq (g2 := F0 m pc lsK (.ref (base + (a - 32)) :: st0.map (tv sa base))) (by simp only [List.map_cons, tv, fa_dyn ha.1]) ?_
            have hw := wof_at (sa := sa) (base := base) (ca := ca) ha hcell
            match t, ht with
            | 0, _ => exact va_alen hx hb hK hP.1 (a - 32) 0 hw rfl (v := Int32.ofInt (n : Int)) (Int32.ofInt_eq_ofNat (n := n)).symm hd kk
            | 1, _ => exact va_alen hx hb hK hP.1 (a - 32) 1 hw rfl (v := Int32.ofInt (n : Int)) (Int32.ofInt_eq_ofNat (n := n)).symm hd kk
            | 2, _ => exact va_alen hx hb hK hP.1 (a - 32) 2 hw rfl (v := Int32.ofInt (n : Int)) (Int32.ofInt_eq_ofNat (n := n)).symm hd kk
            | 3, _ => exact va_alen hx hb hK hP.1 (a - 32) 3 hw rfl (v := Int32.ofInt (n : Int)) (Int32.ofInt_eq_ofNat (n := n)).symm hd kk
          · cases ex
        · cases ex
      · cases ex
    · cases ex
  | new i =>
    simp only [lk1, Bool.and_eq_true, beq_iff_eq, List.any_eq_true] at lk
    obtain ⟨⟨rfl, rfl⟩, ⟨q1, q2, q3, q4, q5, q6⟩, hq, ⟨rfl, rfl⟩, hm⟩ := lk
    unfold sE at ex
    simp only [Nat.reduceEqDiff, ↓reduceIte] at ex
    split at ex
    · rename_i c0 e0 ts
      cases ex
      simp only [Bool.and_eq_true, beq_iff_eq] at hm
      obtain ⟨rfl, hts2⟩ := hm
      obtain ⟨f1, f2, f3, f4⟩ := nlt_all _ hq
      have hcz : s.heap.size + cells = base + h.1 := hcz.resolve_right (fun (yqq : h.1 + 1 = h.1) => by omega)
      have e1 : h.1 + 1 - h.1 = 1 := by omega
      have e2 : h.2.1 + ts.length - h.2.1 = ts.length := by omega
      simp only [e1, e2] at hcells hslots k
      exact W.szle fun hsz => sndNew hx hb hown hts hK hP hS hbase (HR.size hP hS hbase hcz hsz) f1 f2 f3 f4 hts2 hcells hslots hd k
    · cases ex
  | newarray t =>
    simp only [lk1, Bool.and_eq_true, beq_iff_eq] at lk
    obtain ⟨⟨rfl, rfl⟩, rfl⟩ := lk
    unfold sE at ex
    simp only [Nat.reduceEqDiff, ↓reduceIte] at ex
    split at ex
    · rename_i t0 n st0 hee
      split at ex
      · rename_i hn
        cases ex
        have hcy : s.heap.size + cells = base + h.1 := hcz.resolve_right (fun (yqq : h.1 + 1 = h.1) => by omega)
        have e1 : h.1 + 1 - h.1 = 1 := by omega
        have e2 : h.2.1 + n.toNat - h.2.1 = n.toNat := by omega
        simp only [e1, e2] at hcells hslots k
        cases t with
        | int =>
          cases hee
          exact W.szle fun hsz => sndNewA (t := 0) (ty := .int) hx hb hK hP hS hbase (HR.size hP hS hbase hcy hsz) rfl (hts _ aposOk.1) rfl (fun _ h => by cases h) (by decide) (fun _ _ => rfl) ⟨hn.1, hn.2.1⟩ hcells hslots hd k
        | byte =>
          cases hee
          exact W.szle fun hsz => sndNewA (t := 1) (ty := .byte) hx hb hK hP hS hbase (HR.size hP hS hbase hcy hsz) rfl (hts _ aposOk.2.1) rfl (fun _ h => by cases h) (by decide) (fun _ _ => rfl) ⟨hn.1, hn.2.1⟩ hcells hslots hd k
        | boolean =>
          cases hee
          exact W.szle fun hsz => sndNewA (t := 2) (ty := .boolean) hx hb hK hP hS hbase (HR.size hP hS hbase hcy hsz) rfl (hts _ aposOk.2.2.1) rfl (fun _ h => by cases h) (by decide) (fun _ _ => rfl) ⟨hn.1, hn.2.1⟩ hcells hslots hd k
        | long =>
          cases hee
          exact W.szle fun hsz => sndNewA (t := 3) (ty := .long) hx hb hK hP hS hbase (HR.size hP hS hbase hcy hsz) rfl (hts _ aposOk.2.2.2) rfl (fun _ h => by cases h) (by decide) (fun _ _ => rfl) ⟨hn.1, hn.2.1⟩ hcells hslots hd k
        | _ => cases hee; exact absurd hn.2.2 (by decide)
      · cases ex
    · cases ex
  | _ =>
    first
      | (exfalso; simp [lk1] at lk; done)
      | (exfalso; simp only [lk1, Bool.and_eq_true, Bool.or_eq_true, beq_iff_eq] at lk; omega)
end SN2
