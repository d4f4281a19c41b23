/-! SOUND, 3: jumps, Math, Object.<init> -/
theorem icnd_0 (a b : Int) : icnd 0 a b = true ↔ Int32.ofInt a = Int32.ofInt b := by
  simp only [icnd, ↓reduceIte, decide_eq_true_eq, w32, Int32.toInt_inj]
theorem icnd_1 (a b : Int) : icnd 1 a b = true ↔ ¬ Int32.ofInt a = Int32.ofInt b := by
  simp only [icnd, Nat.reduceEqDiff, ↓reduceIte, decide_eq_true_eq, w32, ne_eq, Int32.toInt_inj]
theorem icnd_2 (a b : Int) : icnd 2 a b = true ↔ Int32.ofInt a < Int32.ofInt b := by
  simp [icnd, w32, Int32.lt_iff_toInt_lt]
theorem icnd_3 (a b : Int) : icnd 3 a b = true ↔ Int32.ofInt b ≤ Int32.ofInt a := by
  simp [icnd, w32, Int32.le_iff_toInt_le]
theorem icnd_4 (a b : Int) : icnd 4 a b = true ↔ Int32.ofInt b < Int32.ofInt a := by
  simp [icnd, w32, Int32.lt_iff_toInt_lt]
theorem icnd_5 (a b : Int) : icnd 5 a b = true ↔ Int32.ofInt a ≤ Int32.ofInt b := by
  simp [icnd, w32, Int32.le_iff_toInt_le]
theorem toB_spec {sts : List Nat} {b pc : Nat} {off : Int} (h : toB sts b pc off = true) : ∃ t : Nat, sts[b]? = some t ∧ (pc : Int) + off = (t : Int) := by
  unfold toB at h
  split at h
  · rename_i t ht
    exact ⟨t, ht, of_decide_eq_true h⟩
  · cases h
theorem lkT_spec {sts : List Nat} {pc : Nat} : ∀ (offs : List Int) (bs : List Nat), lkT sts pc offs bs = true → offs.length = bs.length ∧ ∀ (j : Nat) (off : Int), offs[j]? = some off → ∃ b t : Nat, bs[j]? = some b ∧ sts[b]? = some t ∧ (pc : Int) + off = (t : Int)
  | [], [], _ => ⟨rfl, fun j off h => by simp at h⟩
  | [], _ :: _, h => by simp [lkT] at h
  | _ :: _, [], h => by simp [lkT] at h
  | o :: offs, b :: bs, h => by
    simp only [lkT, Bool.and_eq_true] at h
    obtain ⟨i1, i2⟩ := lkT_spec offs bs h.2
    refine ⟨by rw [List.length_cons, List.length_cons, i1], fun j off hj => ?_⟩
    cases j with
    | zero =>
      rw [List.getElem?_cons_zero] at hj
      cases hj
      obtain ⟨t, t1, t2⟩ := toB_spec h.1
      exact ⟨b, t, rfl, t1, t2⟩
    | succ j =>
      rw [List.getElem?_cons_succ] at hj
      obtain ⟨b', t, t0, t1, t2⟩ := i2 j off hj
      exact ⟨b', t, by rw [List.getElem?_cons_succ]; exact t0, t1, t2⟩
theorem lkSw_spec {sts : List Nat} {pc : Nat} {d : Int} {db : Nat} (hd : toB sts db pc d = true) (x : Int) : ∀ (ps : List (Int × Int)) (kbs : List Nat), lkSw sts pc ps kbs = true → ∃ t : Nat, sts[lsw x db kbs]? = some t ∧ (pc : Int) + Op.lookupswitch.offset ps d (w32 x) = (t : Int)
  | [], [], _ => by
    obtain ⟨t, t1, t2⟩ := toB_spec hd
    exact ⟨t, t1, t2⟩
  | [], _ :: _, h => by simp [lkSw] at h
  | (_, _) :: _, [], h => by simp [lkSw] at h
  | (_, _) :: _, [_], h => by simp [lkSw] at h
  | (k, off) :: ps, k' :: b :: t, h => by
    simp only [lkSw, Bool.and_eq_true, decide_eq_true_eq] at h
    obtain ⟨⟨⟨rfl, -⟩, h3⟩, h4⟩ := h
    rw [Op.lookupswitch.offset_cons]
    unfold lsw
    by_cases hk : w32 x = (k' : Int)
    · rw [if_pos hk, if_pos hk.symm]
      exact toB_spec h3
    · rw [if_neg hk, if_neg (fun q => hk q.symm)]
      exact lkSw_spec hd x ps t h4
theorem tv_rf (sa : Nat → Nat) (base : Nat) (x : Option Nat) : tv sa base (.inr x) = va_rf (x.map (fa sa base)) := by cases x <;> rfl
theorem rok_inj {sa : Nat → Nat} {base : Nat} (hinj : ∀ j k, ((1 ≤ j ∧ j < 20) ∨ 32 ≤ j) → ((1 ≤ k ∧ k < 20) ∨ 32 ≤ k) → fa sa base j = fa sa base k → j = k) {x y : Option Nat} (h1 : rok x = true) (h2 : rok y = true) : x.map (fa sa base) = y.map (fa sa base) ↔ x = y := by
  constructor
  · intro q
    cases x <;> cases y <;> simp at q
    · rfl
    · simp only [rok, Bool.or_eq_true, Bool.and_eq_true, decide_eq_true_eq] at h1 h2
      rw [hinj _ _ h1 h2 q]
  · intro q
    rw [q]
section SN3
variable {p : Program} {l : Launch} {e : Env} {R : Room} {s : State} {m : MethodId} {args : Array Value} {below : List Frame} {meth : Method} {c : Code} {H : Heap} {locs : List Loc} {cells slots : Nat} {Q : State → Prop}
variable {cc : ByteArray} {pc mx own len op : Nat} {lsK : Array Slot} {sts : List Nat} {sa : Nat → Nat} {base : Nat} {ls ls' : plocs} {st st' vs : List pv} {as : List Nat} {z : Int} {ins : Instr} {isIn : Bool} {ob : Option Nat}

theorem sndJ (hx : p.tables.exec = Jvm.exec) (hb : c.code = cc) (hinj : ∀ j k, ((1 ≤ j ∧ j < 20) ∨ 32 ≤ j) → ((1 ≤ k ∧ k < 20) ∨ 32 ≤ k) → fa sa base j = fa sa base k → j = k) (hd : decode cc pc = .ok (ins, len)) (lk : lk1 own isIn pc sts ins len op as z = true) (ho : 100 ≤ op ∧ op < 107) (ex : jmp op as z st = some (ob, st'))
    (k1 : ∀ b t : Nat, ob = some b → sts[b]? = some t → W p l e R s m args below meth c H locs cells slots Q (F0 m t lsK (st'.map (tv sa base)))) (k2 : ob = none → W p l e R s m args below meth c H locs cells slots Q (F0 m (pc + len) lsK (st'.map (tv sa base)))) : W p l e R s m args below meth c H locs cells slots Q (F0 m pc lsK (st.map (tv sa base))) := by
  cases ins with
  | goto off =>
    simp only [lk1, Bool.and_eq_true, beq_iff_eq] at lk
    obtain ⟨⟨rfl, rfl⟩, hm⟩ := lk
    unfold jmp at ex
    simp only [Nat.reduceEqDiff, ↓reduceIte] at ex
    split at ex
    · rename_i b
      obtain ⟨e1, e2⟩ := Prod.mk.inj (Option.some.inj ex)
      subst e1 e2
      obtain ⟨t, t1, t2⟩ := toB_spec hm
      exact lv_goto hx hb hd t2 (k1 b t rfl t1)
    · cases ex
  | ifCond c0 off =>
    simp only [lk1, Bool.and_eq_true, beq_iff_eq] at lk
    obtain ⟨⟨rfl, rfl⟩, hm⟩ := lk
    unfold jmp at ex
    simp only [Nat.reduceEqDiff, ↓reduceIte] at ex
    split at ex
    · rename_i c1 b x st0
      obtain ⟨e1, e2⟩ := Prod.mk.inj (Option.some.inj ex)
      subst e1 e2
      simp only [Bool.and_eq_true, beq_iff_eq] at hm
      obtain ⟨rfl, hm⟩ := hm
      obtain ⟨t, t1, t2⟩ := toB_spec hm
      cases c0 with
      | eq => exact lv_if_eq hx hb hd t2 (fun q => k1 b t (if_pos ((icnd_0 x 0).mpr q)) t1) (fun q => k2 (if_neg (fun r => q ((icnd_0 x 0).mp r))))
      | ne => exact lv_if_ne hx hb hd t2 (fun q => k1 b t (if_pos ((icnd_1 x 0).mpr q)) t1) (fun q => k2 (if_neg (fun r => ((icnd_1 x 0).mp r) q)))
      | lt => exact lv_if_lt hx hb hd t2 (fun q => k1 b t (if_pos ((icnd_2 x 0).mpr q)) t1) (fun q => k2 (if_neg (fun r => q ((icnd_2 x 0).mp r))))
      | ge => exact lv_if_ge hx hb hd t2 (fun q => k1 b t (if_pos ((icnd_3 x 0).mpr q)) t1) (fun q => k2 (if_neg (fun r => q ((icnd_3 x 0).mp r))))
      | gt => exact lv_if_gt hx hb hd t2 (fun q => k1 b t (if_pos ((icnd_4 x 0).mpr q)) t1) (fun q => k2 (if_neg (fun r => q ((icnd_4 x 0).mp r))))
      | le => exact lv_if_le hx hb hd t2 (fun q => k1 b t (if_pos ((icnd_5 x 0).mpr q)) t1) (fun q => k2 (if_neg (fun r => q ((icnd_5 x 0).mp r))))
    · cases ex
  | if_icmp c0 off =>
    simp only [lk1, Bool.and_eq_true, beq_iff_eq] at lk
    obtain ⟨⟨rfl, rfl⟩, hm⟩ := lk
    unfold jmp at ex
    simp only [Nat.reduceEqDiff, ↓reduceIte] at ex
    split at ex
    · rename_i c1 b y x st0
      obtain ⟨e1, e2⟩ := Prod.mk.inj (Option.some.inj ex)
      subst e1 e2
      simp only [Bool.and_eq_true, beq_iff_eq] at hm
      obtain ⟨rfl, hm⟩ := hm
      obtain ⟨t, t1, t2⟩ := toB_spec hm
      cases c0 with
      | eq => exact lv_icmp_eq hx hb hd t2 (fun q => k1 b t (if_pos ((icnd_0 x y).mpr q)) t1) (fun q => k2 (if_neg (fun r => q ((icnd_0 x y).mp r))))
      | ne => exact lv_icmp_ne hx hb hd t2 (fun q => k1 b t (if_pos ((icnd_1 x y).mpr q)) t1) (fun q => k2 (if_neg (fun r => ((icnd_1 x y).mp r) q)))
      | lt => exact lv_icmp_lt hx hb hd t2 (fun q => k1 b t (if_pos ((icnd_2 x y).mpr q)) t1) (fun q => k2 (if_neg (fun r => q ((icnd_2 x y).mp r))))
      | ge => exact lv_icmp_ge hx hb hd t2 (fun q => k1 b t (if_pos ((icnd_3 x y).mpr q)) t1) (fun q => k2 (if_neg (fun r => q ((icnd_3 x y).mp r))))
      | gt => exact lv_icmp_gt hx hb hd t2 (fun q => k1 b t (if_pos ((icnd_4 x y).mpr q)) t1) (fun q => k2 (if_neg (fun r => q ((icnd_4 x y).mp r))))
      | le => exact lv_icmp_le hx hb hd t2 (fun q => k1 b t (if_pos ((icnd_5 x y).mpr q)) t1) (fun q => k2 (if_neg (fun r => q ((icnd_5 x y).mp r))))
    · cases ex
  | if_acmp c0 off =>
    simp only [lk1, Bool.and_eq_true, beq_iff_eq] at lk
    obtain ⟨⟨rfl, rfl⟩, hm⟩ := lk
    unfold jmp at ex
    simp only [Nat.reduceEqDiff, ↓reduceIte] at ex
    split at ex
    · rename_i c1 b y x st0
      split at ex
      · cases ex
      · rename_i hok
        obtain ⟨e1, e2⟩ := Prod.mk.inj (Option.some.inj ex)
        subst e1 e2
        simp only [Bool.and_eq_true, beq_iff_eq] at hm
        obtain ⟨rfl, hm⟩ := hm
        obtain ⟨t, t1, t2⟩ := toB_spec hm
        have hrok := (Bool.not_eq_false _).mp hok
        rw [Bool.and_eq_true] at hrok
        have hxy : x.map (fa sa base) = y.map (fa sa base) ↔ x = y := rok_inj hinj hrok.1 hrok.2
        have hst : (Sum.inr y :: Sum.inr x :: st0 : List pv).map (tv sa base) = va_rf (y.map (fa sa base)) :: va_rf (x.map (fa sa base)) :: st0.map (tv sa base) := by rw [List.map_cons, List.map_cons, tv_rf, tv_rf]
        rw [hst]
        cases c0 with
        | eq => exact lv_acmp_eq hx hb hd t2 (fun q => k1 b t (by simp [acN, hxy.mp q]) t1) (fun q => k2 (by have hne : ¬ x = y := fun r => q (hxy.mpr r); simp [acN, hne]))
        | ne => exact lv_acmp_ne hx hb hd t2 (fun q => k1 b t (by have hne : ¬ x = y := fun r => q (hxy.mpr r); simp [acN, hne]) t1) (fun q => k2 (by simp [acN, hxy.mp q]))
    · cases ex
  | ifnull off =>
    simp only [lk1, Bool.and_eq_true, beq_iff_eq] at lk
    obtain ⟨⟨rfl, rfl⟩, hm⟩ := lk
    unfold jmp at ex
    simp only [Nat.reduceEqDiff, ↓reduceIte] at ex
    split at ex
    · rename_i c1 b x st0
      obtain ⟨e1, e2⟩ := Prod.mk.inj (Option.some.inj ex)
      subst e1 e2
      simp only [Bool.and_eq_true, beq_iff_eq] at hm
      obtain ⟨rfl, hm⟩ := hm
      obtain ⟨t, t1, t2⟩ := toB_spec hm
      cases x with
      | none => exact lv_ifnullN hx hb hd t2 (k1 b t (by simp) t1)
      | some x => exact lv_ifnull hx hb hd (k2 (by simp))
    · cases ex
  | ifnonnull off =>
    simp only [lk1, Bool.and_eq_true, beq_iff_eq] at lk
    obtain ⟨⟨rfl, rfl⟩, hm⟩ := lk
    unfold jmp at ex
    simp only [Nat.reduceEqDiff, ↓reduceIte] at ex
    split at ex
    · rename_i c1 b x st0
      obtain ⟨e1, e2⟩ := Prod.mk.inj (Option.some.inj ex)
      subst e1 e2
      simp only [Bool.and_eq_true, beq_iff_eq] at hm
      obtain ⟨rfl, hm⟩ := hm
      obtain ⟨t, t1, t2⟩ := toB_spec hm
      cases x with
      | none => exact lv_ifnonnullN hx hb hd (k2 (by simp))
      | some x => exact lv_ifnonnull hx hb hd t2 (k1 b t (by simp) t1)
    · cases ex
  | tableswitch d lo hi offs =>
    simp only [lk1, Bool.and_eq_true, beq_iff_eq, decide_eq_true_eq] at lk
    obtain ⟨⟨⟨rfl, hm⟩, rfl⟩, hsz⟩ := lk
    unfold jmp at ex
    simp only [Nat.reduceEqDiff, ↓reduceIte] at ex
    split at ex
    · rename_i db bs x st0
      obtain ⟨e1, e2⟩ := Prod.mk.inj (Option.some.inj ex)
      subst e1 e2
      simp only [Bool.and_eq_true] at hm
      obtain ⟨hdb, hT⟩ := hm
      obtain ⟨hlen, hTs⟩ := lkT_spec _ _ hT
      have hln : bs.length = offs.size := by rw [← hlen]; simp
      by_cases hlo : w32 x < z
      · obtain ⟨t, t1, t2⟩ := toB_spec hdb
        exact lv_tableOut hx hb hd (Or.inl hlo) t2 (k1 db t (by rw [if_pos hlo]) t1)
      · by_cases hhi : hi < w32 x
        · obtain ⟨t, t1, t2⟩ := toB_spec hdb
          refine lv_tableOut hx hb hd (Or.inr hhi) t2 (k1 db t ?_ t1)
          rw [if_neg hlo, List.getD_eq_getElem?_getD, List.getElem?_eq_none (by omega)]
          rfl
        · have hj : (w32 x - z).toNat < offs.size := by omega
          obtain ⟨b, t, b1, t1, t2⟩ := hTs (w32 x - z).toNat offs[(w32 x - z).toNat] (by simp [hj])
          refine lv_tableIn hx hb hd hlo hhi (Array.getElem?_eq_getElem hj) t2 (k1 b t ?_ t1)
          rw [if_neg hlo, List.getD_eq_getElem?_getD, b1]
          rfl
    · cases ex
  | lookupswitch d ps =>
    simp only [lk1, Bool.and_eq_true, beq_iff_eq] at lk
    obtain ⟨⟨rfl, hm⟩, hp⟩ := lk
    unfold jmp at ex
    simp only [Nat.reduceEqDiff, ↓reduceIte] at ex
    split at ex
    · rename_i db kbs x st0
      obtain ⟨e1, e2⟩ := Prod.mk.inj (Option.some.inj ex)
      subst e1 e2
      simp only [Bool.and_eq_true] at hm
      obtain ⟨t, t1, t2⟩ := lkSw_spec hm.1 x _ _ hm.2
      exact lv_lookup hx hb hd hp rfl t2 (k1 _ t rfl t1)
    · cases ex
  | _ =>
    first
      | (exfalso; simp [lk1] at lk; done)
      | (exfalso; simp only [lk1, Bool.and_eq_true, Bool.or_eq_true, beq_iff_eq] at lk; omega)
theorem scat_map (sa : Nat → Nat) (base : Nat) : ∀ st : List pv, ((st.map (tv sa base)).map fun v => v.category).sum = scat st
  | [] => rfl
  | v :: t => by rw [List.map_cons, List.map_cons, List.sum_cons, scat_map sa base t, tv_cat, scat]
theorem e_max (a b : Int) : Int32.ofInt (i_max a b) = if Int32.ofInt a < Int32.ofInt b then Int32.ofInt b else Int32.ofInt a := by
  unfold i_max w32
  simp only [Int32.lt_iff_toInt_lt]
  split <;> rfl
theorem e_min (a b : Int) : Int32.ofInt (i_min a b) = if Int32.ofInt b < Int32.ofInt a then Int32.ofInt b else Int32.ofInt a := by
  unfold i_min w32
  simp only [Int32.lt_iff_toInt_lt]
  split <;> rfl
theorem e_abs (a : Int) : Int32.ofInt (i_abs a) = if 0 ≤ Int32.ofInt a then Int32.ofInt a else 0 - Int32.ofInt a := by
  unfold i_abs w32
  have h0 : (0 : Int32).toInt = 0 := rfl
  simp only [Int32.le_iff_toInt_le, h0]
  split
  · rfl
  · rw [Int32.ofInt_sub]; rfl
theorem e_lmax (a b : Int) : Int64.ofInt (l_max a b) = if Int64.ofInt b < Int64.ofInt a then Int64.ofInt a else Int64.ofInt b := by
  unfold l_max w64
  simp only [Int64.lt_iff_toInt_lt]
  split <;> rfl
theorem e_lmin (a b : Int) : Int64.ofInt (l_min a b) = if Int64.ofInt b < Int64.ofInt a then Int64.ofInt b else Int64.ofInt a := by
  unfold l_min w64
  simp only [Int64.lt_iff_toInt_lt]
  split <;> rfl
theorem e_labs (a : Int) : Int64.ofInt (l_abs a) = if 0 < Int64.ofInt a then Int64.ofInt a else -Int64.ofInt a := by
  unfold l_abs w64
  have h0 : (0 : Int64).toInt = 0 := rfl
  simp only [Int64.lt_iff_toInt_lt, h0]
  split
  · rfl
  · rw [Int64.ofInt_neg]
theorem sndMath (hx : p.tables.exec = Jvm.exec) (hb : c.code = cc) (hml : c.maxLocals = lsK.size) (hown : s.vm.findClass (cnm own) = some m.cls) (hts : ∀ w ∈ gTbl, w.before args s = true) {i : Nat} (hlk : MLK.any (fun q => q.1 == own && q.2.1 == i && q.2.2.1 == op) = true) (hd : decode cc pc = .ok (.invokestatic i, 3)) (ho : 121 ≤ op ∧ op ≤ 126) (ex : sM op st = some (vs, st')) (hsc : scat st' ≤ 8) (hfr : 1 ≤ R.frames) (hlo : 40 ≤ R.locals) (hcl : cells ≤ R.cells) (hsl : slots ≤ R.slots)
    (k : W p l e R s m args below meth c H locs cells slots Q (F0 m (pc + 3) lsK ((vs ++ st').map (tv sa base)))) : W p l e R s m args below meth c H locs cells slots Q (F0 m pc lsK (st.map (tv sa base))) := by
  simp only [List.any_eq_true, Bool.and_eq_true, beq_iff_eq] at hlk
  obtain ⟨⟨q1, q2, q3, q4⟩, hq, ⟨rfl, rfl⟩, rfl⟩ := hlk
  have hw := mlk_all _ hq
  unfold mlkF at hw
  dsimp only at hw ho ex hown
  have hr : ((st'.map (tv sa base)).map fun v => v.category).sum ≤ 8 := by rw [scat_map]; exact hsc
  rcases (show q3 = 121 ∨ q3 = 122 ∨ q3 = 123 ∨ q3 = 124 ∨ q3 = 125 ∨ q3 = 126 by omega) with rfl | rfl | rfl | rfl | rfl | rfl
  · unfold sM at ex
    simp only [Nat.reduceEqDiff, ↓reduceIte] at ex hw
    split at ex
    · obtain ⟨e1, e2⟩ := Prod.mk.inj (Option.some.inj ex)
      subst e1 e2
      refine va_mmax hx hb hml hown (hts _ hw) (hts _ mmOk0.1) (hts _ mmIni) (hts _ mmOk0.2) hfr (by omega) hcl hsl hd ?_
      simpa only [List.map_cons, List.cons_append, List.nil_append, tv, e_max] using k
    · cases ex
  · unfold sM at ex
    simp only [Nat.reduceEqDiff, ↓reduceIte] at ex hw
    split at ex
    · obtain ⟨e1, e2⟩ := Prod.mk.inj (Option.some.inj ex)
      subst e1 e2
      refine va_mmin hx hb hml hown (hts _ hw) (hts _ mmOk1.1) (hts _ mmIni) (hts _ mmOk1.2) hfr (by omega) hcl hsl hd ?_
      simpa only [List.map_cons, List.cons_append, List.nil_append, tv, e_min] using k
    · cases ex
  · unfold sM at ex
    simp only [Nat.reduceEqDiff, ↓reduceIte] at ex hw
    split at ex
    · obtain ⟨e1, e2⟩ := Prod.mk.inj (Option.some.inj ex)
      subst e1 e2
      refine va_mabs hx hb hml hown (hts _ hw) (hts _ mmOk2.1) (hts _ mmIni) (hts _ mmOk2.2) hfr (by omega) hcl hsl hd ?_
      simpa only [List.map_cons, List.cons_append, List.nil_append, tv, e_abs] using k
    · cases ex
  · unfold sM at ex
    simp only [Nat.reduceEqDiff, ↓reduceIte] at ex hw
    split at ex
    · obtain ⟨e1, e2⟩ := Prod.mk.inj (Option.some.inj ex)
      subst e1 e2
      refine va_mmax_long hx hb hml hown (hts _ hw) (hts _ mmOk3.1) (hts _ mmIni) (hts _ mmOk3.2) hfr (by omega) hcl hsl hd ?_
      simpa only [List.map_cons, List.cons_append, List.nil_append, tv, e_lmax] using k
    · cases ex
  · unfold sM at ex
    simp only [Nat.reduceEqDiff, ↓reduceIte] at ex hw
    split at ex
    · obtain ⟨e1, e2⟩ := Prod.mk.inj (Option.some.inj ex)
      subst e1 e2
      refine va_mmin_long hx hb hml hown (hts _ hw) (hts _ mmOk4.1) (hts _ mmIni) (hts _ mmOk4.2) hfr (by omega) hcl hsl hd ?_
      simpa only [List.map_cons, List.cons_append, List.nil_append, tv, e_lmin] using k
    · cases ex
  · unfold sM at ex
    simp only [Nat.reduceEqDiff, ↓reduceIte] at ex hw
    split at ex
    · obtain ⟨e1, e2⟩ := Prod.mk.inj (Option.some.inj ex)
      subst e1 e2
      refine va_mabs_long hx hb hml hown (hts _ hw) (hts _ mmOk5.1) (hts _ mmIni) (hts _ mmOk5.2) hfr (by omega) hcl hsl hd ?_
      simpa only [List.map_cons, List.cons_append, List.nil_append, tv, e_labs] using k
    · cases ex
theorem sndOI (hx : p.tables.exec = Jvm.exec) (hb : c.code = cc) (hml : c.maxLocals = lsK.size) (hown : s.vm.findClass (cnm own) = some m.cls) (hts : ∀ w ∈ gTbl, w.before args s = true) {i : Nat} (hlk : OLT.any (fun q => q.1 == own && q.2.1 == i) = true) (hd : decode cc pc = .ok (.invokespecial i, 3)) (ex : sM 129 st = some (vs, st')) (hsc : scat st' ≤ 8) (hfr : 1 ≤ R.frames) (hlo : 40 ≤ R.locals)
    (k : W p l e R s m args below meth c H locs cells slots Q (F0 m (pc + 3) lsK ((vs ++ st').map (tv sa base)))) : W p l e R s m args below meth c H locs cells slots Q (F0 m pc lsK (st.map (tv sa base))) := by
  simp only [List.any_eq_true, Bool.and_eq_true, beq_iff_eq] at hlk
  obtain ⟨⟨q1, q2, q3⟩, hq, rfl, rfl⟩ := hlk
  have hw := olt_all _ hq
  have hr : ((st'.map (tv sa base)).map fun v => v.category).sum ≤ 8 := by rw [scat_map]; exact hsc
  unfold sM at ex
  simp only [Nat.reduceEqDiff, ↓reduceIte] at ex
  split at ex
  · obtain ⟨e1, e2⟩ := Prod.mk.inj (Option.some.inj ex)
    subst e1 e2
    refine W.objInit hx hb hown (hts _ hw) (hts _ oposOk.1) (hts _ oposOk.2) rfl hml.symm rfl hd hfr ?_ k
    show 2 * 0 + _ + 12 ≤ R.locals
    omega
  · cases ex
end SN3
