/-! THE FRAME THAT ISN'T OF THE PURE MACHINE: a walk from a place of the code with locals, stack and heap of the pure machine (for the law, its dancer, the class's dancer) -/
section WPS
variable {p : Program} {l : Launch} {e : Env} {R : Room} {s : State} {m : MethodId} {args : Array Value} {below : List Frame} {meth : Method} {c : Code} {Q : State → Prop}
variable {sa : Nat → Nat} {base L own mx : Nat} {xs : Nat → Int} {ca : Nat → ClassId} {D : va_G} {cc : ByteArray}
def CX (p : Program) (s : State) (m : MethodId) (args : Array Value) (c : Code) (sa : Nat → Nat) (base L : Nat) (xs : Nat → Int) (ca : Nat → ClassId) (D : va_G) (own mx : Nat) (cc : ByteArray) : Prop :=
  p.tables.exec = Jvm.exec ∧ c.code = cc ∧ c.maxLocals = mx ∧ s.vm.findClass (cnm own) = some m.cls ∧ (∀ w ∈ gTbl, w.before args s = true) ∧ va_K D myCl (ktys ca) s ∧ SW sa base L xs s s.heap
def WP (p : Program) (l : Launch) (e : Env) (R : Room) (s : State) (m : MethodId) (args : Array Value) (below : List Frame) (meth : Method) (c : Code) (Q : State → Prop) (sa : Nat → Nat) (base : Nat) (ca : Nat → ClassId) (D : va_G) (mx : Nat) (pc : Nat) (ls : plocs) (st : List pv) (h : pheap) (cells slots : Nat) : Prop :=
  ∀ (H : Heap) (locs : List Loc) (lsK : Array Slot), LR sa base lsK mx ls → HR sa base ca D h H → va_S (fun a : Nat => base ≤ a) s.heap H locs → W p l e R s m args below meth c H locs cells slots Q (F0 m pc lsK (st.map (tv sa base)))
variable {pc len op cells slots : Nat} {sts : List Nat} {ins : Instr} {as : List Nat} {z : Int} {ls ls' : plocs} {st st' : List pv} {h h' : pheap}
theorem WP_s1 (C : CX p s m args c sa base L xs ca D own mx cc) (hsc : h.2.2 0 = .inl (0, L, xs)) (hd : decode cc pc = .ok (ins, len)) (lk : (if 80 ≤ op then lkS own ins len op as else lk1 own false pc sts ins len op as z) = true) (ho : op < 100) (hs : s1 op as z ls st h = some (ls', st', h'))
    (hcz : s.heap.size + cells = base + h.1 ∨ h'.1 = h.1) (hcl : cells + (h'.1 - h.1) ≤ R.cells) (hsl : slots + (h'.2.1 - h.2.1) ≤ R.slots)
    (k : WP p l e R s m args below meth c Q sa base ca D mx (pc + len) ls' st' h' (cells + (h'.1 - h.1)) (slots + (h'.2.1 - h.2.1))) : WP p l e R s m args below meth c Q sa base ca D mx pc ls st h cells slots := by
  obtain ⟨hx, hb, hml, hown, hts, hK, hSW⟩ := C
  intro H locs lsK hl hHR hS
  have hbase : base ≤ s.heap.size := hSW.2.2.1
  unfold s1 at hs
  by_cases h20 : op < 20
  · rw [if_neg (by omega)] at lk
    rw [if_pos h20] at hs
    split at hs
    · rename_i l1 s1' hs1
      cases hs
      simp only [Nat.sub_self, Nat.add_zero] at k
      exact sndA hx hb hown hts hl hd lk h20 hs1 (fun lsK' hl' => k H locs lsK' hl' hHR hS)
    · cases hs
  rw [if_neg h20] at hs
  by_cases h40 : op < 40
  · rw [if_neg (by omega)] at lk
    rw [if_pos h40] at hs
    split at hs
    · rename_i s1' hs1
      cases hs
      simp only [Nat.sub_self, Nat.add_zero] at k
      exact sndB hx hb hown hts hl hd lk ⟨by omega, h40⟩ hs1 (k H locs lsK hl hHR hS)
    · cases hs
  rw [if_neg h40] at hs
  by_cases h60 : op < 60
  · rw [if_neg (by omega)] at lk
    rw [if_pos h60] at hs
    split at hs
    · rename_i s1' hs1
      cases hs
      simp only [Nat.sub_self, Nat.add_zero] at k
      exact sndC hx hb hown hts hl hd lk ⟨by omega, h60⟩ hs1 (k H locs lsK hl hHR hS)
    · cases hs
  rw [if_neg h60] at hs
  by_cases h80 : op < 80
  · rw [if_neg (by omega)] at lk
    rw [if_pos h80] at hs
    split at hs
    · rename_i s1' h1' hs1
      cases hs
      exact sndE hx hb hown hts hd lk hK hHR hS hbase hcz (fun hn => by cases hn) ⟨by omega, h80⟩ hs1 hcl hsl (fun H' locs' a1 a2 => k H' locs' lsK hl a1 a2)
    · cases hs
  rw [if_neg h80] at hs
  rw [if_pos (by omega)] at lk
  split at hs
  · rename_i s1' h1' hs1
    cases hs
    have h90 := sS_op hs1
    cases sS_same hs1
    simp only [Nat.sub_self, Nat.add_zero] at k
    exact sndS hx hb hown hts hd lk hSW hS hsc ⟨by omega, h90⟩ hs1 (k H locs lsK hl hHR hS)
  · cases hs
theorem WP_jmp (C : CX p s m args c sa base L xs ca D own mx cc) {ob : Option Nat} (hd : decode cc pc = .ok (ins, len)) (lk : lk1 own false pc sts ins len op as z = true) (ho : 100 ≤ op ∧ op < 107) (hj : jmp op as z st = some (ob, st'))
    (k1 : ∀ b t : Nat, ob = some b → sts[b]? = some t → WP p l e R s m args below meth c Q sa base ca D mx t ls st' h cells slots) (k2 : ob = none → WP p l e R s m args below meth c Q sa base ca D mx (pc + len) ls st' h cells slots) : WP p l e R s m args below meth c Q sa base ca D mx pc ls st h cells slots := by
  obtain ⟨hx, hb, hml, hown, hts, hK, hSW⟩ := C
  intro H locs lsK hl hHR hS
  exact sndJ (isIn := false) hx hb hSW.inj hd lk ho hj (fun b t hb ht => k1 b t hb ht H locs lsK hl hHR hS) (fun hn => k2 hn H locs lsK hl hHR hS)
theorem WP_call (C : CX p s m args c sa base L xs ca D own mx cc) {m0 kk d : Nat} {Po : Option pv → pheap → Prop} (hsc : h.2.2 0 = .inl (0, L, xs)) (hd : decode cc pc = .ok (ins, len)) (lk : lk1 own false pc sts ins len 120 (m0 :: kk :: as) z = true) (hks : kk ≤ st.length) (hcat : scat (st.drop kk) ≤ 8)
    (hw : wpM PP d m0 (st.take kk).reverse h Po) (hr : ∀ v h1, Po v h1 → (s.heap.size + cells = base + h.1 ∨ h1.1 = h.1) ∧ cells + (h1.1 - h.1) ≤ R.cells ∧ slots + (h1.2.1 - h.2.1) ≤ R.slots) (hfr : d + 1 ≤ R.frames) (hlo : 40 * (d + 1) ≤ R.locals)
    (k : ∀ v h1, Po v h1 → WP p l e R s m args below meth c Q sa base ca D mx (pc + len) ls (v.toList ++ st.drop kk) h1 (cells + (h1.1 - h.1)) (slots + (h1.2.1 - h.2.1))) : WP p l e R s m args below meth c Q sa base ca D mx pc ls st h cells slots := by
  obtain ⟨hx, hb, hml, hown, hts, hK, hSW⟩ := C
  intro H locs lsK hl hHR hS
  obtain ⟨kd, ow, mx', bt', hP, hrl, n, v1, h1, he, hpo⟩ := hw
  obtain ⟨r1, r2, r3⟩ := hr v1 h1 hpo
  refine W.szle fun hsz => ?_
  exact sndCall (frameP l sa base L xs ca D n) (q := mR 0) hx hb hml hl.2.1 hown hts hK hSW hsc hHR hS (r1.imp (fun yqq => HR.size hHR hS hSW.2.2.1 yqq hsz) id) hd lk hks hcat hP hrl.1 hrl.2 he hfr hlo r2 r3 (fun H1 locs1 a1 a2 => k v1 h1 hpo H1 locs1 lsK hl a1 a2)
end WPS
