/-! SEARCH: the pairs bound at first -/
section PM1
variable {d : Nat} {h0 : pheap} {s : St} {Q : Option pv → pheap → Prop} {L : Int} {n : Nat} {c c' : Int → Int} {G : Int → Int}
def foldP (G : Int → Int) : List Int → Int × Int → Int × Int
  | [], st => st
  | j :: l, st => foldP G l (st.1 + (if G j ≠ 0 then 2 ^ st.2.toNat else 0), st.2 + 1)
theorem foldP_app : ∀ (l l' : List Int) (st : Int × Int), foldP G (l ++ l') st = foldP G l' (foldP G l st)
  | [], _, _ => rfl
  | _ :: l, l', st => foldP_app l l' _
def lI (L : Int) (x : Nat) : Nat → List Int
  | 0 => []
  | k + 1 => lI L x k ++ (if x < k ∧ bt L x = 1 ∧ bt L k = 1 then [6 * (x : Int) + k] else [])
def lO (L : Int) : Nat → List Int
  | 0 => []
  | x + 1 => lO L x ++ lI L x 6
theorem bpI_fold {x : Nat} {st : Int × Int} : ∀ k : Nat, bpI L c n x st k = foldP (wB L c n) (lI L x k) st
  | 0 => rfl
  | k + 1 => by
    simp only [bpI, lI]
    rw [foldP_app, ← bpI_fold k]
    split <;> rfl
theorem bpO_fold : ∀ x : Nat, bpO L c n x = foldP (wB L c n) (lO L x) (0, 0)
  | 0 => rfl
  | x + 1 => by
    simp only [bpO, lO]
    rw [foldP_app, ← bpO_fold x, bpI_fold]
def rI (L : Int) (p : Nat) : Nat → List Int
  | 0 => []
  | k + 1 => rI L p k ++ (if p < k then [6 * ordN L 6 p + ordN L 6 k] else [])
def rO (L : Int) (m : Nat) : Nat → List Int
  | 0 => []
  | p + 1 => rO L m p ++ rI L p m
theorem lr_f : ∀ l : Fin 64, lO ((l : Nat) : Int) 6 = rO ((l : Nat) : Int) (cnt ((l : Nat) : Int)).toNat (cnt ((l : Nat) : Int)).toNat := by decide +kernel
theorem len_f : ∀ l : Fin 64, (lO ((l : Nat) : Int) 6).length ≤ 15 := by decide +kernel
theorem lr_is (hL : 0 ≤ L ∧ L < 64) : lO L 6 = rO L (cnt L).toNat (cnt L).toNat := by
  have := lr_f ⟨L.toNat, by omega⟩
  simp only [Int.toNat_of_nonneg hL.1] at this
  exact this
theorem len_is (hL : 0 ≤ L ∧ L < 64) : (lO L 6).length ≤ 15 := by
  have := len_f ⟨L.toNat, by omega⟩
  simp only [Int.toNat_of_nonneg hL.1] at this
  exact this
def PC (k : Nat) (x : Int) : Int := ((nPC k x.toNat : Nat) : Int)
theorem pw_pos : ∀ k : Nat, (0 : Int) < 2 ^ k
  | 0 => by decide
  | k + 1 => by
    have := pw_pos k
    rw [Int.pow_succ]
    omega
theorem pw_le (m : Nat) : ∀ i : Nat, (2 : Int) ^ m ≤ 2 ^ (m + i)
  | 0 => Int.le_refl _
  | i + 1 => by
    have := pw_le m i
    have := pw_pos (m + i)
    rw [← Nat.add_assoc, Int.pow_succ]
    omega
theorem nPC_0 : ∀ k : Nat, nPC k 0 = 0
  | 0 => rfl
  | k + 1 => by
    show 0 % 2 + nPC k (0 / 2) = 0
    rw [show 0 / 2 = 0 from rfl, nPC_0 k]
theorem nPC_add {b : Nat} (hb : b ≤ 1) : ∀ (k p x : Nat), x < 2 ^ p → p < k → nPC k (x + b * 2 ^ p) = nPC k x + b
  | 0, _, _, _, h => by omega
  | k + 1, 0, x, hx, _ => by
    have e : x = 0 := by
      have : (2 : Nat) ^ 0 = 1 := rfl
      omega
    subst e
    rw [Nat.pow_zero, Nat.mul_one, Nat.zero_add, nPC_0]
    show b % 2 + nPC k (b / 2) = 0 + b
    rw [show b / 2 = 0 by omega, nPC_0]
    omega
  | k + 1, p + 1, x, hx, h => by
    have e : b * 2 ^ (p + 1) = 2 * (b * 2 ^ p) := by
      rw [Nat.pow_succ, ← Nat.mul_assoc, Nat.mul_comm]
    rw [Nat.pow_succ] at hx
    have ih := nPC_add hb k p (x / 2) (by omega) (by omega)
    show (x + b * 2 ^ (p + 1)) % 2 + nPC k ((x + b * 2 ^ (p + 1)) / 2) = x % 2 + nPC k (x / 2) + b
    rw [e, show (x + 2 * (b * 2 ^ p)) / 2 = x / 2 + b * 2 ^ p by omega, ih]
    omega
theorem nPC_R : ∀ (k x : Nat), nPC k x ≤ k
  | 0, _ => Nat.le_refl _
  | k + 1, x => by
    have := nPC_R k (x / 2)
    show x % 2 + nPC k (x / 2) ≤ k + 1
    omega
theorem pw_nat (p : Nat) : (2 : Int) ^ p = ((2 ^ p : Nat) : Int) := by simp
theorem PC_add {p : Nat} {x b : Int} (hx : 0 ≤ x ∧ x < 2 ^ p) (hb : b = 0 ∨ b = 1) (k : Nat) (hp : p < k) : PC k (x + b * 2 ^ p) = PC k x + b := by
  unfold PC
  rw [pw_nat] at hx ⊢
  have := nPC_add (b := b.toNat) (by omega) k p x.toNat (by omega) hp
  have e : (x + b * ((2 ^ p : Nat) : Int)).toNat = x.toNat + b.toNat * 2 ^ p := by
    rcases hb with hb | hb
    · rw [hb]
      simp
    · rw [hb]
      rw [Int.one_mul, show (1 : Int).toNat = 1 from rfl, Nat.one_mul]
      omega
  rw [e, this]
  omega
theorem BC_PC_n {x : Nat} (h : x < 32768) : nBC x = nPC 15 x := by
  have ha : x / 256 < 128 := by omega
  have hx : x = 256 * (x / 256) + x % 256 := by omega
  obtain ⟨a, ea⟩ : ∃ a, x / 256 = a := ⟨_, rfl⟩
  obtain ⟨b, eb⟩ : ∃ b, x % 256 = b := ⟨_, rfl⟩
  have hb : b < 256 := by omega
  rw [ea] at hx ha
  rw [eb] at hx
  have g : ∀ i : Nat, i < 8 → 16 * i ≤ a → a < 16 * i + 16 → (∀ a' : Fin 16, ∀ b : Fin 256, Nat.beq (nBC (256 * (16 * i + (a' : Nat)) + (b : Nat))) (nPC 15 (256 * (16 * i + (a' : Nat)) + (b : Nat))) = true) → nBC x = nPC 15 x := fun i _ h1 h2 f => by
    have := Nat.eq_of_beq_eq_true (f ⟨a - 16 * i, by omega⟩ ⟨b, hb⟩)
    simp only at this
    rw [show 16 * i + (a - 16 * i) = a by omega, ← hx] at this
    exact this
  have c : a / 16 = 0 ∨ a / 16 = 1 ∨ a / 16 = 2 ∨ a / 16 = 3 ∨ a / 16 = 4 ∨ a / 16 = 5 ∨ a / 16 = 6 ∨ a / 16 = 7 := by omega
  rcases c with c | c | c | c | c | c | c | c
  · exact g 0 (by omega) (by omega) (by omega) nBC_f0
  · exact g 1 (by omega) (by omega) (by omega) nBC_f1
  · exact g 2 (by omega) (by omega) (by omega) nBC_f2
  · exact g 3 (by omega) (by omega) (by omega) nBC_f3
  · exact g 4 (by omega) (by omega) (by omega) nBC_f4
  · exact g 5 (by omega) (by omega) (by omega) nBC_f5
  · exact g 6 (by omega) (by omega) (by omega) nBC_f6
  · exact g 7 (by omega) (by omega) (by omega) nBC_f7
theorem BC_PC {x : Int} (h : 0 ≤ x ∧ x < 32768) : BC x = PC 15 x := by
  have := BC_nn (x := x.toNat) (by omega)
  rw [Int.toNat_of_nonneg h.1, BC_PC_n (by omega)] at this
  exact this
theorem PC_R (k : Nat) (x : Int) : 0 ≤ PC k x ∧ PC k x ≤ k := by
  have := nPC_R k x.toNat
  unfold PC
  omega
def smL (G : Int → Int) : List Int → Int
  | [] => 0
  | j :: l => nz (G j) + smL G l
theorem smL_app : ∀ l l' : List Int, smL G (l ++ l') = smL G l + smL G l'
  | [], _ => (Int.zero_add _).symm
  | j :: l, l' => by
    show nz (G j) + smL G (l ++ l') = nz (G j) + smL G l + smL G l'
    rw [smL_app l l', Int.add_assoc]
theorem foldP_PC : ∀ (l : List Int) (x : Int) (p : Nat), 0 ≤ x ∧ x < 2 ^ p → p + l.length ≤ 15 → PC 15 (foldP G l (x, (p : Int))).1 = PC 15 x + smL G l ∧ 0 ≤ (foldP G l (x, (p : Int))).1 ∧ (foldP G l (x, (p : Int))).1 < 2 ^ (p + l.length)
  | [], x, p, hx, _ => ⟨(Int.add_zero _).symm, hx.1, hx.2⟩
  | j :: l, x, p, hx, hl => by
    have pp := pw_pos p
    have hl2 : p + 1 + l.length ≤ 15 := by
      have : (j :: l).length = l.length + 1 := rfl
      omega
    have nzR : nz (G j) = 0 ∨ nz (G j) = 1 := bI_01 _
    have e : (if G j ≠ 0 then (2 : Int) ^ p else 0) = nz (G j) * 2 ^ p := by
      unfold nz bI
      split
      · rw [Int.one_mul]
      · rw [Int.zero_mul]
    have hx2 : 0 ≤ x + nz (G j) * 2 ^ p ∧ x + nz (G j) * 2 ^ p < 2 ^ (p + 1) := by
      rw [Int.pow_succ]
      rcases nzR with q | q <;> rw [q] <;> omega
    have ih := foldP_PC l (x + nz (G j) * 2 ^ p) (p + 1) hx2 hl2
    have ef : foldP G (j :: l) (x, (p : Int)) = foldP G l (x + nz (G j) * 2 ^ p, ((p + 1 : Nat) : Int)) := by
      show foldP G l (x + (if G j ≠ 0 then (2 : Int) ^ ((p : Int)).toNat else 0), (p : Int) + 1) = _
      rw [Int.toNat_natCast, e]
      rfl
    rw [ef, show p + (j :: l).length = p + 1 + l.length by rw [List.length_cons]; omega]
    refine ⟨?_, ih.2⟩
    rw [ih.1, PC_add hx nzR 15 (by omega)]
    show _ = PC 15 x + (nz (G j) + smL G l)
    omega
def trI (G : Int → Int) (x : Nat) : Nat → Int
  | 0 => 0
  | k + 1 => trI G x k + (if x < k then nz (G (6 * (x : Int) + k)) else 0)
theorem nz0 : nz 0 = 0 := bI_f (by decide)
theorem lI_tr (hL : 0 ≤ L ∧ L < 64) (hv : vC L c n) {x : Nat} (hx : x < 6) : ∀ k : Nat, k ≤ 6 → smL (wB L c n) (lI L x k) = trI (wB L c n) x k
  | 0, _ => rfl
  | k + 1, hk => by
    simp only [lI, trI]
    rw [smL_app, lI_tr hL hv hx k (by omega)]
    by_cases q : x < k
    · rw [if_pos q]
      by_cases q2 : bt L x = 1 ∧ bt L k = 1
      · rw [if_pos ⟨q, q2⟩]
        show _ + (nz _ + 0) = _
        rw [Int.add_zero]
      · rw [if_neg (fun wqq => q2 wqq.2), wB_non hL hv x k (by omega) (by omega) (by
          by_cases q3 : bt L x = 1
          · exact Or.inr (Or.inl (fun wqq => q2 ⟨q3, wqq⟩))
          · exact Or.inl q3), nz0]
        rfl
    · rw [if_neg q, if_neg (fun wqq => q wqq.1)]
      rfl
theorem smN36 (H : Int → Int) : smN H 36 = 0 + H 0 + H 1 + H 2 + H 3 + H 4 + H 5 + H 6 + H 7 + H 8 + H 9 + H 10 + H 11 + H 12 + H 13 + H 14 + H 15 + H 16 + H 17 + H 18 + H 19 + H 20 + H 21 + H 22 + H 23 + H 24 + H 25 + H 26 + H 27 + H 28 + H 29 + H 30 + H 31 + H 32 + H 33 + H 34 + H 35 := rfl
theorem trO15 : trI G 0 6 + trI G 1 6 + trI G 2 6 + trI G 3 6 + trI G 4 6 + trI G 5 6 = nz (G 1) + nz (G 2) + nz (G 3) + nz (G 4) + nz (G 5) + nz (G 8) + nz (G 9) + nz (G 10) + nz (G 11) + nz (G 15) + nz (G 16) + nz (G 17) + nz (G 22) + nz (G 23) + nz (G 29) := by
  simp [trI]
  omega
theorem lO_wC (hL : 0 ≤ L ∧ L < 64) (hv : vC L c n) : smL (wB L c n) (lO L 6) = wC L c n := by
  have w2qq := wC_b2N hL hv
  rw [smN36] at w2qq
  simp only [lO, smL_app]
  rw [lI_tr hL hv (show 0 < 6 by omega) 6 (by omega), lI_tr hL hv (show 1 < 6 by omega) 6 (by omega), lI_tr hL hv (show 2 < 6 by omega) 6 (by omega), lI_tr hL hv (show 3 < 6 by omega) 6 (by omega), lI_tr hL hv (show 4 < 6 by omega) 6 (by omega), lI_tr hL hv (show 5 < 6 by omega) 6 (by omega)]
  have tr := trO15 (G := wB L c n)
  have s01 := wB_sym hL hv 0 1 (by omega) (by omega)
  have s02 := wB_sym hL hv 0 2 (by omega) (by omega)
  have s03 := wB_sym hL hv 0 3 (by omega) (by omega)
  have s04 := wB_sym hL hv 0 4 (by omega) (by omega)
  have s05 := wB_sym hL hv 0 5 (by omega) (by omega)
  have s12 := wB_sym hL hv 1 2 (by omega) (by omega)
  have s13 := wB_sym hL hv 1 3 (by omega) (by omega)
  have s14 := wB_sym hL hv 1 4 (by omega) (by omega)
  have s15 := wB_sym hL hv 1 5 (by omega) (by omega)
  have s23 := wB_sym hL hv 2 3 (by omega) (by omega)
  have s24 := wB_sym hL hv 2 4 (by omega) (by omega)
  have s25 := wB_sym hL hv 2 5 (by omega) (by omega)
  have s34 := wB_sym hL hv 3 4 (by omega) (by omega)
  have s35 := wB_sym hL hv 3 5 (by omega) (by omega)
  have s45 := wB_sym hL hv 4 5 (by omega) (by omega)
  have g0 := wB_non (c := c) hL hv 0 0 (by omega) (by omega) (Or.inr (Or.inr rfl))
  have g1 := wB_non (c := c) hL hv 1 1 (by omega) (by omega) (Or.inr (Or.inr rfl))
  have g2 := wB_non (c := c) hL hv 2 2 (by omega) (by omega) (Or.inr (Or.inr rfl))
  have g3 := wB_non (c := c) hL hv 3 3 (by omega) (by omega) (Or.inr (Or.inr rfl))
  have g4 := wB_non (c := c) hL hv 4 4 (by omega) (by omega) (Or.inr (Or.inr rfl))
  have g5 := wB_non (c := c) hL hv 5 5 (by omega) (by omega) (Or.inr (Or.inr rfl))
  simp only [Int.reduceMul, Int.reduceAdd] at s01
  simp only [Int.reduceMul, Int.reduceAdd] at s02
  simp only [Int.reduceMul, Int.reduceAdd] at s03
  simp only [Int.reduceMul, Int.reduceAdd] at s04
  simp only [Int.reduceMul, Int.reduceAdd] at s05
  simp only [Int.reduceMul, Int.reduceAdd] at s12
  simp only [Int.reduceMul, Int.reduceAdd] at s13
  simp only [Int.reduceMul, Int.reduceAdd] at s14
  simp only [Int.reduceMul, Int.reduceAdd] at s15
  simp only [Int.reduceMul, Int.reduceAdd] at s23
  simp only [Int.reduceMul, Int.reduceAdd] at s24
  simp only [Int.reduceMul, Int.reduceAdd] at s25
  simp only [Int.reduceMul, Int.reduceAdd] at s34
  simp only [Int.reduceMul, Int.reduceAdd] at s35
  simp only [Int.reduceMul, Int.reduceAdd] at s45
  simp only [Int.reduceMul, Int.reduceAdd] at g0
  simp only [Int.reduceMul, Int.reduceAdd] at g1
  simp only [Int.reduceMul, Int.reduceAdd] at g2
  simp only [Int.reduceMul, Int.reduceAdd] at g3
  simp only [Int.reduceMul, Int.reduceAdd] at g4
  simp only [Int.reduceMul, Int.reduceAdd] at g5
  rw [g0, g1, g2, g3, g4, g5, ← s01, ← s02, ← s03, ← s04, ← s05, ← s12, ← s13, ← s14, ← s15, ← s23, ← s24, ← s25, ← s34, ← s35, ← s45] at w2qq
  rw [show smL (wB L c n) [] = 0 from rfl, Int.zero_add, tr]
  rw [nz0] at w2qq
  
  omega
theorem wC_bp (hL : 0 ≤ L ∧ L < 64) (hv : vC L c n) : wC L c n = BC (bpO L c n 6).1 ∧ 0 ≤ (bpO L c n 6).1 ∧ (bpO L c n 6).1 < 32768 := by
  have ll := len_is hL
  have f := foldP_PC (G := wB L c n) (lO L 6) 0 0 (by decide) (by omega)
  rw [lO_wC hL hv] at f
  rw [bpO_fold]
  have e : foldP (wB L c n) (lO L 6) (0, 0) = foldP (wB L c n) (lO L 6) (0, ((0 : Nat) : Int)) := rfl
  rw [e]
  obtain ⟨i, hi⟩ : ∃ i, 15 = (lO L 6).length + i := ⟨15 - (lO L 6).length, by omega⟩
  have p1 := pw_le (lO L 6).length i
  rw [← hi, show (2 : Int) ^ 15 = 32768 from rfl] at p1
  rw [Nat.zero_add] at f
  refine ⟨?_, f.2.1, by omega⟩
  rw [BC_PC ⟨f.2.1, by omega⟩, f.1]
  show wC L c n = 0 + wC L c n
  omega
end PM1
