/-! THE PLAIT: a crossing taken back; places behind some crossings; passes -/
theorem i_or_nat {a b : Nat} (ha : a < 2147483648) (hb : b < 2147483648) : i_or (a : Int) (b : Int) = ((a ||| b : Nat) : Int) := by
  have hc : a ||| b < 2147483648 := Nat.or_lt_two_pow (n := 31) ha hb
  unfold i_or
  rw [Int32.ofInt_eq_ofNat, Int32.ofInt_eq_ofNat]
  have e : (Int32.ofNat a ||| Int32.ofNat b) = Int32.ofNat (a ||| b) := by
    apply Int32.toBitVec_inj.mp
    rw [Int32.toBitVec_or]
    apply BitVec.eq_of_toNat_eq
    rw [BitVec.toNat_or, Int32.toBitVec_ofNat', Int32.toBitVec_ofNat', Int32.toBitVec_ofNat', BitVec.toNat_ofNat, BitVec.toNat_ofNat, BitVec.toNat_ofNat, Nat.mod_eq_of_lt (by omega), Nat.mod_eq_of_lt (by omega), Nat.mod_eq_of_lt (by omega)]
  rw [e]
  exact Int32.toInt_ofNat_of_lt hc
theorem shl_one_f : ∀ k : Fin 31, i_shl 1 ((k : Nat) : Int) = ((2 ^ (k : Nat) : Nat) : Int) := by decide +kernel
theorem or_bit {b k : Int} (hk : 0 ≤ k ∧ k < 31) (hb : 0 ≤ b ∧ b < 2 ^ k.toNat) : i_or b (i_shl 1 k) = b + 2 ^ k.toNat := by
  have e := shl_one_f ⟨k.toNat, by omega⟩
  simp only [Int.toNat_of_nonneg hk.1] at e
  rw [e]
  have h1 : (2 : Nat) ^ k.toNat < 2147483648 := Nat.lt_of_lt_of_le (Nat.pow_lt_pow_right (by decide) (show k.toNat < 31 by omega)) (by decide)
  have e3 : ((2 : Int) ^ k.toNat) = ((2 ^ k.toNat : Nat) : Int) := by simp
  rw [e3] at hb ⊢
  obtain ⟨m, rfl⟩ : ∃ m : Nat, b = m := ⟨b.toNat, by omega⟩
  rw [i_or_nat (by omega) h1]
  have := Nat.two_pow_add_eq_or_of_lt (i := k.toNat) (b := m) (by omega) 1
  simp only [Nat.mul_one] at this
  rw [Nat.or_comm, ← this]
  omega
section P3
variable {d a : Nat} {h0 h : pheap} {s : St} {Q : Option pv → pheap → Prop} {L : Int} {n : Nat} {c c' : Int → Int}
theorem PL.back {t : St} {x o1 o2 b1 : Int} (h : PL a L (n + 1) c s) (hx : c n = x) (e1 : o1 = wO L c n (x / 2)) (e2 : o2 = wO L c n (x / 2 + 1)) (e3 : b1 = wB L c n (6 * o1 + o2))
    (ht : turned a (x / 2) (-(sgn x)) o2 o1 (b1 + sgn x) (up s a 5 n) t) : PL a L n c t ∧ fr a s t ∧ (∀ i : Int, t (a + 1) i = s (a + 1) i) := by
  obtain ⟨t1, ⟨t2, t3, t4⟩, t5, t6, t7⟩ := ht
  have hL := h.hL
  have hc := cnt_R L
  have v' := vC_less h.v (Nat.le_succ n)
  have hv := h.v n (by omega) (by omega)
  rw [hx] at hv
  have r1 := wO_R hL v' (x / 2) (by omega) (by omega)
  have r2 := wO_R hL v' (x / 2 + 1) (by omega) (by omega)
  rw [← e1] at r1
  rw [← e2] at r2
  have sy := wB_sym hL v' o1 o2 ⟨r1.1, r1.2.1⟩ ⟨r2.1, r2.2.1⟩
  have hn := h.hn
  refine ⟨⟨hL, by omega, v', ?_, ?_, ?_, ?_, ?_, ?_, ?_⟩, ?_, ?_⟩
  · rw [t2]
    simp [up, h.left]
  · rw [t3]
    simp [up, h.count]
  · rw [t4]
    simp [up]
  · rw [t5, up_i (by decide), h.bound]
    simp only [wC, hx, ← e1, ← e2, ← e3]
    have : b1 + sgn x + -sgn x = b1 := by omega
    rw [this]
    omega
  · intro i h1 h2
    rw [t1 (a + 1) i (by omega) (by omega) (by omega), up_a (by omega)]
    exact h.code h1 (by omega)
  · intro p h1 h2
    rw [t6]
    have z := h.order h1 h2
    simp only [wO, hx] at z
    split
    · rename_i q
      rw [q, e1]
    · split
      · rename_i q
        rw [q, e2]
      · rename_i q1 q2
        rw [up_a (by omega), z, if_neg q1, if_neg q2]
  · intro j h1 h2
    rw [t7]
    have z := h.bond h1 h2
    simp only [wB, hx, ← e1, ← e2] at z
    split
    · rename_i q
      rcases q with q | q
      · rw [q, ← sy, ← e3]
        omega
      · rw [q, ← e3]
        omega
    · rename_i q
      rw [up_a (by omega), z, if_neg (by omega)]
  · intro b hb j
    rw [t1 b j (by omega) (by omega) (by omega), up_a (by omega)]
  · intro i
    rw [t1 (a + 1) i (by omega) (by omega) (by omega), up_a (by omega)]
def plA (p r : Int) : Int := if p = r then r + 1 else if p = r + 1 then r else p
def plN (c : Int → Int) : Nat → Int → Int
  | 0 => fun q => q
  | n + 1 => fun q => plA (plN c n q) (c n / 2)
theorem plA_plA (p r : Int) : plA (plA p r) r = p := by
  unfold plA
  repeat' split
  all_goals omega
theorem wO_succ (p : Int) : wO L c (n + 1) p = wO L c n (plA p (c n / 2)) := by
  simp only [wO, plA]
  split
  · rfl
  · split <;> rfl
theorem wO_plN : ∀ (n : Nat) (q : Int), wO L c n (plN c n q) = ordN L 6 q
  | 0, _ => rfl
  | n + 1, q => by
    rw [wO_succ]
    simp only [plN]
    rw [plA_plA, wO_plN n q]
theorem plN_R : ∀ {n : Nat}, vC L c n → ∀ q, 0 ≤ q → q < cnt L → 0 ≤ plN c n q ∧ plN c n q < cnt L
  | 0, _, q, h1, h2 => ⟨h1, h2⟩
  | n + 1, v, q, h1, h2 => by
    have ih := plN_R (vC_less v (Nat.le_succ n)) q h1 h2
    have hv := v n (by omega) (by omega)
    simp only [plN, plA]
    repeat' split
    all_goals omega
/-- where one stands at first -/
def paf (L x : Int) : Int := if 0 ≤ x ∧ x < 6 ∧ bt L x = 1 then cntN L x.toNat else -1
theorem ord_cnt_f : ∀ l : Fin 64, ∀ x : Fin 6, bt ((l : Nat) : Int) ((x : Nat) : Int) = 1 → ordN ((l : Nat) : Int) 6 (cntN ((l : Nat) : Int) (x : Nat)) = ((x : Nat) : Int) ∧ cntN ((l : Nat) : Int) (x : Nat) < cnt ((l : Nat) : Int) := by decide +kernel
theorem ord_cnt {x : Int} (hL : 0 ≤ L ∧ L < 64) (hx : 0 ≤ x ∧ x < 6 ∧ bt L x = 1) : ordN L 6 (cntN L x.toNat) = x ∧ cntN L x.toNat < cnt L := by
  have := ord_cnt_f ⟨L.toNat, by omega⟩ ⟨x.toNat, by omega⟩
  simp only [Int.toNat_of_nonneg hL.1, Int.toNat_of_nonneg hx.1] at this
  exact this hx.2.2
theorem cnt_ord_f : ∀ l : Fin 64, ∀ p : Fin 6, ((p : Nat) : Int) < cnt ((l : Nat) : Int) → cntN ((l : Nat) : Int) (ordN ((l : Nat) : Int) 6 ((p : Nat) : Int)).toNat = ((p : Nat) : Int) := by decide +kernel
theorem cnt_ord {p : Int} (hL : 0 ≤ L ∧ L < 64) (h0 : 0 ≤ p) (h1 : p < cnt L) : cntN L (ordN L 6 p).toNat = p := by
  have := cnt_R L
  have := cnt_ord_f ⟨L.toNat, by omega⟩ ⟨p.toNat, by omega⟩
  simp only [Int.toNat_of_nonneg hL.1, Int.toNat_of_nonneg h0] at this
  exact this h1
/-- where one stands behind n crossings -/
theorem wO_at {x : Int} (hL : 0 ≤ L ∧ L < 64) (hx : 0 ≤ x ∧ x < 6 ∧ bt L x = 1) (n : Nat) : wO L c n (plN c n (cntN L x.toNat)) = x := (wO_plN n _).trans (ord_cnt hL hx).1
/-- passes: who lies above (ov = 1) or below in a crossing, how often one does -/
def who (L : Int) (c : Int → Int) (ov : Int) (n : Nat) : Int := wO L c n (c n / 2 + (if (c n % 2 = 0 ↔ ov = 1) then 0 else 1))
def wP (L : Int) (c : Int → Int) (ov x : Int) : Nat → Int
  | 0 => 0
  | n + 1 => wP L c ov x n + bI (who L c ov n = x)
theorem wP_R {ov x : Int} : ∀ (n : Nat), 0 ≤ wP L c ov x n ∧ wP L c ov x n ≤ n
  | 0 => by simp [wP]
  | n + 1 => by
    have := wP_R (ov := ov) (x := x) n
    have := bI_R (who L c ov n = x)
    simp only [wP]
    omega
def bc1 (x : Int) : Int := x - i_and (i_ushr x 1) 1431655765
def bc2 (x : Int) : Int := i_and x 858993459 + i_and (i_ushr x 2) 858993459
def bc3 (x : Int) : Int := i_and (x + i_ushr x 4) 252645135
def bc4 (x : Int) : Int := x + i_ushr x 8
def bc5 (x : Int) : Int := x + i_ushr x 16
def BC (x : Int) : Int := i_and (bc5 (bc4 (bc3 (bc2 (bc1 x))))) 63
theorem BC_f : ∀ (l : Fin 64) (k : Fin 6), BC (i_and ((l : Nat) : Int) (i_shl 1 ((k : Nat) : Int) - 1)) = cntN ((l : Nat) : Int) (k : Nat) := by decide +kernel
theorem BC_is {x : Int} (hL : 0 ≤ L ∧ L < 64) (hx : 0 ≤ x ∧ x < 6) : BC (i_and L (i_shl 1 x - 1)) = cntN L x.toNat := by
  have := BC_f ⟨L.toNat, by omega⟩ ⟨x.toNat, by omega⟩
  simp only [Int.toNat_of_nonneg hL.1, Int.toNat_of_nonneg hx.1] at this
  exact this
theorem m_bitCount {x : Int} (k : Q (some (vI (BC x))) h) : wpM PP d 0 [vI x] h Q := by
  refine n_at (m := 0) (q := mr0) (kn := (1, 1)) [some (vI _)] mb0 rfl rfl rfl (Nat.le_of_ble_eq_true rfl) rfl rfl ?_
  refine x_iload rfl ?_
  refine x_iload rfl ?_
  refine x_ci ?_
  refine x_iushr ?_
  refine x_ci ?_
  refine x_iand ?_
  refine x_isub ?_
  refine t_I (bc1 x) rfl ?_
  refine n_istore [some (vI _)] (Nat.le_of_ble_eq_true rfl) rfl ?_
  refine x_iload rfl ?_
  refine x_ci ?_
  refine x_iand ?_
  refine x_iload rfl ?_
  refine x_ci ?_
  refine x_iushr ?_
  refine x_ci ?_
  refine x_iand ?_
  refine x_iadd ?_
  refine t_I (bc2 (bc1 x)) rfl ?_
  refine n_istore [some (vI _)] (Nat.le_of_ble_eq_true rfl) rfl ?_
  refine x_iload rfl ?_
  refine x_iload rfl ?_
  refine x_ci ?_
  refine x_iushr ?_
  refine x_iadd ?_
  refine x_ci ?_
  refine x_iand ?_
  refine t_I (bc3 (bc2 (bc1 x))) rfl ?_
  refine n_istore [some (vI _)] (Nat.le_of_ble_eq_true rfl) rfl ?_
  refine x_iload rfl ?_
  refine x_iload rfl ?_
  refine x_ci ?_
  refine x_iushr ?_
  refine x_iadd ?_
  refine t_I (bc4 (bc3 (bc2 (bc1 x)))) rfl ?_
  refine n_istore [some (vI _)] (Nat.le_of_ble_eq_true rfl) rfl ?_
  refine x_iload rfl ?_
  refine x_iload rfl ?_
  refine x_ci ?_
  refine x_iushr ?_
  refine x_iadd ?_
  refine t_I (bc5 (bc4 (bc3 (bc2 (bc1 x))))) rfl ?_
  refine n_istore [some (vI _)] (Nat.le_of_ble_eq_true rfl) rfl ?_
  refine x_iload rfl ?_
  refine x_ci ?_
  refine x_iand ?_
  refine x_iret ?_
  exact k
theorem m_dropLast (hP : isPl a) (hd : 11 ≤ d) (hp : PL a L (n + 1) c s) (k : ∀ t, PL a L n c t → fr a s t → (∀ i : Int, t (a + 1) i = s (a + 1) i) → Q none (HP h0 t)) : wpM PP d 212 [vR a] (HP h0 s) Q := by
  have ha := hP.1.1
  have hc := cnt_R L
  have hn := hp.hn
  have q3 := hp.left
  have q4 := hp.count
  have q5 := hp.size
  have hL := hp.hL
  have v' := vC_less hp.v (Nat.le_succ n)
  have hv := hp.v n (by omega) (by omega)
  have q6 : s (a + 1) n = c n := hp.code (by omega) (by omega)
  obtain ⟨x, hx⟩ : ∃ x, c n = x := ⟨_, rfl⟩
  rw [hx] at hv q6
  have r1 := wO_R hL v' (x / 2) (by omega) (by omega)
  have r2 := wO_R hL v' (x / 2 + 1) (by omega) (by omega)
  have sb := wB_R (L := L) (c := c) n (6 * wO L c n (x / 2) + wO L c n (x / 2 + 1))
  have sg := sgn_R x
  refine n_at (m := 212) (q := mr212) (kn := (0, 1)) [some (vR _), none] mb212 rfl rfl (h_rcv hP.1) (Nat.le_of_ble_eq_true rfl) rfl rfl ?_
  refine x_aload rfl ?_
  refine h_getI 5 hP.1 rfl rfl ?_
  refine n_if_le ⟨by omega, by omega⟩ (fun c1 => ?_) (fun c1 => ?_)
  · refine x_ret ?_
    first
      | (exfalso; omega)
      | (obtain ⟨w1, w2, w3⟩ := hp.back hx rfl rfl rfl (by rw [hs] at ht ⊢; exact ht)
         exact k t w1 w2 w3)
  · refine x_aload rfl ?_
    refine x_dupR ?_
    refine h_getI 5 hP.1 rfl rfl ?_
    refine x_ci ?_
    refine x_isub ?_
    refine t_I (n : Int) (by omega) ?_
    refine h_putI 5 hP.1 rfl rfl ?_
    have q7 : up s a 5 n a 5 = (n : Int) := up_e
    refine x_aload rfl ?_
    refine x_aload rfl ?_
    refine h_getI 5 hP.1 rfl rfl ?_
    refine n_call [vR _, vI _] [] (by omega) (Nat.le_of_ble_eq_true rfl) rfl rfl (Nat.le_of_ble_eq_true rfl) ?_
    refine m_codeAt hP ⟨by omega, by omega⟩ ?_
    show wp PP _ _ _ [some (vR _), _] [vI _] _ _
    refine t_I x ?_ ?_
    · rw [q7, up_a (by omega), q6]
    refine n_istore [some (vR _), some (vI _)] (Nat.le_of_ble_eq_true rfl) rfl ?_
    refine x_aload rfl ?_
    refine x_iload rfl ?_
    refine n_call [vI _] [vR _] (by omega) (Nat.le_of_ble_eq_true rfl) rfl rfl (Nat.le_of_ble_eq_true rfl) ?_
    refine m_placeOfCode ⟨by omega, by omega⟩ ?_
    show wp PP _ _ _ [some (vR _), some (vI _)] [vI _, vR _] _ _
    refine x_iload rfl ?_
    refine n_call [vI _] [vI _, vR _] (by omega) (Nat.le_of_ble_eq_true rfl) rfl rfl (Nat.le_of_ble_eq_true rfl) ?_
    refine m_isOver ⟨by omega, by omega⟩ ?_
    show wp PP _ _ _ [some (vR _), some (vI _)] [vI _, vI _, vR _] _ _
    refine z_if_eq (fun c2 => ?_) (fun c2 => ?_)
    · refine x_ci ?_
      refine x_fall ?_
      refine n_call [vR _, vI _, vI _] [] (by omega) (Nat.le_of_ble_eq_true rfl) rfl rfl (Nat.le_of_ble_eq_true rfl) ?_
      have hs : sgn x = -1 := by
        unfold sgn
        exact if_neg (by assumption)
      refine m_turn hP (by omega) (p := x / 2) (m := -(-1)) (o1 := wO L c n (x / 2 + 1)) (o2 := wO L c n (x / 2)) (b1 := wB L c n (6 * wO L c n (x / 2) + wO L c n (x / 2 + 1)) + sgn x) (by omega) (by decide) ?_ ?_ ?_ ⟨r2.1, r2.2.1⟩ ⟨r1.1, r1.2.1⟩ (by omega) (by decide) ?_
      · rw [up_a (by omega), hp.order (by omega) (by omega)]
        simp only [wO, hx]
        simp
      · rw [up_a (by omega), hp.order (by omega) (by omega)]
        simp only [wO, hx]
        rw [if_neg (by omega)]
        simp
      · rw [up_a (by omega), hp.bond (by omega) (by omega)]
        simp only [wB, hx]
        simp only [or_true, if_true]
        rw [wB_sym hL v' _ _ ⟨r2.1, r2.2.1⟩ ⟨r1.1, r1.2.1⟩]
      intro t ht
      show wp PP _ _ _ [some (vR _), some (vI _)] [] _ _
      refine x_fall ?_
      refine x_ret ?_
      first
        | (exfalso; omega)
        | (obtain ⟨w1, w2, w3⟩ := hp.back hx rfl rfl rfl (by rw [hs] at ht ⊢; exact ht)
           exact k t w1 w2 w3)
    · refine x_ci ?_
      refine x_goto ?_
      refine n_call [vR _, vI _, vI _] [] (by omega) (Nat.le_of_ble_eq_true rfl) rfl rfl (Nat.le_of_ble_eq_true rfl) ?_
      have hs : sgn x = 1 := by
        unfold sgn
        exact if_pos (by assumption)
      refine m_turn hP (by omega) (p := x / 2) (m := -(1)) (o1 := wO L c n (x / 2 + 1)) (o2 := wO L c n (x / 2)) (b1 := wB L c n (6 * wO L c n (x / 2) + wO L c n (x / 2 + 1)) + sgn x) (by omega) (by decide) ?_ ?_ ?_ ⟨r2.1, r2.2.1⟩ ⟨r1.1, r1.2.1⟩ (by omega) (by decide) ?_
      · rw [up_a (by omega), hp.order (by omega) (by omega)]
        simp only [wO, hx]
        simp
      · rw [up_a (by omega), hp.order (by omega) (by omega)]
        simp only [wO, hx]
        rw [if_neg (by omega)]
        simp
      · rw [up_a (by omega), hp.bond (by omega) (by omega)]
        simp only [wB, hx]
        simp only [or_true, if_true]
        rw [wB_sym hL v' _ _ ⟨r2.1, r2.2.1⟩ ⟨r1.1, r1.2.1⟩]
      intro t ht
      show wp PP _ _ _ [some (vR _), some (vI _)] [] _ _
      refine x_fall ?_
      refine x_ret ?_
      first
        | (exfalso; omega)
        | (obtain ⟨w1, w2, w3⟩ := hp.back hx rfl rfl rfl (by rw [hs] at ht ⊢; exact ht)
           exact k t w1 w2 w3)
theorem m_placeAcross {p r : Int} (hp : iR p) (hr : 0 ≤ r ∧ r < 1000) (k : Q (some (vI (plA p r))) h) : wpM PP d 219 [vI p, vI r] h Q := by
  refine n_at (m := 219) (q := mr219) (kn := (1, 2)) [some (vI _), some (vI _)] mb219 rfl rfl rfl (Nat.le_of_ble_eq_true rfl) rfl rfl ?_
  refine x_iload rfl ?_
  refine x_iload rfl ?_
  refine n_icmp_ne ⟨by omega, by omega⟩ ⟨by omega, by omega⟩ (fun c1 => ?_) (fun c1 => ?_)
  · refine x_iload rfl ?_
    refine x_iload rfl ?_
    refine x_ci ?_
    refine x_iadd ?_
    refine n_icmp_ne ⟨by omega, by omega⟩ ⟨by omega, by omega⟩ (fun c2 => ?_) (fun c2 => ?_)
    · refine x_iload rfl ?_
      refine x_fall ?_
      refine x_iret ?_
      refine cI k ?_
      unfold plA
      repeat' split
      all_goals omega
    · refine x_iload rfl ?_
      refine x_goto ?_
      refine x_iret ?_
      refine cI k ?_
      unfold plA
      repeat' split
      all_goals omega
  · refine x_iload rfl ?_
    refine x_ci ?_
    refine x_iadd ?_
    refine x_iret ?_
    refine cI k ?_
    unfold plA
    repeat' split
    all_goals omega
theorem m_placeAtFirst (hP : isPl a) (hd : 1 ≤ d) (hL : 0 ≤ s a 3 ∧ s a 3 < 64) {x : Int} (hx : iR x) (k : Q (some (vI (paf (s a 3) x))) (HP h0 s)) : wpM PP d 216 [vR a, vI x] (HP h0 s) Q := by
  have ha := hP.1.1
  refine n_at (m := 216) (q := mr216) (kn := (0, 2)) [some (vR _), some (vI _)] mb216 rfl rfl (h_rcv hP.1) (Nat.le_of_ble_eq_true rfl) rfl rfl ?_
  refine x_aload rfl ?_
  refine x_iload rfl ?_
  refine n_call [vR _, vI _] [] (by omega) (Nat.le_of_ble_eq_true rfl) rfl rfl (Nat.le_of_ble_eq_true rfl) ?_
  refine m_isLeft hP (by first | assumption | omega | (simp [up]; omega)) ⟨by omega, by omega⟩ ?_
  show wp PP _ _ _ [some (vR _), some (vI _)] [vI _] _ _
  refine z_if_eq (fun c1 => ?_) (fun c1 => ?_)
  · refine x_ci ?_
    refine x_fall ?_
    refine x_iret ?_
    refine cI k ?_
    unfold paf
    exact if_neg (by assumption)
  · refine x_aload rfl ?_
    refine h_getI 3 hP.1 rfl rfl ?_
    refine x_ci ?_
    refine x_iload rfl ?_
    refine x_ishl ?_
    refine x_ci ?_
    refine x_isub ?_
    refine x_iand ?_
    refine n_call [vI _] [] (by omega) (Nat.le_of_ble_eq_true rfl) rfl rfl (Nat.le_of_ble_eq_true rfl) ?_
    refine m_bitCount ?_
    show wp PP _ _ _ [some (vR _), some (vI _)] [vI _] _ _
    refine x_goto ?_
    refine x_iret ?_
    refine cI k ?_
    unfold paf
    rw [if_pos (by assumption), BC_is hL ⟨c1.1, c1.2.1⟩]
end P3
