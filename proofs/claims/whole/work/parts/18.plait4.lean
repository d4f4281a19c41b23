/-! THE PLAIT: who stands where behind some crossings, passes, bonds, who is free, who is home, letting go -/
section P4
variable {d a : Nat} {h0 h : pheap} {s : St} {Q : Option pv → pheap → Prop} {L : Int} {n : Nat} {c c' : Int → Int}
theorem paf_R (L x : Int) : -1 ≤ paf L x ∧ paf L x ≤ 6 := by
  unfold paf
  split
  · rename_i h
    have := cntN_R L x.toNat
    omega
  · omega
theorem paf_l {L x : Int} (hx : 0 ≤ x ∧ x < 6 ∧ bt L x = 1) : paf L x = cntN L x.toNat := if_pos hx
theorem wB_non (hL : 0 ≤ L ∧ L < 64) : ∀ {n : Nat}, vC L c n → ∀ x y : Int, 0 ≤ x ∧ x < 6 → 0 ≤ y ∧ y < 6 → (bt L x ≠ 1 ∨ bt L y ≠ 1 ∨ x = y) → wB L c n (6 * x + y) = 0
  | 0, _, _, _, _, _, _ => rfl
  | n + 1, v, x, y, hx, hy, hn => by
    have v' := vC_less v (Nat.le_succ n)
    have hv := v n (by omega) (by omega)
    have ih := wB_non hL v' x y hx hy hn
    have h1 := wO_R hL v' (c n / 2) (by omega) (by omega)
    have h2 := wO_R hL v' (c n / 2 + 1) (by omega) (by omega)
    have h3 : wO L c n (c n / 2) ≠ wO L c n (c n / 2 + 1) := fun e => by
      have := wO_inj hL v' _ _ (by omega) (by omega) (by omega) (by omega) e
      omega
    simp only [wB, ih]
    rw [if_neg]
    rintro (q | q)
    · have e1 : x = wO L c n (c n / 2) := by omega
      have e2 : y = wO L c n (c n / 2 + 1) := by omega
      rw [e1, e2] at hn
      omega
    · have e1 : x = wO L c n (c n / 2 + 1) := by omega
      have e2 : y = wO L c n (c n / 2) := by omega
      rw [e1, e2] at hn
      omega
def clr (L x : Int) : Int := L - bt L x * 2 ^ x.toNat
theorem clr_f : ∀ (l : Fin 64) (k : Fin 6), i_and ((l : Nat) : Int) (i_xor (i_shl 1 ((k : Nat) : Int)) (-1)) = clr ((l : Nat) : Int) ((k : Nat) : Int) ∧ 0 ≤ clr ((l : Nat) : Int) ((k : Nat) : Int) ∧ clr ((l : Nat) : Int) ((k : Nat) : Int) < 64 ∧ (bt ((l : Nat) : Int) ((k : Nat) : Int) = 1 → cnt (clr ((l : Nat) : Int) ((k : Nat) : Int)) = cnt ((l : Nat) : Int) - 1) := by decide +kernel
theorem clr_is {x : Int} (hL : 0 ≤ L ∧ L < 64) (hx : 0 ≤ x ∧ x < 6) : i_and L (i_xor (i_shl 1 x) (-1)) = clr L x ∧ 0 ≤ clr L x ∧ clr L x < 64 ∧ (bt L x = 1 → cnt (clr L x) = cnt L - 1) := by
  have := clr_f ⟨L.toNat, by omega⟩ ⟨x.toNat, by omega⟩
  simp only [Int.toNat_of_nonneg hL.1, Int.toNat_of_nonneg hx.1] at this
  exact this
theorem plA_is (q p : Int) : (q = p ∧ plA q p = p + 1) ∨ (q = p + 1 ∧ plA q p = p) ∨ (q ≠ p ∧ q ≠ p + 1 ∧ plA q p = q) := by
  unfold plA
  split
  · omega
  · split <;> omega
theorem bI_or (c : Prop) [Decidable c] : (c ∧ bI c = 1) ∨ (¬ c ∧ bI c = 0) := by
  unfold bI
  split
  · exact Or.inl ⟨by assumption, rfl⟩
  · exact Or.inr ⟨by assumption, rfl⟩
theorem who_iff {ov x q : Int} {j : Nat} (hL : 0 ≤ L ∧ L < 64) (v : vC L c j) (hj : 0 ≤ c j ∧ c j < 2 * (cnt L - 1)) (hq : 0 ≤ q ∧ q < cnt L) (hx : wO L c j q = x) (hov : ov = 0 ∨ ov = 1) : who L c ov j = x ↔ (ov = 1 ∧ c j % 2 = 0 ∧ q = c j / 2 ∨ ov = 1 ∧ c j % 2 ≠ 0 ∧ q = c j / 2 + 1 ∨ ov = 0 ∧ c j % 2 = 0 ∧ q = c j / 2 + 1 ∨ ov = 0 ∧ c j % 2 ≠ 0 ∧ q = c j / 2) := by
  have key : ∀ z : Int, 0 ≤ z → z < cnt L → (wO L c j z = x ↔ z = q) := fun z z0 z1 => ⟨fun e => wO_inj hL v z q z0 z1 hq.1 hq.2 (e.trans hx.symm), fun e => e ▸ hx⟩
  unfold who
  by_cases o : (c j % 2 = 0 ↔ ov = 1)
  · rw [if_pos o, key _ (by omega) (by omega)]
    omega
  · rw [if_neg o, key _ (by omega) (by omega)]
    omega
theorem and_m1_f : ∀ (l : Fin 64), i_and ((l : Nat) : Int) (i_xor 0 (-1)) = ((l : Nat) : Int) := by decide +kernel
/-- whom one is bound to, as bits -/
def bdN (L : Int) (c : Int → Int) (n : Nat) (x : Int) : Nat → Int
  | 0 => 0
  | k + 1 => bdN L c n x k + (if wB L c n (6 * x + k) ≠ 0 then 2 ^ k else 0)
theorem bdN_R {x : Int} : ∀ k : Nat, 0 ≤ bdN L c n x k ∧ bdN L c n x k < 2 ^ k
  | 0 => by simp [bdN]
  | k + 1 => by
    have := bdN_R (x := x) k
    simp only [bdN, Int.pow_succ]
    split <;> omega
def bd (L : Int) (c : Int → Int) (n : Nat) (x : Int) : Int := bdN L c n x 6
/-- how many are free -/
def fcN (L : Int) (c : Int → Int) (n : Nat) : Nat → Int
  | 0 => 0
  | k + 1 => fcN L c n k + bI (bt L k = 1 ∧ bd L c n k = 0)
theorem fcN_R : ∀ k : Nat, 0 ≤ fcN L c n k ∧ fcN L c n k ≤ k
  | 0 => by simp [fcN]
  | k + 1 => by
    have := fcN_R k
    have := bI_R (bt L k = 1 ∧ bd L c n k = 0)
    simp only [fcN]
    omega
/-- how many pairs stand the other way round -/
def tpI (f : Int → Int) (p : Int) : Nat → Int
  | 0 => 0
  | k + 1 => tpI f p k + (if p < k then bI (f k < f p) else 0)
def tpO (f : Int → Int) (m : Nat) : Nat → Int
  | 0 => 0
  | p + 1 => tpO f m p + tpI f p m
theorem tpI_R (f : Int → Int) (p : Int) : ∀ k : Nat, 0 ≤ tpI f p k ∧ tpI f p k ≤ k
  | 0 => by simp [tpI]
  | k + 1 => by
    have := tpI_R f p k
    have := bI_R (f k < f p)
    simp only [tpI]
    split <;> omega
theorem tpI_0 (f : Int → Int) (p : Int) : ∀ k : Nat, (k : Int) ≤ p + 1 → tpI f p k = 0
  | 0, _ => rfl
  | k + 1, h => by
    simp only [tpI]
    rw [tpI_0 f p k (by omega), if_neg (by omega)]
    rfl
theorem tpO_R (f : Int → Int) (m : Nat) : ∀ k : Nat, 0 ≤ tpO f m k ∧ tpO f m k ≤ k * m
  | 0 => by simp [tpO]
  | k + 1 => by
    have := tpO_R f m k
    have := tpI_R f k m
    simp only [tpO]
    have e : ((k + 1 : Nat) : Int) * (m : Int) = k * m + m := by
      rw [Int.natCast_add, Int.add_mul]
      simp
    omega
/-- what is left when one lets go: how many codes, which -/
def rk (L : Int) (c : Int → Int) (q : Int) : Nat → Nat
  | 0 => 0
  | i + 1 => if plN c i q = c i / 2 ∨ plN c i q = c i / 2 + 1 then rk L c q i else rk L c q i + 1
def rc (L : Int) (c : Int → Int) (q : Int) : Nat → Int → Int
  | 0 => fun _ => 0
  | i + 1 => if plN c i q = c i / 2 ∨ plN c i q = c i / 2 + 1 then rc L c q i else fun j => if j = (rk L c q i : Int) then (if plN c i q < c i / 2 then c i - 2 else c i) else rc L c q i j
theorem rk_le {q : Int} : ∀ i : Nat, rk L c q i ≤ i
  | 0 => Nat.le_refl _
  | i + 1 => by
    have := rk_le (q := q) i
    simp only [rk]
    split <;> omega
theorem rc_v {q : Int} (h0 : 0 ≤ q) (h1 : q < cnt L) : ∀ {i : Nat}, vC L c i → ∀ j : Int, 0 ≤ j → j < rk L c q i → 0 ≤ rc L c q i j ∧ rc L c q i j < 2 * (cnt L - 1 - 1)
  | 0, _, j, h2, h3 => by simp [rk] at h3; omega
  | i + 1, v, j, h2, h3 => by
    have v' := vC_less v (Nat.le_succ i)
    have hv := v i (by omega) (by omega)
    have hp := plN_R v' q h0 h1
    have ih := rc_v h0 h1 v' j h2
    simp only [rk] at h3
    simp only [rc]
    by_cases e : plN c i q = c i / 2 ∨ plN c i q = c i / 2 + 1
    · rw [if_pos e] at h3 ⊢
      exact ih h3
    · rw [if_neg e] at h3 ⊢
      split
      · split <;> omega
      · exact ih (by omega)
theorem m_placeBehind (hP : isPl a) (hd : 2 ≤ d) (hp : PL a L n c s) {m x : Int} (hm : 0 ≤ m ∧ m < 1000) (hx : 0 ≤ x ∧ x < 6 ∧ bt L x = 1) (k : Q (some (vI (plN c (min m n).toNat (cntN L x.toNat)))) (HP h0 s)) : wpM PP d 217 [vR a, vI m, vI x] (HP h0 s) Q := by
  have ha := hP.1.1
  have hc := cnt_R L
  have hn := hp.hn
  have q3 := hp.left
  have q4 := hp.count
  have q5 := hp.size
  have hL := hp.hL
  have L1 : ∀ N : Nat, ∀ (j : Nat) (i : Int) (q : Int), (i = j) → (N = (min m n).toNat - j ∧ j ≤ (min m n).toNat) → (q = plN c j (cntN L x.toNat)) →  wp PP d mb217 (mb217.getD 1 []) [some (vR a), some (vI m), some (vI x), some (vI q), some (vI i)] [] (HP h0 s) Q := by
    refine s_ind (fun N ih => ?_)
    intro j i q hj hn2 hq
    have g8 : i < n → s (a + 1) i = c i := fun q => hp.code (by omega) q
    have g9 : i < n → 0 ≤ c i ∧ c i < 2 * (cnt L - 1) := fun q => hp.v i (by omega) q
    have vj : vC L c j := vC_less hp.v (by omega)
    have gq := plN_R vj (cntN L x.toNat) (cntN_R L x.toNat).1 (ord_cnt hL hx).2
    rw [← hq] at gq
    refine x_iload rfl ?_
    refine x_iload rfl ?_
    refine n_icmp_ge ⟨by omega, by omega⟩ ⟨by omega, by omega⟩ (fun c1 => ?_) (fun c1 => ?_)
    · refine x_iload rfl ?_
      refine x_iret ?_
      refine cI k ?_
      have e : j = (min m n).toNat := by omega
      rw [← e, hq]
    · refine x_iload rfl ?_
      refine x_aload rfl ?_
      refine h_getI 5 hP.1 rfl rfl ?_
      refine n_icmp_ge ⟨by omega, by omega⟩ ⟨by omega, by omega⟩ (fun c2 => ?_) (fun c2 => ?_)
      · refine x_iload rfl ?_
        refine x_iret ?_
        refine cI k ?_
        have e : j = (min m n).toNat := by omega
        rw [← e, hq]
      · refine x_iload rfl ?_
        refine x_aload rfl ?_
        refine x_iload rfl ?_
        refine n_call [vR _, vI _] [vI _] (by omega) (Nat.le_of_ble_eq_true rfl) rfl rfl (Nat.le_of_ble_eq_true rfl) ?_
        refine m_codeAt hP ⟨by omega, by omega⟩ ?_
        show wp PP _ _ _ [some (vR _), some (vI _), some (vI _), some (vI _), some (vI _)] [vI _, vI _] _ _
        refine n_call [vI _] [vI _] (by omega) (Nat.le_of_ble_eq_true rfl) rfl rfl (Nat.le_of_ble_eq_true rfl) ?_
        refine m_placeOfCode ⟨by omega, by omega⟩ ?_
        show wp PP _ _ _ [some (vR _), some (vI _), some (vI _), some (vI _), some (vI _)] [vI _, vI _] _ _
        refine n_call [vI _, vI _] [] (by omega) (Nat.le_of_ble_eq_true rfl) rfl rfl (Nat.le_of_ble_eq_true rfl) ?_
        refine m_placeAcross ⟨by omega, by omega⟩ ⟨by omega, by omega⟩ ?_
        show wp PP _ _ _ [some (vR _), some (vI _), some (vI _), some (vI _), some (vI _)] [vI _] _ _
        refine n_istore [some (vR _), some (vI _), some (vI _), some (vI _), some (vI _)] (Nat.le_of_ble_eq_true rfl) rfl ?_
        refine n_iinc [some (vR _), some (vI _), some (vI _), some (vI _), some (vI _)] rfl rfl ?_
        refine x_goto ?_
        refine ih ((min m n).toNat - (j + 1)) (by omega) (j + 1) _ _ (by omega) (by omega) (by simp only [plN]; rw [← hq, g8 (by omega), hj])
  refine n_at (m := 217) (q := mr217) (kn := (0, 3)) [some (vR _), some (vI _), some (vI _), none, none] mb217 rfl rfl (h_rcv hP.1) (Nat.le_of_ble_eq_true rfl) rfl rfl ?_
  refine x_aload rfl ?_
  refine x_iload rfl ?_
  refine n_call [vR _, vI _] [] (by omega) (Nat.le_of_ble_eq_true rfl) rfl rfl (Nat.le_of_ble_eq_true rfl) ?_
  refine m_placeAtFirst hP (by omega) (by first | assumption | omega | (simp [up]; omega)) ⟨by omega, by omega⟩ ?_
  show wp PP _ _ _ [some (vR _), some (vI _), some (vI _), _, _] [vI _] _ _
  refine n_istore [some (vR _), some (vI _), some (vI _), some (vI _), _] (Nat.le_of_ble_eq_true rfl) rfl ?_
  refine x_ci ?_
  refine n_istore [some (vR _), some (vI _), some (vI _), some (vI _), some (vI _)] (Nat.le_of_ble_eq_true rfl) rfl ?_
  refine x_fall ?_
  refine L1 ((min m n).toNat) 0 0 _ rfl (by omega) ?_
  rw [hp.left, paf_l hx]
  rfl
theorem m_standsBehind (hP : isPl a) (hd : 9 ≤ d) (hp : PL a L n c s) {m p : Int} (hm : 0 ≤ m ∧ m < 1000) (hx : 0 ≤ p ∧ p < cnt L) (k : Q (some (vI (wO L c (min m n).toNat p))) (HP h0 s)) : wpM PP d 218 [vR a, vI m, vI p] (HP h0 s) Q := by
  have ha := hP.1.1
  have hc := cnt_R L
  have hn := hp.hn
  have q3 := hp.left
  have q4 := hp.count
  have q5 := hp.size
  have hL := hp.hL
  have L2 : ∀ N : Nat, ∀ (j : Nat) (i : Int) (q : Int), (i = j) → (N = 6 - j ∧ j ≤ 6) → (0 ≤ q ∧ q < cnt L) → (wO L c 0 q = wO L c (min m n).toNat p) → (∀ y : Int, 0 ≤ y → y < j → ¬ (bt L y = 1 ∧ cntN L y.toNat = q)) →  wp PP d mb218 (mb218.getD 3 []) [some (vR a), some (vI m), some (vI p), some (vI q), some (vI i)] [] (HP h0 s) Q := by
    refine s_ind (fun N ih => ?_)
    intro j i q hj hn2 hr hq hs
    refine x_iload rfl ?_
    refine x_ci ?_
    refine n_icmp_ge ⟨by omega, by omega⟩ ⟨by omega, by omega⟩ (fun c1 => ?_) (fun c1 => ?_)
    · refine x_ci ?_
      refine x_iret ?_
      exfalso
      have o1 := ord_is (q := 0) hL hr.1 hr.2
      have o2 := cnt_ord hL hr.1 hr.2
      exact hs (ordN L 6 q) o1.1.1 (by omega) ⟨o1.1.2.2, o2⟩
    · refine x_aload rfl ?_
      refine x_iload rfl ?_
      refine n_call [vR _, vI _] [] (by omega) (Nat.le_of_ble_eq_true rfl) rfl rfl (Nat.le_of_ble_eq_true rfl) ?_
      refine m_isLeft hP (by first | assumption | omega | (simp [up]; omega)) ⟨by omega, by omega⟩ ?_
      show wp PP _ _ _ [some (vR _), some (vI _), some (vI _), some (vI _), some (vI _)] [vI _] _ _
      refine z_if_eq (fun c2 => ?_) (fun c2 => ?_)
      · refine n_iinc [some (vR _), some (vI _), some (vI _), some (vI _), some (vI _)] rfl rfl ?_
        refine x_goto ?_
        refine ih (6 - (j + 1)) (by omega) (j + 1) _ _ (by omega) (by omega) hr hq (fun y y0 y1 z => ?_)
        by_cases e : y = j
        · rw [hp.left] at c2
          exact c2 ⟨by omega, by omega, by rw [hj, ← e]; exact z.1⟩
        · exact hs y y0 (by omega) z
      · refine x_aload rfl ?_
        refine x_iload rfl ?_
        refine n_call [vR _, vI _] [] (by omega) (Nat.le_of_ble_eq_true rfl) rfl rfl (Nat.le_of_ble_eq_true rfl) ?_
        refine m_placeAtFirst hP (by omega) (by first | assumption | omega | (simp [up]; omega)) ⟨by omega, by omega⟩ ?_
        show wp PP _ _ _ [some (vR _), some (vI _), some (vI _), some (vI _), some (vI _)] [vI _] _ _
        have pr := paf_R (s a 3) i
        refine x_iload rfl ?_
        refine n_icmp_ne ⟨by omega, by omega⟩ ⟨by omega, by omega⟩ (fun c3 => ?_) (fun c3 => ?_)
        · refine n_iinc [some (vR _), some (vI _), some (vI _), some (vI _), some (vI _)] rfl rfl ?_
          refine x_goto ?_
          refine ih (6 - (j + 1)) (by omega) (j + 1) _ _ (by omega) (by omega) hr hq (fun y y0 y1 z => ?_)
          by_cases e : y = j
          · rw [hp.left] at c3
            have e2 : i = y := by omega
            rw [e2, paf_l ⟨by omega, by omega, z.1⟩] at c3
            exact c3 z.2
          · exact hs y y0 (by omega) z
        · refine x_iload rfl ?_
          refine x_iret ?_
          refine cI k ?_
          rw [← hq]
          have z : paf L i = q := by rw [← hp.left]; assumption
          have zl : 0 ≤ i ∧ i < 6 ∧ bt L i = 1 := by rw [← hp.left]; assumption
          rw [paf_l zl] at z
          simp only [wO]
          rw [← z]
          exact (ord_cnt hL zl).1
  have L1 : ∀ N : Nat, ∀ (j : Nat) (i : Int) (q : Int), (i = j - 1) → (N = j ∧ j ≤ (min m n).toNat) → (0 ≤ q ∧ q < cnt L) → (wO L c j q = wO L c (min m n).toNat p) →  wp PP d mb218 (mb218.getD 1 []) [some (vR a), some (vI m), some (vI p), some (vI q), some (vI i)] [] (HP h0 s) Q := by
    refine s_ind (fun N ih => ?_)
    intro j i q hj hn2 hr hq
    have g8 : 0 ≤ i → s (a + 1) i = c i := fun q => hp.code q (by omega)
    have g9 : 0 ≤ i → 0 ≤ c i ∧ c i < 2 * (cnt L - 1) := fun q => hp.v i q (by omega)
    refine x_iload rfl ?_
    refine n_if_lt ⟨by omega, by omega⟩ (fun c1 => ?_) (fun c1 => ?_)
    · refine x_ci ?_
      refine n_istore [some (vR _), some (vI _), some (vI _), some (vI _), some (vI _)] (Nat.le_of_ble_eq_true rfl) rfl ?_
      refine x_fall ?_
      have e0 : j = 0 := by omega
      subst e0
      refine L2 6 0 0 q rfl (by omega) hr hq (fun y y0 y1 => by omega)
    · refine x_iload rfl ?_
      refine x_aload rfl ?_
      refine x_iload rfl ?_
      refine n_call [vR _, vI _] [vI _] (by omega) (Nat.le_of_ble_eq_true rfl) rfl rfl (Nat.le_of_ble_eq_true rfl) ?_
      refine m_codeAt hP ⟨by omega, by omega⟩ ?_
      show wp PP _ _ _ [some (vR _), some (vI _), some (vI _), some (vI _), some (vI _)] [vI _, vI _] _ _
      refine n_call [vI _] [vI _] (by omega) (Nat.le_of_ble_eq_true rfl) rfl rfl (Nat.le_of_ble_eq_true rfl) ?_
      refine m_placeOfCode ⟨by omega, by omega⟩ ?_
      show wp PP _ _ _ [some (vR _), some (vI _), some (vI _), some (vI _), some (vI _)] [vI _, vI _] _ _
      refine n_call [vI _, vI _] [] (by omega) (Nat.le_of_ble_eq_true rfl) rfl rfl (Nat.le_of_ble_eq_true rfl) ?_
      refine m_placeAcross ⟨by omega, by omega⟩ ⟨by omega, by omega⟩ ?_
      show wp PP _ _ _ [some (vR _), some (vI _), some (vI _), some (vI _), some (vI _)] [vI _] _ _
      refine n_istore [some (vR _), some (vI _), some (vI _), some (vI _), some (vI _)] (Nat.le_of_ble_eq_true rfl) rfl ?_
      refine n_iinc [some (vR _), some (vI _), some (vI _), some (vI _), some (vI _)] rfl rfl ?_
      refine x_goto ?_
      obtain ⟨j, rfl⟩ : ∃ e, j = e + 1 := ⟨j - 1, by omega⟩
      have e9 : i = j := by omega
      refine ih j (by omega) j _ _ (by omega) (by omega) ?_ ?_
      · unfold plA
        repeat' split
        all_goals omega
      · rw [← hq, wO_succ, g8 (by omega), ← e9]
  refine n_at (m := 218) (q := mr218) (kn := (0, 3)) [some (vR _), some (vI _), some (vI _), none, none] mb218 rfl rfl (h_rcv hP.1) (Nat.le_of_ble_eq_true rfl) rfl rfl ?_
  refine x_iload rfl ?_
  refine n_istore [some (vR _), some (vI _), some (vI _), some (vI _), _] (Nat.le_of_ble_eq_true rfl) rfl ?_
  refine x_iload rfl ?_
  refine x_aload rfl ?_
  refine h_getI 5 hP.1 rfl rfl ?_
  refine n_imin ⟨by omega, by omega⟩ ⟨by omega, by omega⟩ (by omega) (Nat.le_of_ble_eq_true rfl) ?_
  refine x_ci ?_
  refine x_isub ?_
  refine n_istore [some (vR _), some (vI _), some (vI _), some (vI _), some (vI _)] (Nat.le_of_ble_eq_true rfl) rfl ?_
  refine x_fall ?_
  refine L1 (min m n).toNat (min m n).toNat _ _ (by omega) (by omega) hx ?_
  rfl
theorem m_passes (hP : isPl a) (hd : 2 ≤ d) (hp : PL a L n c s) {x ov : Int} (hov : ov = 0 ∨ ov = 1) (hx : 0 ≤ x ∧ x < 6 ∧ bt L x = 1) (k : Q (some (vI (wP L c ov x n))) (HP h0 s)) : wpM PP d 220 [vR a, vI x, vI ov] (HP h0 s) Q := by
  have ha := hP.1.1
  have hc := cnt_R L
  have hn := hp.hn
  have q3 := hp.left
  have q4 := hp.count
  have q5 := hp.size
  have hL := hp.hL
  have L1 : ∀ N : Nat, ∀ {o6 o7 o8 : Option pv} (j : Nat) (i : Int) (q : Int) (w : Int), (i = j) → (N = n - j ∧ j ≤ n) → (q = plN c j (cntN L x.toNat)) → (w = wP L c ov x j) →  wp PP d mb220 (mb220.getD 1 []) [some (vR a), some (vI x), some (vI ov), some (vI w), some (vI q), some (vI i), o6, o7, o8] [] (HP h0 s) Q := by
    refine s_ind (fun N ih => ?_)
    intro o6 o7 o8 j i q w hj hn2 hq hw
    have g8 : i < n → s (a + 1) i = c i := fun q => hp.code (by omega) q
    have g9 : i < n → 0 ≤ c i ∧ c i < 2 * (cnt L - 1) := fun q => hp.v i (by omega) q
    have g7 : i < n → s (a + 1) i = c j := fun q => by rw [g8 q, hj]
    have vj : vC L c j := vC_less hp.v (by omega)
    have gq := plN_R vj (cntN L x.toNat) (cntN_R L x.toNat).1 (ord_cnt hL hx).2
    rw [← hq] at gq
    have go := wO_at (c := c) hL hx j
    rw [← hq] at go
    have gw := wP_R (L := L) (c := c) (ov := ov) (x := x) j
    have gj : j < n → 0 ≤ c j ∧ c j < 2 * (cnt L - 1) := fun q => hp.v j (by omega) (by omega)
    have gi : j < n → ∀ z : Int, 0 ≤ z → z < cnt L → wO L c j z = x → z = q := fun w z z0 z1 z2 => wO_inj hL vj z q z0 z1 gq.1 gq.2 (z2.trans go.symm)
    refine x_iload rfl ?_
    refine x_aload rfl ?_
    refine h_getI 5 hP.1 rfl rfl ?_
    refine n_icmp_ge ⟨by omega, by omega⟩ ⟨by omega, by omega⟩ (fun c1 => ?_) (fun c1 => ?_)
    · refine x_iload rfl ?_
      refine x_iret ?_
      first
        | (refine cI k ?_
           have e : j = n := by omega
           rw [← e, hw])
        | (exfalso; omega)
    · refine x_iload rfl ?_
      refine x_ci ?_
      refine n_icmp_eq ⟨by omega, by omega⟩ ⟨by omega, by omega⟩ (fun c2 => ?_) (fun c2 => ?_)
      · refine x_iload rfl ?_
        refine x_iret ?_
        first
          | (refine cI k ?_
             have e : j = n := by omega
             rw [← e, hw])
          | (exfalso; omega)
      · refine x_aload rfl ?_
        refine x_iload rfl ?_
        refine n_call [vR _, vI _] [] (by omega) (Nat.le_of_ble_eq_true rfl) rfl rfl (Nat.le_of_ble_eq_true rfl) ?_
        refine m_codeAt hP ⟨by omega, by omega⟩ ?_
        show wp PP _ _ _ [some (vR _), some (vI _), some (vI _), some (vI _), some (vI _), some (vI _), _, _, _] [vI _] _ _
        refine t_I (c j) (g7 (by omega)) ?_
        have e6 := gj (by omega)
        have wi := fun (_ : True) => who_iff hL vj (by omega) gq go hov
        refine n_istore [some (vR _), some (vI _), some (vI _), some (vI _), some (vI _), some (vI _), some (vI _), _, _] (Nat.le_of_ble_eq_true rfl) rfl ?_
        refine x_iload rfl ?_
        refine n_call [vI _] [] (by omega) (Nat.le_of_ble_eq_true rfl) rfl rfl (Nat.le_of_ble_eq_true rfl) ?_
        refine m_placeOfCode ⟨by omega, by omega⟩ ?_
        show wp PP _ _ _ [some (vR _), some (vI _), some (vI _), some (vI _), some (vI _), some (vI _), some (vI _), _, _] [vI _] _ _
        refine n_istore [some (vR _), some (vI _), some (vI _), some (vI _), some (vI _), some (vI _), some (vI _), some (vI _), _] (Nat.le_of_ble_eq_true rfl) rfl ?_
        refine x_iload rfl ?_
        refine x_iload rfl ?_
        refine n_call [vI _, vI _] [] (by omega) (Nat.le_of_ble_eq_true rfl) rfl rfl (Nat.le_of_ble_eq_true rfl) ?_
        refine m_placeAcross ⟨by omega, by omega⟩ ⟨by omega, by omega⟩ ?_
        show wp PP _ _ _ [some (vR _), some (vI _), some (vI _), some (vI _), some (vI _), some (vI _), some (vI _), some (vI _), _] [vI _] _ _
        obtain ⟨y, hy⟩ : ∃ y, y = plA q (c j / 2) := ⟨_, rfl⟩
        rw [← hy]
        have py : True → ((q = c j / 2 ∧ y = c j / 2 + 1) ∨ (q = c j / 2 + 1 ∧ y = c j / 2) ∨ (q ≠ c j / 2 ∧ q ≠ c j / 2 + 1 ∧ y = q)) := fun _ => hy ▸ plA_is q (c j / 2)
        have yb : 0 ≤ y ∧ y < 8 := by
          have := py trivial
          omega
        refine n_istore [some (vR _), some (vI _), some (vI _), some (vI _), some (vI _), some (vI _), some (vI _), some (vI _), some (vI _)] (Nat.le_of_ble_eq_true rfl) rfl ?_
        refine x_iload rfl ?_
        refine x_iload rfl ?_
        refine n_icmp_eq ⟨by omega, by omega⟩ ⟨by omega, by omega⟩ (fun c3 => ?_) (fun c3 => ?_)
        · refine x_iload rfl ?_
          refine n_istore [some (vR _), some (vI _), some (vI _), some (vI _), some (vI _), some (vI _), some (vI _), some (vI _), some (vI _)] (Nat.le_of_ble_eq_true rfl) rfl ?_
          refine n_iinc [some (vR _), some (vI _), some (vI _), some (vI _), some (vI _), some (vI _), some (vI _), some (vI _), some (vI _)] rfl rfl ?_
          refine x_goto ?_
          refine ih (n - (j + 1)) (by omega) (j + 1) _ _ _ (by omega) (by omega) ?_ ?_
          · simp only [plN]
            rw [← hq, hy]
          · have py := py trivial
            simp only [wP]
            rw [← hw]
            first
              | (rw [bI_t ((wi trivial).mpr (by omega))]; done)
              | (rw [bI_f (fun e => by have := (wi trivial).mp e; omega)]; omega)
        · refine x_iload rfl ?_
          refine x_iload rfl ?_
          refine n_icmp_ne ⟨by omega, by omega⟩ ⟨by omega, by omega⟩ (fun c4 => ?_) (fun c4 => ?_)
          · refine x_ci ?_
            refine x_fall ?_
            refine x_iload rfl ?_
            refine n_call [vI _] [vI _] (by omega) (Nat.le_of_ble_eq_true rfl) rfl rfl (Nat.le_of_ble_eq_true rfl) ?_
            refine m_isOver ⟨by omega, by omega⟩ ?_
            show wp PP _ _ _ [some (vR _), some (vI _), some (vI _), some (vI _), some (vI _), some (vI _), some (vI _), some (vI _), some (vI _)] [vI _, vI _] _ _
            have bo := bI_R (c j % 2 = 0)
            have bo2 := fun (_ : True) => bI_or (c j % 2 = 0)
            refine x_iload rfl ?_
            refine n_icmp_ne ⟨by omega, by omega⟩ ⟨by omega, by omega⟩ (fun c5 => ?_) (fun c5 => ?_)
            · refine x_ci ?_
              refine x_fall ?_
              refine n_icmp_ne ⟨by omega, by omega⟩ ⟨by omega, by omega⟩ (fun c6 => ?_) (fun c6 => ?_)
              · refine x_iload rfl ?_
                refine n_istore [some (vR _), some (vI _), some (vI _), some (vI _), some (vI _), some (vI _), some (vI _), some (vI _), some (vI _)] (Nat.le_of_ble_eq_true rfl) rfl ?_
                refine n_iinc [some (vR _), some (vI _), some (vI _), some (vI _), some (vI _), some (vI _), some (vI _), some (vI _), some (vI _)] rfl rfl ?_
                refine x_goto ?_
                refine ih (n - (j + 1)) (by omega) (j + 1) _ _ _ (by omega) (by omega) ?_ ?_
                · simp only [plN]
                  rw [← hq, hy]
                · have py := py trivial
                  have bo2 := bo2 trivial
                  simp only [wP]
                  rw [← hw]
                  first
                    | (rw [bI_t ((wi trivial).mpr (by omega))]; done)
                    | (rw [bI_f (fun e => by have := (wi trivial).mp e; omega)]; omega)
              · refine n_iinc [some (vR _), some (vI _), some (vI _), some (vI _), some (vI _), some (vI _), some (vI _), some (vI _), some (vI _)] rfl rfl ?_
                refine x_fall ?_
                refine x_iload rfl ?_
                refine n_istore [some (vR _), some (vI _), some (vI _), some (vI _), some (vI _), some (vI _), some (vI _), some (vI _), some (vI _)] (Nat.le_of_ble_eq_true rfl) rfl ?_
                refine n_iinc [some (vR _), some (vI _), some (vI _), some (vI _), some (vI _), some (vI _), some (vI _), some (vI _), some (vI _)] rfl rfl ?_
                refine x_goto ?_
                refine ih (n - (j + 1)) (by omega) (j + 1) _ _ _ (by omega) (by omega) ?_ ?_
                · simp only [plN]
                  rw [← hq, hy]
                · have py := py trivial
                  have bo2 := bo2 trivial
                  simp only [wP]
                  rw [← hw]
                  first
                    | (rw [bI_t ((wi trivial).mpr (by omega))]; done)
                    | (rw [bI_f (fun e => by have := (wi trivial).mp e; omega)]; omega)
            · refine x_ci ?_
              refine x_goto ?_
              refine n_icmp_ne ⟨by omega, by omega⟩ ⟨by omega, by omega⟩ (fun c6 => ?_) (fun c6 => ?_)
              · refine x_iload rfl ?_
                refine n_istore [some (vR _), some (vI _), some (vI _), some (vI _), some (vI _), some (vI _), some (vI _), some (vI _), some (vI _)] (Nat.le_of_ble_eq_true rfl) rfl ?_
                refine n_iinc [some (vR _), some (vI _), some (vI _), some (vI _), some (vI _), some (vI _), some (vI _), some (vI _), some (vI _)] rfl rfl ?_
                refine x_goto ?_
                refine ih (n - (j + 1)) (by omega) (j + 1) _ _ _ (by omega) (by omega) ?_ ?_
                · simp only [plN]
                  rw [← hq, hy]
                · have py := py trivial
                  have bo2 := bo2 trivial
                  simp only [wP]
                  rw [← hw]
                  first
                    | (rw [bI_t ((wi trivial).mpr (by omega))]; done)
                    | (rw [bI_f (fun e => by have := (wi trivial).mp e; omega)]; omega)
              · refine n_iinc [some (vR _), some (vI _), some (vI _), some (vI _), some (vI _), some (vI _), some (vI _), some (vI _), some (vI _)] rfl rfl ?_
                refine x_fall ?_
                refine x_iload rfl ?_
                refine n_istore [some (vR _), some (vI _), some (vI _), some (vI _), some (vI _), some (vI _), some (vI _), some (vI _), some (vI _)] (Nat.le_of_ble_eq_true rfl) rfl ?_
                refine n_iinc [some (vR _), some (vI _), some (vI _), some (vI _), some (vI _), some (vI _), some (vI _), some (vI _), some (vI _)] rfl rfl ?_
                refine x_goto ?_
                refine ih (n - (j + 1)) (by omega) (j + 1) _ _ _ (by omega) (by omega) ?_ ?_
                · simp only [plN]
                  rw [← hq, hy]
                · have py := py trivial
                  have bo2 := bo2 trivial
                  simp only [wP]
                  rw [← hw]
                  first
                    | (rw [bI_t ((wi trivial).mpr (by omega))]; done)
                    | (rw [bI_f (fun e => by have := (wi trivial).mp e; omega)]; omega)
          · refine x_ci ?_
            refine x_goto ?_
            refine x_iload rfl ?_
            refine n_call [vI _] [vI _] (by omega) (Nat.le_of_ble_eq_true rfl) rfl rfl (Nat.le_of_ble_eq_true rfl) ?_
            refine m_isOver ⟨by omega, by omega⟩ ?_
            show wp PP _ _ _ [some (vR _), some (vI _), some (vI _), some (vI _), some (vI _), some (vI _), some (vI _), some (vI _), some (vI _)] [vI _, vI _] _ _
            have bo := bI_R (c j % 2 = 0)
            have bo2 := fun (_ : True) => bI_or (c j % 2 = 0)
            refine x_iload rfl ?_
            refine n_icmp_ne ⟨by omega, by omega⟩ ⟨by omega, by omega⟩ (fun c5 => ?_) (fun c5 => ?_)
            · refine x_ci ?_
              refine x_fall ?_
              refine n_icmp_ne ⟨by omega, by omega⟩ ⟨by omega, by omega⟩ (fun c6 => ?_) (fun c6 => ?_)
              · refine x_iload rfl ?_
                refine n_istore [some (vR _), some (vI _), some (vI _), some (vI _), some (vI _), some (vI _), some (vI _), some (vI _), some (vI _)] (Nat.le_of_ble_eq_true rfl) rfl ?_
                refine n_iinc [some (vR _), some (vI _), some (vI _), some (vI _), some (vI _), some (vI _), some (vI _), some (vI _), some (vI _)] rfl rfl ?_
                refine x_goto ?_
                refine ih (n - (j + 1)) (by omega) (j + 1) _ _ _ (by omega) (by omega) ?_ ?_
                · simp only [plN]
                  rw [← hq, hy]
                · have py := py trivial
                  have bo2 := bo2 trivial
                  simp only [wP]
                  rw [← hw]
                  first
                    | (rw [bI_t ((wi trivial).mpr (by omega))]; done)
                    | (rw [bI_f (fun e => by have := (wi trivial).mp e; omega)]; omega)
              · refine n_iinc [some (vR _), some (vI _), some (vI _), some (vI _), some (vI _), some (vI _), some (vI _), some (vI _), some (vI _)] rfl rfl ?_
                refine x_fall ?_
                refine x_iload rfl ?_
                refine n_istore [some (vR _), some (vI _), some (vI _), some (vI _), some (vI _), some (vI _), some (vI _), some (vI _), some (vI _)] (Nat.le_of_ble_eq_true rfl) rfl ?_
                refine n_iinc [some (vR _), some (vI _), some (vI _), some (vI _), some (vI _), some (vI _), some (vI _), some (vI _), some (vI _)] rfl rfl ?_
                refine x_goto ?_
                refine ih (n - (j + 1)) (by omega) (j + 1) _ _ _ (by omega) (by omega) ?_ ?_
                · simp only [plN]
                  rw [← hq, hy]
                · have py := py trivial
                  have bo2 := bo2 trivial
                  simp only [wP]
                  rw [← hw]
                  first
                    | (rw [bI_t ((wi trivial).mpr (by omega))]; done)
                    | (rw [bI_f (fun e => by have := (wi trivial).mp e; omega)]; omega)
            · refine x_ci ?_
              refine x_goto ?_
              refine n_icmp_ne ⟨by omega, by omega⟩ ⟨by omega, by omega⟩ (fun c6 => ?_) (fun c6 => ?_)
              · refine x_iload rfl ?_
                refine n_istore [some (vR _), some (vI _), some (vI _), some (vI _), some (vI _), some (vI _), some (vI _), some (vI _), some (vI _)] (Nat.le_of_ble_eq_true rfl) rfl ?_
                refine n_iinc [some (vR _), some (vI _), some (vI _), some (vI _), some (vI _), some (vI _), some (vI _), some (vI _), some (vI _)] rfl rfl ?_
                refine x_goto ?_
                refine ih (n - (j + 1)) (by omega) (j + 1) _ _ _ (by omega) (by omega) ?_ ?_
                · simp only [plN]
                  rw [← hq, hy]
                · have py := py trivial
                  have bo2 := bo2 trivial
                  simp only [wP]
                  rw [← hw]
                  first
                    | (rw [bI_t ((wi trivial).mpr (by omega))]; done)
                    | (rw [bI_f (fun e => by have := (wi trivial).mp e; omega)]; omega)
              · refine n_iinc [some (vR _), some (vI _), some (vI _), some (vI _), some (vI _), some (vI _), some (vI _), some (vI _), some (vI _)] rfl rfl ?_
                refine x_fall ?_
                refine x_iload rfl ?_
                refine n_istore [some (vR _), some (vI _), some (vI _), some (vI _), some (vI _), some (vI _), some (vI _), some (vI _), some (vI _)] (Nat.le_of_ble_eq_true rfl) rfl ?_
                refine n_iinc [some (vR _), some (vI _), some (vI _), some (vI _), some (vI _), some (vI _), some (vI _), some (vI _), some (vI _)] rfl rfl ?_
                refine x_goto ?_
                refine ih (n - (j + 1)) (by omega) (j + 1) _ _ _ (by omega) (by omega) ?_ ?_
                · simp only [plN]
                  rw [← hq, hy]
                · have py := py trivial
                  have bo2 := bo2 trivial
                  simp only [wP]
                  rw [← hw]
                  first
                    | (rw [bI_t ((wi trivial).mpr (by omega))]; done)
                    | (rw [bI_f (fun e => by have := (wi trivial).mp e; omega)]; omega)
  refine n_at (m := 220) (q := mr220) (kn := (0, 3)) [some (vR _), some (vI _), some (vI _), none, none, none, none, none, none] mb220 rfl rfl (h_rcv hP.1) (Nat.le_of_ble_eq_true rfl) rfl rfl ?_
  refine x_ci ?_
  refine n_istore [some (vR _), some (vI _), some (vI _), some (vI _), _, _, _, _, _] (Nat.le_of_ble_eq_true rfl) rfl ?_
  refine x_aload rfl ?_
  refine x_iload rfl ?_
  refine n_call [vR _, vI _] [] (by omega) (Nat.le_of_ble_eq_true rfl) rfl rfl (Nat.le_of_ble_eq_true rfl) ?_
  refine m_placeAtFirst hP (by omega) (by first | assumption | omega | (simp [up]; omega)) ⟨by omega, by omega⟩ ?_
  show wp PP _ _ _ [some (vR _), some (vI _), some (vI _), some (vI _), _, _, _, _, _] [vI _] _ _
  refine n_istore [some (vR _), some (vI _), some (vI _), some (vI _), some (vI _), _, _, _, _] (Nat.le_of_ble_eq_true rfl) rfl ?_
  refine x_ci ?_
  refine n_istore [some (vR _), some (vI _), some (vI _), some (vI _), some (vI _), some (vI _), _, _, _] (Nat.le_of_ble_eq_true rfl) rfl ?_
  refine x_fall ?_
  refine L1 n 0 0 _ 0 rfl (by omega) ?_ rfl
  rw [hp.left, paf_l hx]
  rfl
end P4
