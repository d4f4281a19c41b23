/-! WHAT HANGS ON A CROSSING, both sides -/
section HG
variable {d a : Nat} {h0 h : pheap} {s : St} {Q : Option pv → pheap → Prop} {L : Int} {n : Nat} {c c' : Int → Int}
abbrev nearP (x y : Int) : Prop := x / 2 - y / 2 ≤ 1 ∧ y / 2 - x / 2 ≤ 1
/-- which of the first k hang on k0 (itself among them) -/
def hgN (c : Int → Int) (k0 : Nat) : Nat → Int → Int
  | 0 => fun _ => 0
  | k + 1 => fun j => if j = k then (if k = k0 ∨ (k0 < k ∧ ∃ i : Fin k, k0 ≤ i.1 ∧ hgN c k0 k ((i.1 : Nat) : Int) = 1 ∧ nearP (c ((i.1 : Nat) : Int)) (c k)) then 1 else 0) else hgN c k0 k j
def hcN (c : Int → Int) (k0 : Nat) : Nat → Int
  | 0 => 0
  | k + 1 => hcN c k0 k + (if hgN c k0 (k + 1) k = 1 ∧ ¬ k = k0 then 1 else 0)
theorem hcN_R {k0 : Nat} : ∀ k : Nat, 0 ≤ hcN c k0 k ∧ hcN c k0 k ≤ k
  | 0 => by simp [hcN]
  | k + 1 => by
    have := hcN_R (k0 := k0) k
    simp only [hcN]
    split <;> omega
theorem hg_at {k0 k : Nat} : hgN c k0 (k + 1) k = (if k = k0 ∨ (k0 < k ∧ ∃ i : Fin k, k0 ≤ i.1 ∧ hgN c k0 k ((i.1 : Nat) : Int) = 1 ∧ nearP (c ((i.1 : Nat) : Int)) (c k)) then 1 else 0) := if_pos rfl
theorem hgN_low {k0 : Nat} : ∀ k : Nat, k ≤ k0 → ∀ j : Int, hgN c k0 k j = 0
  | 0, _, _ => rfl
  | k + 1, hk, j => by
    simp only [hgN]
    split
    · rw [if_neg (by rintro (q | ⟨q, -⟩) <;> omega)]
    · exact hgN_low k (by omega) j
theorem hcN_low {k0 : Nat} : ∀ k : Nat, k ≤ k0 + 1 → hcN c k0 k = 0
  | 0, _ => rfl
  | k + 1, hk => by
    simp only [hcN]
    rw [hcN_low k (by omega)]
    by_cases q : k = k0
    · rw [if_neg (fun z => z.2 q)]
      rfl
    · rw [if_neg (fun z => by have := hgN_low (c := c) (k0 := k0) (k + 1) (by omega) k; omega)]
      rfl
theorem hg_tab : ∀ (r : Fin 128) (p q : Fin 5), (bt (i_or ((r : Nat) : Int) (i_shl 7 ((p : Nat) : Int))) (((q : Nat) : Int) + 1) = 1 ↔ (bt ((r : Nat) : Int) (((q : Nat) : Int) + 1) = 1 ∨ (((p : Nat) : Int) - ((q : Nat) : Int) ≤ 1 ∧ ((q : Nat) : Int) - ((p : Nat) : Int) ≤ 1))) ∧ 0 ≤ i_or ((r : Nat) : Int) (i_shl 7 ((p : Nat) : Int)) ∧ i_or ((r : Nat) : Int) (i_shl 7 ((p : Nat) : Int)) < 128 ∧ i_and (i_shr ((r : Nat) : Int) (((q : Nat) : Int) + 1)) 1 = bt ((r : Nat) : Int) (((q : Nat) : Int) + 1) := by decide +kernel
theorem hg_is {r p q : Int} (hr : 0 ≤ r ∧ r < 128) (hp : 0 ≤ p ∧ p < 5) (hq : 0 ≤ q ∧ q < 5) : (bt (i_or r (i_shl 7 p)) (q + 1) = 1 ↔ (bt r (q + 1) = 1 ∨ (p - q ≤ 1 ∧ q - p ≤ 1))) ∧ 0 ≤ i_or r (i_shl 7 p) ∧ i_or r (i_shl 7 p) < 128 ∧ i_and (i_shr r (q + 1)) 1 = bt r (q + 1) := by
  have := hg_tab ⟨r.toNat, by omega⟩ ⟨p.toNat, by omega⟩ ⟨q.toNat, by omega⟩
  simp only [Int.toNat_of_nonneg hr.1, Int.toNat_of_nonneg hp.1, Int.toNat_of_nonneg hq.1] at this
  exact this
theorem hg_0 : ∀ (p q : Fin 5), (bt (i_shl 7 ((p : Nat) : Int)) (((q : Nat) : Int) + 1) = 1 ↔ (((p : Nat) : Int) - ((q : Nat) : Int) ≤ 1 ∧ ((q : Nat) : Int) - ((p : Nat) : Int) ≤ 1)) ∧ 0 ≤ i_shl 7 ((p : Nat) : Int) ∧ i_shl 7 ((p : Nat) : Int) < 128 := by decide +kernel
theorem hg_0s {p q : Int} (hp : 0 ≤ p ∧ p < 5) (hq : 0 ≤ q ∧ q < 5) : (bt (i_shl 7 p) (q + 1) = 1 ↔ (p - q ≤ 1 ∧ q - p ≤ 1)) ∧ 0 ≤ i_shl 7 p ∧ i_shl 7 p < 128 := by
  have := hg_0 ⟨p.toNat, by omega⟩ ⟨q.toNat, by omega⟩
  simp only [Int.toNat_of_nonneg hp.1, Int.toNat_of_nonneg hq.1] at this
  exact this
/-- what the mask says: near to one that hangs -/
def mkP (c : Int → Int) (k0 k : Nat) (r : Int) : Prop := (0 ≤ r ∧ r < 128) ∧ ∀ q : Int, 0 ≤ q → q < 5 → (bt r (q + 1) = 1 ↔ ∃ i : Fin k, k0 ≤ i.1 ∧ hgN c k0 k ((i.1 : Nat) : Int) = 1 ∧ (c ((i.1 : Nat) : Int) / 2 - q ≤ 1 ∧ q - c ((i.1 : Nat) : Int) / 2 ≤ 1))
theorem mk_0 {k0 : Nat} (h : 0 ≤ c k0 ∧ c k0 < 10) : mkP c k0 (k0 + 1) (i_shl 7 (c k0 / 2)) := by
  have e := fun (q : Int) (q0 : 0 ≤ q) (q1 : q < 5) => hg_0s (p := c k0 / 2) (q := q) (by omega) ⟨q0, q1⟩
  refine ⟨(e 0 (by decide) (by decide)).2, fun q q0 q1 => ?_⟩
  rw [(e q q0 q1).1]
  have hk : hgN c k0 (k0 + 1) k0 = 1 := by
    rw [hg_at, if_pos (Or.inl rfl)]
  constructor
  · intro z
    exact ⟨⟨k0, by omega⟩, Nat.le_refl _, hk, z⟩
  · rintro ⟨⟨i, hi⟩, i1, -, i3⟩
    have : i = k0 := by
      dsimp only at i1
      omega
    subst this
    exact i3
theorem hg_keep {k0 k : Nat} {j : Int} (hj : j < k) : hgN c k0 (k + 1) j = hgN c k0 k j := by
  simp only [hgN]
  rw [if_neg (by omega)]
theorem mk_no {k0 k : Nat} {r : Int} (hk : k0 < k) (h : mkP c k0 k r) (hc : 0 ≤ c k ∧ c k < 10) (hb : ¬ bt r (c k / 2 + 1) = 1) : mkP c k0 (k + 1) r ∧ hgN c k0 (k + 1) k = 0 := by
  have hno : hgN c k0 (k + 1) k = 0 := by
    rw [hg_at, if_neg]
    rintro (q | ⟨-, i, i1, i2, i3⟩)
    · omega
    · exact hb ((h.2 (c k / 2) (by omega) (by omega)).mpr ⟨i, i1, i2, i3⟩)
  refine ⟨⟨h.1, fun q q0 q1 => ?_⟩, hno⟩
  rw [h.2 q q0 q1]
  constructor
  · rintro ⟨⟨i, hi⟩, i1, i2, i3⟩
    exact ⟨⟨i, by omega⟩, i1, (hg_keep (by dsimp only; omega)).trans i2, i3⟩
  · rintro ⟨⟨i, hi⟩, i1, i2, i3⟩
    by_cases z : i = k
    · subst z
      dsimp only at i2
      omega
    · exact ⟨⟨i, by omega⟩, i1, (hg_keep (by dsimp only; omega)).symm.trans i2, i3⟩
theorem mk_yes {k0 k : Nat} {r : Int} (hk : k0 < k) (h : mkP c k0 k r) (hc : 0 ≤ c k ∧ c k < 10) (hb : bt r (c k / 2 + 1) = 1) : mkP c k0 (k + 1) (i_or r (i_shl 7 (c k / 2))) ∧ hgN c k0 (k + 1) k = 1 := by
  have hyes : hgN c k0 (k + 1) k = 1 := by
    obtain ⟨i, i1, i2, i3⟩ := (h.2 (c k / 2) (by omega) (by omega)).mp hb
    rw [hg_at, if_pos (Or.inr ⟨hk, i, i1, i2, i3⟩)]
  have e := fun (q : Int) (q0 : 0 ≤ q) (q1 : q < 5) => hg_is (r := r) (p := c k / 2) (q := q) h.1 (by omega) ⟨q0, q1⟩
  refine ⟨⟨⟨(e 0 (by decide) (by decide)).2.1, (e 0 (by decide) (by decide)).2.2.1⟩, fun q q0 q1 => ?_⟩, hyes⟩
  rw [(e q q0 q1).1, h.2 q q0 q1]
  constructor
  · rintro (⟨⟨i, hi⟩, i1, i2, i3⟩ | z)
    · exact ⟨⟨i, by omega⟩, i1, (hg_keep (by dsimp only; omega)).trans i2, i3⟩
    · exact ⟨⟨k, by omega⟩, by dsimp only; omega, hyes, z⟩
  · rintro ⟨⟨i, hi⟩, i1, i2, i3⟩
    by_cases z : i = k
    · subst z
      exact Or.inr i3
    · exact Or.inl ⟨⟨i, by omega⟩, i1, (hg_keep (by dsimp only; omega)).symm.trans i2, i3⟩
theorem m_near {x : Int} (hd : 1 ≤ d) (hx : 0 ≤ x ∧ x < 10) (k : Q (some (vI (i_shl 7 (x / 2)))) h) : wpM PP d 222 [vI x] h Q := by
  refine n_at (m := 222) (q := mr222) (kn := (1, 1)) [some (vI _)] mb222 rfl rfl rfl (Nat.le_of_ble_eq_true rfl) rfl rfl ?_
  refine x_ci ?_
  refine x_iload rfl ?_
  refine n_call [vI _] [vI _] (by omega) (Nat.le_of_ble_eq_true rfl) rfl rfl (Nat.le_of_ble_eq_true rfl) ?_
  refine m_placeOfCode ⟨by omega, by omega⟩ ?_
  show wp PP _ _ _ [some (vI _)] [vI _, vI _] _ _
  refine x_ishl ?_
  refine x_iret ?_
  exact k
theorem m_hangOn (hP : isPl a) (hd : 3 ≤ d) (hp : PL a L n c s) {k0 : Nat} (hk : k0 < n) (k : Q (some (vI (hcN c k0 n))) (HP h0 s)) : wpM PP d 221 [vR a, vI k0] (HP h0 s) Q := by
  have ha := hP.1.1
  have hct := cnt_R L
  have hn := hp.hn
  have q3 := hp.left
  have q4 := hp.count
  have q5 := hp.size
  have hL := hp.hL
  have L1 : ∀ N : Nat, ∀ {o5 : Option pv} (j : Nat) (i : Int) (r : Int) (w : Int), (i = j) → (N = n - j ∧ k0 + 1 ≤ j ∧ j ≤ n) → (mkP c k0 j r) → (w = hcN c k0 j) →  wp PP d mb221 (mb221.getD 1 []) [some (vR a), some (vI k0), some (vI r), some (vI w), some (vI i), o5] [] (HP h0 s) Q := by
    refine s_ind (fun N ih => ?_)
    intro o5 j i r w hj hn2 hr hw
    have g8 : i < n → s (a + 1) i = c j := fun z => by
      rw [hj]
      exact hp.code (by omega) (by omega)
    have g9 : i < n → 0 ≤ c j ∧ c j < 10 := fun z => by
      have := hp.v j (by omega) (by omega)
      omega
    have gc := hcN_R (c := c) (k0 := k0) j
    refine x_iload rfl ?_
    refine x_aload rfl ?_
    refine h_getI 5 hP.1 rfl rfl ?_
    refine n_icmp_ge ⟨by omega, by omega⟩ ⟨by omega, by omega⟩ (fun c1 => ?_) (fun c1 => ?_)
    · refine x_iload rfl ?_
      refine x_iret ?_
      refine cI k ?_
      have e : j = n := by omega
      rw [hw, e]
    · refine x_aload rfl ?_
      refine x_iload rfl ?_
      refine n_call [vR _, vI _] [] (by omega) (Nat.le_of_ble_eq_true rfl) rfl rfl (Nat.le_of_ble_eq_true rfl) ?_
      refine m_codeAt hP ⟨by omega, by omega⟩ ?_
      show wp PP _ _ _ [some (vR _), some (vI _), some (vI _), some (vI _), some (vI _), _] [vI _] _ _
      refine t_I (c j) (g8 (by omega)) ?_
      have g9 := g9 (by omega)
      refine n_istore [some (vR _), some (vI _), some (vI _), some (vI _), some (vI _), some (vI _)] (Nat.le_of_ble_eq_true rfl) rfl ?_
      refine x_iload rfl ?_
      refine x_iload rfl ?_
      refine n_call [vI _] [vI _] (by omega) (Nat.le_of_ble_eq_true rfl) rfl rfl (Nat.le_of_ble_eq_true rfl) ?_
      refine m_placeOfCode ⟨by omega, by omega⟩ ?_
      show wp PP _ _ _ [some (vR _), some (vI _), some (vI _), some (vI _), some (vI _), some (vI _)] [vI _, vI _] _ _
      refine x_ci ?_
      refine x_iadd ?_
      refine x_ishr ?_
      refine x_ci ?_
      refine x_iand ?_
      have hq := hg_is (r := r) (p := c j / 2) (q := c j / 2) hr.1 (by omega) (by omega)
      rw [hq.2.2.2]
      have b1 := bt_R r (c j / 2 + 1)
      refine n_if_eq ⟨by omega, by omega⟩ (fun c2 => ?_) (fun c2 => ?_)
      · refine n_iinc [some (vR _), some (vI _), some (vI _), some (vI _), some (vI _), some (vI _)] rfl rfl ?_
        refine x_goto ?_
        have z := mk_no (by omega) hr g9 (by omega)
        refine ih (n - (j + 1)) (by omega) (j + 1) _ _ _ (by omega) (by omega) ?_ ?_
        · exact z.1
        · simp only [hcN]
          rw [if_neg (fun y => by omega), hw]
          omega
      · refine x_iload rfl ?_
        refine x_iload rfl ?_
        refine n_call [vI _] [vI _] (by omega) (Nat.le_of_ble_eq_true rfl) rfl rfl (Nat.le_of_ble_eq_true rfl) ?_
        refine m_near (by omega) ⟨by omega, by omega⟩ ?_
        show wp PP _ _ _ [some (vR _), some (vI _), some (vI _), some (vI _), some (vI _), some (vI _)] [vI _, vI _] _ _
        refine x_ior ?_
        refine n_istore [some (vR _), some (vI _), some (vI _), some (vI _), some (vI _), some (vI _)] (Nat.le_of_ble_eq_true rfl) rfl ?_
        refine n_iinc [some (vR _), some (vI _), some (vI _), some (vI _), some (vI _), some (vI _)] rfl rfl ?_
        refine x_fall ?_
        refine n_iinc [some (vR _), some (vI _), some (vI _), some (vI _), some (vI _), some (vI _)] rfl rfl ?_
        refine x_goto ?_
        have z := mk_yes (by omega) hr g9 (by omega)
        refine ih (n - (j + 1)) (by omega) (j + 1) _ _ _ (by omega) (by omega) ?_ ?_
        · exact z.1
        · simp only [hcN]
          rw [if_pos ⟨z.2, by omega⟩, hw]
  refine n_at (m := 221) (q := mr221) (kn := (0, 2)) [some (vR _), some (vI _), none, none, none, none] mb221 rfl rfl (h_rcv hP.1) (Nat.le_of_ble_eq_true rfl) rfl rfl ?_
  refine x_aload rfl ?_
  refine x_iload rfl ?_
  refine n_call [vR _, vI _] [] (by omega) (Nat.le_of_ble_eq_true rfl) rfl rfl (Nat.le_of_ble_eq_true rfl) ?_
  refine m_codeAt hP ⟨by omega, by omega⟩ ?_
  show wp PP _ _ _ [some (vR _), some (vI _), _, _, _, _] [vI _] _ _
  have hv := hp.v k0 (by omega) (by omega)
  refine t_I (c k0) (hp.code (by omega) (by omega)) ?_
  refine n_call [vI _] [] (by omega) (Nat.le_of_ble_eq_true rfl) rfl rfl (Nat.le_of_ble_eq_true rfl) ?_
  refine m_near (by omega) ⟨by omega, by omega⟩ ?_
  show wp PP _ _ _ [some (vR _), some (vI _), _, _, _, _] [vI _] _ _
  refine n_istore [some (vR _), some (vI _), some (vI _), _, _, _] (Nat.le_of_ble_eq_true rfl) rfl ?_
  refine x_ci ?_
  refine n_istore [some (vR _), some (vI _), some (vI _), some (vI _), _, _] (Nat.le_of_ble_eq_true rfl) rfl ?_
  refine x_iload rfl ?_
  refine x_ci ?_
  refine x_iadd ?_
  refine n_istore [some (vR _), some (vI _), some (vI _), some (vI _), some (vI _), _] (Nat.le_of_ble_eq_true rfl) rfl ?_
  refine x_fall ?_
  refine L1 (n - (k0 + 1)) (k0 + 1) _ _ _ (by omega) (by omega) (mk_0 (by omega)) ?_
  exact (hcN_low _ (by omega)).symm
end HG
