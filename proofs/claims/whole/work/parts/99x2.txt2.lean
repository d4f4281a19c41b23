/-! TEXT: the class's tokens -/
section TX2
variable {d a : Nat} {h0 h : pheap} {s : St} {Q : Option pv → pheap → Prop} {B : Int → Int} {n : Nat} {bt : List (List PI)} {r : List PI} {ls : plocs} {st : List pv} {as : List Nat} {zqq : Int}
theorem x_80 {g : Nat} {l : List Nat} (e : g < 23) (k : wp PP d bt r ls (vR g :: st) h Q) : wp PP d bt ((80, g :: l, zqq) :: r) ls st h Q := (wp_s1 (by decide) (by unfold s1 sS; simp [e])).mpr k
theorem x_84_20 (k : wp PP d bt r ls (vI 19 :: st) h Q) : wp PP d bt ((84, [20], zqq) :: r) ls (vR 20 :: st) h Q := (wp_s1 (by decide) (by unfold s1 sS; simp)).mpr k
theorem x_84_21 (k : wp PP d bt r ls (vI 16 :: st) h Q) : wp PP d bt ((84, [21], zqq) :: r) ls (vR 21 :: st) h Q := (wp_s1 (by decide) (by unfold s1 sS; simp)).mpr k
theorem x_84_23 (k : wp PP d bt r ls (vI 96 :: st) h Q) : wp PP d bt ((84, [23], zqq) :: r) ls (vR 23 :: st) h Q := (wp_s1 (by decide) (by unfold s1 sS; simp)).mpr k
theorem x_82 {i : Int} (e : 0 ≤ i ∧ i < 19) (k : wp PP d bt r ls (vR (1 + i.toNat) :: st) h Q) : wp PP d bt ((82, as, zqq) :: r) ls (vI i :: vR 20 :: st) h Q := by
  have o := ix_ok (n := 19) e.1 e.2 (by decide)
  exact (wp_s1 (by decide) (by unfold s1 sS; simp [o.1, o.2])).mpr k
theorem x_83_21 {i : Int} (e : 0 ≤ i ∧ i < 16) (k : wp PP d bt r ls (vI (sClo.getD i.toNat 0) :: st) h Q) : wp PP d bt ((83, [21], zqq) :: r) ls (vI i :: vR 21 :: st) h Q := by
  have o := ix_ok (n := 16) e.1 e.2 (by decide)
  refine (wp_s1 (by decide) ?_).mpr k
  unfold s1 sS
  simp [o.1, o.2]
theorem x_81_0 {g : Nat} (e : 1 ≤ g ∧ g < 20) (k : wp PP d bt r ls (vI (sPack.getD (g - 1) 0) :: st) h Q) : wp PP d bt ((81, [0], zqq) :: r) ls (vR g :: st) h Q := by
  refine (wp_s1 (by decide) ?_).mpr k
  unfold s1 sS
  simp [e]
theorem x_81_1 {g : Nat} (e : 1 ≤ g ∧ g < 20) (k : wp PP d bt r ls (vI (sKind.getD (g - 1) 0) :: st) h Q) : wp PP d bt ((81, [1], zqq) :: r) ls (vR g :: st) h Q := by
  refine (wp_s1 (by decide) ?_).mpr k
  unfold s1 sS
  simp [e]
theorem x_81_2 {g : Nat} (e : 1 ≤ g ∧ g < 20) (k : wp PP d bt r ls (vI (sNum.getD (g - 1) 0) :: st) h Q) : wp PP d bt ((81, [2], zqq) :: r) ls (vR g :: st) h Q := by
  refine (wp_s1 (by decide) ?_).mpr k
  unfold s1 sS
  simp [e]
theorem x_104_0R {b g : Nat} (k : wp PP d bt r ls st h Q) : wp PP d bt ((104, [0, b], zqq) :: r) ls (vR g :: st) h Q := n_ifnull (fun c => by cases c) (fun _ => k)
theorem x_104_1R {b g : Nat} (k : wp PP d bt (bt.getD b []) ls st h Q) : wp PP d bt ((104, [1, b], zqq) :: r) ls (vR g :: st) h Q := n_ifnonnull (fun _ => k) (fun c => by cases c)
theorem x_104_0N {b : Nat} (k : wp PP d bt (bt.getD b []) ls st h Q) : wp PP d bt ((104, [0, b], zqq) :: r) ls (vN :: st) h Q := n_ifnull (fun _ => k) (fun c => absurd rfl c)
theorem x_104_1N {b : Nat} (k : wp PP d bt r ls st h Q) : wp PP d bt ((104, [1, b], zqq) :: r) ls (vN :: st) h Q := n_ifnonnull (fun c => absurd rfl c) (fun _ => k)
theorem x_85_0 (k : wp PP d bt r ls (vR 23 :: st) h Q) : wp PP d bt ((85, [0], zqq) :: r) ls (vR 22 :: st) h Q := (wp_s1 (by decide) (by unfold s1 sS; simp)).mpr k
theorem x_85_1 (k : wp PP d bt r ls (vI 0 :: st) h Q) : wp PP d bt ((85, [1], zqq) :: r) ls (vR 22 :: st) h Q := (wp_s1 (by decide) (by unfold s1 sS; simp)).mpr k
theorem x_86 (k : wp PP d bt r ls (vI 1 :: st) h Q) : wp PP d bt ((86, as, zqq) :: r) ls st h Q := (wp_s1 (by decide) (by unfold s1 sS; simp)).mpr k
theorem x_87 {i : Int} (e : 0 ≤ i ∧ i < 96) (k : wp PP d bt r ls (vI (sTxt.getD i.toNat 0) :: st) h Q) : wp PP d bt ((87, as, zqq) :: r) ls (vI i :: vR 23 :: st) h Q := by
  have o := ix_ok (n := 96) e.1 e.2 (by decide)
  refine (wp_s1 (by decide) ?_).mpr k
  unfold s1 sS
  simp [o.1, o.2]
theorem x_127 {i m : Int} (hd : 8 ≤ d) (e : 0 ≤ i ∧ i < m ∧ m < 1000) (hc : scat st ≤ 8) (k : wp PP d bt r ls st h Q) : wp PP d bt ((127, as, zqq) :: r) ls (vI m :: vI i :: st) h Q := (wp_sM (vs := []) (st' := st) (by decide) hd (by unfold sM; simp [e]) hc).mpr k
theorem x_cret {x : Int} (e : 0 ≤ x ∧ x < 65536) (k : Q (some (vI x)) h) : wp PP d bt ((111, [2], zqq) :: r) ls [vI x] h Q := (wp_fin (by decide) (by unfold fin; simp [e])).mpr k
theorem x_bret {x : Int} (e : -128 ≤ x ∧ x < 128) (k : Q (some (vI x)) h) : wp PP d bt ((111, [3], zqq) :: r) ls [vI x] h Q := (wp_fin (by decide) (by unfold fin; simp [e])).mpr k
theorem sPack_f : ∀ j : Fin 19, 0 ≤ sPack.getD (j : Nat) 0 ∧ sPack.getD (j : Nat) 0 < 1073741824 := by decide +kernel
theorem sPack_R {j : Nat} (h : j < 19) : 0 ≤ sPack.getD j 0 ∧ sPack.getD j 0 < 1073741824 := sPack_f ⟨j, h⟩
theorem wixN_no {vqq : Int} : ∀ (l : List Int) (b : Int), (∀ j, j < l.length → l.getD j 0 ≠ vqq) → wixN l b vqq = -1
  | [], _, _ => rfl
  | x :: l, b, g => by
    have g0 := g 0 (by simp)
    simp only [wixN]
    rw [if_neg (by simpa using g0)]
    exact wixN_no l (b + 1) (fun j hj => by simpa using g (j + 1) (by simp; omega))
theorem wixN_at {vqq : Int} : ∀ (l : List Int) (b : Int) (i : Nat), i < l.length → l.getD i 0 = vqq → (∀ j, j < i → l.getD j 0 ≠ vqq) → wixN l b vqq = b + i
  | [], _, _, g, _, _ => by simp at g
  | x :: l, b, 0, _, e, _ => by
    simp only [wixN]
    rw [if_pos (by simpa using e)]
    simp
  | x :: l, b, i + 1, hl, e, g => by
    have g0 := g 0 (by omega)
    simp only [wixN]
    rw [if_neg (by simpa using g0), wixN_at l (b + 1) i (by simpa using hl) (by simpa using e) (fun j hj => by simpa using g (j + 1) (by omega))]
    omega
theorem m_wordOf {vqq : Int} (hv : iR vqq) (k0 : wix vqq = -1 → Q (some vN) (HP h0 s)) (k1 : 0 ≤ wix vqq → Q (some (vR (1 + (wix vqq).toNat))) (HP h0 s)) : wpM PP d 302 [vI vqq] (HP h0 s) Q := by
  have L1 : ∀ N : Nat, ∀ {o2 : Option pv} (i : Nat) (ii : Int), (ii = i) → (N = 19 - i ∧ i ≤ 19) → (∀ j : Nat, j < i → sPack.getD j 0 ≠ vqq) →  wp PP d mb302 (mb302.getD 1 []) [some (vI vqq), some (vI ii), o2] [] (HP h0 s) Q := by
    refine s_ind (fun N ih => ?_)
    intro o2 i ii h1 hM g
    subst h1
    refine x_iload rfl ?_
    refine x_80 (by decide) ?_
    refine x_84_20 ?_
    refine n_icmp_ge ⟨by omega, by omega⟩ ⟨by omega, by omega⟩ (fun c1 => ?_) (fun c1 => ?_)
    · refine x_null ?_
      refine x_aret ?_
      refine k0 (wixN_no _ _ (fun j hj => g j (by
        have : sPack.length = 19 := rfl
        omega)))
    · refine x_80 (by decide) ?_
      refine x_iload rfl ?_
      refine x_82 ⟨by omega, by omega⟩ ?_
      refine n_astore [some (vI _), some (vI _), some (vR _)] (Nat.le_of_ble_eq_true rfl) rfl ?_
      refine x_aload rfl ?_
      refine x_104_0R ?_
      refine x_aload rfl ?_
      refine x_81_0 ⟨by omega, by omega⟩ ?_
      rw [show 1 + (i : Int).toNat - 1 = i by omega]
      have sp := sPack_R (j := i) (by omega)
      refine x_iload rfl ?_
      refine n_icmp_ne ⟨by omega, by omega⟩ ⟨by omega, by omega⟩ (fun c2 => ?_) (fun c2 => ?_)
      · refine n_iinc [some (vI _), some (vI _), some (vR _)] rfl rfl ?_
        refine x_goto ?_
        refine ih (19 - (i + 1)) (by omega) (i + 1) _ (by omega) (by omega) (fun j hj => ?_)
        by_cases e : j = i
        · rw [e]
          intro zqq
          exact c2 (zqq.trans rfl)
        · exact g j (by omega)
      · refine x_aload rfl ?_
        refine x_aret ?_
        have e := wixN_at sPack 0 i (by
          have : sPack.length = 19 := rfl
          omega) c2 g
        have e2 : wix vqq = i := by
          unfold wix
          omega
        rw [show 1 + (i : Int).toNat = 1 + (wix vqq).toNat by rw [e2]]
        exact k1 (by omega)
  refine n_at (m := 302) (q := mr302) (kn := (1, 1)) [some (vI _), none, none] mb302 rfl rfl rfl (Nat.le_of_ble_eq_true rfl) rfl rfl ?_
  refine x_ci ?_
  refine n_istore [some (vI _), some (vI _), _] (Nat.le_of_ble_eq_true rfl) rfl ?_
  refine x_fall ?_
  exact L1 19 0 0 rfl (by omega) (fun j hj => by omega)
theorem pkl_f : ∀ c : Fin 27, ∀ i : Fin 6, i_shl ((c : Nat) : Int) (25 - 5 * ((i : Nat) : Int)) = ((c : Nat) : Int) * pwL (i : Nat) := by decide +kernel
theorem pkl_is {x : Int} {i : Nat} (hx : 97 ≤ x ∧ x ≤ 122) (hi : i < 6) : i_shl (x - 97 + 1) (25 - 5 * (i : Int)) = (x - 96) * pwL i := by
  have := pkl_f ⟨(x - 96).toNat, by omega⟩ ⟨i, hi⟩
  simp only at this
  rw [show (((x - 96).toNat : Nat) : Int) = x - 96 by omega] at this
  rw [show x - 97 + 1 = x - 96 by omega]
  exact this
theorem m_packedLetter {x : Int} {i : Nat} (hx : 97 ≤ x ∧ x ≤ 122) (hi : i < 6) (k : Q (some (vI ((x - 96) * pwL i))) h) : wpM PP d 303 [vI x, vI (i : Int)] h Q := by
  refine n_at (m := 303) (q := mr303) (kn := (1, 2)) [some (vI _), some (vI _)] mb303 rfl rfl rfl (Nat.le_of_ble_eq_true rfl) rfl rfl ?_
  refine x_iload rfl ?_
  refine x_ci ?_
  refine x_isub ?_
  refine x_ci ?_
  refine x_iadd ?_
  refine x_ci ?_
  refine x_ci ?_
  refine x_iload rfl ?_
  refine x_imul ?_
  refine x_isub ?_
  refine x_ishl ?_
  rw [pkl_is hx hi]
  refine x_iret ?_
  exact k
theorem sgOf_d {x y : Int} (h : x ≠ 59 ∧ x ≠ 40 ∧ x ≠ 41 ∧ x ≠ 43 ∧ x ≠ 45 ∧ x ≠ 42 ∧ x ≠ 47 ∧ x ≠ 61 ∧ x ≠ 60 ∧ x ≠ 62) : sgOf x y = -1 := by
  unfold sgOf
  rw [if_neg h.1, if_neg h.2.1, if_neg h.2.2.1, if_neg h.2.2.2.1, if_neg h.2.2.2.2.1, if_neg h.2.2.2.2.2.1, if_neg h.2.2.2.2.2.2.1, if_neg h.2.2.2.2.2.2.2.1, if_neg h.2.2.2.2.2.2.2.2.1, if_neg h.2.2.2.2.2.2.2.2.2]
theorem sgOf_60 (y : Int) : sgOf 60 y = if y = 61 then 4 else if y = 62 then 6 else 3 := rfl
theorem sgOf_62 (y : Int) : sgOf 62 y = if y = 61 then 7 else 8 := rfl
theorem m_signOf {x y : Int} (hx : iR x) (hy : iR y) (k : Q (some (vI (sgOf x y))) h) : wpM PP d 297 [vI x, vI y] h Q := by
  refine n_at (m := 297) (q := mr297) (kn := (1, 2)) [some (vI _), some (vI _)] mb297 rfl rfl rfl (Nat.le_of_ble_eq_true rfl) rfl rfl ?_
  refine x_iload rfl ?_
  refine n_tsw 23 rfl ⟨by omega, by omega⟩ (fun c1 => ?_) (And.intro (fun c1 => ?_) (And.intro (fun c1 => ?_) (And.intro (fun c1 => ?_) (And.intro (fun c1 => ?_) (And.intro (fun c1 => ?_) (And.intro (fun c1 => ?_) (And.intro (fun c1 => ?_) (And.intro (fun c1 => ?_) (And.intro (fun c1 => ?_) (And.intro (fun c1 => ?_) (And.intro (fun c1 => ?_) (And.intro (fun c1 => ?_) (And.intro (fun c1 => ?_) (And.intro (fun c1 => ?_) (And.intro (fun c1 => ?_) (And.intro (fun c1 => ?_) (And.intro (fun c1 => ?_) (And.intro (fun c1 => ?_) (And.intro (fun c1 => ?_) (And.intro (fun c1 => ?_) (And.intro (fun c1 => ?_) (And.intro (fun c1 => ?_) (And.intro (fun c1 => ?_) trivial)))))))))))))))))))))))
  · refine x_ci ?_
    refine x_iret ?_
    first
      | exact cI k (sgOf_d (by omega))
      | exact cI k (by rw [show x = 59 by omega]; rfl)
      | exact cI k (by rw [show x = 40 by omega]; rfl)
      | exact cI k (by rw [show x = 41 by omega]; rfl)
      | exact cI k (by rw [show x = 43 by omega]; rfl)
      | exact cI k (by rw [show x = 45 by omega]; rfl)
      | exact cI k (by rw [show x = 42 by omega]; rfl)
      | exact cI k (by rw [show x = 47 by omega]; rfl)
      | exact cI k (by rw [show x = 61 by omega]; rfl)
      | exact cI k (by rw [show x = 60 by omega, sgOf_60, if_pos (by omega)])
      | exact cI k (by rw [show x = 60 by omega, sgOf_60, if_neg (by omega), if_pos (by omega)])
      | exact cI k (by rw [show x = 60 by omega, sgOf_60, if_neg (by omega), if_neg (by omega)])
      | exact cI k (by rw [show x = 62 by omega, sgOf_62, if_pos (by omega)])
      | exact cI k (by rw [show x = 62 by omega, sgOf_62, if_neg (by omega)])
  · refine x_ci ?_
    refine x_iret ?_
    first
      | exact cI k (sgOf_d (by omega))
      | exact cI k (by rw [show x = 59 by omega]; rfl)
      | exact cI k (by rw [show x = 40 by omega]; rfl)
      | exact cI k (by rw [show x = 41 by omega]; rfl)
      | exact cI k (by rw [show x = 43 by omega]; rfl)
      | exact cI k (by rw [show x = 45 by omega]; rfl)
      | exact cI k (by rw [show x = 42 by omega]; rfl)
      | exact cI k (by rw [show x = 47 by omega]; rfl)
      | exact cI k (by rw [show x = 61 by omega]; rfl)
      | exact cI k (by rw [show x = 60 by omega, sgOf_60, if_pos (by omega)])
      | exact cI k (by rw [show x = 60 by omega, sgOf_60, if_neg (by omega), if_pos (by omega)])
      | exact cI k (by rw [show x = 60 by omega, sgOf_60, if_neg (by omega), if_neg (by omega)])
      | exact cI k (by rw [show x = 62 by omega, sgOf_62, if_pos (by omega)])
      | exact cI k (by rw [show x = 62 by omega, sgOf_62, if_neg (by omega)])
  · refine x_ci ?_
    refine x_iret ?_
    first
      | exact cI k (sgOf_d (by omega))
      | exact cI k (by rw [show x = 59 by omega]; rfl)
      | exact cI k (by rw [show x = 40 by omega]; rfl)
      | exact cI k (by rw [show x = 41 by omega]; rfl)
      | exact cI k (by rw [show x = 43 by omega]; rfl)
      | exact cI k (by rw [show x = 45 by omega]; rfl)
      | exact cI k (by rw [show x = 42 by omega]; rfl)
      | exact cI k (by rw [show x = 47 by omega]; rfl)
      | exact cI k (by rw [show x = 61 by omega]; rfl)
      | exact cI k (by rw [show x = 60 by omega, sgOf_60, if_pos (by omega)])
      | exact cI k (by rw [show x = 60 by omega, sgOf_60, if_neg (by omega), if_pos (by omega)])
      | exact cI k (by rw [show x = 60 by omega, sgOf_60, if_neg (by omega), if_neg (by omega)])
      | exact cI k (by rw [show x = 62 by omega, sgOf_62, if_pos (by omega)])
      | exact cI k (by rw [show x = 62 by omega, sgOf_62, if_neg (by omega)])
  · refine x_ci ?_
    refine x_iret ?_
    first
      | exact cI k (sgOf_d (by omega))
      | exact cI k (by rw [show x = 59 by omega]; rfl)
      | exact cI k (by rw [show x = 40 by omega]; rfl)
      | exact cI k (by rw [show x = 41 by omega]; rfl)
      | exact cI k (by rw [show x = 43 by omega]; rfl)
      | exact cI k (by rw [show x = 45 by omega]; rfl)
      | exact cI k (by rw [show x = 42 by omega]; rfl)
      | exact cI k (by rw [show x = 47 by omega]; rfl)
      | exact cI k (by rw [show x = 61 by omega]; rfl)
      | exact cI k (by rw [show x = 60 by omega, sgOf_60, if_pos (by omega)])
      | exact cI k (by rw [show x = 60 by omega, sgOf_60, if_neg (by omega), if_pos (by omega)])
      | exact cI k (by rw [show x = 60 by omega, sgOf_60, if_neg (by omega), if_neg (by omega)])
      | exact cI k (by rw [show x = 62 by omega, sgOf_62, if_pos (by omega)])
      | exact cI k (by rw [show x = 62 by omega, sgOf_62, if_neg (by omega)])
  · refine x_ci ?_
    refine x_iret ?_
    first
      | exact cI k (sgOf_d (by omega))
      | exact cI k (by rw [show x = 59 by omega]; rfl)
      | exact cI k (by rw [show x = 40 by omega]; rfl)
      | exact cI k (by rw [show x = 41 by omega]; rfl)
      | exact cI k (by rw [show x = 43 by omega]; rfl)
      | exact cI k (by rw [show x = 45 by omega]; rfl)
      | exact cI k (by rw [show x = 42 by omega]; rfl)
      | exact cI k (by rw [show x = 47 by omega]; rfl)
      | exact cI k (by rw [show x = 61 by omega]; rfl)
      | exact cI k (by rw [show x = 60 by omega, sgOf_60, if_pos (by omega)])
      | exact cI k (by rw [show x = 60 by omega, sgOf_60, if_neg (by omega), if_pos (by omega)])
      | exact cI k (by rw [show x = 60 by omega, sgOf_60, if_neg (by omega), if_neg (by omega)])
      | exact cI k (by rw [show x = 62 by omega, sgOf_62, if_pos (by omega)])
      | exact cI k (by rw [show x = 62 by omega, sgOf_62, if_neg (by omega)])
  · refine x_ci ?_
    refine x_iret ?_
    first
      | exact cI k (sgOf_d (by omega))
      | exact cI k (by rw [show x = 59 by omega]; rfl)
      | exact cI k (by rw [show x = 40 by omega]; rfl)
      | exact cI k (by rw [show x = 41 by omega]; rfl)
      | exact cI k (by rw [show x = 43 by omega]; rfl)
      | exact cI k (by rw [show x = 45 by omega]; rfl)
      | exact cI k (by rw [show x = 42 by omega]; rfl)
      | exact cI k (by rw [show x = 47 by omega]; rfl)
      | exact cI k (by rw [show x = 61 by omega]; rfl)
      | exact cI k (by rw [show x = 60 by omega, sgOf_60, if_pos (by omega)])
      | exact cI k (by rw [show x = 60 by omega, sgOf_60, if_neg (by omega), if_pos (by omega)])
      | exact cI k (by rw [show x = 60 by omega, sgOf_60, if_neg (by omega), if_neg (by omega)])
      | exact cI k (by rw [show x = 62 by omega, sgOf_62, if_pos (by omega)])
      | exact cI k (by rw [show x = 62 by omega, sgOf_62, if_neg (by omega)])
  · refine x_ci ?_
    refine x_iret ?_
    first
      | exact cI k (sgOf_d (by omega))
      | exact cI k (by rw [show x = 59 by omega]; rfl)
      | exact cI k (by rw [show x = 40 by omega]; rfl)
      | exact cI k (by rw [show x = 41 by omega]; rfl)
      | exact cI k (by rw [show x = 43 by omega]; rfl)
      | exact cI k (by rw [show x = 45 by omega]; rfl)
      | exact cI k (by rw [show x = 42 by omega]; rfl)
      | exact cI k (by rw [show x = 47 by omega]; rfl)
      | exact cI k (by rw [show x = 61 by omega]; rfl)
      | exact cI k (by rw [show x = 60 by omega, sgOf_60, if_pos (by omega)])
      | exact cI k (by rw [show x = 60 by omega, sgOf_60, if_neg (by omega), if_pos (by omega)])
      | exact cI k (by rw [show x = 60 by omega, sgOf_60, if_neg (by omega), if_neg (by omega)])
      | exact cI k (by rw [show x = 62 by omega, sgOf_62, if_pos (by omega)])
      | exact cI k (by rw [show x = 62 by omega, sgOf_62, if_neg (by omega)])
  · refine x_ci ?_
    refine x_iret ?_
    first
      | exact cI k (sgOf_d (by omega))
      | exact cI k (by rw [show x = 59 by omega]; rfl)
      | exact cI k (by rw [show x = 40 by omega]; rfl)
      | exact cI k (by rw [show x = 41 by omega]; rfl)
      | exact cI k (by rw [show x = 43 by omega]; rfl)
      | exact cI k (by rw [show x = 45 by omega]; rfl)
      | exact cI k (by rw [show x = 42 by omega]; rfl)
      | exact cI k (by rw [show x = 47 by omega]; rfl)
      | exact cI k (by rw [show x = 61 by omega]; rfl)
      | exact cI k (by rw [show x = 60 by omega, sgOf_60, if_pos (by omega)])
      | exact cI k (by rw [show x = 60 by omega, sgOf_60, if_neg (by omega), if_pos (by omega)])
      | exact cI k (by rw [show x = 60 by omega, sgOf_60, if_neg (by omega), if_neg (by omega)])
      | exact cI k (by rw [show x = 62 by omega, sgOf_62, if_pos (by omega)])
      | exact cI k (by rw [show x = 62 by omega, sgOf_62, if_neg (by omega)])
  · refine x_ci ?_
    refine x_iret ?_
    first
      | exact cI k (sgOf_d (by omega))
      | exact cI k (by rw [show x = 59 by omega]; rfl)
      | exact cI k (by rw [show x = 40 by omega]; rfl)
      | exact cI k (by rw [show x = 41 by omega]; rfl)
      | exact cI k (by rw [show x = 43 by omega]; rfl)
      | exact cI k (by rw [show x = 45 by omega]; rfl)
      | exact cI k (by rw [show x = 42 by omega]; rfl)
      | exact cI k (by rw [show x = 47 by omega]; rfl)
      | exact cI k (by rw [show x = 61 by omega]; rfl)
      | exact cI k (by rw [show x = 60 by omega, sgOf_60, if_pos (by omega)])
      | exact cI k (by rw [show x = 60 by omega, sgOf_60, if_neg (by omega), if_pos (by omega)])
      | exact cI k (by rw [show x = 60 by omega, sgOf_60, if_neg (by omega), if_neg (by omega)])
      | exact cI k (by rw [show x = 62 by omega, sgOf_62, if_pos (by omega)])
      | exact cI k (by rw [show x = 62 by omega, sgOf_62, if_neg (by omega)])
  · refine x_ci ?_
    refine x_iret ?_
    first
      | exact cI k (sgOf_d (by omega))
      | exact cI k (by rw [show x = 59 by omega]; rfl)
      | exact cI k (by rw [show x = 40 by omega]; rfl)
      | exact cI k (by rw [show x = 41 by omega]; rfl)
      | exact cI k (by rw [show x = 43 by omega]; rfl)
      | exact cI k (by rw [show x = 45 by omega]; rfl)
      | exact cI k (by rw [show x = 42 by omega]; rfl)
      | exact cI k (by rw [show x = 47 by omega]; rfl)
      | exact cI k (by rw [show x = 61 by omega]; rfl)
      | exact cI k (by rw [show x = 60 by omega, sgOf_60, if_pos (by omega)])
      | exact cI k (by rw [show x = 60 by omega, sgOf_60, if_neg (by omega), if_pos (by omega)])
      | exact cI k (by rw [show x = 60 by omega, sgOf_60, if_neg (by omega), if_neg (by omega)])
      | exact cI k (by rw [show x = 62 by omega, sgOf_62, if_pos (by omega)])
      | exact cI k (by rw [show x = 62 by omega, sgOf_62, if_neg (by omega)])
  · refine x_ci ?_
    refine x_iret ?_
    first
      | exact cI k (sgOf_d (by omega))
      | exact cI k (by rw [show x = 59 by omega]; rfl)
      | exact cI k (by rw [show x = 40 by omega]; rfl)
      | exact cI k (by rw [show x = 41 by omega]; rfl)
      | exact cI k (by rw [show x = 43 by omega]; rfl)
      | exact cI k (by rw [show x = 45 by omega]; rfl)
      | exact cI k (by rw [show x = 42 by omega]; rfl)
      | exact cI k (by rw [show x = 47 by omega]; rfl)
      | exact cI k (by rw [show x = 61 by omega]; rfl)
      | exact cI k (by rw [show x = 60 by omega, sgOf_60, if_pos (by omega)])
      | exact cI k (by rw [show x = 60 by omega, sgOf_60, if_neg (by omega), if_pos (by omega)])
      | exact cI k (by rw [show x = 60 by omega, sgOf_60, if_neg (by omega), if_neg (by omega)])
      | exact cI k (by rw [show x = 62 by omega, sgOf_62, if_pos (by omega)])
      | exact cI k (by rw [show x = 62 by omega, sgOf_62, if_neg (by omega)])
  · refine x_ci ?_
    refine x_iret ?_
    first
      | exact cI k (sgOf_d (by omega))
      | exact cI k (by rw [show x = 59 by omega]; rfl)
      | exact cI k (by rw [show x = 40 by omega]; rfl)
      | exact cI k (by rw [show x = 41 by omega]; rfl)
      | exact cI k (by rw [show x = 43 by omega]; rfl)
      | exact cI k (by rw [show x = 45 by omega]; rfl)
      | exact cI k (by rw [show x = 42 by omega]; rfl)
      | exact cI k (by rw [show x = 47 by omega]; rfl)
      | exact cI k (by rw [show x = 61 by omega]; rfl)
      | exact cI k (by rw [show x = 60 by omega, sgOf_60, if_pos (by omega)])
      | exact cI k (by rw [show x = 60 by omega, sgOf_60, if_neg (by omega), if_pos (by omega)])
      | exact cI k (by rw [show x = 60 by omega, sgOf_60, if_neg (by omega), if_neg (by omega)])
      | exact cI k (by rw [show x = 62 by omega, sgOf_62, if_pos (by omega)])
      | exact cI k (by rw [show x = 62 by omega, sgOf_62, if_neg (by omega)])
  · refine x_ci ?_
    refine x_iret ?_
    first
      | exact cI k (sgOf_d (by omega))
      | exact cI k (by rw [show x = 59 by omega]; rfl)
      | exact cI k (by rw [show x = 40 by omega]; rfl)
      | exact cI k (by rw [show x = 41 by omega]; rfl)
      | exact cI k (by rw [show x = 43 by omega]; rfl)
      | exact cI k (by rw [show x = 45 by omega]; rfl)
      | exact cI k (by rw [show x = 42 by omega]; rfl)
      | exact cI k (by rw [show x = 47 by omega]; rfl)
      | exact cI k (by rw [show x = 61 by omega]; rfl)
      | exact cI k (by rw [show x = 60 by omega, sgOf_60, if_pos (by omega)])
      | exact cI k (by rw [show x = 60 by omega, sgOf_60, if_neg (by omega), if_pos (by omega)])
      | exact cI k (by rw [show x = 60 by omega, sgOf_60, if_neg (by omega), if_neg (by omega)])
      | exact cI k (by rw [show x = 62 by omega, sgOf_62, if_pos (by omega)])
      | exact cI k (by rw [show x = 62 by omega, sgOf_62, if_neg (by omega)])
  · refine x_ci ?_
    refine x_iret ?_
    first
      | exact cI k (sgOf_d (by omega))
      | exact cI k (by rw [show x = 59 by omega]; rfl)
      | exact cI k (by rw [show x = 40 by omega]; rfl)
      | exact cI k (by rw [show x = 41 by omega]; rfl)
      | exact cI k (by rw [show x = 43 by omega]; rfl)
      | exact cI k (by rw [show x = 45 by omega]; rfl)
      | exact cI k (by rw [show x = 42 by omega]; rfl)
      | exact cI k (by rw [show x = 47 by omega]; rfl)
      | exact cI k (by rw [show x = 61 by omega]; rfl)
      | exact cI k (by rw [show x = 60 by omega, sgOf_60, if_pos (by omega)])
      | exact cI k (by rw [show x = 60 by omega, sgOf_60, if_neg (by omega), if_pos (by omega)])
      | exact cI k (by rw [show x = 60 by omega, sgOf_60, if_neg (by omega), if_neg (by omega)])
      | exact cI k (by rw [show x = 62 by omega, sgOf_62, if_pos (by omega)])
      | exact cI k (by rw [show x = 62 by omega, sgOf_62, if_neg (by omega)])
  · refine x_ci ?_
    refine x_iret ?_
    first
      | exact cI k (sgOf_d (by omega))
      | exact cI k (by rw [show x = 59 by omega]; rfl)
      | exact cI k (by rw [show x = 40 by omega]; rfl)
      | exact cI k (by rw [show x = 41 by omega]; rfl)
      | exact cI k (by rw [show x = 43 by omega]; rfl)
      | exact cI k (by rw [show x = 45 by omega]; rfl)
      | exact cI k (by rw [show x = 42 by omega]; rfl)
      | exact cI k (by rw [show x = 47 by omega]; rfl)
      | exact cI k (by rw [show x = 61 by omega]; rfl)
      | exact cI k (by rw [show x = 60 by omega, sgOf_60, if_pos (by omega)])
      | exact cI k (by rw [show x = 60 by omega, sgOf_60, if_neg (by omega), if_pos (by omega)])
      | exact cI k (by rw [show x = 60 by omega, sgOf_60, if_neg (by omega), if_neg (by omega)])
      | exact cI k (by rw [show x = 62 by omega, sgOf_62, if_pos (by omega)])
      | exact cI k (by rw [show x = 62 by omega, sgOf_62, if_neg (by omega)])
  · refine x_ci ?_
    refine x_iret ?_
    first
      | exact cI k (sgOf_d (by omega))
      | exact cI k (by rw [show x = 59 by omega]; rfl)
      | exact cI k (by rw [show x = 40 by omega]; rfl)
      | exact cI k (by rw [show x = 41 by omega]; rfl)
      | exact cI k (by rw [show x = 43 by omega]; rfl)
      | exact cI k (by rw [show x = 45 by omega]; rfl)
      | exact cI k (by rw [show x = 42 by omega]; rfl)
      | exact cI k (by rw [show x = 47 by omega]; rfl)
      | exact cI k (by rw [show x = 61 by omega]; rfl)
      | exact cI k (by rw [show x = 60 by omega, sgOf_60, if_pos (by omega)])
      | exact cI k (by rw [show x = 60 by omega, sgOf_60, if_neg (by omega), if_pos (by omega)])
      | exact cI k (by rw [show x = 60 by omega, sgOf_60, if_neg (by omega), if_neg (by omega)])
      | exact cI k (by rw [show x = 62 by omega, sgOf_62, if_pos (by omega)])
      | exact cI k (by rw [show x = 62 by omega, sgOf_62, if_neg (by omega)])
  · refine x_ci ?_
    refine x_iret ?_
    first
      | exact cI k (sgOf_d (by omega))
      | exact cI k (by rw [show x = 59 by omega]; rfl)
      | exact cI k (by rw [show x = 40 by omega]; rfl)
      | exact cI k (by rw [show x = 41 by omega]; rfl)
      | exact cI k (by rw [show x = 43 by omega]; rfl)
      | exact cI k (by rw [show x = 45 by omega]; rfl)
      | exact cI k (by rw [show x = 42 by omega]; rfl)
      | exact cI k (by rw [show x = 47 by omega]; rfl)
      | exact cI k (by rw [show x = 61 by omega]; rfl)
      | exact cI k (by rw [show x = 60 by omega, sgOf_60, if_pos (by omega)])
      | exact cI k (by rw [show x = 60 by omega, sgOf_60, if_neg (by omega), if_pos (by omega)])
      | exact cI k (by rw [show x = 60 by omega, sgOf_60, if_neg (by omega), if_neg (by omega)])
      | exact cI k (by rw [show x = 62 by omega, sgOf_62, if_pos (by omega)])
      | exact cI k (by rw [show x = 62 by omega, sgOf_62, if_neg (by omega)])
  · refine x_ci ?_
    refine x_iret ?_
    first
      | exact cI k (sgOf_d (by omega))
      | exact cI k (by rw [show x = 59 by omega]; rfl)
      | exact cI k (by rw [show x = 40 by omega]; rfl)
      | exact cI k (by rw [show x = 41 by omega]; rfl)
      | exact cI k (by rw [show x = 43 by omega]; rfl)
      | exact cI k (by rw [show x = 45 by omega]; rfl)
      | exact cI k (by rw [show x = 42 by omega]; rfl)
      | exact cI k (by rw [show x = 47 by omega]; rfl)
      | exact cI k (by rw [show x = 61 by omega]; rfl)
      | exact cI k (by rw [show x = 60 by omega, sgOf_60, if_pos (by omega)])
      | exact cI k (by rw [show x = 60 by omega, sgOf_60, if_neg (by omega), if_pos (by omega)])
      | exact cI k (by rw [show x = 60 by omega, sgOf_60, if_neg (by omega), if_neg (by omega)])
      | exact cI k (by rw [show x = 62 by omega, sgOf_62, if_pos (by omega)])
      | exact cI k (by rw [show x = 62 by omega, sgOf_62, if_neg (by omega)])
  · refine x_ci ?_
    refine x_iret ?_
    first
      | exact cI k (sgOf_d (by omega))
      | exact cI k (by rw [show x = 59 by omega]; rfl)
      | exact cI k (by rw [show x = 40 by omega]; rfl)
      | exact cI k (by rw [show x = 41 by omega]; rfl)
      | exact cI k (by rw [show x = 43 by omega]; rfl)
      | exact cI k (by rw [show x = 45 by omega]; rfl)
      | exact cI k (by rw [show x = 42 by omega]; rfl)
      | exact cI k (by rw [show x = 47 by omega]; rfl)
      | exact cI k (by rw [show x = 61 by omega]; rfl)
      | exact cI k (by rw [show x = 60 by omega, sgOf_60, if_pos (by omega)])
      | exact cI k (by rw [show x = 60 by omega, sgOf_60, if_neg (by omega), if_pos (by omega)])
      | exact cI k (by rw [show x = 60 by omega, sgOf_60, if_neg (by omega), if_neg (by omega)])
      | exact cI k (by rw [show x = 62 by omega, sgOf_62, if_pos (by omega)])
      | exact cI k (by rw [show x = 62 by omega, sgOf_62, if_neg (by omega)])
  · refine x_ci ?_
    refine x_iret ?_
    first
      | exact cI k (sgOf_d (by omega))
      | exact cI k (by rw [show x = 59 by omega]; rfl)
      | exact cI k (by rw [show x = 40 by omega]; rfl)
      | exact cI k (by rw [show x = 41 by omega]; rfl)
      | exact cI k (by rw [show x = 43 by omega]; rfl)
      | exact cI k (by rw [show x = 45 by omega]; rfl)
      | exact cI k (by rw [show x = 42 by omega]; rfl)
      | exact cI k (by rw [show x = 47 by omega]; rfl)
      | exact cI k (by rw [show x = 61 by omega]; rfl)
      | exact cI k (by rw [show x = 60 by omega, sgOf_60, if_pos (by omega)])
      | exact cI k (by rw [show x = 60 by omega, sgOf_60, if_neg (by omega), if_pos (by omega)])
      | exact cI k (by rw [show x = 60 by omega, sgOf_60, if_neg (by omega), if_neg (by omega)])
      | exact cI k (by rw [show x = 62 by omega, sgOf_62, if_pos (by omega)])
      | exact cI k (by rw [show x = 62 by omega, sgOf_62, if_neg (by omega)])
  · refine x_ci ?_
    refine x_iret ?_
    first
      | exact cI k (sgOf_d (by omega))
      | exact cI k (by rw [show x = 59 by omega]; rfl)
      | exact cI k (by rw [show x = 40 by omega]; rfl)
      | exact cI k (by rw [show x = 41 by omega]; rfl)
      | exact cI k (by rw [show x = 43 by omega]; rfl)
      | exact cI k (by rw [show x = 45 by omega]; rfl)
      | exact cI k (by rw [show x = 42 by omega]; rfl)
      | exact cI k (by rw [show x = 47 by omega]; rfl)
      | exact cI k (by rw [show x = 61 by omega]; rfl)
      | exact cI k (by rw [show x = 60 by omega, sgOf_60, if_pos (by omega)])
      | exact cI k (by rw [show x = 60 by omega, sgOf_60, if_neg (by omega), if_pos (by omega)])
      | exact cI k (by rw [show x = 60 by omega, sgOf_60, if_neg (by omega), if_neg (by omega)])
      | exact cI k (by rw [show x = 62 by omega, sgOf_62, if_pos (by omega)])
      | exact cI k (by rw [show x = 62 by omega, sgOf_62, if_neg (by omega)])
  · refine x_iload rfl ?_
    refine x_ci ?_
    refine n_icmp_ne ⟨by omega, by omega⟩ ⟨by omega, by omega⟩ (fun c2 => ?_) (fun c2 => ?_)
    · refine x_iload rfl ?_
      refine x_ci ?_
      refine n_icmp_ne ⟨by omega, by omega⟩ ⟨by omega, by omega⟩ (fun c3 => ?_) (fun c3 => ?_)
      · refine x_ci ?_
        refine x_fall ?_
        refine x_iret ?_
        first
          | exact cI k (sgOf_d (by omega))
          | exact cI k (by rw [show x = 59 by omega]; rfl)
          | exact cI k (by rw [show x = 40 by omega]; rfl)
          | exact cI k (by rw [show x = 41 by omega]; rfl)
          | exact cI k (by rw [show x = 43 by omega]; rfl)
          | exact cI k (by rw [show x = 45 by omega]; rfl)
          | exact cI k (by rw [show x = 42 by omega]; rfl)
          | exact cI k (by rw [show x = 47 by omega]; rfl)
          | exact cI k (by rw [show x = 61 by omega]; rfl)
          | exact cI k (by rw [show x = 60 by omega, sgOf_60, if_pos (by omega)])
          | exact cI k (by rw [show x = 60 by omega, sgOf_60, if_neg (by omega), if_pos (by omega)])
          | exact cI k (by rw [show x = 60 by omega, sgOf_60, if_neg (by omega), if_neg (by omega)])
          | exact cI k (by rw [show x = 62 by omega, sgOf_62, if_pos (by omega)])
          | exact cI k (by rw [show x = 62 by omega, sgOf_62, if_neg (by omega)])
      · refine x_ci ?_
        refine x_goto ?_
        refine x_iret ?_
        first
          | exact cI k (sgOf_d (by omega))
          | exact cI k (by rw [show x = 59 by omega]; rfl)
          | exact cI k (by rw [show x = 40 by omega]; rfl)
          | exact cI k (by rw [show x = 41 by omega]; rfl)
          | exact cI k (by rw [show x = 43 by omega]; rfl)
          | exact cI k (by rw [show x = 45 by omega]; rfl)
          | exact cI k (by rw [show x = 42 by omega]; rfl)
          | exact cI k (by rw [show x = 47 by omega]; rfl)
          | exact cI k (by rw [show x = 61 by omega]; rfl)
          | exact cI k (by rw [show x = 60 by omega, sgOf_60, if_pos (by omega)])
          | exact cI k (by rw [show x = 60 by omega, sgOf_60, if_neg (by omega), if_pos (by omega)])
          | exact cI k (by rw [show x = 60 by omega, sgOf_60, if_neg (by omega), if_neg (by omega)])
          | exact cI k (by rw [show x = 62 by omega, sgOf_62, if_pos (by omega)])
          | exact cI k (by rw [show x = 62 by omega, sgOf_62, if_neg (by omega)])
    · refine x_ci ?_
      refine x_goto ?_
      refine x_iret ?_
      first
        | exact cI k (sgOf_d (by omega))
        | exact cI k (by rw [show x = 59 by omega]; rfl)
        | exact cI k (by rw [show x = 40 by omega]; rfl)
        | exact cI k (by rw [show x = 41 by omega]; rfl)
        | exact cI k (by rw [show x = 43 by omega]; rfl)
        | exact cI k (by rw [show x = 45 by omega]; rfl)
        | exact cI k (by rw [show x = 42 by omega]; rfl)
        | exact cI k (by rw [show x = 47 by omega]; rfl)
        | exact cI k (by rw [show x = 61 by omega]; rfl)
        | exact cI k (by rw [show x = 60 by omega, sgOf_60, if_pos (by omega)])
        | exact cI k (by rw [show x = 60 by omega, sgOf_60, if_neg (by omega), if_pos (by omega)])
        | exact cI k (by rw [show x = 60 by omega, sgOf_60, if_neg (by omega), if_neg (by omega)])
        | exact cI k (by rw [show x = 62 by omega, sgOf_62, if_pos (by omega)])
        | exact cI k (by rw [show x = 62 by omega, sgOf_62, if_neg (by omega)])
  · refine x_ci ?_
    refine x_iret ?_
    first
      | exact cI k (sgOf_d (by omega))
      | exact cI k (by rw [show x = 59 by omega]; rfl)
      | exact cI k (by rw [show x = 40 by omega]; rfl)
      | exact cI k (by rw [show x = 41 by omega]; rfl)
      | exact cI k (by rw [show x = 43 by omega]; rfl)
      | exact cI k (by rw [show x = 45 by omega]; rfl)
      | exact cI k (by rw [show x = 42 by omega]; rfl)
      | exact cI k (by rw [show x = 47 by omega]; rfl)
      | exact cI k (by rw [show x = 61 by omega]; rfl)
      | exact cI k (by rw [show x = 60 by omega, sgOf_60, if_pos (by omega)])
      | exact cI k (by rw [show x = 60 by omega, sgOf_60, if_neg (by omega), if_pos (by omega)])
      | exact cI k (by rw [show x = 60 by omega, sgOf_60, if_neg (by omega), if_neg (by omega)])
      | exact cI k (by rw [show x = 62 by omega, sgOf_62, if_pos (by omega)])
      | exact cI k (by rw [show x = 62 by omega, sgOf_62, if_neg (by omega)])
  · refine x_iload rfl ?_
    refine x_ci ?_
    refine n_icmp_ne ⟨by omega, by omega⟩ ⟨by omega, by omega⟩ (fun c2 => ?_) (fun c2 => ?_)
    · refine x_ci ?_
      refine x_fall ?_
      refine x_iret ?_
      first
        | exact cI k (sgOf_d (by omega))
        | exact cI k (by rw [show x = 59 by omega]; rfl)
        | exact cI k (by rw [show x = 40 by omega]; rfl)
        | exact cI k (by rw [show x = 41 by omega]; rfl)
        | exact cI k (by rw [show x = 43 by omega]; rfl)
        | exact cI k (by rw [show x = 45 by omega]; rfl)
        | exact cI k (by rw [show x = 42 by omega]; rfl)
        | exact cI k (by rw [show x = 47 by omega]; rfl)
        | exact cI k (by rw [show x = 61 by omega]; rfl)
        | exact cI k (by rw [show x = 60 by omega, sgOf_60, if_pos (by omega)])
        | exact cI k (by rw [show x = 60 by omega, sgOf_60, if_neg (by omega), if_pos (by omega)])
        | exact cI k (by rw [show x = 60 by omega, sgOf_60, if_neg (by omega), if_neg (by omega)])
        | exact cI k (by rw [show x = 62 by omega, sgOf_62, if_pos (by omega)])
        | exact cI k (by rw [show x = 62 by omega, sgOf_62, if_neg (by omega)])
    · refine x_ci ?_
      refine x_goto ?_
      refine x_iret ?_
      first
        | exact cI k (sgOf_d (by omega))
        | exact cI k (by rw [show x = 59 by omega]; rfl)
        | exact cI k (by rw [show x = 40 by omega]; rfl)
        | exact cI k (by rw [show x = 41 by omega]; rfl)
        | exact cI k (by rw [show x = 43 by omega]; rfl)
        | exact cI k (by rw [show x = 45 by omega]; rfl)
        | exact cI k (by rw [show x = 42 by omega]; rfl)
        | exact cI k (by rw [show x = 47 by omega]; rfl)
        | exact cI k (by rw [show x = 61 by omega]; rfl)
        | exact cI k (by rw [show x = 60 by omega, sgOf_60, if_pos (by omega)])
        | exact cI k (by rw [show x = 60 by omega, sgOf_60, if_neg (by omega), if_pos (by omega)])
        | exact cI k (by rw [show x = 60 by omega, sgOf_60, if_neg (by omega), if_neg (by omega)])
        | exact cI k (by rw [show x = 62 by omega, sgOf_62, if_pos (by omega)])
        | exact cI k (by rw [show x = 62 by omega, sgOf_62, if_neg (by omega)])
end TX2
