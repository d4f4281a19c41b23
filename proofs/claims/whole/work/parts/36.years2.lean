/-! YEARS: allows, dances; the numbers that are drawn -/
section YB
variable {d a tp : Nat} {h0 h : pheap} {s : St} {Q : Option pv → pheap → Prop} {L : Int} {n : Nat} {c c' : Int → Int}
/-- the worth of the next crossing under a rule, of the last one under loosen -/
def vNx (L : Int) (n : Nat) (c : Int → Int) (yr : Int) (kc lb le : Int → Int) (x r : Int) : Int := lawV (nvE (wO L c n (x / 2)) (wO L c n (x / 2 + 1)) x (wB L c n (6 * wO L c n (x / 2) + wO L c n (x / 2 + 1))) n (cnt L) yr) kc (lb r) (le r)
def vLs (L : Int) (n : Nat) (c : Int → Int) (yr : Int) (kc lb le : Int → Int) : Int := lawV (nvE (wO L c n (c n / 2)) (wO L c n (c n / 2 + 1)) (c n) (wB L c (n + 1) (6 * wO L c n (c n / 2) + wO L c n (c n / 2 + 1))) (n + 1) (cnt L) yr) kc (lb 2) (le 2)
theorem evS_in {nv kc : Int → Int} {b e : Int} (hn : ∀ i, -1000000000000 ≤ nv i ∧ nv i ≤ 1000000000000) (hl : lwOk kc b e) : lawV nv kc b e = -9223372036854775808 ∨ (-1000000000000 ≤ lawV nv kc b e ∧ lawV nv kc b e ≤ 1000000000000) := by
  unfold lawV
  split
  · cases w : evN nv kc b (e - b).toNat with
    | none => exact Or.inl rfl
    | some st =>
      cases st with
      | nil => exact Or.inl rfl
      | cons x r =>
        have := ev_in hn (N := (e - b).toNat) (fun j hj => by
          have := hl.2.2.2.1 (b + j) (by omega) (by omega)
          unfold kOk at this
          omega) (e - b).toNat (x :: r) (Nat.le_refl _) w x List.mem_cons_self
        exact Or.inr this
  · exact Or.inl rfl
/-- what a vow adds -/
def vwN (vw V : Int) : Int := max (-9999) (min 9999 (vw + (if V = -9223372036854775808 then 1 else max (-99) (min 99 V))))
theorem vwN_R (vw V : Int) : -9999 ≤ vwN vw V ∧ vwN vw V ≤ 9999 := by
  unfold vwN
  omega
theorem land_nat {x : Int} (h : lR x) : l_and x 2147483647 = x % 2147483648 := by
  unfold l_and
  have e1 : (Int64.ofInt x &&& Int64.ofInt 2147483647).toBitVec.toNat = ((x % 18446744073709551616).toNat % 2147483648) := by
    rw [Int64.toBitVec_and, BitVec.toNat_and, Int64.toBitVec_ofInt, Int64.toBitVec_ofInt, BitVec.toNat_ofInt, BitVec.toNat_ofInt]
    have : ((2147483647 : Int) % ((2 ^ 64 : Nat) : Int)).toNat = 2 ^ 31 - 1 := by decide
    rw [this, Nat.and_two_pow_sub_one_eq_mod]
    rfl
  have e2 : ((Int64.ofInt x &&& Int64.ofInt 2147483647).toBitVec.toNat : Int) = x % 2147483648 := by
    rw [e1]
    omega
  rw [← Int64.toInt_toBitVec, BitVec.toInt_eq_toNat_of_lt]
  · exact e2
  · omega
theorem iand_nat (x : Int) : i_and x 2147483647 = x % 2147483648 := by
  unfold i_and
  have e1 : (Int32.ofInt x &&& Int32.ofInt 2147483647).toBitVec.toNat = ((x % 4294967296).toNat % 2147483648) := by
    rw [Int32.toBitVec_and, BitVec.toNat_and, Int32.toBitVec_ofInt, Int32.toBitVec_ofInt, BitVec.toNat_ofInt, BitVec.toNat_ofInt]
    have : ((2147483647 : Int) % ((2 ^ 32 : Nat) : Int)).toNat = 2 ^ 31 - 1 := by decide
    rw [this, Nat.and_two_pow_sub_one_eq_mod]
    rfl
  have e2 : ((Int32.ofInt x &&& Int32.ofInt 2147483647).toBitVec.toNat : Int) = x % 2147483648 := by
    rw [e1]
    omega
  rw [← Int32.toInt_toBitVec, BitVec.toInt_eq_toNat_of_lt]
  · exact e2
  · omega
/-- the next number that is drawn, and what shows of it -/
def nxN (x : Int) : Int := (x * 1103515245 + 12345) % 2147483648
theorem nxN_R (x : Int) : 0 ≤ nxN x ∧ nxN x < 2147483648 := by
  unfold nxN
  omega
theorem m_within {v lo hi : Int} (hd : 8 ≤ d) (h1 : lR v) (h2 : lR lo) (h3 : lR hi) (k : Q (some (vL (max lo (min hi v)))) h) : wpM PP d 52 [vL v, vL lo, vL hi] h Q := by
  refine n_at (m := 52) (q := mr52) (kn := (1, 3)) [some (vL _), none, some (vL _), none, some (vL _), none] mb52 rfl rfl rfl (Nat.le_of_ble_eq_true rfl) rfl rfl ?_
  refine x_lload rfl ?_
  refine x_lload rfl ?_
  refine x_lload rfl ?_
  refine n_lmin ⟨by omega, by omega⟩ ⟨by omega, by omega⟩ (by omega) (Nat.le_of_ble_eq_true rfl) ?_
  refine n_lmax ⟨by omega, by omega⟩ ⟨by omega, by omega⟩ (by omega) (Nat.le_of_ble_eq_true rfl) ?_
  refine x_lret ?_
  exact k
theorem m_next {x : Int} (hx : 0 ≤ x ∧ x < 2147483648) (k : Q (some (vL (nxN x))) h) : wpM PP d 53 [vL x] h Q := by
  refine n_at (m := 53) (q := mr53) (kn := (1, 1)) [some (vL _), none] mb53 rfl rfl rfl (Nat.le_of_ble_eq_true rfl) rfl rfl ?_
  refine x_lload rfl ?_
  refine x_cl ?_
  refine x_lmul ?_
  refine x_cl ?_
  refine x_ladd ?_
  refine x_cl ?_
  refine x_land ?_
  rw [land_nat ⟨by omega, by omega⟩]
  refine x_lret ?_
  exact k
theorem m_shown {x : Int} (hx : 0 ≤ x ∧ x < 2147483648) (k : Q (some (vI (x / 65536))) h) : wpM PP d 54 [vL x] h Q := by
  refine n_at (m := 54) (q := mr54) (kn := (1, 1)) [some (vL _), none] mb54 rfl rfl rfl (Nat.le_of_ble_eq_true rfl) rfl rfl ?_
  refine x_lload rfl ?_
  refine x_cl ?_
  refine x_ldiv (by rw [w64_R ⟨by omega, by omega⟩]; omega) ?_
  rw [ldiv_nn (by omega) (by omega)]
  refine x_l2i ?_
  refine x_iret ?_
  exact k
theorem m_choose {w x y : Int} (hx : x = 0 ∨ x = 1) (hy : y = 0 ∨ y = 1) (k : Q none (HP h0 (up (up (up s 68 1 w) 68 2 x) 68 3 y))) : wpM PP d 305 [vR 68, vI w, vI x, vI y] (HP h0 s) Q := by
  refine n_at (m := 305) (q := mr305) (kn := (0, 4)) [some (vR _), some (vI _), some (vI _), some (vI _)] mb305 rfl rfl (h_rcv sc_68) (Nat.le_of_ble_eq_true rfl) rfl rfl ?_
  refine x_aload rfl ?_
  refine x_iload rfl ?_
  refine h_putI 1 sc_68 rfl rfl ?_
  refine x_aload rfl ?_
  refine x_iload rfl ?_
  refine h_putZ 2 sc_68 rfl rfl (by first | exact bI_01 _ | omega) ?_
  refine x_aload rfl ?_
  refine x_iload rfl ?_
  refine h_putZ 3 sc_68 rfl rfl (by first | exact bI_01 _ | omega) ?_
  refine x_ret ?_
  exact k
theorem m_hasRoom (hP : isDa a) (hd : 11 ≤ d) (hp : PL (a + 1) L n c s) {x : Int} (hx : iR x) (k : Q (some (vI (bI (0 ≤ x ∧ x < 2 * (cnt L - 1) ∧ n < 48)))) (HP h0 s)) : wpM PP d 308 [vR a, vI x] (HP h0 s) Q := by
  have ha := hP.1.1
  have hn := hp.hn
  have hct := cnt_R L
  have q4 := hp.count
  have q5 := hp.size
  refine n_at (m := 308) (q := mr308) (kn := (1, 2)) [some (vR _), some (vI _)] mb308 rfl rfl rfl (Nat.le_of_ble_eq_true rfl) rfl rfl ?_
  refine x_aload rfl ?_
  refine h_getR hP.1 rfl (by omega) ?_
  refine x_iload rfl ?_
  refine n_call [vR _, vI _] [] (by omega) (Nat.le_of_ble_eq_true rfl) rfl rfl (Nat.le_of_ble_eq_true rfl) ?_
  refine m_hasCode hP.2 (by omega) (by omega) ⟨by omega, by omega⟩ ?_
  rw [q4]
  show wp PP _ _ _ [some (vR _), some (vI _)] [vI _] _ _
  refine z_if_eq (fun c1 => ?_) (fun c1 => ?_)
  · refine x_ci ?_
    refine x_fall ?_
    refine x_zret (by first | exact bI_01 _ | omega) ?_
    exact cB0 k (by omega)
  · refine x_aload rfl ?_
    refine h_getR hP.1 rfl (by omega) ?_
    refine h_getI 5 hP.2.1 rfl rfl ?_
    refine x_ci ?_
    refine n_icmp_ge ⟨by omega, by omega⟩ ⟨by omega, by omega⟩ (fun c2 => ?_) (fun c2 => ?_)
    · refine x_ci ?_
      refine x_fall ?_
      refine x_zret (by first | exact bI_01 _ | omega) ?_
      exact cB0 k (by omega)
    · refine x_ci ?_
      refine x_goto ?_
      refine x_zret (by first | exact bI_01 _ | omega) ?_
      exact cB1 k (by omega)
theorem m_allows (hP : isDa a) (hS : isSc tp) (hta : a + 4 < tp ∨ tp + 7 < a) (h69 : a + 4 < 69) (htp : tp + 8 < 69) (hd : 12 ≤ d) (hp : PL (a + 1) L n c s) {x yr : Int} (hy : s a 4 = yr) (hyr : 0 ≤ yr ∧ yr ≤ 100000) (hx : iR x) {kc lb le : Int → Int} (hw : LWC tp kc lb le s) (ho : okL kc lb le) (k : ∀ t, yfr tp s t → Q (some (vI (bI ((0 ≤ x ∧ x < 2 * (cnt L - 1) ∧ n < 48) ∧ ¬ vNx L n c yr kc lb le x 0 = 0)))) (HP h0 t)) : wpM PP d 309 [vR 68, vR tp, vR a, vI x] (HP h0 s) Q := by
  have ha := hP.1.1
  have hn := hp.hn
  have hct := cnt_R L
  refine n_at (m := 309) (q := mr309) (kn := (0, 4)) [some (vR _), some (vR _), some (vR _), some (vI _)] mb309 rfl rfl (h_rcv sc_68) (Nat.le_of_ble_eq_true rfl) rfl rfl ?_
  refine x_aload rfl ?_
  refine x_iload rfl ?_
  refine n_call [vR _, vI _] [] (by omega) (Nat.le_of_ble_eq_true rfl) rfl rfl (Nat.le_of_ble_eq_true rfl) ?_
  refine m_hasRoom hP (by omega) hp ⟨by omega, by omega⟩ ?_
  show wp PP _ _ _ [some (vR _), some (vR _), some (vR _), some (vI _)] [vI _] _ _
  refine z_if_eq (fun c1 => ?_) (fun c1 => ?_)
  · refine x_ci ?_
    refine x_fall ?_
    refine x_zret (by first | exact bI_01 _ | omega) ?_
    first
      | exact cB0 (k s yfr_rfl) (fun q => c1 q.1)
      | exact cB1 (k t t1) ⟨c1, by omega⟩
      | exact cB0 (k t t1) (fun q => absurd q.2 (by omega))
  · refine x_aload rfl ?_
    refine x_aload rfl ?_
    refine x_aload rfl ?_
    refine x_iload rfl ?_
    refine x_ci ?_
    refine n_call [vR _, vR _, vR _, vI _, vI _] [] (by omega) (Nat.le_of_ble_eq_true rfl) rfl rfl (Nat.le_of_ble_eq_true rfl) ?_
    have lv := evS_in (nv := nvE (wO L c n (x / 2)) (wO L c n (x / 2 + 1)) x (wB L c n (6 * wO L c n (x / 2) + wO L c n (x / 2 + 1))) n (cnt L) yr) (kc := kc) (b := lb 0) (e := le 0) (by
      have o1 := wO_R hp.hL hp.v (x / 2) (by omega) (by omega)
      have o2 := wO_R hp.hL hp.v (x / 2 + 1) (by omega) (by omega)
      have wr := wB_R (L := L) (c := c) n (6 * wO L c n (x / 2) + wO L c n (x / 2 + 1))
      exact nvE_R ⟨by omega, by omega⟩ ⟨by omega, by omega⟩ (by omega) (by omega) (by omega) (by omega) hyr) (ho 0 (by omega) (by omega))
    refine m_worthNext (r := 0) hP hS hta h69 htp (by omega) hp hy hyr (by omega) (by omega) hw ho (fun t t1 => ?_)
    rw [show lawV _ kc (lb 0) (le 0) = vNx L n c yr kc lb le x 0 from rfl] at *
    show wp PP _ _ _ [some (vR _), some (vR _), some (vR _), some (vI _)] [vL _] _ _
    refine x_cl ?_
    refine n_lif_eq ⟨by omega, by omega⟩ ⟨by omega, by omega⟩ (fun c2 => ?_) (fun c2 => ?_)
    · refine x_ci ?_
      refine x_fall ?_
      refine x_zret (by first | exact bI_01 _ | omega) ?_
      first
        | exact cB0 (k s yfr_rfl) (fun q => c1 q.1)
        | exact cB1 (k t t1) ⟨c1, by omega⟩
        | exact cB0 (k t t1) (fun q => absurd q.2 (by omega))
    · refine x_ci ?_
      refine x_goto ?_
      refine x_zret (by first | exact bI_01 _ | omega) ?_
      first
        | exact cB0 (k s yfr_rfl) (fun q => c1 q.1)
        | exact cB1 (k t t1) ⟨c1, by omega⟩
        | exact cB0 (k t t1) (fun q => absurd q.2 (by omega))
theorem m_dance (hP : isDa a) (hS : isSc tp) (hta : a + 4 < tp ∨ tp + 7 < a) (h69 : a + 4 < 69) (htp : tp + 8 < 69) (hd : 13 ≤ d) (hp : PL (a + 1) L n c s) (hn48 : n < 52) {x yr vw : Int} (hcx : c n = x) (hy : s a 4 = yr) (hyr : 0 ≤ yr ∧ yr ≤ 100000) (hv : s a 1 = vw) (hvr : -9999 ≤ vw ∧ vw ≤ 9999) (hx : 0 ≤ x ∧ x < 2 * (cnt L - 1)) {kc lb le : Int → Int} (hw : LWC tp kc lb le s) (ho : okL kc lb le) (k : ∀ t, PL (a + 1) L (n + 1) c t → t a 1 = vwN vw (vNx L n c yr kc lb le x 1) → (∀ (b : Nat) (r : Int), (b < a ∨ a + 4 < b ∨ (b = a ∧ ¬ r = 1)) → ¬ b = 69 → ¬ b = tp + 7 → ¬ (b = tp ∧ r = 15) → t b r = s b r) → Q none (HP h0 t)) : wpM PP d 310 [vR 68, vR tp, vR a, vI x] (HP h0 s) Q := by
  have ha := hP.1.1
  have hn := hp.hn
  have hct := cnt_R L
  refine n_at (m := 310) (q := mr310) (kn := (0, 4)) [some (vR _), some (vR _), some (vR _), some (vI _), none, none, none, none] mb310 rfl rfl (h_rcv sc_68) (Nat.le_of_ble_eq_true rfl) rfl rfl ?_
  refine x_aload rfl ?_
  refine x_aload rfl ?_
  refine x_aload rfl ?_
  refine x_iload rfl ?_
  refine x_ci ?_
  refine n_call [vR _, vR _, vR _, vI _, vI _] [] (by omega) (Nat.le_of_ble_eq_true rfl) rfl rfl (Nat.le_of_ble_eq_true rfl) ?_
  have lv := evS_in (nv := nvE (wO L c n (x / 2)) (wO L c n (x / 2 + 1)) x (wB L c n (6 * wO L c n (x / 2) + wO L c n (x / 2 + 1))) n (cnt L) yr) (kc := kc) (b := lb 1) (e := le 1) (by
    have o1 := wO_R hp.hL hp.v (x / 2) (by omega) (by omega)
    have o2 := wO_R hp.hL hp.v (x / 2 + 1) (by omega) (by omega)
    have wr := wB_R (L := L) (c := c) n (6 * wO L c n (x / 2) + wO L c n (x / 2 + 1))
    exact nvE_R ⟨by omega, by omega⟩ ⟨by omega, by omega⟩ (by omega) (by omega) (by omega) (by omega) hyr) (ho 1 (by omega) (by omega))
  refine m_worthNext (r := 1) hP hS hta h69 htp (by omega) hp hy hyr (by omega) (by omega) hw ho (fun t t1 => ?_)
  rw [show lawV _ kc (lb 1) (le 1) = vNx L n c yr kc lb le x 1 from rfl] at *
  show wp PP _ _ _ [some (vR _), some (vR _), some (vR _), some (vI _), _, _, _, _] [vL _] _ _
  refine n_lstore [some (vR _), some (vR _), some (vR _), some (vI _), some (vL _), _, _, _] (Nat.le_of_ble_eq_true rfl) rfl ?_
  refine x_lload rfl ?_
  refine x_cl ?_
  refine n_lif_ne ⟨by omega, by omega⟩ ⟨by omega, by omega⟩ (fun c1 => ?_) (fun c1 => ?_)
  · refine x_lload rfl ?_
    refine x_cl ?_
    refine x_cl ?_
    refine n_call [vL _, vL _, vL _] [] (by omega) (Nat.le_of_ble_eq_true rfl) rfl rfl (Nat.le_of_ble_eq_true rfl) ?_
    refine m_within (by omega) ⟨by omega, by omega⟩ ⟨by omega, by omega⟩ ⟨by omega, by omega⟩ ?_
    show wp PP _ _ _ [some (vR _), some (vR _), some (vR _), some (vI _), some (vL _), _, _, _] [vL _] _ _
    refine x_fall ?_
    refine n_lstore [some (vR _), some (vR _), some (vR _), some (vI _), some (vL _), _, some (vL _), _] (Nat.le_of_ble_eq_true rfl) rfl ?_
    refine x_aload rfl ?_
    refine x_aload rfl ?_
    refine h_getI 1 hP.1 rfl rfl ?_
    rw [(t1 a 1 (by omega) (by omega) (by omega)).trans hv]
    refine n_i2l ⟨by omega, by omega⟩ ?_
    refine x_lload rfl ?_
    refine x_ladd ?_
    refine x_cl ?_
    refine x_cl ?_
    refine n_call [vL _, vL _, vL _] [vR _] (by omega) (Nat.le_of_ble_eq_true rfl) rfl rfl (Nat.le_of_ble_eq_true rfl) ?_
    refine m_within (by omega) ⟨by omega, by omega⟩ ⟨by omega, by omega⟩ ⟨by omega, by omega⟩ ?_
    show wp PP _ _ _ [some (vR _), some (vR _), some (vR _), some (vI _), some (vL _), _, some (vL _), _] [vL _, vR _] _ _
    refine x_l2i ?_
    refine t_I (vwN vw (vNx L n c yr kc lb le x 1)) ?_ ?_
    · unfold vwN
      first
        | rw [if_pos (by omega)]
        | rw [if_neg (by omega)]
    refine h_putI 1 hP.1 rfl rfl ?_
    refine x_aload rfl ?_
    refine h_getR hP.1 rfl (by omega) ?_
    refine x_iload rfl ?_
    refine n_call [vR _, vI _] [] (by omega) (Nat.le_of_ble_eq_true rfl) rfl rfl (Nat.le_of_ble_eq_true rfl) ?_
    have hp3 : PL (a + 1) L n c (up t a 1 (vwN vw (vNx L n c yr kc lb le x 1))) := (hp.y t1 (by omega) (by omega)).up (by omega)
    refine m_add (c := c) hP.2 (by omega) hp3 (by omega) hcx (by omega) (fun u u1 u2 u3 => ?_)
    show wp PP _ _ _ [some (vR _), some (vR _), some (vR _), some (vI _), some (vL _), _, some (vL _), _] [] _ _
    refine x_ret ?_
    refine k u u1 ?_ (fun b2 r2 w0 w1 w2 w3 => ?_)
    · rw [u2 a (by omega), up_e]
    · rw [u2 b2 (by omega)]
      simp only [up]
      rw [if_neg (by omega)]
      exact t1 b2 r2 w1 w2 w3
  · refine x_cl ?_
    refine x_goto ?_
    refine n_lstore [some (vR _), some (vR _), some (vR _), some (vI _), some (vL _), _, some (vL _), _] (Nat.le_of_ble_eq_true rfl) rfl ?_
    refine x_aload rfl ?_
    refine x_aload rfl ?_
    refine h_getI 1 hP.1 rfl rfl ?_
    rw [(t1 a 1 (by omega) (by omega) (by omega)).trans hv]
    refine n_i2l ⟨by omega, by omega⟩ ?_
    refine x_lload rfl ?_
    refine x_ladd ?_
    refine x_cl ?_
    refine x_cl ?_
    refine n_call [vL _, vL _, vL _] [vR _] (by omega) (Nat.le_of_ble_eq_true rfl) rfl rfl (Nat.le_of_ble_eq_true rfl) ?_
    refine m_within (by omega) ⟨by omega, by omega⟩ ⟨by omega, by omega⟩ ⟨by omega, by omega⟩ ?_
    show wp PP _ _ _ [some (vR _), some (vR _), some (vR _), some (vI _), some (vL _), _, some (vL _), _] [vL _, vR _] _ _
    refine x_l2i ?_
    refine t_I (vwN vw (vNx L n c yr kc lb le x 1)) ?_ ?_
    · unfold vwN
      first
        | rw [if_pos (by omega)]
        | rw [if_neg (by omega)]
    refine h_putI 1 hP.1 rfl rfl ?_
    refine x_aload rfl ?_
    refine h_getR hP.1 rfl (by omega) ?_
    refine x_iload rfl ?_
    refine n_call [vR _, vI _] [] (by omega) (Nat.le_of_ble_eq_true rfl) rfl rfl (Nat.le_of_ble_eq_true rfl) ?_
    have hp3 : PL (a + 1) L n c (up t a 1 (vwN vw (vNx L n c yr kc lb le x 1))) := (hp.y t1 (by omega) (by omega)).up (by omega)
    refine m_add (c := c) hP.2 (by omega) hp3 (by omega) hcx (by omega) (fun u u1 u2 u3 => ?_)
    show wp PP _ _ _ [some (vR _), some (vR _), some (vR _), some (vI _), some (vL _), _, some (vL _), _] [] _ _
    refine x_ret ?_
    refine k u u1 ?_ (fun b2 r2 w0 w1 w2 w3 => ?_)
    · rw [u2 a (by omega), up_e]
    · rw [u2 b2 (by omega)]
      simp only [up]
      rw [if_neg (by omega)]
      exact t1 b2 r2 w1 w2 w3
end YB
