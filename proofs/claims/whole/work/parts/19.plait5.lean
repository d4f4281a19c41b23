/-! THE PLAIT: bonds, who is free, who is home, two taken out, one lets go -/
section P5
variable {d a : Nat} {h0 h : pheap} {s : St} {Q : Option pv → pheap → Prop} {L : Int} {n : Nat} {c c' : Int → Int}
theorem m_bondG (hP : isPl a) (hd : 1 ≤ d) (hL : 0 ≤ s a 3 ∧ s a 3 < 64) {x y : Int} (hx : 0 ≤ x ∧ x < 6) (hy : 0 ≤ y ∧ y < 6) (k : Q (some (vI (if bt (s a 3) x = 1 ∧ bt (s a 3) y = 1 then s (a + 3) (6 * x + y) else 0))) (HP h0 s)) : wpM PP d 210 [vR a, vI x, vI y] (HP h0 s) Q := by
  have ha := hP.1.1
  refine n_at (m := 210) (q := mr210) (kn := (0, 3)) [some (vR _), some (vI _), some (vI _), none] mb210 rfl rfl (h_rcv hP.1) (Nat.le_of_ble_eq_true rfl) rfl rfl ?_
  refine x_iload rfl ?_
  refine x_ci ?_
  refine x_imul ?_
  refine x_iload rfl ?_
  refine x_iadd ?_
  refine n_istore [some (vR _), some (vI _), some (vI _), some (vI _)] (Nat.le_of_ble_eq_true rfl) rfl ?_
  refine x_aload rfl ?_
  refine x_iload rfl ?_
  refine n_call [vR _, vI _] [] (by omega) (Nat.le_of_ble_eq_true rfl) rfl rfl (Nat.le_of_ble_eq_true rfl) ?_
  refine m_isLeft hP (by first | assumption | omega | (simp [up]; omega)) ⟨by omega, by omega⟩ ?_
  show wp PP _ _ _ [some (vR _), some (vI _), some (vI _), some (vI _)] [vI _] _ _
  refine z_if_eq (fun c1 => ?_) (fun c1 => ?_)
  · refine x_ci ?_
    refine x_fall ?_
    refine x_iret ?_
    first
      | (exfalso; omega)
      | (refine cI k ?_
         rw [if_pos (by omega), Int.mul_comm]; done)
      | (refine cI k ?_
         rw [if_neg (by omega)])
  · refine x_aload rfl ?_
    refine x_iload rfl ?_
    refine n_call [vR _, vI _] [] (by omega) (Nat.le_of_ble_eq_true rfl) rfl rfl (Nat.le_of_ble_eq_true rfl) ?_
    refine m_isLeft hP (by first | assumption | omega | (simp [up]; omega)) ⟨by omega, by omega⟩ ?_
    show wp PP _ _ _ [some (vR _), some (vI _), some (vI _), some (vI _)] [vI _] _ _
    refine z_if_eq (fun c2 => ?_) (fun c2 => ?_)
    · refine x_ci ?_
      refine x_fall ?_
      refine x_iret ?_
      first
        | (exfalso; omega)
        | (refine cI k ?_
           rw [if_pos (by omega), Int.mul_comm]; done)
        | (refine cI k ?_
           rw [if_neg (by omega)])
    · refine x_iload rfl ?_
      refine n_if_lt ⟨by omega, by omega⟩ (fun c3 => ?_) (fun c3 => ?_)
      · refine x_ci ?_
        refine x_fall ?_
        refine x_iret ?_
        first
          | (exfalso; omega)
          | (refine cI k ?_
             rw [if_pos (by omega), Int.mul_comm]; done)
          | (refine cI k ?_
             rw [if_neg (by omega)])
      · refine x_iload rfl ?_
        refine x_aload rfl ?_
        refine h_getR hP.1 rfl (by omega) ?_
        refine h_alen 36 hP.2.2.2 (by decide) rfl ?_
        refine n_icmp_ge ⟨by omega, by omega⟩ ⟨by omega, by omega⟩ (fun c4 => ?_) (fun c4 => ?_)
        · refine x_ci ?_
          refine x_fall ?_
          refine x_iret ?_
          first
            | (exfalso; omega)
            | (refine cI k ?_
               rw [if_pos (by omega), Int.mul_comm]; done)
            | (refine cI k ?_
               rw [if_neg (by omega)])
        · refine x_aload rfl ?_
          refine h_getR hP.1 rfl (by omega) ?_
          refine x_iload rfl ?_
          refine h_iald hP.2.2.2 ⟨by omega, by omega⟩ (by decide) ?_
          refine x_goto ?_
          refine x_iret ?_
          first
            | (exfalso; omega)
            | (refine cI k ?_
               rw [if_pos (by omega), Int.mul_comm]; done)
            | (refine cI k ?_
               rw [if_neg (by omega)])
theorem m_bondP (hP : isPl a) (hd : 1 ≤ d) (hp : PL a L n c s) {x y : Int} (hx : 0 ≤ x ∧ x < 6) (hy : 0 ≤ y ∧ y < 6) (k : Q (some (vI (wB L c n (6 * x + y)))) (HP h0 s)) : wpM PP d 210 [vR a, vI x, vI y] (HP h0 s) Q := by
  refine m_bondG hP hd (by rw [hp.left]; exact hp.hL) hx hy (cI k ?_)
  rw [hp.left]
  split
  · exact (hp.bond (by omega) (by omega)).symm
  · exact wB_non hp.hL hp.v x y hx hy (by omega)
theorem m_boundTo (hP : isPl a) (hd : 2 ≤ d) (hp : PL a L n c s) {x : Int} (hx : 0 ≤ x ∧ x < 6) (k : Q (some (vI (bd L c n x))) (HP h0 s)) : wpM PP d 225 [vR a, vI x] (HP h0 s) Q := by
  have ha := hP.1.1
  have hc := cnt_R L
  have hn := hp.hn
  have q3 := hp.left
  have q4 := hp.count
  have q5 := hp.size
  have hL := hp.hL
  have L1 : ∀ N : Nat, ∀ (j : Nat) (i : Int) (q : Int), (i = j) → (N = 6 - j ∧ j ≤ 6) → (q = bdN L c n x j) →  wp PP d mb225 (mb225.getD 1 []) [some (vR a), some (vI x), some (vI q), some (vI i)] [] (HP h0 s) Q := by
    refine s_ind (fun N ih => ?_)
    intro j i q hj hn2 hq
    have gw := wB_R (L := L) (c := c) n (6 * x + i)
    have gb := bdN_R (L := L) (c := c) (n := n) (x := x) j
    have gt : j < 6 → i_or q (i_shl 1 i) = q + 2 ^ j := fun z => by
      have e : i.toNat = j := by omega
      have := or_bit (b := q) (k := i) (by omega) (by rw [e, hq]; exact gb)
      rw [this, e]
    refine x_iload rfl ?_
    refine x_ci ?_
    refine n_icmp_ge ⟨by omega, by omega⟩ ⟨by omega, by omega⟩ (fun c1 => ?_) (fun c1 => ?_)
    · refine x_iload rfl ?_
      refine x_iret ?_
      refine cI k ?_
      have e : j = 6 := by omega
      rw [hq, e]
      rfl
    · refine x_iload rfl ?_
      refine x_iload rfl ?_
      refine n_icmp_eq ⟨by omega, by omega⟩ ⟨by omega, by omega⟩ (fun c2 => ?_) (fun c2 => ?_)
      · refine n_iinc [some (vR _), some (vI _), some (vI _), some (vI _)] rfl rfl ?_
        refine x_goto ?_
        refine ih (6 - (j + 1)) (by omega) (j + 1) _ _ (by omega) (by omega) ?_
        simp only [bdN]
        rw [if_neg (by have := wB_non hL hp.v x x hx hx (by omega); intro z; apply z; rw [← hj, c2]; exact this), hq]
        omega
      · refine x_aload rfl ?_
        refine x_iload rfl ?_
        refine x_iload rfl ?_
        refine n_call [vR _, vI _, vI _] [] (by omega) (Nat.le_of_ble_eq_true rfl) rfl rfl (Nat.le_of_ble_eq_true rfl) ?_
        refine m_bondP hP (by omega) hp ⟨by omega, by omega⟩ ⟨by omega, by omega⟩ ?_
        show wp PP _ _ _ [some (vR _), some (vI _), some (vI _), some (vI _)] [vI _] _ _
        refine n_if_eq ⟨by omega, by omega⟩ (fun c3 => ?_) (fun c3 => ?_)
        · refine n_iinc [some (vR _), some (vI _), some (vI _), some (vI _)] rfl rfl ?_
          refine x_goto ?_
          refine ih (6 - (j + 1)) (by omega) (j + 1) _ _ (by omega) (by omega) ?_
          simp only [bdN]
          rw [if_neg (by rw [← hj]; intro z; exact z c3), hq]
          omega
        · refine x_iload rfl ?_
          refine x_ci ?_
          refine x_iload rfl ?_
          refine x_ishl ?_
          refine x_ior ?_
          rw [gt (by omega)]
          refine n_istore [some (vR _), some (vI _), some (vI _), some (vI _)] (Nat.le_of_ble_eq_true rfl) rfl ?_
          refine x_fall ?_
          refine n_iinc [some (vR _), some (vI _), some (vI _), some (vI _)] rfl rfl ?_
          refine x_goto ?_
          refine ih (6 - (j + 1)) (by omega) (j + 1) _ _ (by omega) (by omega) ?_
          simp only [bdN]
          rw [if_pos (by rw [← hj]; exact c3), hq]
  refine n_at (m := 225) (q := mr225) (kn := (0, 2)) [some (vR _), some (vI _), none, none] mb225 rfl rfl (h_rcv hP.1) (Nat.le_of_ble_eq_true rfl) rfl rfl ?_
  refine x_ci ?_
  refine n_istore [some (vR _), some (vI _), some (vI _), _] (Nat.le_of_ble_eq_true rfl) rfl ?_
  refine x_ci ?_
  refine n_istore [some (vR _), some (vI _), some (vI _), some (vI _)] (Nat.le_of_ble_eq_true rfl) rfl ?_
  refine x_fall ?_
  refine L1 6 0 0 _ rfl (by omega) rfl
theorem bd_R {x : Int} : 0 ≤ bd L c n x ∧ bd L c n x < 64 := bdN_R 6
theorem m_isFree (hP : isPl a) (hd : 3 ≤ d) (hp : PL a L n c s) {x : Int} (hx : 0 ≤ x ∧ x < 6) (k : Q (some (vI (bI (bt L x = 1 ∧ bd L c n x = 0)))) (HP h0 s)) : wpM PP d 226 [vR a, vI x, vI (-1)] (HP h0 s) Q := by
  have ha := hP.1.1
  have hc := cnt_R L
  have hn := hp.hn
  have q3 := hp.left
  have q4 := hp.count
  have q5 := hp.size
  have hL := hp.hL
  have gb := bd_R (L := L) (c := c) (n := n) (x := x)
  have ga := and_m1_f ⟨(bd L c n x).toNat, by omega⟩
  simp only [Int.toNat_of_nonneg gb.1] at ga
  have gl := bt_R L x
  refine n_at (m := 226) (q := mr226) (kn := (0, 3)) [some (vR _), some (vI _), some (vI _), none] mb226 rfl rfl (h_rcv hP.1) (Nat.le_of_ble_eq_true rfl) rfl rfl ?_
  refine x_aload rfl ?_
  refine x_iload rfl ?_
  refine n_call [vR _, vI _] [] (by omega) (Nat.le_of_ble_eq_true rfl) rfl rfl (Nat.le_of_ble_eq_true rfl) ?_
  refine m_isLeft hP (by first | assumption | omega | (simp [up]; omega)) ⟨by omega, by omega⟩ ?_
  show wp PP _ _ _ [some (vR _), some (vI _), some (vI _), _] [vI _] _ _
  refine z_if_eq (fun c1 => ?_) (fun c1 => ?_)
  · refine x_ci ?_
    refine x_fall ?_
    refine n_istore [some (vR _), some (vI _), some (vI _), some (vI _)] (Nat.le_of_ble_eq_true rfl) rfl ?_
    refine x_aload rfl ?_
    refine x_iload rfl ?_
    refine n_call [vR _, vI _] [] (by omega) (Nat.le_of_ble_eq_true rfl) rfl rfl (Nat.le_of_ble_eq_true rfl) ?_
    refine m_isLeft hP (by first | assumption | omega | (simp [up]; omega)) ⟨by omega, by omega⟩ ?_
    show wp PP _ _ _ [some (vR _), some (vI _), some (vI _), some (vI _)] [vI _] _ _
    refine z_if_eq (fun c2 => ?_) (fun c2 => ?_)
    · refine x_ci ?_
      refine x_fall ?_
      refine x_zret (by first | exact bI_01 _ | omega) ?_
      first
        | (exfalso; omega)
        | (refine cB1 k ?_
           rw [hp.left] at *
           omega)
        | (refine cB0 k ?_
           rw [hp.left] at *
           omega)
    · refine x_aload rfl ?_
      refine x_iload rfl ?_
      refine n_call [vR _, vI _] [] (by omega) (Nat.le_of_ble_eq_true rfl) rfl rfl (Nat.le_of_ble_eq_true rfl) ?_
      refine m_boundTo hP (by omega) hp ⟨by omega, by omega⟩ ?_
      show wp PP _ _ _ [some (vR _), some (vI _), some (vI _), some (vI _)] [vI _] _ _
      refine x_iload rfl ?_
      refine x_ci ?_
      refine x_ixor ?_
      refine x_iand ?_
      rw [ga]
      refine n_if_ne ⟨by omega, by omega⟩ (fun c3 => ?_) (fun c3 => ?_)
      · refine x_ci ?_
        refine x_fall ?_
        refine x_zret (by first | exact bI_01 _ | omega) ?_
        first
          | (exfalso; omega)
          | (refine cB1 k ?_
             rw [hp.left] at *
             omega)
          | (refine cB0 k ?_
             rw [hp.left] at *
             omega)
      · refine x_ci ?_
        refine x_goto ?_
        refine x_zret (by first | exact bI_01 _ | omega) ?_
        first
          | (exfalso; omega)
          | (refine cB1 k ?_
             rw [hp.left] at *
             omega)
          | (refine cB0 k ?_
             rw [hp.left] at *
             omega)
  · exfalso
    omega
theorem m_isFreeBut (hP : isPl a) (hd : 3 ≤ d) (hp : PL a L n c s) {x y : Int} (hx : 0 ≤ x ∧ x < 6) (hy : 0 ≤ y ∧ y < 6 ∧ bt L y = 1) (k : Q (some (vI (bI (bt L x = 1 ∧ clr (bd L c n x) y = 0)))) (HP h0 s)) : wpM PP d 226 [vR a, vI x, vI y] (HP h0 s) Q := by
  have ha := hP.1.1
  have hc := cnt_R L
  have hn := hp.hn
  have q3 := hp.left
  have q4 := hp.count
  have q5 := hp.size
  have hL := hp.hL
  have gb := bd_R (L := L) (c := c) (n := n) (x := x)
  have ga := clr_is (L := bd L c n x) gb ⟨hy.1, hy.2.1⟩
  have gl := bt_R L x
  refine n_at (m := 226) (q := mr226) (kn := (0, 3)) [some (vR _), some (vI _), some (vI _), none] mb226 rfl rfl (h_rcv hP.1) (Nat.le_of_ble_eq_true rfl) rfl rfl ?_
  refine x_aload rfl ?_
  refine x_iload rfl ?_
  refine n_call [vR _, vI _] [] (by omega) (Nat.le_of_ble_eq_true rfl) rfl rfl (Nat.le_of_ble_eq_true rfl) ?_
  refine m_isLeft hP (by first | assumption | omega | (simp [up]; omega)) ⟨by omega, by omega⟩ ?_
  show wp PP _ _ _ [some (vR _), some (vI _), some (vI _), _] [vI _] _ _
  refine z_if_eq (fun c1 => ?_) (fun c1 => ?_)
  · exfalso
    rw [q3] at c1
    omega
  · refine x_ci ?_
    refine x_iload rfl ?_
    refine x_ishl ?_
    refine x_goto ?_
    refine n_istore [some (vR _), some (vI _), some (vI _), some (vI _)] (Nat.le_of_ble_eq_true rfl) rfl ?_
    refine x_aload rfl ?_
    refine x_iload rfl ?_
    refine n_call [vR _, vI _] [] (by omega) (Nat.le_of_ble_eq_true rfl) rfl rfl (Nat.le_of_ble_eq_true rfl) ?_
    refine m_isLeft hP (by first | assumption | omega | (simp [up]; omega)) ⟨by omega, by omega⟩ ?_
    show wp PP _ _ _ [some (vR _), some (vI _), some (vI _), some (vI _)] [vI _] _ _
    refine z_if_eq (fun c2 => ?_) (fun c2 => ?_)
    · refine x_ci ?_
      refine x_fall ?_
      refine x_zret (by first | exact bI_01 _ | omega) ?_
      first
        | (exfalso; rw [hp.left] at *; omega)
        | (refine cB1 k ?_
           rw [hp.left] at *
           omega)
        | (refine cB0 k ?_
           rw [hp.left] at *
           omega)
    · refine x_aload rfl ?_
      refine x_iload rfl ?_
      refine n_call [vR _, vI _] [] (by omega) (Nat.le_of_ble_eq_true rfl) rfl rfl (Nat.le_of_ble_eq_true rfl) ?_
      refine m_boundTo hP (by omega) hp ⟨by omega, by omega⟩ ?_
      show wp PP _ _ _ [some (vR _), some (vI _), some (vI _), some (vI _)] [vI _] _ _
      refine x_iload rfl ?_
      refine x_ci ?_
      refine x_ixor ?_
      refine x_iand ?_
      rw [ga.1]
      refine n_if_ne ⟨by omega, by omega⟩ (fun c3 => ?_) (fun c3 => ?_)
      · refine x_ci ?_
        refine x_fall ?_
        refine x_zret (by first | exact bI_01 _ | omega) ?_
        first
          | (exfalso; rw [hp.left] at *; omega)
          | (refine cB1 k ?_
             rw [hp.left] at *
             omega)
          | (refine cB0 k ?_
             rw [hp.left] at *
             omega)
      · refine x_ci ?_
        refine x_goto ?_
        refine x_zret (by first | exact bI_01 _ | omega) ?_
        first
          | (exfalso; rw [hp.left] at *; omega)
          | (refine cB1 k ?_
             rw [hp.left] at *
             omega)
          | (refine cB0 k ?_
             rw [hp.left] at *
             omega)
theorem m_freeCount (hP : isPl a) (hd : 4 ≤ d) (hp : PL a L n c s) (k : Q (some (vI (fcN L c n 6))) (HP h0 s)) : wpM PP d 227 [vR a] (HP h0 s) Q := by
  have ha := hP.1.1
  have hc := cnt_R L
  have hn := hp.hn
  have q3 := hp.left
  have q4 := hp.count
  have q5 := hp.size
  have hL := hp.hL
  have L1 : ∀ N : Nat, ∀ (j : Nat) (i : Int) (q : Int), (i = j) → (N = 6 - j ∧ j ≤ 6) → (q = fcN L c n j) →  wp PP d mb227 (mb227.getD 1 []) [some (vR a), some (vI q), some (vI i)] [] (HP h0 s) Q := by
    refine s_ind (fun N ih => ?_)
    intro j i q hj hn2 hq
    refine x_iload rfl ?_
    refine x_ci ?_
    refine n_icmp_ge ⟨by omega, by omega⟩ ⟨by omega, by omega⟩ (fun c1 => ?_) (fun c1 => ?_)
    · refine x_iload rfl ?_
      refine x_iret ?_
      refine cI k ?_
      have e : j = 6 := by omega
      rw [hq, e]
    · refine x_iload rfl ?_
      refine x_aload rfl ?_
      refine x_iload rfl ?_
      refine x_ci ?_
      refine n_call [vR _, vI _, vI _] [vI _] (by omega) (Nat.le_of_ble_eq_true rfl) rfl rfl (Nat.le_of_ble_eq_true rfl) ?_
      refine m_isFree hP (by omega) hp ⟨by omega, by omega⟩ ?_
      show wp PP _ _ _ [some (vR _), some (vI _), some (vI _)] [vI _, vI _] _ _
      refine n_call [vI _] [vI _] (by omega) (Nat.le_of_ble_eq_true rfl) rfl rfl (Nat.le_of_ble_eq_true rfl) ?_
      refine m_bit (by first | exact bI_01 _ | omega) ?_
      show wp PP _ _ _ [some (vR _), some (vI _), some (vI _)] [vI _, vI _] _ _
      refine x_iadd ?_
      refine n_istore [some (vR _), some (vI _), some (vI _)] (Nat.le_of_ble_eq_true rfl) rfl ?_
      refine n_iinc [some (vR _), some (vI _), some (vI _)] rfl rfl ?_
      refine x_goto ?_
      refine ih (6 - (j + 1)) (by omega) (j + 1) _ _ (by omega) (by omega) ?_
      simp only [fcN]
      rw [hq, hj]
  refine n_at (m := 227) (q := mr227) (kn := (0, 1)) [some (vR _), none, none] mb227 rfl rfl (h_rcv hP.1) (Nat.le_of_ble_eq_true rfl) rfl rfl ?_
  refine x_ci ?_
  refine n_istore [some (vR _), some (vI _), _] (Nat.le_of_ble_eq_true rfl) rfl ?_
  refine x_ci ?_
  refine n_istore [some (vR _), some (vI _), some (vI _)] (Nat.le_of_ble_eq_true rfl) rfl ?_
  refine x_fall ?_
  refine L1 6 0 0 _ rfl (by omega) rfl
theorem m_turnedPairs (hP : isPl a) (hd : 2 ≤ d) (hp : PL a L n c s) (k : Q (some (vI (tpO (wO L c n) (cnt L).toNat (cnt L).toNat))) (HP h0 s)) : wpM PP d 229 [vR a] (HP h0 s) Q := by
  have ha := hP.1.1
  have hc := cnt_R L
  have hn := hp.hn
  have q3 := hp.left
  have q4 := hp.count
  have q5 := hp.size
  have hL := hp.hL
  have L1 : ∀ N : Nat, ∀ {o4 : Option pv} (j : Nat) (i : Int) (w : Int), (i = j) → (N = (cnt L).toNat - j ∧ (j : Int) ≤ cnt L) → (w = tpO (wO L c n) (cnt L).toNat j) →  wp PP d mb229 (mb229.getD 1 []) [some (vR a), some (vI w), some (vI (cnt L)), some (vI i), o4] [] (HP h0 s) Q := by
    refine s_ind (fun N ih => ?_)
    intro o4 j i w hj hn2 hw
    have gw := tpO_R (wO L c n) (cnt L).toNat j
    have gm : (j : Int) * ((cnt L).toNat : Int) ≤ 36 := by
      have : (j : Int) * ((cnt L).toNat : Int) ≤ 6 * 6 := Int.mul_le_mul (by omega) (by omega) (by omega) (by omega)
      omega
    refine x_iload rfl ?_
    refine x_iload rfl ?_
    refine n_icmp_ge ⟨by omega, by omega⟩ ⟨by omega, by omega⟩ (fun c1 => ?_) (fun c1 => ?_)
    · refine x_iload rfl ?_
      refine x_iret ?_
      refine cI k ?_
      have e : j = (cnt L).toNat := by omega
      rw [hw, e]
    · refine x_iload rfl ?_
      refine x_ci ?_
      refine x_iadd ?_
      refine n_istore [some (vR _), some (vI _), some (vI _), some (vI _), some (vI _)] (Nat.le_of_ble_eq_true rfl) rfl ?_
      refine x_fall ?_
      have L2 : ∀ M : Nat, ∀ (u : Nat) (r : Int) (q : Int), (r = u) → (M = (cnt L).toNat - u ∧ j + 1 ≤ u ∧ (u : Int) ≤ cnt L) → (q = w + tpI (wO L c n) i u) →  wp PP d mb229 (mb229.getD 2 []) [some (vR a), some (vI q), some (vI (cnt L)), some (vI i), some (vI r)] [] (HP h0 s) Q := by
        refine s_ind (fun M ih2 => ?_)
        intro u r q hu hm hq
        have gq := tpI_R (wO L c n) i u
        have o1 := wO_R hL hp.v i (by omega) (by omega)
        have o2 : r < cnt L → _ := fun z => wO_R hL hp.v r (by omega) z
        have g1 := hp.order (p := i) (by omega) (by omega)
        have g2 : r < cnt L → s (a + 2) r = wO L c n r := fun z => hp.order (by omega) z
        refine x_iload rfl ?_
        refine x_iload rfl ?_
        refine n_icmp_ge ⟨by omega, by omega⟩ ⟨by omega, by omega⟩ (fun c1 => ?_) (fun c1 => ?_)
        · refine n_iinc [some (vR _), some (vI _), some (vI _), some (vI _), some (vI _)] rfl rfl ?_
          refine x_goto ?_
          refine ih ((cnt L).toNat - (j + 1)) (by omega) (j + 1) _ _ (by omega) (by omega) ?_
          have e : u = (cnt L).toNat := by omega
          simp only [tpO]
          rw [hq, ← hw, e, hj]
        · refine x_iload rfl ?_
          refine x_aload rfl ?_
          refine x_iload rfl ?_
          refine n_call [vR _, vI _] [vI _] (by omega) (Nat.le_of_ble_eq_true rfl) rfl rfl (Nat.le_of_ble_eq_true rfl) ?_
          refine m_standsAt hP (by first | assumption | omega | (simp [up]; omega)) ⟨by omega, by omega⟩ ?_
          show wp PP _ _ _ [some (vR _), some (vI _), some (vI _), some (vI _), some (vI _)] [vI _, vI _] _ _
          rw [g1]
          refine x_aload rfl ?_
          refine x_iload rfl ?_
          refine n_call [vR _, vI _] [vI _, vI _] (by omega) (Nat.le_of_ble_eq_true rfl) rfl rfl (Nat.le_of_ble_eq_true rfl) ?_
          refine m_standsAt hP (by first | assumption | omega | (simp [up]; omega)) ⟨by omega, by omega⟩ ?_
          show wp PP _ _ _ [some (vR _), some (vI _), some (vI _), some (vI _), some (vI _)] [vI _, vI _, vI _] _ _
          have o2 := o2 (by omega)
          rw [g2 (by omega)]
          refine n_icmp_le ⟨by omega, by omega⟩ ⟨by omega, by omega⟩ (fun c2 => ?_) (fun c2 => ?_)
          · refine x_ci ?_
            refine x_fall ?_
            refine n_call [vI _] [vI _] (by omega) (Nat.le_of_ble_eq_true rfl) rfl rfl (Nat.le_of_ble_eq_true rfl) ?_
            refine m_bit (by first | exact bI_01 _ | omega) ?_
            show wp PP _ _ _ [some (vR _), some (vI _), some (vI _), some (vI _), some (vI _)] [vI _, vI _] _ _
            refine x_iadd ?_
            refine n_istore [some (vR _), some (vI _), some (vI _), some (vI _), some (vI _)] (Nat.le_of_ble_eq_true rfl) rfl ?_
            refine n_iinc [some (vR _), some (vI _), some (vI _), some (vI _), some (vI _)] rfl rfl ?_
            refine x_goto ?_
            refine ih2 ((cnt L).toNat - (u + 1)) (by omega) (u + 1) _ _ (by omega) (by omega) ?_
            have e1 : wO L c n u = wO L c n r := by rw [hu]
            simp only [tpI]
            rw [if_pos (by omega), e1, bI_f (by omega), hq]
            try omega
          · refine x_ci ?_
            refine x_goto ?_
            refine n_call [vI _] [vI _] (by omega) (Nat.le_of_ble_eq_true rfl) rfl rfl (Nat.le_of_ble_eq_true rfl) ?_
            refine m_bit (by first | exact bI_01 _ | omega) ?_
            show wp PP _ _ _ [some (vR _), some (vI _), some (vI _), some (vI _), some (vI _)] [vI _, vI _] _ _
            refine x_iadd ?_
            refine n_istore [some (vR _), some (vI _), some (vI _), some (vI _), some (vI _)] (Nat.le_of_ble_eq_true rfl) rfl ?_
            refine n_iinc [some (vR _), some (vI _), some (vI _), some (vI _), some (vI _)] rfl rfl ?_
            refine x_goto ?_
            refine ih2 ((cnt L).toNat - (u + 1)) (by omega) (u + 1) _ _ (by omega) (by omega) ?_
            have e1 : wO L c n u = wO L c n r := by rw [hu]
            simp only [tpI]
            rw [if_pos (by omega), e1, bI_t (by omega), hq]
            try omega
      refine L2 ((cnt L).toNat - (j + 1)) (j + 1) _ _ (by omega) (by omega) ?_
      rw [tpI_0 _ _ _ (by omega)]
      omega
  refine n_at (m := 229) (q := mr229) (kn := (0, 1)) [some (vR _), none, none, none, none] mb229 rfl rfl (h_rcv hP.1) (Nat.le_of_ble_eq_true rfl) rfl rfl ?_
  refine x_ci ?_
  refine n_istore [some (vR _), some (vI _), _, _, _] (Nat.le_of_ble_eq_true rfl) rfl ?_
  refine x_aload rfl ?_
  refine h_getI 4 hP.1 rfl rfl ?_
  refine t_I (cnt L) q4 ?_
  refine n_istore [some (vR _), some (vI _), some (vI _), _, _] (Nat.le_of_ble_eq_true rfl) rfl ?_
  refine x_ci ?_
  refine n_istore [some (vR _), some (vI _), some (vI _), some (vI _), _] (Nat.le_of_ble_eq_true rfl) rfl ?_
  refine x_fall ?_
  refine L1 (cnt L).toNat 0 0 _ rfl (by omega) rfl
end P5
