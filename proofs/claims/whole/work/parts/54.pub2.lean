/-! PUBLICS THAT ONLY LOOK: at, bond, isHome, fault -/
section PV
variable {d tp : Nat} {h0 h : pheap} {s : St} {Q : Option pv → pheap → Prop} {L : Int} {n : Nat} {c : Int → Int}
def atA (L : Int) (n : Nat) (c : Int → Int) (k p : Int) : Int := if 0 ≤ k ∧ k ≤ n ∧ 0 ≤ p ∧ p < cnt L then wO L c k.toNat p else -1
def boA (L : Int) (n : Nat) (c : Int → Int) (D x y : Int) : Int := if (0 ≤ x ∧ x < D) ∧ (0 ≤ y ∧ y < D) ∧ ¬ x = y then wB L c n (6 * x + y) else -2147483648
/-- all but what is danced aside and who threw -/
def lfr (s t : St) : Prop := ∀ b : Nat, (b < 114 ∨ 117 < b) → ∀ r, ¬ (b = 94 ∧ r = 0) → t b r = s b r
theorem m_isDancer (hS : isSc tp) (hT : s 32 2 = (tp : Int) + 1) {D x : Int} (h1 : s tp 1 = D) (hD : 0 ≤ D ∧ D ≤ 6) (hx : iR x) (k : Q (some (vI (bI (0 ≤ x ∧ x < D)))) (HP h0 s)) : wpM PP d 44 [vR 32, vI x] (HP h0 s) Q := by
  refine n_at (m := 44) (q := mr44) (kn := (0, 2)) [some (vR _), some (vI _)] mb44 rfl rfl (h_rcv sc_32) (Nat.le_of_ble_eq_true rfl) rfl rfl ?_
  refine x_iload rfl ?_
  refine n_if_lt ⟨by omega, by omega⟩ (fun c1 => ?_) (fun c1 => ?_)
  · refine x_ci ?_
    refine x_fall ?_
    refine x_zret (by first | exact bI_01 _ | omega) ?_
    exact cB0 k (by omega)
  · refine x_iload rfl ?_
    refine x_aload rfl ?_
    refine h_getB 2 sc_32 rfl rfl hT ?_
    refine h_getI 1 hS.1 rfl rfl ?_
    rw [h1]
    refine n_icmp_ge ⟨by omega, by omega⟩ ⟨by omega, by omega⟩ (fun c2 => ?_) (fun c2 => ?_)
    · refine x_ci ?_
      refine x_fall ?_
      refine x_zret (by first | exact bI_01 _ | omega) ?_
      exact cB0 k (by omega)
    · refine x_ci ?_
      refine x_goto ?_
      refine x_zret (by first | exact bI_01 _ | omega) ?_
      exact cB1 k (by omega)
theorem m_at (hd : 10 ≤ d) (hp : PL 54 L n c s) {x w : Int} (hx : iR x) (hw : iR w) (k : Q (some (vI (atA L n c x w))) (HP h0 s)) : wpM PP d 13 [vR 32, vI x, vI w] (HP h0 s) Q := by
  have hn := hp.hn
  have hct := cnt_R L
  refine n_at (m := 13) (q := mr13) (kn := (0, 3)) [some (vR _), some (vI _), some (vI _)] mb13 rfl rfl (h_rcv sc_32) (Nat.le_of_ble_eq_true rfl) rfl rfl ?_
  refine x_iload rfl ?_
  refine n_if_lt ⟨by omega, by omega⟩ (fun c1 => ?_) (fun c1 => ?_)
  · refine x_ci ?_
    refine x_iret ?_
    first
      | (refine cI k ?_
         unfold atA
         exact if_pos (by omega))
      | (refine cI k ?_
         unfold atA
         exact if_neg (by omega))
  · refine x_iload rfl ?_
    refine x_aload rfl ?_
    refine h_getR sc_32 rfl (by omega) ?_
    refine h_getR sc_53 rfl (by omega) ?_
    refine h_getI 5 sc_54 rfl rfl ?_
    rw [hp.size]
    refine n_icmp_gt ⟨by omega, by omega⟩ ⟨by omega, by omega⟩ (fun c2 => ?_) (fun c2 => ?_)
    · refine x_ci ?_
      refine x_iret ?_
      first
        | (refine cI k ?_
           unfold atA
           exact if_pos (by omega))
        | (refine cI k ?_
           unfold atA
           exact if_neg (by omega))
    · refine x_iload rfl ?_
      refine n_if_lt ⟨by omega, by omega⟩ (fun c3 => ?_) (fun c3 => ?_)
      · refine x_ci ?_
        refine x_iret ?_
        first
          | (refine cI k ?_
             unfold atA
             exact if_pos (by omega))
          | (refine cI k ?_
             unfold atA
             exact if_neg (by omega))
      · refine x_iload rfl ?_
        refine x_aload rfl ?_
        refine h_getR sc_32 rfl (by omega) ?_
        refine h_getR sc_53 rfl (by omega) ?_
        refine h_getI 4 sc_54 rfl rfl ?_
        rw [hp.count]
        refine n_icmp_lt ⟨by omega, by omega⟩ ⟨by omega, by omega⟩ (fun c4 => ?_) (fun c4 => ?_)
        · refine x_aload rfl ?_
          refine h_getR sc_32 rfl (by omega) ?_
          refine h_getR sc_53 rfl (by omega) ?_
          refine x_iload rfl ?_
          refine x_iload rfl ?_
          refine n_call [vR _, vI _, vI _] [] (by omega) (Nat.le_of_ble_eq_true rfl) rfl rfl (Nat.le_of_ble_eq_true rfl) ?_
          refine m_standsBehind pl_54 (by omega) hp (by omega) (by omega) ?_
          rw [show (min x (n : Int)).toNat = x.toNat by omega]
          show wp PP _ _ _ [some (vR _), some (vI _), some (vI _)] [vI _] _ _
          refine x_iret ?_
          first
            | (refine cI k ?_
               unfold atA
               exact if_pos (by omega))
            | (refine cI k ?_
               unfold atA
               exact if_neg (by omega))
        · refine x_fall ?_
          refine x_ci ?_
          refine x_iret ?_
          first
            | (refine cI k ?_
               unfold atA
               exact if_pos (by omega))
            | (refine cI k ?_
               unfold atA
               exact if_neg (by omega))
theorem m_bond (hd : 3 ≤ d) (hp : PL 54 L n c s) (hS : isSc tp) (hT : s 32 2 = (tp : Int) + 1) {D x w : Int} (h1 : s tp 1 = D) (hD : 0 ≤ D ∧ D ≤ 6) (hx : iR x) (hw : iR w) (k : Q (some (vI (boA L n c D x w))) (HP h0 s)) : wpM PP d 12 [vR 32, vI x, vI w] (HP h0 s) Q := by
  refine n_at (m := 12) (q := mr12) (kn := (0, 3)) [some (vR _), some (vI _), some (vI _)] mb12 rfl rfl (h_rcv sc_32) (Nat.le_of_ble_eq_true rfl) rfl rfl ?_
  refine x_aload rfl ?_
  refine x_iload rfl ?_
  refine n_call [vR _, vI _] [] (by omega) (Nat.le_of_ble_eq_true rfl) rfl rfl (Nat.le_of_ble_eq_true rfl) ?_
  refine m_isDancer hS hT h1 hD ⟨by omega, by omega⟩ ?_
  show wp PP _ _ _ [some (vR _), some (vI _), some (vI _)] [vI _] _ _
  refine z_if_eq (fun c1 => ?_) (fun c1 => ?_)
  · refine x_ci ?_
    refine x_iret ?_
    first
      | (refine cI k ?_
         unfold boA
         exact if_pos ⟨by omega, by omega, by omega⟩)
      | (refine cI k ?_
         unfold boA
         exact if_neg (by omega))
  · refine x_aload rfl ?_
    refine x_iload rfl ?_
    refine n_call [vR _, vI _] [] (by omega) (Nat.le_of_ble_eq_true rfl) rfl rfl (Nat.le_of_ble_eq_true rfl) ?_
    refine m_isDancer hS hT h1 hD ⟨by omega, by omega⟩ ?_
    show wp PP _ _ _ [some (vR _), some (vI _), some (vI _)] [vI _] _ _
    refine z_if_eq (fun c2 => ?_) (fun c2 => ?_)
    · refine x_ci ?_
      refine x_iret ?_
      first
        | (refine cI k ?_
           unfold boA
           exact if_pos ⟨by omega, by omega, by omega⟩)
        | (refine cI k ?_
           unfold boA
           exact if_neg (by omega))
    · refine x_iload rfl ?_
      refine x_iload rfl ?_
      refine n_icmp_ne ⟨by omega, by omega⟩ ⟨by omega, by omega⟩ (fun c3 => ?_) (fun c3 => ?_)
      · refine x_aload rfl ?_
        refine h_getR sc_32 rfl (by omega) ?_
        refine h_getR sc_53 rfl (by omega) ?_
        refine x_iload rfl ?_
        refine x_iload rfl ?_
        refine n_call [vR _, vI _, vI _] [] (by omega) (Nat.le_of_ble_eq_true rfl) rfl rfl (Nat.le_of_ble_eq_true rfl) ?_
        refine m_bondP pl_54 (by omega) hp ⟨by omega, by omega⟩ ⟨by omega, by omega⟩ ?_
        show wp PP _ _ _ [some (vR _), some (vI _), some (vI _)] [vI _] _ _
        refine x_iret ?_
        first
          | (refine cI k ?_
             unfold boA
             exact if_pos ⟨by omega, by omega, by omega⟩)
          | (refine cI k ?_
             unfold boA
             exact if_neg (by omega))
      · refine x_fall ?_
        refine x_ci ?_
        refine x_iret ?_
        first
          | (refine cI k ?_
             unfold boA
             exact if_pos ⟨by omega, by omega, by omega⟩)
          | (refine cI k ?_
             unfold boA
             exact if_neg (by omega))
theorem m_isHome (hd : 3 ≤ d) (hp : PL 54 L n c s) (k : Q (some (vI (bI (tpO (wO L c n) (cnt L).toNat (cnt L).toNat = 0)))) (HP h0 s)) : wpM PP d 14 [vR 32] (HP h0 s) Q := by
  refine n_at (m := 14) (q := mr14) (kn := (0, 1)) [some (vR _)] mb14 rfl rfl (h_rcv sc_32) (Nat.le_of_ble_eq_true rfl) rfl rfl ?_
  refine x_aload rfl ?_
  refine h_getR sc_32 rfl (by omega) ?_
  refine h_getR sc_53 rfl (by omega) ?_
  refine n_call [vR _] [] (by omega) (Nat.le_of_ble_eq_true rfl) rfl rfl (Nat.le_of_ble_eq_true rfl) ?_
  have ht := tpO_R (wO L c n) (cnt L).toNat (cnt L).toNat
  have hct := cnt_R L
  have hm : ((cnt L).toNat : Int) * ((cnt L).toNat : Int) ≤ 36 := by
    have : ((cnt L).toNat : Int) * ((cnt L).toNat : Int) ≤ 6 * 6 := Int.mul_le_mul (by omega) (by omega) (by omega) (by omega)
    omega
  refine m_turnedPairs pl_54 (by omega) hp ?_
  show wp PP _ _ _ [some (vR _)] [vI _] _ _
  refine n_if_ne ⟨by omega, by omega⟩ (fun c1 => ?_) (fun c1 => ?_)
  · refine x_ci ?_
    refine x_fall ?_
    refine x_zret (by first | exact bI_01 _ | omega) ?_
    exact cB0 k (by omega)
  · refine x_ci ?_
    refine x_goto ?_
    refine x_zret (by first | exact bI_01 _ | omega) ?_
    exact cB1 k (by omega)
theorem m_fault {x : Int} (hx : iR x) (k : Q (some (vI (if x = 0 then s 32 4 else if x = 1 then s 32 5 else -1))) (HP h0 s)) : wpM PP d 9 [vR 32, vI x] (HP h0 s) Q := by
  refine n_at (m := 9) (q := mr9) (kn := (0, 2)) [some (vR _), some (vI _)] mb9 rfl rfl (h_rcv sc_32) (Nat.le_of_ble_eq_true rfl) rfl rfl ?_
  refine x_iload rfl ?_
  refine n_if_ne ⟨by omega, by omega⟩ (fun c1 => ?_) (fun c1 => ?_)
  · refine x_iload rfl ?_
    refine x_ci ?_
    refine n_icmp_ne ⟨by omega, by omega⟩ ⟨by omega, by omega⟩ (fun c2 => ?_) (fun c2 => ?_)
    · refine x_ci ?_
      refine x_fall ?_
      refine x_iret ?_
      first
        | exact cI k (if_pos (by omega))
        | exact cI k (by rw [if_neg (by omega), if_pos (by omega)])
        | exact cI k (by rw [if_neg (by omega), if_neg (by omega)])
    · refine x_aload rfl ?_
      refine h_getI 5 sc_32 rfl rfl ?_
      refine x_goto ?_
      refine x_iret ?_
      first
        | exact cI k (if_pos (by omega))
        | exact cI k (by rw [if_neg (by omega), if_pos (by omega)])
        | exact cI k (by rw [if_neg (by omega), if_neg (by omega)])
  · refine x_aload rfl ?_
    refine h_getI 4 sc_32 rfl rfl ?_
    refine x_iret ?_
    first
      | exact cI k (if_pos (by omega))
      | exact cI k (by rw [if_neg (by omega), if_pos (by omega)])
      | exact cI k (by rw [if_neg (by omega), if_neg (by omega)])
theorem r_at (hd : 9 ≤ d) (hr0 : RD 0 L n c s) {x w : Int} (hx : iR x) (hw : iR w) (k : ∀ t, lfr s t → Q (some (vI (atA L n c x w))) (HP h0 t)) : wpM PP d 137 [vR 94, vI x, vI w] (HP h0 s) Q := by
  obtain ⟨hL, hn, hv, r1, r2, r3⟩ := hr0
  have hr0 : RD 0 L n c s := ⟨hL, hn, hv, r1, r2, r3⟩
  have hct := cnt_R L
  refine n_at (m := 137) (q := mr137) (kn := (0, 3)) [some (vR _), some (vI _), some (vI _)] mb137 rfl rfl (h_rcv sc_94) (Nat.le_of_ble_eq_true rfl) rfl rfl ?_
  refine x_aload rfl ?_
  refine x_ci ?_
  refine h_putI 0 sc_94 rfl rfl ?_
  refine x_iload rfl ?_
  refine n_if_lt ⟨by omega, by omega⟩ (fun c1 => ?_) (fun c1 => ?_)
  · refine x_ci ?_
    refine x_iret ?_
    first
      | (refine cI (k _ (fun b hb r hr => (t2 b (by omega) r).trans (up_f hr))) ?_
         unfold atA
         rw [if_pos (by omega)]
         rfl)
      | (refine cI (k _ (fun b hb r hr => up_f hr)) ?_
         unfold atA
         exact if_neg (by omega))
  · refine x_iload rfl ?_
    refine x_aload rfl ?_
    refine h_getR sc_94 rfl (by omega) ?_
    refine x_ci ?_
    refine h_iald sc_112 ⟨by omega, by omega⟩ (by decide) ?_
    rw [up_a (b := 112) (by decide), r2]
    refine n_icmp_gt ⟨by omega, by omega⟩ ⟨by omega, by omega⟩ (fun c2 => ?_) (fun c2 => ?_)
    · refine x_ci ?_
      refine x_iret ?_
      first
        | (refine cI (k _ (fun b hb r hr => (t2 b (by omega) r).trans (up_f hr))) ?_
           unfold atA
           rw [if_pos (by omega)]
           rfl)
        | (refine cI (k _ (fun b hb r hr => up_f hr)) ?_
           unfold atA
           exact if_neg (by omega))
    · refine x_iload rfl ?_
      refine n_if_lt ⟨by omega, by omega⟩ (fun c3 => ?_) (fun c3 => ?_)
      · refine x_ci ?_
        refine x_iret ?_
        first
          | (refine cI (k _ (fun b hb r hr => (t2 b (by omega) r).trans (up_f hr))) ?_
             unfold atA
             rw [if_pos (by omega)]
             rfl)
          | (refine cI (k _ (fun b hb r hr => up_f hr)) ?_
             unfold atA
             exact if_neg (by omega))
      · refine x_iload rfl ?_
        refine x_aload rfl ?_
        refine h_getR sc_94 rfl (by omega) ?_
        refine x_ci ?_
        refine h_iald sc_111 ⟨by omega, by omega⟩ (by decide) ?_
        refine n_call [vI _] [vI _] (by omega) (Nat.le_of_ble_eq_true rfl) rfl rfl (Nat.le_of_ble_eq_true rfl) ?_
        refine t_bits L ((up_a (by decide)).trans r1) hL ?_
        show wp PP _ _ _ [some (vR _), some (vI _), some (vI _)] [vI _, vI _] _ _
        refine n_icmp_lt ⟨by omega, by omega⟩ ⟨by omega, by omega⟩ (fun c4 => ?_) (fun c4 => ?_)
        · refine x_aload rfl ?_
          refine x_ci ?_
          refine x_iload rfl ?_
          refine n_call [vR _, vI _, vI _] [] (by omega) (Nat.le_of_ble_eq_true rfl) rfl rfl (Nat.le_of_ble_eq_true rfl) ?_
          obtain ⟨k0, hk0⟩ : ∃ k0 : Nat, x = k0 := ⟨x.toNat, by omega⟩
          subst hk0
          refine r_stands (c := c) (L := L) (f := 0) (by omega) (m := k0) (by omega) hL ((up_a (by decide)).trans r1) (by omega) (vC_less hv (by omega)) (fun i i0 i1 => (up_a (by decide)).trans (r3 i i0 (by omega))) (fun t t1 t2 => ?_)
          show wp PP _ _ _ [some (vR _), some (vI _), some (vI _)] [] _ _
          refine x_aload rfl ?_
          refine h_getR sc_94 rfl (by omega) ?_
          refine x_iload rfl ?_
          refine h_iald sc_114 ⟨by omega, by omega⟩ (by decide) ?_
          rw [t1.1 _ (by omega) (by omega)]
          refine x_iret ?_
          first
            | (refine cI (k _ (fun b hb r hr => (t2 b (by omega) r).trans (up_f hr))) ?_
               unfold atA
               rw [if_pos (by omega)]
               rfl)
            | (refine cI (k _ (fun b hb r hr => up_f hr)) ?_
               unfold atA
               exact if_neg (by omega))
        · refine x_fall ?_
          refine x_ci ?_
          refine x_iret ?_
          first
            | (refine cI (k _ (fun b hb r hr => (t2 b (by omega) r).trans (up_f hr))) ?_
               unfold atA
               rw [if_pos (by omega)]
               rfl)
            | (refine cI (k _ (fun b hb r hr => up_f hr)) ?_
               unfold atA
               exact if_neg (by omega))
theorem r_bond (hd : 4 ≤ d) (hr0 : RD 0 L n c s) {D x w : Int} (h1 : s 96 0 = D) (hD : 0 ≤ D ∧ D ≤ 6) (hx : iR x) (hw : iR w) (k : ∀ t, lfr s t → Q (some (vI (boA L n c D x w))) (HP h0 t)) : wpM PP d 136 [vR 94, vI x, vI w] (HP h0 s) Q := by
  obtain ⟨hL, hn, hv, r1, r2, r3⟩ := hr0
  have hr0 : RD 0 L n c s := ⟨hL, hn, hv, r1, r2, r3⟩
  have hct := cnt_R L
  refine n_at (m := 136) (q := mr136) (kn := (0, 3)) [some (vR _), some (vI _), some (vI _)] mb136 rfl rfl (h_rcv sc_94) (Nat.le_of_ble_eq_true rfl) rfl rfl ?_
  refine x_aload rfl ?_
  refine x_ci ?_
  refine h_putI 0 sc_94 rfl rfl ?_
  refine x_aload rfl ?_
  refine x_iload rfl ?_
  refine n_call [vR _, vI _] [] (by omega) (Nat.le_of_ble_eq_true rfl) rfl rfl (Nat.le_of_ble_eq_true rfl) ?_
  refine r_isDancer (by rw [up_a (by decide), h1]; exact hD) ⟨by omega, by omega⟩ ?_
  rw [up_a (b := 96) (by decide), h1]
  show wp PP _ _ _ [some (vR _), some (vI _), some (vI _)] [vI _] _ _
  refine z_if_eq (fun c1 => ?_) (fun c1 => ?_)
  · refine x_ci ?_
    refine x_iret ?_
    first
      | (refine cI (k _ (fun b hb r hr => (t2 b (by omega) r).trans (up_f hr))) ?_
         unfold boA
         exact if_pos ⟨by omega, by omega, by omega⟩)
      | (refine cI (k _ (fun b hb r hr => up_f hr)) ?_
         unfold boA
         exact if_neg (by omega))
  · refine x_aload rfl ?_
    refine x_iload rfl ?_
    refine n_call [vR _, vI _] [] (by omega) (Nat.le_of_ble_eq_true rfl) rfl rfl (Nat.le_of_ble_eq_true rfl) ?_
    refine r_isDancer (by rw [up_a (by decide), h1]; exact hD) ⟨by omega, by omega⟩ ?_
    rw [up_a (b := 96) (by decide), h1]
    show wp PP _ _ _ [some (vR _), some (vI _), some (vI _)] [vI _] _ _
    refine z_if_eq (fun c2 => ?_) (fun c2 => ?_)
    · refine x_ci ?_
      refine x_iret ?_
      first
        | (refine cI (k _ (fun b hb r hr => (t2 b (by omega) r).trans (up_f hr))) ?_
           unfold boA
           exact if_pos ⟨by omega, by omega, by omega⟩)
        | (refine cI (k _ (fun b hb r hr => up_f hr)) ?_
           unfold boA
           exact if_neg (by omega))
    · refine x_iload rfl ?_
      refine x_iload rfl ?_
      refine n_icmp_ne ⟨by omega, by omega⟩ ⟨by omega, by omega⟩ (fun c3 => ?_) (fun c3 => ?_)
      · refine x_aload rfl ?_
        refine x_ci ?_
        refine n_call [vR _, vI _] [] (by omega) (Nat.le_of_ble_eq_true rfl) rfl rfl (Nat.le_of_ble_eq_true rfl) ?_
        refine r_standsAll (f := 0) (by omega) (by omega) (hr0.up (by decide)) (fun t t1 t2 => ?_)
        show wp PP _ _ _ [some (vR _), some (vI _), some (vI _)] [] _ _
        refine x_aload rfl ?_
        refine h_getR sc_94 rfl (by omega) ?_
        refine x_ci ?_
        refine x_iload rfl ?_
        refine x_imul ?_
        refine x_iload rfl ?_
        refine x_iadd ?_
        refine h_iald sc_115 ⟨by omega, by omega⟩ (by decide) ?_
        rw [t1.2.1 _ (by omega) (by omega)]
        refine x_iret ?_
        first
          | (refine cI (k _ (fun b hb r hr => (t2 b (by omega) r).trans (up_f hr))) ?_
             unfold boA
             exact if_pos ⟨by omega, by omega, by omega⟩)
          | (refine cI (k _ (fun b hb r hr => up_f hr)) ?_
             unfold boA
             exact if_neg (by omega))
      · refine x_fall ?_
        refine x_ci ?_
        refine x_iret ?_
        first
          | (refine cI (k _ (fun b hb r hr => (t2 b (by omega) r).trans (up_f hr))) ?_
             unfold boA
             exact if_pos ⟨by omega, by omega, by omega⟩)
          | (refine cI (k _ (fun b hb r hr => up_f hr)) ?_
             unfold boA
             exact if_neg (by omega))
theorem r_isHome (hd : 4 ≤ d) (hr0 : RD 0 L n c s) (k : ∀ t, lfr s t → Q (some (vI (bI (tpO (wO L c n) (cnt L).toNat (cnt L).toNat = 0)))) (HP h0 t)) : wpM PP d 138 [vR 94] (HP h0 s) Q := by
  obtain ⟨hL, hn, hv, r1, r2, r3⟩ := hr0
  have hr0 : RD 0 L n c s := ⟨hL, hn, hv, r1, r2, r3⟩
  have hct := cnt_R L
  refine n_at (m := 138) (q := mr138) (kn := (0, 1)) [some (vR _)] mb138 rfl rfl (h_rcv sc_94) (Nat.le_of_ble_eq_true rfl) rfl rfl ?_
  refine x_aload rfl ?_
  refine x_ci ?_
  refine h_putI 0 sc_94 rfl rfl ?_
  refine x_aload rfl ?_
  refine x_ci ?_
  refine n_call [vR _, vI _] [] (by omega) (Nat.le_of_ble_eq_true rfl) rfl rfl (Nat.le_of_ble_eq_true rfl) ?_
  refine r_standsAll (f := 0) (by omega) (by omega) (hr0.up (by decide)) (fun t t1 t2 => ?_)
  show wp PP _ _ _ [some (vR _)] [] _ _
  refine x_aload rfl ?_
  refine x_ci ?_
  refine n_call [vR _, vI _] [] (by omega) (Nat.le_of_ble_eq_true rfl) rfl rfl (Nat.le_of_ble_eq_true rfl) ?_
  refine r_areHome (f := 0) (by omega) (by omega) (t2.rd (hr0.up (by decide))) t1 ?_
  show wp PP _ _ _ [some (vR _)] [vI _] _ _
  refine x_zret (by first | exact bI_01 _ | omega) ?_
  exact k _ (fun b hb r hr => (t2 b (by omega) r).trans (up_f hr))
theorem r_fault {x : Int} (hx : iR x) (k : Q (some (vI (if x = 0 then s 94 20 else if x = 1 then s 94 21 else -1))) (HP h0 (up s 94 0 0))) : wpM PP d 89 [vR 94, vI x] (HP h0 s) Q := by
  refine n_at (m := 89) (q := mr89) (kn := (0, 2)) [some (vR _), some (vI _)] mb89 rfl rfl (h_rcv sc_94) (Nat.le_of_ble_eq_true rfl) rfl rfl ?_
  refine x_aload rfl ?_
  refine x_ci ?_
  refine h_putI 0 sc_94 rfl rfl ?_
  refine x_iload rfl ?_
  refine n_if_ne ⟨by omega, by omega⟩ (fun c1 => ?_) (fun c1 => ?_)
  · refine x_iload rfl ?_
    refine x_ci ?_
    refine n_icmp_ne ⟨by omega, by omega⟩ ⟨by omega, by omega⟩ (fun c2 => ?_) (fun c2 => ?_)
    · refine x_ci ?_
      refine x_fall ?_
      refine x_iret ?_
      first
        | (refine cI k ?_
           rw [up_i (by decide)]
           exact if_pos (by omega))
        | (refine cI k ?_
           rw [up_i (by decide), if_neg (by omega), if_pos (by omega)])
        | exact cI k (by rw [if_neg (by omega), if_neg (by omega)])
    · refine x_aload rfl ?_
      refine h_getI 21 sc_94 rfl rfl ?_
      refine x_goto ?_
      refine x_iret ?_
      first
        | (refine cI k ?_
           rw [up_i (by decide)]
           exact if_pos (by omega))
        | (refine cI k ?_
           rw [up_i (by decide), if_neg (by omega), if_pos (by omega)])
        | exact cI k (by rw [if_neg (by omega), if_neg (by omega)])
  · refine x_aload rfl ?_
    refine h_getI 20 sc_94 rfl rfl ?_
    refine x_goto ?_
    refine x_iret ?_
    first
      | (refine cI k ?_
         rw [up_i (by decide)]
         exact if_pos (by omega))
      | (refine cI k ?_
         rw [up_i (by decide), if_neg (by omega), if_pos (by omega)])
      | exact cI k (by rw [if_neg (by omega), if_neg (by omega)])
end PV
