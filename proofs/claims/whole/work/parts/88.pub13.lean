/-! GO, AHEAD, TRIED -/
section PA4
variable {d tp : Nat} {h0 h : pheap} {s : St} {Q : Option pv → pheap → Prop} {L : Int} {n zqq K : Nat} {c c' : Int → Int} {Hs : Hst} {vw rf sl yr la slp : Int} {kc lb le ty tc : Int → Int} {Y : YS}
/-- what all stands at, as the years have it -/
def yOf (vw rf sl yr la : Int) (n : Nat) (c : Int → Int) : YS := ((vw, rf, n, c), sl, yr, la)
theorem DA.ps {a : Nat} (h : DA a vw rf sl yr la L n c s) : PS a L (yOf vw rf sl yr la n c) s := ⟨h.2.2.2.2.2, h.1, h.2.1, h.2.2.1, h.2.2.2.1, h.2.2.2.2.1⟩
theorem PS.da {a : Nat} (h : PS a L Y s) : DA a Y.1.1 Y.1.2.1 Y.2.1 Y.2.2.1 Y.2.2.2 L Y.1.2.2.1 Y.1.2.2.2 s := ⟨h.2.1, h.2.2.1, h.2.2.2.1, h.2.2.2.2.1, h.2.2.2.2.2, h.1⟩
theorem DR.rs {f : Int} (h : DR f vw rf sl yr la L n c s) : RS f L (yOf vw rf sl yr la n c) s := ⟨h.2.2.2.2.2, h.1, h.2.1, h.2.2.1, h.2.2.2.1, h.2.2.2.2.1⟩
theorem RS.dr {f : Int} (h : RS f L Y s) : DR f Y.1.1 Y.1.2.1 Y.2.1 Y.2.2.1 Y.2.2.2 L Y.1.2.2.1 Y.1.2.2.2 s := ⟨h.2.1, h.2.2.1, h.2.2.2.1, h.2.2.2.2.1, h.2.2.2.2.2, h.1⟩
theorem TLC.of {tqq : St} (h : TLC tp K ty tc s) (g : ∀ (b : Nat) (r : Int), (b = tp ∧ r = 4) ∨ b = tp + 2 ∨ b = tp + 3 → tqq b r = s b r) : TLC tp K ty tc tqq := ⟨(g tp 4 (Or.inl ⟨rfl, rfl⟩)).trans h.1, h.2.1, fun i i0 i1 => by
  rw [g (tp + 2) i (Or.inr (Or.inl rfl)), g (tp + 3) i (Or.inr (Or.inr rfl))]
  exact h.2.2 i i0 i1⟩
theorem LWC.of {tqq : St} (h : LWC tp kc lb le s) (g : ∀ (b : Nat) (r : Int), b = tp + 4 ∨ b = tp + 5 ∨ b = tp + 6 → tqq b r = s b r) : LWC tp kc lb le tqq := fun r r0 r1 => by
  obtain ⟨q1, q2, q3⟩ := h r r0 r1
  refine ⟨(g _ r (Or.inr (Or.inl rfl))).trans q1, (g _ r (Or.inr (Or.inr rfl))).trans q2, fun i i0 i1 => (g _ i (Or.inl rfl)).trans (q3 i i0 i1)⟩
theorem TLN.of {tqq : St} (h : TLN K ty tc s) (g : ∀ (b : Nat) (r : Int), (b = 96 ∧ r = 1) ∨ b = 98 ∨ b = 99 → tqq b r = s b r) : TLN K ty tc tqq := ⟨(g 96 1 (Or.inl ⟨rfl, rfl⟩)).trans h.1, h.2.1, fun i i0 i1 => by
  rw [g 98 i (Or.inr (Or.inl rfl)), g 99 i (Or.inr (Or.inr rfl))]
  exact h.2.2 i i0 i1⟩
theorem LWR.of {tqq : St} (h : LWR kc lb le s) (g : ∀ (b : Nat) (r : Int), 100 ≤ b ∧ b ≤ 103 → tqq b r = s b r) : LWR kc lb le tqq := fun r r0 r1 => by
  obtain ⟨q1, q2, q3⟩ := h r r0 r1
  refine ⟨(g _ r (by decide)).trans q1, (g _ r (by decide)).trans q2, fun i i0 i1 => ?_⟩
  rw [g 102 i (by decide), g 103 i (by decide)]
  exact q3 i i0 i1
theorem PSup {a b : Nat} {i x : Int} (h : PS a L Y s) (hb : b < a ∨ a + 4 < b) : PS a L Y (up s b i x) := ⟨h.1.up (by omega), (up_a (by omega)).trans h.2.1, (up_a (by omega)).trans h.2.2.1, (up_a (by omega)).trans h.2.2.2.1, (up_a (by omega)).trans h.2.2.2.2.1, (up_a (by omega)).trans h.2.2.2.2.2⟩
theorem m_go (hd : 17 ≤ d) (htp : tp = 37 ∨ tp = 45) (hT : s 32 2 = (tp : Int) + 1) (hD : DA 53 vw rf sl yr la L n c s) (ha : PAs zqq Hs s) (hoy : okY (yOf vw rf sl yr la n c)) (hyr : 0 ≤ yr ∧ yr ≤ 9900) (htl : TLC tp K ty tc s) (hsl : s tp 5 = slp) (hsr : 0 ≤ slp ∧ slp ≤ 100) (hw : LWC tp kc lb le s) (ho : okL kc lb le) {m : Int} (hm : iR m) (kY : (0 ≤ m ∧ m ≤ 99 ∧ yr + m ≤ 9900) → ∀ tqq, PS 53 L (yrN L kc lb le 0 0 0 slp K ty tc (yOf vw rf sl yr la n c) m.toNat) tqq → (m = 0 → PAs zqq Hs tqq) → (¬ m = 0 → PAs 0 Hs tqq) → nwC tp s tqq → Q (some (vI (yr + m))) (HP h0 tqq)) (kN : ¬ (0 ≤ m ∧ m ≤ 99 ∧ yr + m ≤ 9900) → Q (some (vI (-1))) (HP h0 s)) : wpM PP d 24 [vR 32, vI m] (HP h0 s) Q := by
  obtain ⟨hS, htq⟩ := isc_tp htp
  clear htp
  refine n_at (m := 24) (q := mr24) (kn := (0, 2)) [some (vR _), some (vI _)] mb24 rfl rfl (h_rcv sc_32) (Nat.le_of_ble_eq_true rfl) rfl rfl ?_
  refine x_iload rfl ?_
  refine n_if_lt ⟨by omega, by omega⟩ (fun c1 => ?_) (fun c1 => ?_)
  · refine x_ci ?_
    refine x_iret ?_
    first
      | exact kN (fun q => by omega)
      | (refine cI (kY (by omega) tqq t1qq (fun q => ha.out (fun b q1 q2 r => ?_)) (fun q => absurd q (by omega)) g_) (by rw [py]; rfl)
         rw [t2qq b r (by omega) (by omega) (by omega) (by omega), up_a (by omega), up_a (by omega), up_a (by omega)])
      | (refine cI (kY (by omega) _ (PSup (PSup t1qq (by decide)) (by decide)) (fun q => absurd q (by omega)) (fun q => ⟨by decide, (up_i (by decide)).trans up_e, by rw [up_e]; decide, by rw [up_e]; decide, fun i hi => absurd hi (by omega)⟩) (fun b r q1 q2 q3 q4 q5 => ?_)) (by rw [py]; rfl)
         rw [up_a (by omega), up_a (by omega)]
         exact g_ b r q1 q2 q3 q4 q5)
  · refine x_iload rfl ?_
    refine x_ci ?_
    refine n_icmp_gt ⟨by omega, by omega⟩ ⟨by omega, by omega⟩ (fun c2 => ?_) (fun c2 => ?_)
    · refine x_ci ?_
      refine x_iret ?_
      first
        | exact kN (fun q => by omega)
        | (refine cI (kY (by omega) tqq t1qq (fun q => ha.out (fun b q1 q2 r => ?_)) (fun q => absurd q (by omega)) g_) (by rw [py]; rfl)
           rw [t2qq b r (by omega) (by omega) (by omega) (by omega), up_a (by omega), up_a (by omega), up_a (by omega)])
        | (refine cI (kY (by omega) _ (PSup (PSup t1qq (by decide)) (by decide)) (fun q => absurd q (by omega)) (fun q => ⟨by decide, (up_i (by decide)).trans up_e, by rw [up_e]; decide, by rw [up_e]; decide, fun i hi => absurd hi (by omega)⟩) (fun b r q1 q2 q3 q4 q5 => ?_)) (by rw [py]; rfl)
           rw [up_a (by omega), up_a (by omega)]
           exact g_ b r q1 q2 q3 q4 q5)
    · refine x_aload rfl ?_
      refine h_getR sc_32 rfl (by omega) ?_
      refine h_getI 4 sc_53 rfl rfl ?_
      rw [hD.2.2.2.1]
      refine x_iload rfl ?_
      refine x_iadd ?_
      refine x_ci ?_
      refine n_icmp_le ⟨by omega, by omega⟩ ⟨by omega, by omega⟩ (fun c3 => ?_) (fun c3 => ?_)
      · refine x_aload rfl ?_
        refine h_getR sc_32 rfl (by omega) ?_
        refine x_ci ?_
        refine x_ci ?_
        refine x_ci ?_
        refine n_call [vR _, vI _, vI _, vI _] [] (by omega) (Nat.le_of_ble_eq_true rfl) rfl rfl (Nat.le_of_ble_eq_true rfl) ?_
        refine m_choose (by omega) (by omega) ?_
        show wp PP _ _ _ [some (vR _), some (vI _)] [] _ _
        refine x_aload rfl ?_
        refine h_getR sc_32 rfl (by omega) ?_
        refine x_aload rfl ?_
        refine h_getB 2 sc_32 rfl rfl (by first | exact hT | exact hT2) ?_
        refine x_aload rfl ?_
        refine h_getR sc_32 rfl (by omega) ?_
        refine x_iload rfl ?_
        refine n_call [vR _, vR _, vR _, vI _] [] (by omega) (Nat.le_of_ble_eq_true rfl) rfl rfl (Nat.le_of_ble_eq_true rfl) ?_
        obtain ⟨mm, hmm⟩ : ∃ mm : Nat, m = mm := ⟨m.toNat, by omega⟩
        subst hmm
        refine m_pass (am := 0) (tu := 0) (way := 0) (slp := slp) (K := K) (ty := ty) (tc := tc) (kc := kc) (lb := lb) (le := le) (Y0 := yOf vw rf sl yr la n c) da_53 hS (by omega) (by omega) (by omega) (by omega) (by omega) (PSup (PSup (PSup hD.ps (by decide)) (by decide)) (by decide)) ?_ ?_ ?_ ?_ ?_ ?_ ?_ ?_ ?_ ?_ ?_ hsr ?_ ho (fun tqq t1qq t2qq => ?_)
        · exact hoy
        · omega
        · show 0 ≤ yr ∧ yr ≤ 90000
          omega
        · exact TLC.of htl (fun b r q => by rw [up_a (by omega), up_a (by omega), up_a (by omega)])
        · first | rw [up_e] | rw [up_i (by decide), up_e] | rw [up_i (by decide), up_i (by decide), up_e]
        · omega
        · first | rw [up_e] | rw [up_i (by decide), up_e] | rw [up_i (by decide), up_i (by decide), up_e]
        · omega
        · first | rw [up_e] | rw [up_i (by decide), up_e] | rw [up_i (by decide), up_i (by decide), up_e]
        · omega
        · rw [up_a (by omega), up_a (by omega), up_a (by omega), hsl]
        · exact hw.of (fun b r q => by rw [up_a (by omega), up_a (by omega), up_a (by omega)])
        have hT2 : tqq 32 2 = (tp : Int) + 1 := by rw [t2qq 32 2 (by omega) (by omega) (by omega) (by omega), up_a (by omega), up_a (by omega), up_a (by omega), hT]
        have g_ : nwC tp s tqq := fun b r q1 q2 q3 q4 q5 => by
          rw [t2qq b r (by omega) (by omega) q4 q5, up_a (by omega), up_a (by omega), up_a (by omega)]
        have py := (yrN_ok (L := L) (kc := kc) (lb := lb) (le := le) (am := 0) (tu := 0) (way := 0) (slp := slp) (ty := ty) (tc := tc) (K := K) hoy mm).2
        show wp PP _ _ _ [some (vR _), some (vI _)] [] _ _
        refine x_iload rfl ?_
        refine n_if_le ⟨by omega, by omega⟩ (fun c4 => ?_) (fun c4 => ?_)
        · have t14 := t1qq.2.2.2.2.1
          refine x_aload rfl ?_
          refine h_getR sc_32 rfl (by omega) ?_
          refine h_getI 4 sc_53 rfl rfl ?_
          first
            | rw [t14]
            | rw [up_a (by decide), up_a (by decide), t14]
          refine x_iret ?_
          first
            | exact kN (fun q => by omega)
            | (refine cI (kY (by omega) tqq t1qq (fun q => ha.out (fun b q1 q2 r => ?_)) (fun q => absurd q (by omega)) g_) (by rw [py]; rfl)
               rw [t2qq b r (by omega) (by omega) (by omega) (by omega), up_a (by omega), up_a (by omega), up_a (by omega)])
            | (refine cI (kY (by omega) _ (PSup (PSup t1qq (by decide)) (by decide)) (fun q => absurd q (by omega)) (fun q => ⟨by decide, (up_i (by decide)).trans up_e, by rw [up_e]; decide, by rw [up_e]; decide, fun i hi => absurd hi (by omega)⟩) (fun b r q1 q2 q3 q4 q5 => ?_)) (by rw [py]; rfl)
               rw [up_a (by omega), up_a (by omega)]
               exact g_ b r q1 q2 q3 q4 q5)
        · refine x_aload rfl ?_
          refine h_getR sc_32 rfl (by omega) ?_
          refine n_call [vR _] [] (by omega) (Nat.le_of_ble_eq_true rfl) rfl rfl (Nat.le_of_ble_eq_true rfl) ?_
          refine m_forget ?_
          show wp PP _ _ _ [some (vR _), some (vI _)] [] _ _
          refine x_fall ?_
          have t14 := t1qq.2.2.2.2.1
          refine x_aload rfl ?_
          refine h_getR sc_32 rfl (by omega) ?_
          refine h_getI 4 sc_53 rfl rfl ?_
          first
            | rw [t14]
            | rw [up_a (by decide), up_a (by decide), t14]
          refine x_iret ?_
          first
            | exact kN (fun q => by omega)
            | (refine cI (kY (by omega) tqq t1qq (fun q => ha.out (fun b q1 q2 r => ?_)) (fun q => absurd q (by omega)) g_) (by rw [py]; rfl)
               rw [t2qq b r (by omega) (by omega) (by omega) (by omega), up_a (by omega), up_a (by omega), up_a (by omega)])
            | (refine cI (kY (by omega) _ (PSup (PSup t1qq (by decide)) (by decide)) (fun q => absurd q (by omega)) (fun q => ⟨by decide, (up_i (by decide)).trans up_e, by rw [up_e]; decide, by rw [up_e]; decide, fun i hi => absurd hi (by omega)⟩) (fun b r q1 q2 q3 q4 q5 => ?_)) (by rw [py]; rfl)
               rw [up_a (by omega), up_a (by omega)]
               exact g_ b r q1 q2 q3 q4 q5)
      · refine x_fall ?_
        refine x_ci ?_
        refine x_iret ?_
        first
          | exact kN (fun q => by omega)
          | (refine cI (kY (by omega) tqq t1qq (fun q => ha.out (fun b q1 q2 r => ?_)) (fun q => absurd q (by omega)) g_) (by rw [py]; rfl)
             rw [t2qq b r (by omega) (by omega) (by omega) (by omega), up_a (by omega), up_a (by omega), up_a (by omega)])
          | (refine cI (kY (by omega) _ (PSup (PSup t1qq (by decide)) (by decide)) (fun q => absurd q (by omega)) (fun q => ⟨by decide, (up_i (by decide)).trans up_e, by rw [up_e]; decide, by rw [up_e]; decide, fun i hi => absurd hi (by omega)⟩) (fun b r q1 q2 q3 q4 q5 => ?_)) (by rw [py]; rfl)
             rw [up_a (by omega), up_a (by omega)]
             exact g_ b r q1 q2 q3 q4 q5)
theorem r_go (hd : 15 ≤ d) (hu : PUs zqq Hs rf sl yr la s) (hD : DR 0 vw rf sl yr la L n c s) (hoy : okY (yOf vw rf sl yr la n c)) (hyr : 0 ≤ yr ∧ yr ≤ 9900) (h45 : s 94 45 = 0) (htl : TLN K ty tc s) (hsl : s 96 2 = slp) (hsr : 0 ≤ slp ∧ slp ≤ 100) (hw : LWR kc lb le s) (ho : okL kc lb le) {m : Int} (hm : iR m) (kY : (0 ≤ m ∧ m ≤ 99 ∧ yr + m ≤ 9900) → ∀ tqq, RS 0 L (yrN L kc lb le 0 0 0 slp K ty tc (yOf vw rf sl yr la n c) m.toNat) tqq → (m = 0 → PUs zqq Hs rf sl yr la tqq) → (¬ m = 0 → tqq 94 36 = 0) → nwN s tqq → Q (some (vI (yr + m))) (HP h0 tqq)) (kN : ¬ (0 ≤ m ∧ m ≤ 99 ∧ yr + m ≤ 9900) → Q (some (vI (-1))) (HP h0 (up s 94 0 0))) : wpM PP d 150 [vR 94, vI m] (HP h0 s) Q := by
  obtain ⟨w1qq, w2qq, w3qq, w4qq, w5qq, hr0⟩ := hD
  have hD0 : DR 0 vw rf sl yr la L n c s := ⟨w1qq, w2qq, w3qq, w4qq, w5qq, hr0⟩
  obtain ⟨hL, hn, hv, r1, r2, r3⟩ := hr0
  obtain ⟨p1, p2, p3⟩ := hu
  have hu0 : PUs zqq Hs rf sl yr la (up s 94 0 0) := ⟨p1, (up_i (by decide)).trans p2, fun i hi => (p3 i hi).up (by decide)⟩
  have LL : ∀ (m : Nat) (t0qq : St), m ≤ 99 → RS 0 L (yOf vw rf sl yr la n c) t0qq → TLN K ty tc t0qq → t0qq 94 45 = 0 → t0qq 96 2 = slp → LWR kc lb le t0qq → (kL : ∀ tqq, RS 0 L (yrN L kc lb le 0 0 0 slp K ty tc (yOf vw rf sl yr la n c) m) tqq → gfr 0 t0qq tqq → Q (some (vI (yrN L kc lb le 0 0 0 slp K ty tc (yOf vw rf sl yr la n c) m).2.2.1)) (HP h0 tqq)) → wp PP d mb150 (mb150.getD 4 []) [some (vR 94), some (vI m), some (vI 0)] [] (HP h0 t0qq) Q := by
    intro m t0qq hm9 p00 htl0 h450 hsl0 hw0 kL
    have L1 : ∀ N : Nat, ∀ (j : Nat) (i : Int) (tqq : St), (i = j) → (N = m - j ∧ j ≤ m) → (RS 0 L (yrN L kc lb le 0 0 0 slp K ty tc (yOf vw rf sl yr la n c) j) tqq) → (gfr 0 t0qq tqq) →  wp PP d mb150 (mb150.getD 4 []) [some (vR 94), some (vI m), some (vI i)] [] (HP h0 tqq) Q := by
      refine s_ind (fun N ih => ?_)
      intro j i tqq hj hn2 p0 z1qq
      refine x_iload rfl ?_
      refine x_iload rfl ?_
      refine n_icmp_ge ⟨by omega, by omega⟩ ⟨by omega, by omega⟩ (fun c1 => ?_) (fun c1 => ?_)
      · refine x_aload rfl ?_
        refine h_getR sc_94 rfl (by omega) ?_
        refine x_ci ?_
        refine h_iald sc_106 ⟨by omega, by omega⟩ (by decide) ?_
        rw [p0.2.2.2.2.1]
        refine x_iret ?_
        have e : j = m := by omega
        subst e
        exact kL tqq p0 z1qq
      · refine x_aload rfl ?_
        refine x_ci ?_
        refine x_ci ?_
        refine n_call [vR _, vI _, vI _] [] (by omega) (Nat.le_of_ble_eq_true rfl) rfl rfl (Nat.le_of_ble_eq_true rfl) ?_
        have ok := yrN_ok (L := L) (kc := kc) (lb := lb) (le := le) (am := 0) (tu := 0) (way := 0) (slp := slp) (ty := ty) (tc := tc) (K := K) hoy j
        have ok2 : (yrN L kc lb le 0 0 0 slp K ty tc (yOf vw rf sl yr la n c) j).2.2.1 = yr + j := ok.2
        refine r_passes (am := 0) (tu := 0) (way := 0) (slp := slp) (tw := 0) (by0 := 1) (f := 0) (by omega) (by omega) p0 ok.1 (by omega) (htl0.g z1qq) ((z1qq 94 45 (by omega) (by omega) (by omega) (by omega) (by omega) (by omega)).trans h450) (by omega) (Or.inr ⟨by omega, rfl⟩) (Or.inr ⟨by omega, rfl⟩) (Or.inr rfl) (Or.inr (Or.inl ⟨by omega, rfl, rfl⟩)) ((z1qq 96 2 (by omega) (by omega) (by omega) (by omega) (by omega) (by omega)).trans hsl0) hsr (hw0.g z1qq) ho (fun uqq u1qq u2qq => ?_)
        show wp PP _ _ _ [some (vR _), some (vI _), some (vI _)] [] _ _
        refine n_iinc [some (vR _), some (vI _), some (vI _)] rfl rfl ?_
        refine x_goto ?_
        refine ih (m - (j + 1)) (by omega) (j + 1) _ _ (by omega) (by omega) u1qq (gfr_tr z1qq u2qq)
    exact L1 m 0 0 t0qq rfl (by omega) p00 gfr_rfl
  refine n_at (m := 150) (q := mr150) (kn := (0, 2)) [some (vR _), some (vI _), none] mb150 rfl rfl (h_rcv sc_94) (Nat.le_of_ble_eq_true rfl) rfl rfl ?_
  refine x_aload rfl ?_
  refine x_ci ?_
  refine h_putI 0 sc_94 rfl rfl ?_
  refine x_iload rfl ?_
  refine n_if_lt ⟨by omega, by omega⟩ (fun c1 => ?_) (fun c1 => ?_)
  · refine x_ci ?_
    refine x_iret ?_
    exact kN (fun q => by omega)
  · refine x_iload rfl ?_
    refine x_ci ?_
    refine n_icmp_gt ⟨by omega, by omega⟩ ⟨by omega, by omega⟩ (fun c2 => ?_) (fun c2 => ?_)
    · refine x_ci ?_
      refine x_iret ?_
      exact kN (fun q => by omega)
    · refine x_aload rfl ?_
      refine h_getR sc_94 rfl (by omega) ?_
      refine x_ci ?_
      refine h_iald sc_106 ⟨by omega, by omega⟩ (by decide) ?_
      rw [up_a (b := 106) (by decide), w4qq]
      refine x_iload rfl ?_
      refine x_iadd ?_
      refine x_ci ?_
      refine n_icmp_le ⟨by omega, by omega⟩ ⟨by omega, by omega⟩ (fun c3 => ?_) (fun c3 => ?_)
      · refine x_iload rfl ?_
        refine n_if_le ⟨by omega, by omega⟩ (fun c4 => ?_) (fun c4 => ?_)
        · refine x_ci ?_
          refine n_istore [some (vR _), some (vI _), some (vI _)] (Nat.le_of_ble_eq_true rfl) rfl ?_
          refine x_fall ?_
          obtain ⟨mm, hmm⟩ : ∃ mm : Nat, m = mm := ⟨m.toNat, by omega⟩
          subst hmm
          have g0 : ∀ (b : Nat) (r : Int), ¬ (b = 94 ∧ (r = 0 ∨ r = 36)) → (up s 94 0 0) b r = s b r := fun b r q => by
            simp only [up]
            repeat rw [if_neg (by omega)]
          have py := (yrN_ok (L := L) (kc := kc) (lb := lb) (le := le) (am := 0) (tu := 0) (way := 0) (slp := slp) (ty := ty) (tc := tc) (K := K) hoy mm).2
          refine LL mm _ (by omega) (DRof hD0 (by omega) (fun b r q1 q2 => g0 b r (by omega)) (fun r q1 q2 => g0 113 r (by omega))).rs (htl.of (fun b r q => g0 b r (by omega))) ((g0 94 45 (by omega)).trans h45) ((g0 96 2 (by omega)).trans hsl) (hw.of (fun b r q => g0 b r (by omega))) (fun tqq t1qq t2qq => ?_)
          refine cI (kY (by omega) tqq t1qq (fun q => ?_) (fun q => ?_) (fun b r q1 q2 q3 q4 q5 q6 q7 => ?_)) (by rw [py]; rfl)
          · exact hu0.out (fun b r q1 q2 q3 => (t2qq b r (by omega) (by omega) (by omega) (by omega) (by omega) (by omega)).trans rfl) (fun r q1 q2 => (t2qq 113 r (by omega) (by omega) (by omega) (by omega) (by omega) (by omega)).trans rfl) ((t2qq 94 36 (by omega) (by omega) (by omega) (by omega) (by omega) (by omega)).trans rfl)
          · exact absurd q (by omega)
          · rw [t2qq b r (by omega) (by omega) (by omega) (by omega) (by omega) (by omega)]
            exact g0 b r (by omega)
        · refine x_aload rfl ?_
          refine x_ci ?_
          refine h_putI 36 sc_94 rfl rfl ?_
          refine x_fall ?_
          refine x_ci ?_
          refine n_istore [some (vR _), some (vI _), some (vI _)] (Nat.le_of_ble_eq_true rfl) rfl ?_
          refine x_fall ?_
          obtain ⟨mm, hmm⟩ : ∃ mm : Nat, m = mm := ⟨m.toNat, by omega⟩
          subst hmm
          have g0 : ∀ (b : Nat) (r : Int), ¬ (b = 94 ∧ (r = 0 ∨ r = 36)) → (up (up s 94 0 0) 94 36 0) b r = s b r := fun b r q => by
            simp only [up]
            repeat rw [if_neg (by omega)]
          have py := (yrN_ok (L := L) (kc := kc) (lb := lb) (le := le) (am := 0) (tu := 0) (way := 0) (slp := slp) (ty := ty) (tc := tc) (K := K) hoy mm).2
          refine LL mm _ (by omega) (DRof hD0 (by omega) (fun b r q1 q2 => g0 b r (by omega)) (fun r q1 q2 => g0 113 r (by omega))).rs (htl.of (fun b r q => g0 b r (by omega))) ((g0 94 45 (by omega)).trans h45) ((g0 96 2 (by omega)).trans hsl) (hw.of (fun b r q => g0 b r (by omega))) (fun tqq t1qq t2qq => ?_)
          refine cI (kY (by omega) tqq t1qq (fun q => ?_) (fun q => ?_) (fun b r q1 q2 q3 q4 q5 q6 q7 => ?_)) (by rw [py]; rfl)
          · exact absurd q (by omega)
          · rw [t2qq 94 36 (by omega) (by omega) (by omega) (by omega) (by omega) (by omega), up_e]
          · rw [t2qq b r (by omega) (by omega) (by omega) (by omega) (by omega) (by omega)]
            exact g0 b r (by omega)
      · refine x_fall ?_
        refine x_ci ?_
        refine x_iret ?_
        exact kN (fun q => by omega)
end PA4
