/-! WHAT WAS READ, both sides -/
section RE
variable {d a : Nat} {h0 h : pheap} {s : St} {Q : Option pv → pheap → Prop} {L f : Int} {n : Nat} {c c' : Int → Int}
/-- z readings: kind (0 of a place, 1 of a bond, 2 a strike), who, place or the other one, behind how many or how much, whether; kf: how many are known, -1 all -/
def RC (z : Nat) (kf : Int) (kd on ot mu ia : Int → Int) (s : St) : Prop := s 75 6 = z ∧ s 75 7 = kf ∧ ∀ i : Int, 0 ≤ i → i < z → s 76 i = kd i ∧ s 77 i = on i ∧ (kd i ≠ 2 → s 78 i = ot i ∧ s 79 i = mu i ∧ s 80 i = ia i)
def RN (z : Nat) (kf : Int) (kd on ot mu ia : Int → Int) (s : St) : Prop := s 94 50 = z ∧ s 94 51 = kf ∧ ∀ i : Int, 0 ≤ i → i < z → s 124 i = kd i ∧ s 125 i = on i ∧ (kd i ≠ 2 → s 126 i = ot i ∧ s 127 i = mu i ∧ s 128 i = ia i)
def okR (z : Nat) (kf : Int) (kd on ot mu ia : Int → Int) : Prop := z ≤ 24 ∧ -1 ≤ kf ∧ kf ≤ z ∧ ∀ i : Int, 0 ≤ i → i < z → (0 ≤ kd i ∧ kd i ≤ 2) ∧ (kd i ≠ 2 → 0 ≤ on i ∧ on i < 6 ∧ 0 ≤ ot i ∧ ot i < 6 ∧ -48 ≤ mu i ∧ mu i ≤ 48 ∧ (ia i = 0 ∨ ia i = 1)) ∧ (kd i = 0 → 0 ≤ mu i) ∧ (kd i = 1 → on i ≠ ot i) ∧ (kd i = 2 → 0 ≤ on i ∧ on i < i)
def kz (z : Nat) (kf : Int) : Int := if kf = -1 then z else kf
theorem kz_R {z : Nat} {kf : Int} {kd on ot mu ia : Int → Int} (h : okR z kf kd on ot mu ia) : 0 ≤ kz z kf ∧ kz z kf ≤ z ∧ (z : Int) ≤ 24 := by
  obtain ⟨h1, h2, h3, -⟩ := h
  unfold kz
  split <;> omega
/-- what is struck out, from the last one on -/
def stF (kd on : Int → Int) (K : Int) : Nat → Int → Int
  | 0 => fun _ => 0
  | m + 1 => if kd (K - 1 - m) = 2 ∧ stF kd on K m (K - 1 - m) = 0 then fun j => if j = on (K - 1 - m) then 1 else stF kd on K m j else stF kd on K m
theorem stF_R {kd on : Int → Int} {K : Int} : ∀ (m : Nat) (j : Int), stF kd on K m j = 0 ∨ stF kd on K m j = 1
  | 0, _ => Or.inl rfl
  | m + 1, j => by
    simp only [stF]
    split
    · dsimp only
      split
      · exact Or.inr rfl
      · exact stF_R m j
    · exact stF_R m j
abbrev soP (L : Int) (n : Nat) (c kd on ot mu ia : Int → Int) (i : Int) : Prop := kd i = 2 ∨ (bt L (on i) = 1 ∧ (kd i = 0 → (plN c (min (mu i) n).toNat (cntN L (on i).toNat) = ot i ↔ ia i = 1)) ∧ (kd i = 1 → bt L (ot i) = 1 ∧ (mu i ≤ wB L c n (6 * on i + ot i) ↔ ia i = 1)))
theorem m_hasRow {x : Int} (hx : iR x) (k : Q (some (vI (bI (0 ≤ x ∧ x < 24)))) (HP h0 s)) : wpM PP d 236 [vR 75, vI x] (HP h0 s) Q := by
  refine n_at (m := 236) (q := mr236) (kn := (0, 2)) [some (vR _), some (vI _)] mb236 rfl rfl (h_rcv sc_75) (Nat.le_of_ble_eq_true rfl) rfl rfl ?_
  refine x_iload rfl ?_
  refine n_if_lt ⟨by omega, by omega⟩ (fun c1 => ?_) (fun c1 => ?_)
  · refine x_ci ?_
    refine x_fall ?_
    refine x_zret (by first | exact bI_01 _ | omega) ?_
    exact cB0 k (by omega)
  · refine x_iload rfl ?_
    refine x_aload rfl ?_
    refine h_getR sc_75 rfl (by omega) ?_
    refine h_alen 24 sc_76 (by decide) rfl ?_
    refine n_icmp_ge ⟨by omega, by omega⟩ ⟨by omega, by omega⟩ (fun c2 => ?_) (fun c2 => ?_)
    · refine x_ci ?_
      refine x_fall ?_
      refine x_zret (by first | exact bI_01 _ | omega) ?_
      exact cB0 k (by omega)
    · refine x_iload rfl ?_
      refine x_aload rfl ?_
      refine h_getR sc_75 rfl (by omega) ?_
      refine h_alen 24 sc_77 (by decide) rfl ?_
      refine n_icmp_ge ⟨by omega, by omega⟩ ⟨by omega, by omega⟩ (fun c3 => ?_) (fun c3 => ?_)
      · refine x_ci ?_
        refine x_fall ?_
        refine x_zret (by first | exact bI_01 _ | omega) ?_
        exact cB0 k (by omega)
      · refine x_iload rfl ?_
        refine x_aload rfl ?_
        refine h_getR sc_75 rfl (by omega) ?_
        refine h_alen 24 sc_78 (by decide) rfl ?_
        refine n_icmp_ge ⟨by omega, by omega⟩ ⟨by omega, by omega⟩ (fun c4 => ?_) (fun c4 => ?_)
        · refine x_ci ?_
          refine x_fall ?_
          refine x_zret (by first | exact bI_01 _ | omega) ?_
          exact cB0 k (by omega)
        · refine x_iload rfl ?_
          refine x_aload rfl ?_
          refine h_getR sc_75 rfl (by omega) ?_
          refine h_alen 24 sc_79 (by decide) rfl ?_
          refine n_icmp_ge ⟨by omega, by omega⟩ ⟨by omega, by omega⟩ (fun c5 => ?_) (fun c5 => ?_)
          · refine x_ci ?_
            refine x_fall ?_
            refine x_zret (by first | exact bI_01 _ | omega) ?_
            exact cB0 k (by omega)
          · refine x_iload rfl ?_
            refine x_aload rfl ?_
            refine h_getR sc_75 rfl (by omega) ?_
            refine h_alen 24 sc_80 (by decide) rfl ?_
            refine n_icmp_ge ⟨by omega, by omega⟩ ⟨by omega, by omega⟩ (fun c6 => ?_) (fun c6 => ?_)
            · refine x_ci ?_
              refine x_fall ?_
              refine x_zret (by first | exact bI_01 _ | omega) ?_
              exact cB0 k (by omega)
            · refine x_iload rfl ?_
              refine x_aload rfl ?_
              refine h_getR sc_75 rfl (by omega) ?_
              refine h_alen 24 sc_81 (by decide) rfl ?_
              refine n_icmp_ge ⟨by omega, by omega⟩ ⟨by omega, by omega⟩ (fun c7 => ?_) (fun c7 => ?_)
              · refine x_ci ?_
                refine x_fall ?_
                refine x_zret (by first | exact bI_01 _ | omega) ?_
                exact cB0 k (by omega)
              · refine x_ci ?_
                refine x_goto ?_
                refine x_zret (by first | exact bI_01 _ | omega) ?_
                exact cB1 k (by omega)
theorem m_rforget (k : Q none (HP h0 (up (up s 75 6 0) 75 7 (-1)))) : wpM PP d 231 [vR 75] (HP h0 s) Q := by
  refine n_at (m := 231) (q := mr231) (kn := (0, 1)) [some (vR _)] mb231 rfl rfl (h_rcv sc_75) (Nat.le_of_ble_eq_true rfl) rfl rfl ?_
  refine x_aload rfl ?_
  refine x_ci ?_
  refine h_putI 6 sc_75 rfl rfl ?_
  refine x_aload rfl ?_
  refine x_ci ?_
  refine h_putI 7 sc_75 rfl rfl ?_
  refine x_ret ?_
  exact k
theorem m_knownSize {z : Nat} {kf : Int} (h1 : s 75 6 = z) (h2 : s 75 7 = kf) (h3 : -1 ≤ kf ∧ kf ≤ 24) (k : Q (some (vI (kz z kf))) (HP h0 s)) : wpM PP d 238 [vR 75] (HP h0 s) Q := by
  refine n_at (m := 238) (q := mr238) (kn := (0, 1)) [some (vR _)] mb238 rfl rfl (h_rcv sc_75) (Nat.le_of_ble_eq_true rfl) rfl rfl ?_
  refine x_aload rfl ?_
  refine h_getI 7 sc_75 rfl rfl ?_
  refine x_ci ?_
  refine n_icmp_ne ⟨by omega, by omega⟩ ⟨by omega, by omega⟩ (fun c1 => ?_) (fun c1 => ?_)
  · refine x_aload rfl ?_
    refine h_getI 7 sc_75 rfl rfl ?_
    refine x_fall ?_
    refine x_iret ?_
    refine cI k ?_
    unfold kz
    first
      | (rw [if_pos (by omega)]; omega)
      | (rw [if_neg (by omega)]; omega)
  · refine x_aload rfl ?_
    refine h_getI 6 sc_75 rfl rfl ?_
    refine x_goto ?_
    refine x_iret ?_
    refine cI k ?_
    unfold kz
    first
      | (rw [if_pos (by omega)]; omega)
      | (rw [if_neg (by omega)]; omega)
theorem m_rput {x1 x2 x3 x4 x5 : Int} {z : Nat} (hd : 1 ≤ d) (h6 : s 75 6 = z) (hz : z < 24) (h5 : x5 = 0 ∨ x5 = 1) (k : Q (some (vI z)) (HP h0 (up (up (up (up (up (up s 76 z x1) 77 z x2) 78 z x3) 79 z x4) 80 z x5) 75 6 (z + 1)))) : wpM PP d 235 [vR 75, vI x1, vI x2, vI x3, vI x4, vI x5] (HP h0 s) Q := by
  refine n_at (m := 235) (q := mr235) (kn := (0, 6)) [some (vR _), some (vI _), some (vI _), some (vI _), some (vI _), some (vI _)] mb235 rfl rfl (h_rcv sc_75) (Nat.le_of_ble_eq_true rfl) rfl rfl ?_
  refine x_aload rfl ?_
  refine x_aload rfl ?_
  refine h_getI 6 sc_75 rfl rfl ?_
  rw [h6]
  refine n_call [vR _, vI _] [] (by omega) (Nat.le_of_ble_eq_true rfl) rfl rfl (Nat.le_of_ble_eq_true rfl) ?_
  refine m_hasRow ⟨by omega, by omega⟩ ?_
  show wp PP _ _ _ [some (vR _), some (vI _), some (vI _), some (vI _), some (vI _), some (vI _)] [vI _] _ _
  refine z_if_ne (fun c1 => ?_) (fun c1 => ?_)
  · refine x_aload rfl ?_
    refine h_getR sc_75 rfl (by omega) ?_
    refine x_aload rfl ?_
    refine h_getI 6 sc_75 rfl rfl ?_
    rw [h6]
    refine x_iload rfl ?_
    refine h_iast sc_76 ⟨by omega, by omega⟩ (by decide) ?_
    refine x_aload rfl ?_
    refine h_getR sc_75 rfl (by omega) ?_
    refine x_aload rfl ?_
    refine h_getI 6 sc_75 rfl rfl ?_
    rw [up_a (b := 75) (by decide), h6]
    refine x_iload rfl ?_
    refine h_iast sc_77 ⟨by omega, by omega⟩ (by decide) ?_
    refine x_aload rfl ?_
    refine h_getR sc_75 rfl (by omega) ?_
    refine x_aload rfl ?_
    refine h_getI 6 sc_75 rfl rfl ?_
    rw [up_a (b := 75) (by decide), up_a (b := 75) (by decide), h6]
    refine x_iload rfl ?_
    refine h_iast sc_78 ⟨by omega, by omega⟩ (by decide) ?_
    refine x_aload rfl ?_
    refine h_getR sc_75 rfl (by omega) ?_
    refine x_aload rfl ?_
    refine h_getI 6 sc_75 rfl rfl ?_
    rw [up_a (b := 75) (by decide), up_a (b := 75) (by decide), up_a (b := 75) (by decide), h6]
    refine x_iload rfl ?_
    refine h_iast sc_79 ⟨by omega, by omega⟩ (by decide) ?_
    refine x_aload rfl ?_
    refine h_getR sc_75 rfl (by omega) ?_
    refine x_aload rfl ?_
    refine h_getI 6 sc_75 rfl rfl ?_
    rw [up_a (b := 75) (by decide), up_a (b := 75) (by decide), up_a (b := 75) (by decide), up_a (b := 75) (by decide), h6]
    refine x_iload rfl ?_
    refine h_bast2 sc_80 ⟨by omega, by omega⟩ (by decide) ?_
    refine x_aload rfl ?_
    refine x_dupR ?_
    refine h_getI 6 sc_75 rfl rfl ?_
    rw [up_a (b := 75) (by decide), up_a (b := 75) (by decide), up_a (b := 75) (by decide), up_a (b := 75) (by decide), up_a (b := 75) (by decide), h6]
    refine x_ci ?_
    refine x_iadd ?_
    refine h_putI 6 sc_75 rfl rfl ?_
    refine x_aload rfl ?_
    refine h_getI 6 sc_75 rfl rfl ?_
    rw [up_e]
    refine x_ci ?_
    refine x_isub ?_
    refine x_iret ?_
    first
      | (exfalso; omega)
      | (rw [show a_nar 2 x5 = x5 from by rcases h5 with rfl | rfl <;> rfl]
         exact cI k (by omega))
  · refine x_ci ?_
    refine x_iret ?_
    first
      | (exfalso; omega)
      | (rw [show a_nar 2 x5 = x5 from by rcases h5 with rfl | rfl <;> rfl]
         exact cI k (by omega))
theorem m_rputNo {x1 x2 x3 x4 x5 : Int} (hd : 1 ≤ d) (h6 : s 75 6 = 24) (k : Q (some (vI (-1))) (HP h0 s)) : wpM PP d 235 [vR 75, vI x1, vI x2, vI x3, vI x4, vI x5] (HP h0 s) Q := by
  refine n_at (m := 235) (q := mr235) (kn := (0, 6)) [some (vR _), some (vI _), some (vI _), some (vI _), some (vI _), some (vI _)] mb235 rfl rfl (h_rcv sc_75) (Nat.le_of_ble_eq_true rfl) rfl rfl ?_
  refine x_aload rfl ?_
  refine x_aload rfl ?_
  refine h_getI 6 sc_75 rfl rfl ?_
  rw [h6]
  refine n_call [vR _, vI _] [] (by omega) (Nat.le_of_ble_eq_true rfl) rfl rfl (Nat.le_of_ble_eq_true rfl) ?_
  refine m_hasRow ⟨by omega, by omega⟩ ?_
  show wp PP _ _ _ [some (vR _), some (vI _), some (vI _), some (vI _), some (vI _), some (vI _)] [vI _] _ _
  refine z_if_ne (fun c1 => ?_) (fun c1 => ?_)
  · exfalso
    omega
  · refine x_ci ?_
    refine x_iret ?_
    exact cI k (by omega)
theorem m_findStruck {z : Nat} {kf : Int} {kd on ot mu ia : Int → Int} (hd : 1 ≤ d) (hr : RC z kf kd on ot mu ia s) (ho : okR z kf kd on ot mu ia) (k : ∀ t, (∀ b : Nat, b ≠ 81 → ∀ r, t b r = s b r) → (∀ r : Int, 0 ≤ r → r < 24 → t 81 r = stF kd on (kz z kf) (kz z kf).toNat r) → Q none (HP h0 t)) : wpM PP d 239 [vR 75] (HP h0 s) Q := by
  have hk := kz_R ho
  have hkf := ho.2.1
  have hkf2 := ho.2.2.1
  have L2 : ∀ N : Nat, ∀ (m : Nat) (i : Int) (t : St), (i = kz z kf - 1 - m) → (N = (kz z kf).toNat - m ∧ (m : Int) ≤ kz z kf) → (∀ b : Nat, b ≠ 81 → ∀ r, t b r = s b r) → (∀ r : Int, 0 ≤ r → r < 24 → t 81 r = stF kd on (kz z kf) m r) →  wp PP d mb239 (mb239.getD 3 []) [some (vR 75), some (vI i)] [] (HP h0 t) Q := by
    refine s_ind (fun N ih => ?_)
    intro m i t hi hn g1 g2
    have q1 : 0 ≤ i → t 76 i = kd i := fun y => (g1 76 (by decide) i).trans (hr.2.2 i y (by omega)).1
    have q2 : 0 ≤ i → t 77 i = on i := fun y => (g1 77 (by decide) i).trans (hr.2.2 i y (by omega)).2.1
    have q3 := g2 i
    have q4 := stF_R (kd := kd) (on := on) (K := kz z kf) m i
    have q5 : 0 ≤ i → _ := fun y => (ho.2.2.2 i y (by omega)).1
    have q6 : 0 ≤ i → kd i = 2 → _ := fun y y2 => (ho.2.2.2 i y (by omega)).2.2.2.2 y2
    have ei : kz z kf - 1 - (m : Int) = i := by omega
    refine x_iload rfl ?_
    refine n_if_lt ⟨by omega, by omega⟩ (fun c1 => ?_) (fun c1 => ?_)
    · refine x_ret ?_
      have e : m = (kz z kf).toNat := by omega
      rw [e] at g2
      exact k t g1 g2
    · refine x_aload rfl ?_
      refine x_iload rfl ?_
      refine n_call [vR _, vI _] [] (by omega) (Nat.le_of_ble_eq_true rfl) rfl rfl (Nat.le_of_ble_eq_true rfl) ?_
      refine m_hasRow ⟨by omega, by omega⟩ ?_
      show wp PP _ _ _ [some (vR _), some (vI _)] [vI _] _ _
      refine z_if_eq (fun c2 => ?_) (fun c2 => ?_)
      · refine n_iinc [some (vR _), some (vI _)] rfl rfl ?_
        refine x_goto ?_
        exact absurd ⟨by omega, by omega⟩ c2
      · refine x_aload rfl ?_
        refine h_getR sc_75 rfl (by omega) ?_
        refine x_iload rfl ?_
        refine h_iald sc_76 ⟨by omega, by omega⟩ (by decide) ?_
        have q5 := q5 (by omega)
        rw [q1 (by omega)]
        refine x_ci ?_
        refine n_icmp_ne ⟨by omega, by omega⟩ ⟨by omega, by omega⟩ (fun c3 => ?_) (fun c3 => ?_)
        · refine n_iinc [some (vR _), some (vI _)] rfl rfl ?_
          refine x_goto ?_
          refine ih ((kz z kf).toNat - (m + 1)) (by omega) (m + 1) _ _ (by omega) (by omega) ?_ (fun r r0 r1 => ?_)
          · exact g1
          · simp only [stF]
            rw [ei, if_neg (fun y => c3 y.1)]
            exact g2 r r0 r1
        · refine x_aload rfl ?_
          refine h_getR sc_75 rfl (by omega) ?_
          refine x_iload rfl ?_
          refine h_bald2 sc_81 ⟨by omega, by omega⟩ (by decide) ?_
          rw [q3 (by omega) (by omega)]
          refine n_if_ne ⟨by omega, by omega⟩ (fun c4 => ?_) (fun c4 => ?_)
          · refine n_iinc [some (vR _), some (vI _)] rfl rfl ?_
            refine x_goto ?_
            refine ih ((kz z kf).toNat - (m + 1)) (by omega) (m + 1) _ _ (by omega) (by omega) ?_ (fun r r0 r1 => ?_)
            · exact g1
            · simp only [stF]
              rw [ei, if_neg (fun y => c4 y.2)]
              exact g2 r r0 r1
          · refine x_aload rfl ?_
            refine x_aload rfl ?_
            refine h_getR sc_75 rfl (by omega) ?_
            refine x_iload rfl ?_
            refine h_iald sc_77 ⟨by omega, by omega⟩ (by decide) ?_
            have q6 := q6 (by omega) (by omega)
            rw [q2 (by omega)]
            refine n_call [vR _, vI _] [] (by omega) (Nat.le_of_ble_eq_true rfl) rfl rfl (Nat.le_of_ble_eq_true rfl) ?_
            refine m_hasRow ⟨by omega, by omega⟩ ?_
            show wp PP _ _ _ [some (vR _), some (vI _)] [vI _] _ _
            refine z_if_eq (fun c5 => ?_) (fun c5 => ?_)
            · refine n_iinc [some (vR _), some (vI _)] rfl rfl ?_
              refine x_goto ?_
              exact absurd ⟨by omega, by omega⟩ c5
            · refine x_aload rfl ?_
              refine h_getR sc_75 rfl (by omega) ?_
              refine x_aload rfl ?_
              refine h_getR sc_75 rfl (by omega) ?_
              refine x_iload rfl ?_
              refine h_iald sc_77 ⟨by omega, by omega⟩ (by decide) ?_
              rw [q2 (by omega)]
              refine x_ci ?_
              refine h_bast2 sc_81 ⟨by omega, by omega⟩ (by decide) ?_
              refine x_fall ?_
              refine n_iinc [some (vR _), some (vI _)] rfl rfl ?_
              refine x_goto ?_
              refine ih ((kz z kf).toNat - (m + 1)) (by omega) (m + 1) _ _ (by omega) (by omega) ?_ (fun r r0 r1 => ?_)
              · intro b hb r
                rw [up_a hb]
                exact g1 b hb r
              · simp only [stF]
                rw [ei, if_pos ⟨c3, c4⟩, up_at, show a_nar 2 1 = 1 from rfl]
                split
                · rfl
                · exact g2 r r0 r1
  have L1 : ∀ N : Nat, ∀ (i : Int) (t : St), (N = 24 - i.toNat) → (0 ≤ i ∧ i ≤ 24) → (∀ b : Nat, b ≠ 81 → ∀ r, t b r = s b r) → (∀ r : Int, 0 ≤ r → r < i → t 81 r = 0) →  wp PP d mb239 (mb239.getD 1 []) [some (vR 75), some (vI i)] [] (HP h0 t) Q := by
    refine s_ind (fun N ih => ?_)
    intro i t hn hi g1 g2
    refine x_iload rfl ?_
    refine x_aload rfl ?_
    refine h_getR sc_75 rfl (by omega) ?_
    refine h_alen 24 sc_81 (by decide) rfl ?_
    refine n_icmp_ge ⟨by omega, by omega⟩ ⟨by omega, by omega⟩ (fun c1 => ?_) (fun c1 => ?_)
    · refine x_aload rfl ?_
      refine n_call [vR _] [] (by omega) (Nat.le_of_ble_eq_true rfl) rfl rfl (Nat.le_of_ble_eq_true rfl) ?_
      refine m_knownSize (z := z) (kf := kf) ?_ ?_ ?_ ?_
      · exact (g1 75 (by decide) 6).trans hr.1
      · exact (g1 75 (by decide) 7).trans hr.2.1
      · omega
      show wp PP _ _ _ [some (vR _), some (vI _)] [vI _] _ _
      refine x_ci ?_
      refine x_isub ?_
      refine n_istore [some (vR _), some (vI _)] (Nat.le_of_ble_eq_true rfl) rfl ?_
      refine x_fall ?_
      refine L2 (kz z kf).toNat 0 _ _ (by omega) (by omega) g1 (fun r r0 r1 => g2 r r0 (by omega))
    · refine x_aload rfl ?_
      refine h_getR sc_75 rfl (by omega) ?_
      refine x_iload rfl ?_
      refine x_ci ?_
      refine h_bast2 sc_81 ⟨by omega, by omega⟩ (by decide) ?_
      refine n_iinc [some (vR _), some (vI _)] rfl rfl ?_
      refine x_goto ?_
      refine ih (24 - (i + 1).toNat) (by omega) (i + 1) _ rfl (by omega) (fun b hb r => ?_) (fun r r0 r1 => ?_)
      · rw [up_a hb]
        exact g1 b hb r
      · rw [up_at]
        split
        · rfl
        · exact g2 r r0 (by omega)
  refine n_at (m := 239) (q := mr239) (kn := (0, 1)) [some (vR _), none] mb239 rfl rfl (h_rcv sc_75) (Nat.le_of_ble_eq_true rfl) rfl rfl ?_
  refine x_ci ?_
  refine n_istore [some (vR _), some (vI _)] (Nat.le_of_ble_eq_true rfl) rfl ?_
  refine x_fall ?_
  refine L1 24 0 s rfl (by omega) (fun _ _ _ => rfl) (fun r r0 r1 => by omega)
theorem m_isSo {z : Nat} {kf : Int} {kd on ot mu ia : Int → Int} (hd : 4 ≤ d) (hP : isPl a) (hp : PL a L n c s) (hr : RC z kf kd on ot mu ia s) (ho : okR z kf kd on ot mu ia) {i : Int} (hi : 0 ≤ i ∧ i < z) (k : Q (some (vI (bI (soP L n c kd on ot mu ia i)))) (HP h0 s)) : wpM PP d 241 [vR 75, vI i, vR a] (HP h0 s) Q := by
  have ha := hP.1.1
  have hz := ho.1
  refine n_at (m := 241) (q := mr241) (kn := (0, 3)) [some (vR _), some (vI _), some (vR _)] mb241 rfl rfl (h_rcv sc_75) (Nat.le_of_ble_eq_true rfl) rfl rfl ?_
  refine x_aload rfl ?_
  refine x_iload rfl ?_
  refine n_call [vR _, vI _] [] (by omega) (Nat.le_of_ble_eq_true rfl) rfl rfl (Nat.le_of_ble_eq_true rfl) ?_
  refine m_hasRow ⟨by omega, by omega⟩ ?_
  show wp PP _ _ _ [some (vR _), some (vI _), some (vR _)] [vI _] _ _
  refine z_if_eq (fun c1 => ?_) (fun c1 => ?_)
  · refine x_ci ?_
    refine x_zret (by first | exact bI_01 _ | omega) ?_
    first
      | (exfalso; omega)
      | (refine cB1 k ?_
         simp only [soP]
         first
           | omega
           | (refine Or.inr ⟨by omega, fun y => ?_, fun y => ?_⟩ <;> first | omega | (exfalso; omega)))
      | (refine cB0 k ?_
         rintro (y | ⟨y1, y2, y3⟩)
         · omega
         · first
             | omega
             | (have y2 := y2 (by omega); omega)
             | (have y3 := y3 (by omega); omega))
  · refine x_aload rfl ?_
    refine h_getR sc_75 rfl (by omega) ?_
    refine x_iload rfl ?_
    refine h_iald sc_76 ⟨by omega, by omega⟩ (by decide) ?_
    have q1 := (hr.2.2 i hi.1 hi.2).1
    have o1 := (ho.2.2.2 i hi.1 hi.2).1
    rw [q1]
    refine x_ci ?_
    refine n_icmp_ne ⟨by omega, by omega⟩ ⟨by omega, by omega⟩ (fun c2 => ?_) (fun c2 => ?_)
    · have q3 := (hr.2.2 i hi.1 hi.2).2.2 (by omega)
      have q2 := (hr.2.2 i hi.1 hi.2).2.1
      have o2 := (ho.2.2.2 i hi.1 hi.2).2.1 (by omega)
      have hn := hp.hn
      refine x_aload rfl ?_
      refine x_aload rfl ?_
      refine h_getR sc_75 rfl (by omega) ?_
      refine x_iload rfl ?_
      refine h_iald sc_77 ⟨by omega, by omega⟩ (by decide) ?_
      rw [q2]
      refine n_call [vR _, vI _] [] (by omega) (Nat.le_of_ble_eq_true rfl) rfl rfl (Nat.le_of_ble_eq_true rfl) ?_
      refine m_isLeft hP (by rw [hp.left]; exact hp.hL) ⟨by omega, by omega⟩ ?_
      rw [hp.left]
      show wp PP _ _ _ [some (vR _), some (vI _), some (vR _)] [vI _] _ _
      refine z_if_ne (fun c3 => ?_) (fun c3 => ?_)
      · refine x_aload rfl ?_
        refine h_getR sc_75 rfl (by omega) ?_
        refine x_iload rfl ?_
        refine h_iald sc_76 ⟨by omega, by omega⟩ (by decide) ?_
        rw [q1]
        refine n_if_ne ⟨by omega, by omega⟩ (fun c4 => ?_) (fun c4 => ?_)
        · refine x_aload rfl ?_
          refine x_aload rfl ?_
          refine h_getR sc_75 rfl (by omega) ?_
          refine x_iload rfl ?_
          refine h_iald sc_78 ⟨by omega, by omega⟩ (by decide) ?_
          rw [q3.1]
          refine n_call [vR _, vI _] [] (by omega) (Nat.le_of_ble_eq_true rfl) rfl rfl (Nat.le_of_ble_eq_true rfl) ?_
          refine m_isLeft hP (by rw [hp.left]; exact hp.hL) ⟨by omega, by omega⟩ ?_
          rw [hp.left]
          show wp PP _ _ _ [some (vR _), some (vI _), some (vR _)] [vI _] _ _
          refine z_if_eq (fun c5 => ?_) (fun c5 => ?_)
          · refine x_ci ?_
            refine x_fall ?_
            refine x_zret (by first | exact bI_01 _ | omega) ?_
            first
              | (exfalso; omega)
              | (refine cB1 k ?_
                 simp only [soP]
                 first
                   | omega
                   | (refine Or.inr ⟨by omega, fun y => ?_, fun y => ?_⟩ <;> first | omega | (exfalso; omega)))
              | (refine cB0 k ?_
                 rintro (y | ⟨y1, y2, y3⟩)
                 · omega
                 · first
                     | omega
                     | (have y2 := y2 (by omega); omega)
                     | (have y3 := y3 (by omega); omega))
          · refine x_aload rfl ?_
            refine x_aload rfl ?_
            refine h_getR sc_75 rfl (by omega) ?_
            refine x_iload rfl ?_
            refine h_iald sc_77 ⟨by omega, by omega⟩ (by decide) ?_
            rw [q2]
            refine x_aload rfl ?_
            refine h_getR sc_75 rfl (by omega) ?_
            refine x_iload rfl ?_
            refine h_iald sc_78 ⟨by omega, by omega⟩ (by decide) ?_
            rw [q3.1]
            refine n_call [vR _, vI _, vI _] [] (by omega) (Nat.le_of_ble_eq_true rfl) rfl rfl (Nat.le_of_ble_eq_true rfl) ?_
            refine m_bondP hP (by omega) hp ⟨by omega, by omega⟩ ⟨by omega, by omega⟩ ?_
            have wr := wB_R (L := L) (c := c) n (6 * on i + ot i)
            show wp PP _ _ _ [some (vR _), some (vI _), some (vR _)] [vI _] _ _
            refine x_aload rfl ?_
            refine h_getR sc_75 rfl (by omega) ?_
            refine x_iload rfl ?_
            refine h_iald sc_79 ⟨by omega, by omega⟩ (by decide) ?_
            rw [q3.2.1]
            refine n_icmp_lt ⟨by omega, by omega⟩ ⟨by omega, by omega⟩ (fun c6 => ?_) (fun c6 => ?_)
            · refine x_ci ?_
              refine x_fall ?_
              refine x_aload rfl ?_
              refine h_getR sc_75 rfl (by omega) ?_
              refine x_iload rfl ?_
              refine h_bald2 sc_80 ⟨by omega, by omega⟩ (by decide) ?_
              rw [q3.2.2]
              refine n_icmp_ne ⟨by omega, by omega⟩ ⟨by omega, by omega⟩ (fun c7 => ?_) (fun c7 => ?_)
              · refine x_ci ?_
                refine x_fall ?_
                refine x_zret (by first | exact bI_01 _ | omega) ?_
                first
                  | (exfalso; omega)
                  | (refine cB1 k ?_
                     simp only [soP]
                     first
                       | omega
                       | (refine Or.inr ⟨by omega, fun y => ?_, fun y => ?_⟩ <;> first | omega | (exfalso; omega)))
                  | (refine cB0 k ?_
                     rintro (y | ⟨y1, y2, y3⟩)
                     · omega
                     · first
                         | omega
                         | (have y2 := y2 (by omega); omega)
                         | (have y3 := y3 (by omega); omega))
              · refine x_ci ?_
                refine x_goto ?_
                refine x_zret (by first | exact bI_01 _ | omega) ?_
                first
                  | (exfalso; omega)
                  | (refine cB1 k ?_
                     simp only [soP]
                     first
                       | omega
                       | (refine Or.inr ⟨by omega, fun y => ?_, fun y => ?_⟩ <;> first | omega | (exfalso; omega)))
                  | (refine cB0 k ?_
                     rintro (y | ⟨y1, y2, y3⟩)
                     · omega
                     · first
                         | omega
                         | (have y2 := y2 (by omega); omega)
                         | (have y3 := y3 (by omega); omega))
            · refine x_ci ?_
              refine x_goto ?_
              refine x_aload rfl ?_
              refine h_getR sc_75 rfl (by omega) ?_
              refine x_iload rfl ?_
              refine h_bald2 sc_80 ⟨by omega, by omega⟩ (by decide) ?_
              rw [q3.2.2]
              refine n_icmp_ne ⟨by omega, by omega⟩ ⟨by omega, by omega⟩ (fun c7 => ?_) (fun c7 => ?_)
              · refine x_ci ?_
                refine x_fall ?_
                refine x_zret (by first | exact bI_01 _ | omega) ?_
                first
                  | (exfalso; omega)
                  | (refine cB1 k ?_
                     simp only [soP]
                     first
                       | omega
                       | (refine Or.inr ⟨by omega, fun y => ?_, fun y => ?_⟩ <;> first | omega | (exfalso; omega)))
                  | (refine cB0 k ?_
                     rintro (y | ⟨y1, y2, y3⟩)
                     · omega
                     · first
                         | omega
                         | (have y2 := y2 (by omega); omega)
                         | (have y3 := y3 (by omega); omega))
              · refine x_ci ?_
                refine x_goto ?_
                refine x_zret (by first | exact bI_01 _ | omega) ?_
                first
                  | (exfalso; omega)
                  | (refine cB1 k ?_
                     simp only [soP]
                     first
                       | omega
                       | (refine Or.inr ⟨by omega, fun y => ?_, fun y => ?_⟩ <;> first | omega | (exfalso; omega)))
                  | (refine cB0 k ?_
                     rintro (y | ⟨y1, y2, y3⟩)
                     · omega
                     · first
                         | omega
                         | (have y2 := y2 (by omega); omega)
                         | (have y3 := y3 (by omega); omega))
        · refine x_aload rfl ?_
          refine x_aload rfl ?_
          refine h_getR sc_75 rfl (by omega) ?_
          refine x_iload rfl ?_
          refine h_iald sc_79 ⟨by omega, by omega⟩ (by decide) ?_
          rw [q3.2.1]
          have o3 := (ho.2.2.2 i hi.1 hi.2).2.2.1 (by omega)
          refine x_aload rfl ?_
          refine h_getR sc_75 rfl (by omega) ?_
          refine x_iload rfl ?_
          refine h_iald sc_77 ⟨by omega, by omega⟩ (by decide) ?_
          rw [q2]
          refine n_call [vR _, vI _, vI _] [] (by omega) (Nat.le_of_ble_eq_true rfl) rfl rfl (Nat.le_of_ble_eq_true rfl) ?_
          refine m_placeBehind hP (by omega) hp (by omega) c3 ?_
          have pn := plN_R (c := c) (vC_less hp.v (show (min (mu i) n).toNat ≤ n by omega)) (cntN L (on i).toNat) (cntN_R L _).1 (ord_cnt hp.hL c3).2
          have hct := cnt_R L
          show wp PP _ _ _ [some (vR _), some (vI _), some (vR _)] [vI _] _ _
          refine x_aload rfl ?_
          refine h_getR sc_75 rfl (by omega) ?_
          refine x_iload rfl ?_
          refine h_iald sc_78 ⟨by omega, by omega⟩ (by decide) ?_
          rw [q3.1]
          refine n_icmp_ne ⟨by omega, by omega⟩ ⟨by omega, by omega⟩ (fun c5 => ?_) (fun c5 => ?_)
          · refine x_ci ?_
            refine x_fall ?_
            refine x_aload rfl ?_
            refine h_getR sc_75 rfl (by omega) ?_
            refine x_iload rfl ?_
            refine h_bald2 sc_80 ⟨by omega, by omega⟩ (by decide) ?_
            rw [q3.2.2]
            refine n_icmp_ne ⟨by omega, by omega⟩ ⟨by omega, by omega⟩ (fun c6 => ?_) (fun c6 => ?_)
            · refine x_ci ?_
              refine x_fall ?_
              refine x_zret (by first | exact bI_01 _ | omega) ?_
              first
                | (exfalso; omega)
                | (refine cB1 k ?_
                   simp only [soP]
                   first
                     | omega
                     | (refine Or.inr ⟨by omega, fun y => ?_, fun y => ?_⟩ <;> first | omega | (exfalso; omega)))
                | (refine cB0 k ?_
                   rintro (y | ⟨y1, y2, y3⟩)
                   · omega
                   · first
                       | omega
                       | (have y2 := y2 (by omega); omega)
                       | (have y3 := y3 (by omega); omega))
            · refine x_ci ?_
              refine x_goto ?_
              refine x_zret (by first | exact bI_01 _ | omega) ?_
              first
                | (exfalso; omega)
                | (refine cB1 k ?_
                   simp only [soP]
                   first
                     | omega
                     | (refine Or.inr ⟨by omega, fun y => ?_, fun y => ?_⟩ <;> first | omega | (exfalso; omega)))
                | (refine cB0 k ?_
                   rintro (y | ⟨y1, y2, y3⟩)
                   · omega
                   · first
                       | omega
                       | (have y2 := y2 (by omega); omega)
                       | (have y3 := y3 (by omega); omega))
          · refine x_ci ?_
            refine x_goto ?_
            refine x_aload rfl ?_
            refine h_getR sc_75 rfl (by omega) ?_
            refine x_iload rfl ?_
            refine h_bald2 sc_80 ⟨by omega, by omega⟩ (by decide) ?_
            rw [q3.2.2]
            refine n_icmp_ne ⟨by omega, by omega⟩ ⟨by omega, by omega⟩ (fun c6 => ?_) (fun c6 => ?_)
            · refine x_ci ?_
              refine x_fall ?_
              refine x_zret (by first | exact bI_01 _ | omega) ?_
              first
                | (exfalso; omega)
                | (refine cB1 k ?_
                   simp only [soP]
                   first
                     | omega
                     | (refine Or.inr ⟨by omega, fun y => ?_, fun y => ?_⟩ <;> first | omega | (exfalso; omega)))
                | (refine cB0 k ?_
                   rintro (y | ⟨y1, y2, y3⟩)
                   · omega
                   · first
                       | omega
                       | (have y2 := y2 (by omega); omega)
                       | (have y3 := y3 (by omega); omega))
            · refine x_ci ?_
              refine x_goto ?_
              refine x_zret (by first | exact bI_01 _ | omega) ?_
              first
                | (exfalso; omega)
                | (refine cB1 k ?_
                   simp only [soP]
                   first
                     | omega
                     | (refine Or.inr ⟨by omega, fun y => ?_, fun y => ?_⟩ <;> first | omega | (exfalso; omega)))
                | (refine cB0 k ?_
                   rintro (y | ⟨y1, y2, y3⟩)
                   · omega
                   · first
                       | omega
                       | (have y2 := y2 (by omega); omega)
                       | (have y3 := y3 (by omega); omega))
      · refine x_ci ?_
        refine x_zret (by first | exact bI_01 _ | omega) ?_
        first
          | (exfalso; omega)
          | (refine cB1 k ?_
             simp only [soP]
             first
               | omega
               | (refine Or.inr ⟨by omega, fun y => ?_, fun y => ?_⟩ <;> first | omega | (exfalso; omega)))
          | (refine cB0 k ?_
             rintro (y | ⟨y1, y2, y3⟩)
             · omega
             · first
                 | omega
                 | (have y2 := y2 (by omega); omega)
                 | (have y3 := y3 (by omega); omega))
    · refine x_fall ?_
      refine x_ci ?_
      refine x_zret (by first | exact bI_01 _ | omega) ?_
      first
        | (exfalso; omega)
        | (refine cB1 k ?_
           simp only [soP]
           first
             | omega
             | (refine Or.inr ⟨by omega, fun y => ?_, fun y => ?_⟩ <;> first | omega | (exfalso; omega)))
        | (refine cB0 k ?_
           rintro (y | ⟨y1, y2, y3⟩)
           · omega
           · first
               | omega
               | (have y2 := y2 (by omega); omega)
               | (have y3 := y3 (by omega); omega))
theorem ex_all {K : Nat} {P : Int → Prop} {i : Int} (h0 : 0 ≤ i) (h1 : i < K) (hn : ¬ P i) : ¬ ∀ r : Fin K, P ((r : Nat) : Int) := fun h => by
  have := h ⟨i.toNat, by omega⟩
  simp only [Int.toNat_of_nonneg h0] at this
  exact hn this
theorem all_fin {K : Nat} {P : Int → Prop} (h : ∀ i : Int, 0 ≤ i → i < K → P i) : ∀ r : Fin K, P ((r : Nat) : Int) := fun r => h r (by omega) (by have := r.2; omega)
/-- whether all that is known and not struck out is so -/
abbrev allP (K : Nat) (X : Int → Int) (L : Int) (n : Nat) (c kd on ot mu ia : Int → Int) : Prop := ∀ r : Fin K, ¬ X ((r : Nat) : Int) = 0 ∨ soP L n c kd on ot mu ia ((r : Nat) : Int)
theorem m_areAllSo {z : Nat} {kf : Int} {kd on ot mu ia : Int → Int} {X : Int → Int} (hd : 5 ≤ d) (hP : isPl a) (hp : PL a L n c s) (hr : RC z kf kd on ot mu ia s) (ho : okR z kf kd on ot mu ia) (hX : ∀ r : Int, 0 ≤ r → r < 24 → s 81 r = X r) (hX1 : ∀ r, X r = 0 ∨ X r = 1) (k : Q (some (vI (bI (allP (kz z kf).toNat X L n c kd on ot mu ia)))) (HP h0 s)) : wpM PP d 240 [vR 75, vR a] (HP h0 s) Q := by
  have ha := hP.1.1
  have hz := ho.1
  have hk := kz_R ho
  have hkf := ho.2.1
  have hkf2 := ho.2.2.1
  have L1 : ∀ N : Nat, ∀ (i : Int), (0 ≤ i ∧ i ≤ kz z kf) → (N = (kz z kf).toNat - i.toNat) → (∀ r : Int, 0 ≤ r → r < i → ¬ X r = 0 ∨ soP L n c kd on ot mu ia r) →  wp PP d mb240 (mb240.getD 1 []) [some (vR 75), some (vR a), some (vI (kz z kf)), some (vI i)] [] (HP h0 s) Q := by
    refine s_ind (fun N ih => ?_)
    intro i hi hn g
    refine x_iload rfl ?_
    refine x_iload rfl ?_
    refine n_icmp_ge ⟨by omega, by omega⟩ ⟨by omega, by omega⟩ (fun c1 => ?_) (fun c1 => ?_)
    · refine x_ci ?_
      refine x_zret (by first | exact bI_01 _ | omega) ?_
      first
        | exact cB0 k (ex_all (P := fun i => ¬ X i = 0 ∨ soP L n c kd on ot mu ia i) hi.1 (by omega) (fun y => y.elim (fun y => y c3) c4))
        | exact cB1 k (all_fin (P := fun i => ¬ X i = 0 ∨ soP L n c kd on ot mu ia i) (fun r r0 r1 => g r r0 (by omega)))
    · refine x_aload rfl ?_
      refine x_iload rfl ?_
      refine n_call [vR _, vI _] [] (by omega) (Nat.le_of_ble_eq_true rfl) rfl rfl (Nat.le_of_ble_eq_true rfl) ?_
      refine m_hasRow ⟨by omega, by omega⟩ ?_
      show wp PP _ _ _ [some (vR _), some (vR _), some (vI _), some (vI _)] [vI _] _ _
      refine z_if_eq (fun c2 => ?_) (fun c2 => ?_)
      · refine n_iinc [some (vR _), some (vR _), some (vI _), some (vI _)] rfl rfl ?_
        refine x_goto ?_
        exact absurd ⟨by omega, by omega⟩ c2
      · refine x_aload rfl ?_
        refine h_getR sc_75 rfl (by omega) ?_
        refine x_iload rfl ?_
        refine h_bald2 sc_81 ⟨by omega, by omega⟩ (by decide) ?_
        rw [hX i (by omega) (by omega)]
        have xr := hX1 i
        refine n_if_ne ⟨by omega, by omega⟩ (fun c3 => ?_) (fun c3 => ?_)
        · refine n_iinc [some (vR _), some (vR _), some (vI _), some (vI _)] rfl rfl ?_
          refine x_goto ?_
          refine ih ((kz z kf).toNat - (i + 1).toNat) (by omega) (i + 1) (by omega) (by omega) (fun r r0 r1 => ?_)
          by_cases e : r = i
          · rw [e]
            exact Or.inl c3
          · exact g r r0 (by omega)
        · refine x_aload rfl ?_
          refine x_iload rfl ?_
          refine x_aload rfl ?_
          refine n_call [vR _, vI _, vR _] [] (by omega) (Nat.le_of_ble_eq_true rfl) rfl rfl (Nat.le_of_ble_eq_true rfl) ?_
          refine m_isSo (by omega) hP hp hr ho ⟨by omega, by omega⟩ ?_
          show wp PP _ _ _ [some (vR _), some (vR _), some (vI _), some (vI _)] [vI _] _ _
          refine z_if_ne (fun c4 => ?_) (fun c4 => ?_)
          · refine n_iinc [some (vR _), some (vR _), some (vI _), some (vI _)] rfl rfl ?_
            refine x_goto ?_
            refine ih ((kz z kf).toNat - (i + 1).toNat) (by omega) (i + 1) (by omega) (by omega) (fun r r0 r1 => ?_)
            by_cases e : r = i
            · rw [e]
              exact Or.inr c4
            · exact g r r0 (by omega)
          · refine x_ci ?_
            refine x_zret (by first | exact bI_01 _ | omega) ?_
            first
              | exact cB0 k (ex_all (P := fun i => ¬ X i = 0 ∨ soP L n c kd on ot mu ia i) hi.1 (by omega) (fun y => y.elim (fun y => y c3) c4))
              | exact cB1 k (all_fin (P := fun i => ¬ X i = 0 ∨ soP L n c kd on ot mu ia i) (fun r r0 r1 => g r r0 (by omega)))
  refine n_at (m := 240) (q := mr240) (kn := (0, 2)) [some (vR _), some (vR _), none, none] mb240 rfl rfl (h_rcv sc_75) (Nat.le_of_ble_eq_true rfl) rfl rfl ?_
  refine x_aload rfl ?_
  refine n_call [vR _] [] (by omega) (Nat.le_of_ble_eq_true rfl) rfl rfl (Nat.le_of_ble_eq_true rfl) ?_
  refine m_knownSize (z := z) (kf := kf) hr.1 hr.2.1 (by omega) ?_
  show wp PP _ _ _ [some (vR _), some (vR _), _, _] [vI _] _ _
  refine n_istore [some (vR _), some (vR _), some (vI _), _] (Nat.le_of_ble_eq_true rfl) rfl ?_
  refine x_ci ?_
  refine n_istore [some (vR _), some (vR _), some (vI _), some (vI _)] (Nat.le_of_ble_eq_true rfl) rfl ?_
  refine x_fall ?_
  refine L1 (kz z kf).toNat 0 (by omega) (by omega) (fun r r0 r1 => by omega)
theorem r_knownMany {z : Nat} {kf : Int} (h1 : s 94 50 = z) (h2 : s 94 51 = kf) (h3 : -1 ≤ kf ∧ kf ≤ 24) (k : Q (some (vI (kz z kf))) (HP h0 s)) : wpM PP d 173 [vR 94] (HP h0 s) Q := by
  refine n_at (m := 173) (q := mr173) (kn := (0, 1)) [some (vR _)] mb173 rfl rfl (h_rcv sc_94) (Nat.le_of_ble_eq_true rfl) rfl rfl ?_
  refine x_aload rfl ?_
  refine h_getI 51 sc_94 rfl rfl ?_
  refine x_ci ?_
  refine n_icmp_ne ⟨by omega, by omega⟩ ⟨by omega, by omega⟩ (fun c1 => ?_) (fun c1 => ?_)
  · refine x_aload rfl ?_
    refine h_getI 51 sc_94 rfl rfl ?_
    refine x_fall ?_
    refine x_iret ?_
    refine cI k ?_
    unfold kz
    first
      | (rw [if_pos (by omega)]; omega)
      | (rw [if_neg (by omega)]; omega)
  · refine x_aload rfl ?_
    refine h_getI 50 sc_94 rfl rfl ?_
    refine x_goto ?_
    refine x_iret ?_
    refine cI k ?_
    unfold kz
    first
      | (rw [if_pos (by omega)]; omega)
      | (rw [if_neg (by omega)]; omega)
theorem r_noted {x1 x2 x3 x4 x5 : Int} {z : Nat} (h6 : s 94 50 = z) (hz : z < 24) (h5 : x5 = 0 ∨ x5 = 1) (k : Q (some (vI z)) (HP h0 (up (up (up (up (up (up s 124 z x1) 125 z x2) 126 z x3) 127 z x4) 128 z x5) 94 50 (z + 1)))) : wpM PP d 168 [vR 94, vI x1, vI x2, vI x3, vI x4, vI x5] (HP h0 s) Q := by
  refine n_at (m := 168) (q := mr168) (kn := (0, 6)) [some (vR _), some (vI _), some (vI _), some (vI _), some (vI _), some (vI _)] mb168 rfl rfl (h_rcv sc_94) (Nat.le_of_ble_eq_true rfl) rfl rfl ?_
  refine x_aload rfl ?_
  refine h_getR sc_94 rfl (by omega) ?_
  refine x_aload rfl ?_
  refine h_getI 50 sc_94 rfl rfl ?_
  rw [h6]
  refine x_iload rfl ?_
  refine h_iast sc_124 ⟨by omega, by omega⟩ (by decide) ?_
  refine x_aload rfl ?_
  refine h_getR sc_94 rfl (by omega) ?_
  refine x_aload rfl ?_
  refine h_getI 50 sc_94 rfl rfl ?_
  rw [up_a (b := 94) (by decide), h6]
  refine x_iload rfl ?_
  refine h_iast sc_125 ⟨by omega, by omega⟩ (by decide) ?_
  refine x_aload rfl ?_
  refine h_getR sc_94 rfl (by omega) ?_
  refine x_aload rfl ?_
  refine h_getI 50 sc_94 rfl rfl ?_
  rw [up_a (b := 94) (by decide), up_a (b := 94) (by decide), h6]
  refine x_iload rfl ?_
  refine h_iast sc_126 ⟨by omega, by omega⟩ (by decide) ?_
  refine x_aload rfl ?_
  refine h_getR sc_94 rfl (by omega) ?_
  refine x_aload rfl ?_
  refine h_getI 50 sc_94 rfl rfl ?_
  rw [up_a (b := 94) (by decide), up_a (b := 94) (by decide), up_a (b := 94) (by decide), h6]
  refine x_iload rfl ?_
  refine h_iast sc_127 ⟨by omega, by omega⟩ (by decide) ?_
  refine x_aload rfl ?_
  refine h_getR sc_94 rfl (by omega) ?_
  refine x_aload rfl ?_
  refine h_getI 50 sc_94 rfl rfl ?_
  rw [up_a (b := 94) (by decide), up_a (b := 94) (by decide), up_a (b := 94) (by decide), up_a (b := 94) (by decide), h6]
  refine x_iload rfl ?_
  refine h_bast2 sc_128 ⟨by omega, by omega⟩ (by decide) ?_
  refine x_aload rfl ?_
  refine x_dupR ?_
  refine h_getI 50 sc_94 rfl rfl ?_
  rw [up_a (b := 94) (by decide), up_a (b := 94) (by decide), up_a (b := 94) (by decide), up_a (b := 94) (by decide), up_a (b := 94) (by decide), h6]
  refine x_ci ?_
  refine x_iadd ?_
  refine h_putI 50 sc_94 rfl rfl ?_
  refine x_aload rfl ?_
  refine h_getI 50 sc_94 rfl rfl ?_
  rw [up_e]
  refine x_ci ?_
  refine x_isub ?_
  refine x_iret ?_
  rw [show a_nar 2 x5 = x5 from by rcases h5 with rfl | rfl <;> rfl]
  exact cI k (by omega)
end RE
