/-! BACK INTO THE PAST: takeInto; the reference's keepNow -/
section PB2
variable {d a : Nat} {h0 h : pheap} {s : St} {Q : Option pv → pheap → Prop} {L : Int} {n : Nat} {c c' : Int → Int}
theorem slo_R {nx : Int} {i : Nat} (h : 0 ≤ nx ∧ nx < 20) (hi : i < 20) : 0 ≤ slo nx i ∧ slo nx i < 20 := by
  unfold slo
  split <;> omega
theorem slo_up {nx : Int} {i : Nat} (h : 0 ≤ nx ∧ nx < 20) (hi : i < 19) : slo nx (i + 1) = slo (slo nx 0) i := by
  unfold slo
  split <;> split <;> split <;> omega
theorem m_takeInto {z : Nat} {Hs : Hst} {vw : Int} (hd : 12 ≤ d) (ha : PAs (z + 1) Hs s) (hok : hOk (z + 1) Hs) (he : Hs 0 = (vw, L, n, c)) (k : ∀ t, PAs z (fun i => Hs (i + 1)) t → PL 54 L n c t → t 53 1 = vw → (∀ r, r ≠ 1 → t 53 r = s 53 r) → (∀ b : Nat, (b < 53 ∨ 57 < b) ∧ b ≠ 70 → ∀ r, t b r = s b r) → Q none (HP h0 t)) : wpM PP d 195 [vR 70, vR 53] (HP h0 s) Q := by
  obtain ⟨hz, hz4, hx1, hx2, hh⟩ := ha
  obtain ⟨nx, hx⟩ : ∃ nx, s 70 5 = nx := ⟨_, rfl⟩
  rw [hx] at hx1 hx2 hh
  obtain ⟨lt, hlt⟩ : ∃ lt, lt = slo nx 0 := ⟨_, rfl⟩
  have hl := slo_R (i := 0) ⟨hx1, hx2⟩ (by decide)
  rw [← hlt] at hl
  obtain ⟨q1, q2, q3, q4⟩ := hh 0 (by omega)
  rw [← hlt, he] at q1 q2 q3
  rw [← hlt] at q4
  have o := hok 0 (by omega)
  rw [he] at o q4
  dsimp only at q1 q2 q3 q4 o
  obtain ⟨-, -, o3, o4, o5, hvv⟩ := o
  have hLL : 0 ≤ L ∧ L < 64 := ⟨o3, o4⟩
  have L1 : ∀ N : Nat, ∀ (j : Nat) (i : Int) (t : St), (i = j) → (N = n - j ∧ j ≤ n) → (PL 54 L j c t) → (∀ b : Nat, (b < 53 ∨ 57 < b) → ∀ r, t b r = s b r) → (t 53 1 = vw) → (∀ r, r ≠ 1 → t 53 r = s 53 r) →  wp PP d mb195 (mb195.getD 5 []) [some (vR 70), some (vR 53), some (vI lt), some (vI i)] [] (HP h0 t) Q := by
    refine s_ind (fun N ih => ?_)
    intro j i t hj hn2 g1 g2 g3 g4
    have g8 : t 72 lt = n := (g2 72 (by omega) lt).trans q3
    have g9 : j < n → t 71 (lt * 48 + i) = c i := fun z => by
      rw [g2 71 (by omega), Int.mul_comm lt 48]
      exact q4 i (by omega) (by omega)
    have g10 : j < n → 0 ≤ c i ∧ c i < 2 * (cnt L - 1) := fun z => hvv i (by omega) (by omega)
    have g11 : c j = c i := by rw [hj]
    refine x_iload rfl ?_
    refine x_aload rfl ?_
    refine h_getR sc_70 rfl (by omega) ?_
    refine x_iload rfl ?_
    refine h_iald sc_72 ⟨by omega, by omega⟩ (by decide) ?_
    rw [g8]
    refine n_icmp_ge ⟨by omega, by omega⟩ ⟨by omega, by omega⟩ (fun c1 => ?_) (fun c1 => ?_)
    · refine x_aload rfl ?_
      refine x_iload rfl ?_
      refine h_putI 5 sc_70 rfl rfl ?_
      refine x_aload rfl ?_
      refine x_dupR ?_
      refine h_getI 4 sc_70 rfl rfl ?_
      refine x_ci ?_
      have g7 : up t 70 5 lt 70 4 = (z : Int) + 1 := by
        rw [up_i (by decide), g2 70 (by omega)]
        omega
      rw [g7]
      refine x_isub ?_
      refine h_putI 4 sc_70 rfl rfl ?_
      refine x_ret ?_
      have ej : j = n := by omega
      subst ej
      refine k _ ⟨by omega, ?_, ?_, ?_, fun i hi => ?_⟩ ?_ ?_ (fun r hr => ?_) (fun b hb r => ?_)
      · rw [up_e]
        omega
      · rw [up_i (by decide), up_e]
        omega
      · rw [up_i (by decide), up_e]
        omega
      · rw [show ∀ (X Y : Int), up (up t 70 5 X) 70 4 Y 70 5 = X from fun X Y => by rw [up_i (by decide), up_e]]
        have := hh (i + 1) (by omega)
        rw [slo_up ⟨hx1, hx2⟩ (by omega), ← hlt] at this
        obtain ⟨w1, w2, w3, w4⟩ := this
        refine ⟨?_, ?_, ?_, fun j j0 j1 => ?_⟩
        · rw [up_a (by decide), up_a (by decide), g2 74 (by omega)]
          exact w1
        · rw [up_a (by decide), up_a (by decide), g2 73 (by omega)]; exact w2
        · rw [up_a (by decide), up_a (by decide), g2 72 (by omega)]; exact w3
        · rw [up_a (by decide), up_a (by decide), g2 71 (by omega)]; exact w4 j j0 j1
      · exact (g1.up (by omega)).up (by omega)
      · rw [up_a (by decide), up_a (by decide)]; exact g3
      · rw [up_a (by decide), up_a (by decide)]; exact g4 r hr
      · rw [up_a (by omega), up_a (by omega)]
        exact g2 b (by omega) r
    · refine x_iload rfl ?_
      refine x_ci ?_
      refine n_icmp_ge ⟨by omega, by omega⟩ ⟨by omega, by omega⟩ (fun c2 => ?_) (fun c2 => ?_)
      · refine x_aload rfl ?_
        refine x_iload rfl ?_
        refine h_putI 5 sc_70 rfl rfl ?_
        refine x_aload rfl ?_
        refine x_dupR ?_
        refine h_getI 4 sc_70 rfl rfl ?_
        refine x_ci ?_
        have g7 : up t 70 5 lt 70 4 = (z : Int) + 1 := by
          rw [up_i (by decide), g2 70 (by omega)]
          omega
        rw [g7]
        refine x_isub ?_
        refine h_putI 4 sc_70 rfl rfl ?_
        refine x_ret ?_
        have ej : j = n := by omega
        subst ej
        refine k _ ⟨by omega, ?_, ?_, ?_, fun i hi => ?_⟩ ?_ ?_ (fun r hr => ?_) (fun b hb r => ?_)
        · rw [up_e]
          omega
        · rw [up_i (by decide), up_e]
          omega
        · rw [up_i (by decide), up_e]
          omega
        · rw [show ∀ (X Y : Int), up (up t 70 5 X) 70 4 Y 70 5 = X from fun X Y => by rw [up_i (by decide), up_e]]
          have := hh (i + 1) (by omega)
          rw [slo_up ⟨hx1, hx2⟩ (by omega), ← hlt] at this
          obtain ⟨w1, w2, w3, w4⟩ := this
          refine ⟨?_, ?_, ?_, fun j j0 j1 => ?_⟩
          · rw [up_a (by decide), up_a (by decide), g2 74 (by omega)]
            exact w1
          · rw [up_a (by decide), up_a (by decide), g2 73 (by omega)]; exact w2
          · rw [up_a (by decide), up_a (by decide), g2 72 (by omega)]; exact w3
          · rw [up_a (by decide), up_a (by decide), g2 71 (by omega)]; exact w4 j j0 j1
        · exact (g1.up (by omega)).up (by omega)
        · rw [up_a (by decide), up_a (by decide)]; exact g3
        · rw [up_a (by decide), up_a (by decide)]; exact g4 r hr
        · rw [up_a (by omega), up_a (by omega)]
          exact g2 b (by omega) r
      · refine x_aload rfl ?_
        refine h_getR sc_53 rfl (by omega) ?_
        refine x_aload rfl ?_
        refine x_iload rfl ?_
        refine x_ci ?_
        refine x_imul ?_
        refine x_iload rfl ?_
        refine x_iadd ?_
        refine n_call [vR _, vI _] [vR _] (by omega) (Nat.le_of_ble_eq_true rfl) rfl rfl (Nat.le_of_ble_eq_true rfl) ?_
        refine m_pastAt ⟨by omega, by omega⟩ ?_
        show wp PP _ _ _ [some (vR _), some (vR _), some (vI _), some (vI _)] [vI _, vR _] _ _
        refine n_call [vR _, vI _] [] (by omega) (Nat.le_of_ble_eq_true rfl) rfl rfl (Nat.le_of_ble_eq_true rfl) ?_
        rw [g9 (by omega)]
        refine m_add (a := 54) (c := c) (n := j) pl_54 (by omega) g1 (by omega) (by omega) (by omega) (fun u u1 u2 u3 => ?_)
        show wp PP _ _ _ [some (vR _), some (vR _), some (vI _), some (vI _)] [] _ _
        refine n_iinc [some (vR _), some (vR _), some (vI _), some (vI _)] rfl rfl ?_
        refine x_goto ?_
        refine ih (n - (j + 1)) (by omega) (j + 1) _ _ (by omega) (by omega) u1 (fun b hb r => (u2 b (by omega) r).trans (g2 b hb r)) ((u2 53 (by omega) 1).trans g3) (fun r hr => (u2 53 (by omega) r).trans (g4 r hr))
  refine n_at (m := 195) (q := mr195) (kn := (0, 2)) [some (vR _), some (vR _), none, none] mb195 rfl rfl (h_rcv sc_70) (Nat.le_of_ble_eq_true rfl) rfl rfl ?_
  refine x_aload rfl ?_
  refine h_getI 5 sc_70 rfl rfl ?_
  rw [hx]
  refine n_if_le ⟨by omega, by omega⟩ (fun c1 => ?_) (fun c1 => ?_)
  · refine x_ci ?_
    refine x_fall ?_
    refine t_I lt ?_ ?_
    · rw [hlt]
      unfold slo
      split <;> omega
    refine n_istore [some (vR _), some (vR _), some (vI _), _] (Nat.le_of_ble_eq_true rfl) rfl ?_
    refine x_aload rfl ?_
    refine h_getI 4 sc_70 rfl rfl ?_
    refine x_ci ?_
    refine n_icmp_lt ⟨by omega, by omega⟩ ⟨by omega, by omega⟩ (fun c2 => ?_) (fun c2 => ?_)
    · refine x_ret ?_
      exfalso; omega
    · refine x_iload rfl ?_
      refine x_aload rfl ?_
      refine h_getR sc_70 rfl (by omega) ?_
      refine h_alen 20 sc_72 (by decide) rfl ?_
      refine n_icmp_ge ⟨by omega, by omega⟩ ⟨by omega, by omega⟩ (fun c3 => ?_) (fun c3 => ?_)
      · refine x_ret ?_
        exfalso; omega
      · refine x_iload rfl ?_
        refine x_aload rfl ?_
        refine h_getR sc_70 rfl (by omega) ?_
        refine h_alen 20 sc_73 (by decide) rfl ?_
        refine n_icmp_ge ⟨by omega, by omega⟩ ⟨by omega, by omega⟩ (fun c4 => ?_) (fun c4 => ?_)
        · refine x_ret ?_
          exfalso; omega
        · refine x_iload rfl ?_
          refine x_aload rfl ?_
          refine h_getR sc_70 rfl (by omega) ?_
          refine h_alen 20 sc_74 (by decide) rfl ?_
          refine n_icmp_lt ⟨by omega, by omega⟩ ⟨by omega, by omega⟩ (fun c5 => ?_) (fun c5 => ?_)
          · refine x_aload rfl ?_
            refine x_aload rfl ?_
            refine h_getR sc_70 rfl (by omega) ?_
            refine x_iload rfl ?_
            refine h_iald sc_74 ⟨by omega, by omega⟩ (by decide) ?_
            rw [q1]
            refine h_putI 1 sc_53 rfl rfl ?_
            refine x_aload rfl ?_
            refine h_getR sc_53 rfl (by omega) ?_
            refine x_aload rfl ?_
            refine h_getR sc_70 rfl (by omega) ?_
            refine x_iload rfl ?_
            refine h_iald sc_73 ⟨by omega, by omega⟩ (by decide) ?_
            rw [up_a (b := 73) (by decide), q2]
            refine n_call [vR _, vI _] [] (by omega) (Nat.le_of_ble_eq_true rfl) rfl rfl (Nat.le_of_ble_eq_true rfl) ?_
            refine m_begin (a := 54) (c := c) pl_54 (by omega) (w := L) hLL (fun t1 g1 g2 g3 => ?_)
            show wp PP _ _ _ [some (vR _), some (vR _), some (vI _), _] [] _ _
            refine x_ci ?_
            refine n_istore [some (vR _), some (vR _), some (vI _), some (vI _)] (Nat.le_of_ble_eq_true rfl) rfl ?_
            refine x_fall ?_
            refine L1 n 0 0 _ rfl (by omega) g1 (fun b hb r => ?_) ?_ (fun r hr => ?_)
            · rw [g3 b (by omega) r, up_a (by omega)]
            · rw [g3 53 (by omega) 1, up_e]
            · rw [g3 53 (by omega) r, up_i hr]
          · refine x_fall ?_
            refine x_ret ?_
            exfalso; omega
  · refine x_aload rfl ?_
    refine h_getI 5 sc_70 rfl rfl ?_
    rw [hx]
    refine x_ci ?_
    refine x_isub ?_
    skip
    refine x_goto ?_
    refine t_I lt ?_ ?_
    · rw [hlt]
      unfold slo
      split <;> omega
    refine n_istore [some (vR _), some (vR _), some (vI _), _] (Nat.le_of_ble_eq_true rfl) rfl ?_
    refine x_aload rfl ?_
    refine h_getI 4 sc_70 rfl rfl ?_
    refine x_ci ?_
    refine n_icmp_lt ⟨by omega, by omega⟩ ⟨by omega, by omega⟩ (fun c2 => ?_) (fun c2 => ?_)
    · refine x_ret ?_
      exfalso; omega
    · refine x_iload rfl ?_
      refine x_aload rfl ?_
      refine h_getR sc_70 rfl (by omega) ?_
      refine h_alen 20 sc_72 (by decide) rfl ?_
      refine n_icmp_ge ⟨by omega, by omega⟩ ⟨by omega, by omega⟩ (fun c3 => ?_) (fun c3 => ?_)
      · refine x_ret ?_
        exfalso; omega
      · refine x_iload rfl ?_
        refine x_aload rfl ?_
        refine h_getR sc_70 rfl (by omega) ?_
        refine h_alen 20 sc_73 (by decide) rfl ?_
        refine n_icmp_ge ⟨by omega, by omega⟩ ⟨by omega, by omega⟩ (fun c4 => ?_) (fun c4 => ?_)
        · refine x_ret ?_
          exfalso; omega
        · refine x_iload rfl ?_
          refine x_aload rfl ?_
          refine h_getR sc_70 rfl (by omega) ?_
          refine h_alen 20 sc_74 (by decide) rfl ?_
          refine n_icmp_lt ⟨by omega, by omega⟩ ⟨by omega, by omega⟩ (fun c5 => ?_) (fun c5 => ?_)
          · refine x_aload rfl ?_
            refine x_aload rfl ?_
            refine h_getR sc_70 rfl (by omega) ?_
            refine x_iload rfl ?_
            refine h_iald sc_74 ⟨by omega, by omega⟩ (by decide) ?_
            rw [q1]
            refine h_putI 1 sc_53 rfl rfl ?_
            refine x_aload rfl ?_
            refine h_getR sc_53 rfl (by omega) ?_
            refine x_aload rfl ?_
            refine h_getR sc_70 rfl (by omega) ?_
            refine x_iload rfl ?_
            refine h_iald sc_73 ⟨by omega, by omega⟩ (by decide) ?_
            rw [up_a (b := 73) (by decide), q2]
            refine n_call [vR _, vI _] [] (by omega) (Nat.le_of_ble_eq_true rfl) rfl rfl (Nat.le_of_ble_eq_true rfl) ?_
            refine m_begin (a := 54) (c := c) pl_54 (by omega) (w := L) hLL (fun t1 g1 g2 g3 => ?_)
            show wp PP _ _ _ [some (vR _), some (vR _), some (vI _), _] [] _ _
            refine x_ci ?_
            refine n_istore [some (vR _), some (vR _), some (vI _), some (vI _)] (Nat.le_of_ble_eq_true rfl) rfl ?_
            refine x_fall ?_
            refine L1 n 0 0 _ rfl (by omega) g1 (fun b hb r => ?_) ?_ (fun r hr => ?_)
            · rw [g3 b (by omega) r, up_a (by omega)]
            · rw [g3 53 (by omega) 1, up_e]
            · rw [g3 53 (by omega) r, up_i hr]
          · refine x_fall ?_
            refine x_ret ?_
            exfalso; omega
end PB2
