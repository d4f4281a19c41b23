/-! KEEP, BACK, both sides -/
section PZ
variable {d tp : Nat} {h0 h : pheap} {s : St} {Q : Option pv → pheap → Prop} {L : Int} {n z : Nat} {c : Int → Int} {Hs : Hst} {vw rf sl yr la : Int}
theorem m_keep (hd : 14 ≤ d) (hD : DA 53 vw rf sl yr la L n c s) (k : ∀ t, DA 58 vw rf sl yr la L n c t → t 32 8 = 1 → (∀ (b : Nat) (r : Int), (b < 58 ∨ 62 < b) → ¬ (b = 32 ∧ r = 8) → t b r = s b r) → Q (some (vI yr)) (HP h0 t)) : wpM PP d 41 [vR 32] (HP h0 s) Q := by
  refine n_at (m := 41) (q := mr41) (kn := (0, 1)) [some (vR _)] mb41 rfl rfl (h_rcv sc_32) (Nat.le_of_ble_eq_true rfl) rfl rfl ?_
  refine x_aload rfl ?_
  refine h_getR sc_32 rfl (by omega) ?_
  refine x_aload rfl ?_
  refine h_getR sc_32 rfl (by omega) ?_
  refine n_call [vR _, vR _] [] (by omega) (Nat.le_of_ble_eq_true rfl) rfl rfl (Nat.le_of_ble_eq_true rfl) ?_
  refine m_danceTake da_58 da_53 (by omega) (by omega) hD (fun t t1 t2 => ?_)
  show wp PP _ _ _ [some (vR _)] [] _ _
  refine x_aload rfl ?_
  refine x_ci ?_
  refine h_putZ 8 sc_32 rfl rfl (by first | exact bI_01 _ | omega) ?_
  refine x_aload rfl ?_
  refine h_getR sc_32 rfl (by omega) ?_
  refine h_getI 4 sc_53 rfl rfl ?_
  rw [up_a (by decide), t2 53 (by omega) 4, hD.2.2.2.1]
  refine x_iret ?_
  refine k _ ?_ up_e (fun b r h1 h2 => (up_f h2).trans (t2 b (by omega) r))
  obtain ⟨q1, q2, q3, q4, q5, q6⟩ := t1
  exact ⟨(up_a (by decide)).trans q1, (up_a (by decide)).trans q2, (up_a (by decide)).trans q3, (up_a (by decide)).trans q4, (up_a (by decide)).trans q5, q6.up (by omega)⟩
theorem m_backY (hd : 14 ≤ d) (hi : s 32 8 = 1) (hD : DA 58 vw rf sl yr la L n c s) (k : ∀ t, DA 53 vw rf sl yr la L n c t → PAs 0 Hs t → (∀ (b : Nat) (r : Int), (b < 53 ∨ 57 < b) → ¬ b = 70 → t b r = s b r) → Q (some (vI yr)) (HP h0 t)) : wpM PP d 42 [vR 32] (HP h0 s) Q := by
  refine n_at (m := 42) (q := mr42) (kn := (0, 1)) [some (vR _)] mb42 rfl rfl (h_rcv sc_32) (Nat.le_of_ble_eq_true rfl) rfl rfl ?_
  refine x_aload rfl ?_
  refine h_getZ 8 sc_32 rfl rfl ?_
  rw [hi]
  refine n_if_ne ⟨by omega, by omega⟩ (fun c1 => ?_) (fun c1 => ?_)
  · refine x_aload rfl ?_
    refine h_getR sc_32 rfl (by omega) ?_
    refine x_aload rfl ?_
    refine h_getR sc_32 rfl (by omega) ?_
    refine n_call [vR _, vR _] [] (by omega) (Nat.le_of_ble_eq_true rfl) rfl rfl (Nat.le_of_ble_eq_true rfl) ?_
    refine m_danceTake da_53 da_58 (by omega) (by omega) hD (fun t t1 t2 => ?_)
    show wp PP _ _ _ [some (vR _)] [] _ _
    refine x_aload rfl ?_
    refine h_getR sc_32 rfl (by omega) ?_
    refine n_call [vR _] [] (by omega) (Nat.le_of_ble_eq_true rfl) rfl rfl (Nat.le_of_ble_eq_true rfl) ?_
    refine m_forget ?_
    show wp PP _ _ _ [some (vR _)] [] _ _
    refine x_aload rfl ?_
    refine h_getR sc_32 rfl (by omega) ?_
    refine h_getI 4 sc_53 rfl rfl ?_
    rw [up_a (by decide), up_a (by decide), t1.2.2.2.1]
    refine x_iret ?_
    obtain ⟨q1, q2, q3, q4, q5, q6⟩ := t1
    refine k _ ⟨(up_a (by decide)).trans ((up_a (by decide)).trans q1), (up_a (by decide)).trans ((up_a (by decide)).trans q2), (up_a (by decide)).trans ((up_a (by decide)).trans q3), (up_a (by decide)).trans ((up_a (by decide)).trans q4), (up_a (by decide)).trans ((up_a (by decide)).trans q5), (q6.up (by omega)).up (by omega)⟩ ⟨by decide, (up_i (by decide)).trans up_e, by rw [up_e]; decide, by rw [up_e]; decide, fun i hi => absurd hi (by omega)⟩ (fun b r h1 h2 => ?_)
    rw [up_a h2, up_a h2]
    exact t2 b (by omega) r
  · exfalso
    omega
theorem m_backN (hi : s 32 8 = 0) (k : Q (some (vI (-1))) (HP h0 s)) : wpM PP d 42 [vR 32] (HP h0 s) Q := by
  refine n_at (m := 42) (q := mr42) (kn := (0, 1)) [some (vR _)] mb42 rfl rfl (h_rcv sc_32) (Nat.le_of_ble_eq_true rfl) rfl rfl ?_
  refine x_aload rfl ?_
  refine h_getZ 8 sc_32 rfl rfl ?_
  rw [hi]
  refine n_if_ne ⟨by omega, by omega⟩ (fun c1 => ?_) (fun c1 => ?_)
  · exact absurd rfl c1
  · refine x_ci ?_
    refine x_iret ?_
    exact k
/-- all but the reference's dance f, who threw and one field -/
def kfr (f j : Int) (s t : St) : Prop := ∀ (b : Nat) (r : Int), ¬ (b = 94 ∧ (r = 0 ∨ r = j)) → ¬ (106 ≤ b ∧ b ≤ 112 ∧ r = f) → ¬ (b = 113 ∧ 48 * f ≤ r ∧ r < 48 * f + 48) → t b r = s b r
theorem r_keep (hd : 1 ≤ d) (hD : DR 0 vw rf sl yr la L n c s) (k : ∀ t, DR 2 vw rf sl yr la L n c t → t 94 35 = 1 → kfr 2 35 s t → Q (some (vI yr)) (HP h0 t)) : wpM PP d 180 [vR 94] (HP h0 s) Q := by
  refine n_at (m := 180) (q := mr180) (kn := (0, 1)) [some (vR _)] mb180 rfl rfl (h_rcv sc_94) (Nat.le_of_ble_eq_true rfl) rfl rfl ?_
  refine x_aload rfl ?_
  refine x_ci ?_
  refine h_putI 0 sc_94 rfl rfl ?_
  refine x_aload rfl ?_
  refine x_ci ?_
  refine x_ci ?_
  refine n_call [vR _, vI _, vI _] [] (by omega) (Nat.le_of_ble_eq_true rfl) rfl rfl (Nat.le_of_ble_eq_true rfl) ?_
  have hD0 := hD.up (b := 94) (i := 0) (x := 0) (by decide)
  refine r_copies (to := 2) (as := 0) (n := n) (by omega) (by omega) (by omega) hD0.2.2.2.2.2.2.2.2.2.1 hD0.2.2.2.2.2.2.1 (fun t g => ?_)
  have hn0 := hD0.2.2.2.2.2.2.1
  show wp PP _ _ _ [some (vR _)] [] _ _
  refine x_aload rfl ?_
  refine x_ci ?_
  refine h_putZ 35 sc_94 rfl rfl (by first | exact bI_01 _ | omega) ?_
  refine x_aload rfl ?_
  refine h_getR sc_94 rfl (by omega) ?_
  refine x_ci ?_
  refine h_iald sc_106 ⟨by omega, by omega⟩ (by decide) ?_
  rw [up_a (by decide), (g.drfar hn0 (by omega) hD0).2.2.2.1]
  refine x_iret ?_
  refine k _ ((g.dr hD0).up (by decide)) up_e (fun b r h1 h2 h3 => ?_)
  rw [up_f (by omega), g.1 b r (by omega) (by omega), up_f (by omega)]
theorem r_backY (hd : 1 ≤ d) (hi : s 94 35 = 1) (hD : DR 2 vw rf sl yr la L n c s) (k : ∀ t, DR 0 vw rf sl yr la L n c t → PUs 0 Hs rf sl yr la t → kfr 0 36 s t → Q (some (vI yr)) (HP h0 t)) : wpM PP d 181 [vR 94] (HP h0 s) Q := by
  refine n_at (m := 181) (q := mr181) (kn := (0, 1)) [some (vR _)] mb181 rfl rfl (h_rcv sc_94) (Nat.le_of_ble_eq_true rfl) rfl rfl ?_
  refine x_aload rfl ?_
  refine x_ci ?_
  refine h_putI 0 sc_94 rfl rfl ?_
  refine x_aload rfl ?_
  refine h_getZ 35 sc_94 rfl rfl ?_
  rw [up_i (by decide), hi]
  refine n_if_ne ⟨by omega, by omega⟩ (fun c1 => ?_) (fun c1 => ?_)
  · refine x_aload rfl ?_
    refine x_ci ?_
    refine x_ci ?_
    refine n_call [vR _, vI _, vI _] [] (by omega) (Nat.le_of_ble_eq_true rfl) rfl rfl (Nat.le_of_ble_eq_true rfl) ?_
    have hD0 := hD.up (b := 94) (i := 0) (x := 0) (by decide)
    refine r_copies (to := 0) (as := 2) (n := n) (by omega) (by omega) (by omega) hD0.2.2.2.2.2.2.2.2.2.1 hD0.2.2.2.2.2.2.1 (fun t g => ?_)
    have hn0 := hD0.2.2.2.2.2.2.1
    have g0 := g.dr hD0
    show wp PP _ _ _ [some (vR _)] [] _ _
    refine x_aload rfl ?_
    refine x_ci ?_
    refine h_putI 36 sc_94 rfl rfl ?_
    refine x_aload rfl ?_
    refine h_getR sc_94 rfl (by omega) ?_
    refine x_ci ?_
    refine h_iald sc_106 ⟨by omega, by omega⟩ (by decide) ?_
    rw [up_a (by decide), g0.2.2.2.1]
    refine x_iret ?_
    refine k _ (g0.up (by decide)) ⟨by decide, up_e, fun i hi => absurd hi (by omega)⟩ (fun b r h1 h2 h3 => ?_)
    rw [up_f (by omega), g.1 b r (by omega) (by omega), up_f (by omega)]
  · exfalso
    omega
theorem r_backN (hi : s 94 35 = 0) (k : Q (some (vI (-1))) (HP h0 (up s 94 0 0))) : wpM PP d 181 [vR 94] (HP h0 s) Q := by
  refine n_at (m := 181) (q := mr181) (kn := (0, 1)) [some (vR _)] mb181 rfl rfl (h_rcv sc_94) (Nat.le_of_ble_eq_true rfl) rfl rfl ?_
  refine x_aload rfl ?_
  refine x_ci ?_
  refine h_putI 0 sc_94 rfl rfl ?_
  refine x_aload rfl ?_
  refine h_getZ 35 sc_94 rfl rfl ?_
  rw [up_i (by decide), hi]
  refine n_if_ne ⟨by omega, by omega⟩ (fun c1 => ?_) (fun c1 => ?_)
  · exact absurd rfl c1
  · refine x_ci ?_
    refine x_iret ?_
    exact k
end PZ
