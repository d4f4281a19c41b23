/-! UNDO, both sides -/
section PY
variable {d tp : Nat} {h0 h : pheap} {s : St} {Q : Option pv → pheap → Prop} {L : Int} {n z : Nat} {c : Int → Int} {Hs : Hst} {vw rf sl yr la : Int}
theorem m_undoY (hd : 13 ≤ d) (ha : PAs (z + 1) Hs s) (hok : hOk (z + 1) Hs) (he : Hs 0 = (vw, L, n, c)) (hD2 : s 53 2 = rf) (hD3 : s 53 3 = sl) (hD4 : s 53 4 = yr) (hD5 : s 53 5 = la) (k : ∀ t, DA 53 vw rf sl yr la L n c t → PAs z (fun i => Hs (i + 1)) t → cfr s t → Q (some (vI z)) (HP h0 t)) : wpM PP d 40 [vR 32] (HP h0 s) Q := by
  have hz := ha.1
  refine n_at (m := 40) (q := mr40) (kn := (0, 1)) [some (vR _)] mb40 rfl rfl (h_rcv sc_32) (Nat.le_of_ble_eq_true rfl) rfl rfl ?_
  refine x_aload rfl ?_
  refine h_getR sc_32 rfl (by omega) ?_
  refine h_getI 4 sc_70 rfl rfl ?_
  rw [ha.2.1]
  refine n_if_ne ⟨by omega, by omega⟩ (fun c1 => ?_) (fun c1 => ?_)
  · refine x_aload rfl ?_
    refine h_getR sc_32 rfl (by omega) ?_
    refine x_aload rfl ?_
    refine h_getR sc_32 rfl (by omega) ?_
    refine n_call [vR _, vR _] [] (by omega) (Nat.le_of_ble_eq_true rfl) rfl rfl (Nat.le_of_ble_eq_true rfl) ?_
    refine m_takeInto (by omega) ha hok he (fun t t1 t2 t3 t4 t5 => ?_)
    show wp PP _ _ _ [some (vR _)] [] _ _
    refine x_aload rfl ?_
    refine h_getR sc_32 rfl (by omega) ?_
    refine h_getI 4 sc_70 rfl rfl ?_
    rw [t1.2.1]
    refine x_iret ?_
    exact k t ⟨t3, (t4 2 (by decide)).trans hD2, (t4 3 (by decide)).trans hD3, (t4 4 (by decide)).trans hD4, (t4 5 (by decide)).trans hD5, t2⟩ t1 (fun b hb r => t5 b ⟨by omega, by omega⟩ r)
  · exfalso
    omega
theorem m_undoN (ha : PAs 0 Hs s) (k : Q (some (vI (-1))) (HP h0 s)) : wpM PP d 40 [vR 32] (HP h0 s) Q := by
  refine n_at (m := 40) (q := mr40) (kn := (0, 1)) [some (vR _)] mb40 rfl rfl (h_rcv sc_32) (Nat.le_of_ble_eq_true rfl) rfl rfl ?_
  refine x_aload rfl ?_
  refine h_getR sc_32 rfl (by omega) ?_
  refine h_getI 4 sc_70 rfl rfl ?_
  rw [ha.2.1]
  refine n_if_ne ⟨by omega, by omega⟩ (fun c1 => ?_) (fun c1 => ?_)
  · exact absurd rfl c1
  · refine x_ci ?_
    refine x_iret ?_
    exact k
theorem r_undoY (hd : 1 ≤ d) (hu : PUs (z + 1) Hs rf sl yr la s) (he : Hs 0 = (vw, L, n, c)) (k : ∀ t, DR 0 vw rf sl yr la L n c t → PUs z (fun i => Hs (i + 1)) rf sl yr la t → nfr s t → Q (some (vI z)) (HP h0 t)) : wpM PP d 179 [vR 94] (HP h0 s) Q := by
  obtain ⟨p1, p2, p3⟩ := hu
  refine n_at (m := 179) (q := mr179) (kn := (0, 1)) [some (vR _)] mb179 rfl rfl (h_rcv sc_94) (Nat.le_of_ble_eq_true rfl) rfl rfl ?_
  refine x_aload rfl ?_
  refine x_ci ?_
  refine h_putI 0 sc_94 rfl rfl ?_
  refine x_aload rfl ?_
  refine h_getI 36 sc_94 rfl rfl ?_
  rw [up_i (by decide), p2]
  refine n_if_ne ⟨by omega, by omega⟩ (fun c1 => ?_) (fun c1 => ?_)
  · refine x_aload rfl ?_
    refine x_dupR ?_
    refine h_getI 36 sc_94 rfl rfl ?_
    rw [up_i (by decide), p2]
    refine x_ci ?_
    refine x_isub ?_
    refine t_I (z : Int) (by omega) ?_
    refine h_putI 36 sc_94 rfl rfl ?_
    refine x_aload rfl ?_
    refine x_ci ?_
    refine x_ci ?_
    refine x_aload rfl ?_
    refine h_getI 36 sc_94 rfl rfl ?_
    rw [up_e]
    refine x_iadd ?_
    refine n_call [vR _, vI _, vI _] [] (by omega) (Nat.le_of_ble_eq_true rfl) rfl rfl (Nat.le_of_ble_eq_true rfl) ?_
    have hD0 : DR (3 + (z : Int)) (Hs 0).1 rf sl yr la (Hs 0).2.1 (Hs 0).2.2.1 (Hs 0).2.2.2 (up (up s 94 0 0) 94 36 z) := by
      have := p3 0 (by omega)
      rw [show (2 : Int) + ((z + 1 : Nat) : Int) - ((0 : Nat) : Int) = 3 + (z : Int) by omega] at this
      exact (this.up (by decide)).up (by decide)
    refine r_copies (to := 0) (as := 3 + (z : Int)) (n := (Hs 0).2.2.1) (by omega) (by omega) (by omega) hD0.2.2.2.2.2.2.2.2.2.1 hD0.2.2.2.2.2.2.1 (fun t g => ?_)
    show wp PP _ _ _ [some (vR _)] [] _ _
    refine x_aload rfl ?_
    refine h_getI 36 sc_94 rfl rfl ?_
    rw [(g.1 94 36 (by omega) (by omega)).trans up_e]
    refine x_iret ?_
    have hn0 := hD0.2.2.2.2.2.2.1
    have g0 := g.dr hD0
    rw [he] at g0
    refine k t g0 ⟨by omega, (g.1 94 36 (by omega) (by omega)).trans up_e, fun i hi => ?_⟩ (fun b r q1 q2 q3 q4 => ?_)
    · have := p3 (i + 1) (by omega)
      rw [show (2 : Int) + ((z + 1 : Nat) : Int) - ((i + 1 : Nat) : Int) = 2 + (z : Int) - (i : Int) by omega] at this
      exact g.drfar hn0 (by omega) ((this.up (by decide)).up (by decide))
    · rw [g.1 b r (by omega) (by omega), up_f (by omega), up_f (by omega)]
  · exfalso
    omega
theorem r_undoN (hu : PUs 0 Hs rf sl yr la s) (k : Q (some (vI (-1))) (HP h0 (up s 94 0 0))) : wpM PP d 179 [vR 94] (HP h0 s) Q := by
  refine n_at (m := 179) (q := mr179) (kn := (0, 1)) [some (vR _)] mb179 rfl rfl (h_rcv sc_94) (Nat.le_of_ble_eq_true rfl) rfl rfl ?_
  refine x_aload rfl ?_
  refine x_ci ?_
  refine h_putI 0 sc_94 rfl rfl ?_
  refine x_aload rfl ?_
  refine h_getI 36 sc_94 rfl rfl ?_
  rw [up_i (by decide), hu.2.1]
  refine n_if_ne ⟨by omega, by omega⟩ (fun c1 => ?_) (fun c1 => ?_)
  · exact absurd rfl c1
  · refine x_ci ?_
    refine x_iret ?_
    exact k
end PY
