/-! SEARCH, the class: begin, told, suits (LOOSE) -/
section PC3
variable {d tp : Nat} {h0 : pheap} {s : St} {Q : Option pv → pheap → Prop} {L : Int} {n zqq K N : Nat} {c c' : Int → Int}
theorem m_beginBack (hd : 13 ≤ d) (hp : PL 54 L n c s) (k : ∀ tqq, PL 83 L n c tqq → tqq 82 4 = -1 → (∀ (b : Nat) (r : Int), ¬ (83 ≤ b ∧ b ≤ 86) → ¬ (b = 82 ∧ r = 4) → tqq b r = s b r) → Q none (HP h0 tqq)) : wpM PP d 257 [vR 82, vR 54] (HP h0 s) Q := by
  refine n_at (m := 257) (q := mr257) (kn := (0, 2)) [some (vR _), some (vR _)] mb257 rfl rfl (h_rcv sc_82) (Nat.le_of_ble_eq_true rfl) rfl rfl ?_
  refine x_aload rfl ?_
  refine h_getR sc_82 rfl (by omega) ?_
  refine x_aload rfl ?_
  refine n_call [vR _, vR _] [] (by omega) (Nat.le_of_ble_eq_true rfl) rfl rfl (Nat.le_of_ble_eq_true rfl) ?_
  refine m_takeFrom pl_83 pl_54 (by omega) (by omega) hp (fun tqq t1qq t2qq => ?_)
  show wp PP _ _ _ [some (vR _), some (vR _)] [] _ _
  refine x_aload rfl ?_
  refine x_ci ?_
  refine h_putI 4 sc_82 rfl rfl ?_
  refine x_ret ?_
  exact k _ (t1qq.up (by omega)) up_e (fun b r q1 q2 => by rw [up_f (by omega)]; exact t2qq b (by omega) r)
theorem m_beginMake (hd : 13 ≤ d) (hL : 0 ≤ L ∧ L < 64) {pr : Int} (k : ∀ tqq, PL 83 L 0 c tqq → tqq 82 4 = pr → (∀ (b : Nat) (r : Int), ¬ (83 ≤ b ∧ b ≤ 86) → ¬ (b = 82 ∧ r = 4) → tqq b r = s b r) → Q none (HP h0 tqq)) : wpM PP d 258 [vR 82, vI L, vI pr] (HP h0 s) Q := by
  refine n_at (m := 258) (q := mr258) (kn := (0, 3)) [some (vR _), some (vI _), some (vI _)] mb258 rfl rfl (h_rcv sc_82) (Nat.le_of_ble_eq_true rfl) rfl rfl ?_
  refine x_aload rfl ?_
  refine h_getR sc_82 rfl (by omega) ?_
  refine x_iload rfl ?_
  refine n_call [vR _, vI _] [] (by omega) (Nat.le_of_ble_eq_true rfl) rfl rfl (Nat.le_of_ble_eq_true rfl) ?_
  refine m_begin (c := c) pl_83 (by omega) hL (fun tqq t1qq t2qq t3qq => ?_)
  show wp PP _ _ _ [some (vR _), some (vI _), some (vI _)] [] _ _
  refine x_aload rfl ?_
  refine x_iload rfl ?_
  refine h_putI 4 sc_82 rfl rfl ?_
  refine x_ret ?_
  exact k _ (t1qq.up (by omega)) up_e (fun b r q1 q2 => by rw [up_f (by omega)]; exact t3qq b (by omega) r)
theorem m_stold (hd : 1 ≤ d) {zqq wqq : Int} (hz : -2 ≤ zqq ∧ zqq ≤ 4) (hw : iR wqq) (k0 : wqq = 0 → Q (some (vI zqq)) (HP h0 s)) (k1 : 0 < wqq ∧ wqq ≤ zqq → Q (some (vI (s 89 (wqq - 1)))) (HP h0 s)) (k2 : ¬ wqq = 0 → ¬ (0 < wqq ∧ wqq ≤ zqq) → Q (some (vI (-2))) (HP h0 s)) : wpM PP d 261 [vR 82, vI zqq, vI wqq] (HP h0 s) Q := by
  refine n_at (m := 261) (q := mr261) (kn := (0, 3)) [some (vR _), some (vI _), some (vI _)] mb261 rfl rfl (h_rcv sc_82) (Nat.le_of_ble_eq_true rfl) rfl rfl ?_
  refine x_iload rfl ?_
  refine n_if_ne ⟨by omega, by omega⟩ (fun c1 => ?_) (fun c1 => ?_)
  · refine x_iload rfl ?_
    refine n_if_le ⟨by omega, by omega⟩ (fun c2 => ?_) (fun c2 => ?_)
    · refine x_ci ?_
      refine x_fall ?_
      refine x_iret ?_
      first
        | exact k0 (by omega)
        | exact k1 (by omega)
        | exact k2 (by omega) (by omega)
    · refine x_iload rfl ?_
      refine x_iload rfl ?_
      refine n_icmp_gt ⟨by omega, by omega⟩ ⟨by omega, by omega⟩ (fun c3 => ?_) (fun c3 => ?_)
      · refine x_ci ?_
        refine x_fall ?_
        refine x_iret ?_
        first
          | exact k0 (by omega)
          | exact k1 (by omega)
          | exact k2 (by omega) (by omega)
      · refine x_iload rfl ?_
        refine x_aload rfl ?_
        refine h_getR sc_82 rfl (by omega) ?_
        refine h_alen 4 sc_89 (by decide) rfl ?_
        refine n_icmp_gt ⟨by omega, by omega⟩ ⟨by omega, by omega⟩ (fun c4 => ?_) (fun c4 => ?_)
        · refine x_ci ?_
          refine x_fall ?_
          refine x_iret ?_
          first
            | exact k0 (by omega)
            | exact k1 (by omega)
            | exact k2 (by omega) (by omega)
        · refine x_aload rfl ?_
          refine h_getR sc_82 rfl (by omega) ?_
          refine x_iload rfl ?_
          refine x_ci ?_
          refine x_isub ?_
          refine h_iald sc_89 ⟨by omega, by omega⟩ (by decide) ?_
          refine x_goto ?_
          refine x_iret ?_
          first
            | exact k0 (by omega)
            | exact k1 (by omega)
            | exact k2 (by omega) (by omega)
  · refine x_iload rfl ?_
    refine x_iret ?_
    first
      | exact k0 (by omega)
      | exact k1 (by omega)
      | exact k2 (by omega) (by omega)
theorem m_suitsB (hd : 13 ≤ d) (hp : PL 83 L n c s) (h4 : s 82 4 = -1) {cf fo : Int} (h5 : s 82 5 = cf) (hcf : cf = 0 ∨ cf = 1) (h6 : s 82 6 = fo) (kY : (wC L c n = 0 ∧ lsP c n) → ∀ tqq, tqq 82 6 = fo + 1 → (∀ (b : Nat) (r : Int), ¬ b = 88 → ¬ (b = 82 ∧ r = 6) → tqq b r = s b r) → Q (some (vI (1 - cf))) (HP h0 tqq)) (kN : ¬ (wC L c n = 0 ∧ lsP c n) → ∀ tqq, (∀ (b : Nat) (r : Int), ¬ b = 88 → tqq b r = s b r) → Q (some (vI 0)) (HP h0 tqq)) : wpM PP d 263 [vR 82] (HP h0 s) Q := by
  have wr := wC_is hp.hL hp.v
  have wr2 := b2N_R (L := L) (c := c) (n := n) 6
  refine n_at (m := 263) (q := mr263) (kn := (0, 1)) [some (vR _)] mb263 rfl rfl (h_rcv sc_82) (Nat.le_of_ble_eq_true rfl) rfl rfl ?_
  refine x_aload rfl ?_
  refine h_getI 4 sc_82 rfl rfl ?_
  rw [h4]
  refine x_ci ?_
  refine n_icmp_eq ⟨by omega, by omega⟩ ⟨by omega, by omega⟩ (fun c1 => ?_) (fun c1 => ?_)
  · refine x_aload rfl ?_
    refine h_getR sc_82 rfl (by omega) ?_
    refine h_getI 6 sc_83 rfl rfl ?_
    rw [hp.bound]
    refine n_if_ne ⟨by omega, by omega⟩ (fun c2 => ?_) (fun c2 => ?_)
    · refine x_ci ?_
      refine x_zret (by first | exact bI_01 _ | omega) ?_
      first
        | (exfalso; omega)
        | exact kN (fun q => by have := q.1; omega) s (fun _ _ _ => rfl)
        | exact kN (fun q => by have := q.2; contradiction) tqq (fun b r q => t2qq b (by omega) r)
        | exact cI (kY ⟨by omega, by assumption⟩ _ up_e (fun b r q1 q2 => by rw [up_f (by omega)]; exact t2qq b (by omega) r)) (by omega)
    · refine x_aload rfl ?_
      refine h_getR sc_82 rfl (by omega) ?_
      refine x_aload rfl ?_
      refine h_getR sc_82 rfl (by omega) ?_
      refine n_call [vR _, vR _] [] (by omega) (Nat.le_of_ble_eq_true rfl) rfl rfl (Nat.le_of_ble_eq_true rfl) ?_
      refine m_straightens co_87 pl_83 (by omega) (by omega) hp (fun i hi => wR_B60 (by have := hp.hn; omega) (fun j j0 j1 => hp.v.ten j j0 (by omega))) (fun tqq t1qq t2qq => ?_)
      have g5 : tqq 82 5 = cf := (t2qq 82 (by omega) 5).trans h5
      have g6 : tqq 82 6 = fo := (t2qq 82 (by omega) 6).trans h6
      show wp PP _ _ _ [some (vR _)] [vI _] _ _
      refine z_if_ne (fun c3 => ?_) (fun c3 => ?_)
      · refine x_aload rfl ?_
        refine x_dupR ?_
        refine h_getI 6 sc_82 rfl rfl ?_
        rw [g6]
        refine x_ci ?_
        refine x_iadd ?_
        refine h_putI 6 sc_82 rfl rfl ?_
        refine x_aload rfl ?_
        refine h_getZ 5 sc_82 rfl rfl ?_
        rw [up_i (by decide), g5]
        refine n_if_ne ⟨by omega, by omega⟩ (fun c4 => ?_) (fun c4 => ?_)
        · refine x_ci ?_
          refine x_fall ?_
          refine x_zret (by first | exact bI_01 _ | omega) ?_
          first
            | (exfalso; omega)
            | exact kN (fun q => by have := q.1; omega) s (fun _ _ _ => rfl)
            | exact kN (fun q => by have := q.2; contradiction) tqq (fun b r q => t2qq b (by omega) r)
            | exact cI (kY ⟨by omega, by assumption⟩ _ up_e (fun b r q1 q2 => by rw [up_f (by omega)]; exact t2qq b (by omega) r)) (by omega)
        · refine x_ci ?_
          refine x_goto ?_
          refine x_zret (by first | exact bI_01 _ | omega) ?_
          first
            | (exfalso; omega)
            | exact kN (fun q => by have := q.1; omega) s (fun _ _ _ => rfl)
            | exact kN (fun q => by have := q.2; contradiction) tqq (fun b r q => t2qq b (by omega) r)
            | exact cI (kY ⟨by omega, by assumption⟩ _ up_e (fun b r q1 q2 => by rw [up_f (by omega)]; exact t2qq b (by omega) r)) (by omega)
      · refine x_fall ?_
        refine x_ci ?_
        refine x_zret (by first | exact bI_01 _ | omega) ?_
        first
          | (exfalso; omega)
          | exact kN (fun q => by have := q.1; omega) s (fun _ _ _ => rfl)
          | exact kN (fun q => by have := q.2; contradiction) tqq (fun b r q => t2qq b (by omega) r)
          | exact cI (kY ⟨by omega, by assumption⟩ _ up_e (fun b r q1 q2 => by rw [up_f (by omega)]; exact t2qq b (by omega) r)) (by omega)
  · exfalso
    omega
end PC3
