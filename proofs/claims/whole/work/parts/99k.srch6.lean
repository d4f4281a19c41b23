/-! SEARCH: the shortest; danceBack of the class -/
section PC7
variable {d tp : Nat} {h0 : pheap} {s : St} {Q : Option pv → pheap → Prop} {L : Int} {n zqq K N : Nat} {c c' : Int → Int}
def sFr (s tqq : St) : Prop := ∀ (b : Nat) (q : Int), ¬ (83 ≤ b ∧ b ≤ 86) → ¬ (b = 88 ∨ b = 89) → ¬ b = 82 → tqq b q = s b q
theorem m_shortestB (hd : 26 ≤ d) (hp : PL 83 L n c s) {lg : Nat} (hlg : lg ≤ 4) (hn : n + lg ≤ 52) (h4 : s 82 4 = -1) (kF : ∀ (r : Nat) (wqq : List Nat), shF (fun r => sfN (gdB L) (kOf L) r c n) 0 (lg + 1) = some (r, wqq) → r ≤ lg → ∀ tqq, (∀ i : Nat, i < r → tqq 89 i = ((wqq.getD i 0 : Nat) : Int)) → sFr s tqq → Q (some (vI (r : Int))) (HP h0 tqq)) (kN : shF (fun r => sfN (gdB L) (kOf L) r c n) 0 (lg + 1) = none → ∀ tqq, sFr s tqq → Q (some (vI (-2))) (HP h0 tqq)) : wpM PP d 259 [vR 82, vI (lg : Int)] (HP h0 s) Q := by
  have L1 : ∀ M : Nat, ∀ (j : Nat) (jj : Int) (tqq : St), (jj = j) → (M = lg + 1 - j ∧ j ≤ lg + 1) → (PL 83 L n c tqq) → (tqq 82 4 = -1) → (tqq 82 5 = 0) → (sFr s tqq) → (shF (fun r => sfN (gdB L) (kOf L) r c n) 0 (lg + 1) = shF (fun r => sfN (gdB L) (kOf L) r c n) j (lg + 1 - j)) →  wp PP d mb259 (mb259.getD 1 []) [some (vR 82), some (vI (lg : Int)), some (vI jj)] [] (HP h0 tqq) Q := by
    refine s_ind (fun M ih => ?_)
    intro j jj tqq hjj hM g1 g4 g5 gF g2
    subst hjj
    refine x_iload rfl ?_
    refine x_iload rfl ?_
    refine n_icmp_gt ⟨by omega, by omega⟩ ⟨by omega, by omega⟩ (fun c1 => ?_) (fun c1 => ?_)
    · refine x_ci ?_
      refine x_iret ?_
      have ej : lg + 1 - j = 0 := by omega
      refine kN ?_ tqq gF
      rw [g2, ej]
      rfl
    · refine x_aload rfl ?_
      refine x_iload rfl ?_
      refine h_putI 3 sc_82 rfl rfl ?_
      refine x_aload rfl ?_
      refine x_ci ?_
      refine x_aload rfl ?_
      refine h_getR sc_82 rfl (by omega) ?_
      refine n_call [vR _] [vI _, vR _] (by omega) (Nat.le_of_ble_eq_true rfl) rfl rfl (Nat.le_of_ble_eq_true rfl) ?_
      refine m_turnedPairs pl_83 (by omega) (PL.up g1 (by omega)) ?_
      show wp PP _ _ _ [some (vR _), some (vI _), some (vI _)] [vI _, vI _, vR _] _ _
      refine n_call [vR _, vI _, vI _] [] (by omega) (Nat.le_of_ble_eq_true rfl) rfl rfl (Nat.le_of_ble_eq_true rfl) ?_
      have hn := g1.2.1
      refine m_seekB (cf := 0) (K := kOf L) (Or.inl rfl) rfl j (dep := 0) (by omega) (g1.up (by omega)) (by omega) (by rw [up_e]; omega) (by omega) (by rw [up_i (by decide)]; exact g4) (by rw [up_i (by decide)]; exact g5) rfl (fun _ wqq fw uqq u1qq u2qq u3qq => ?_) (fun fn uqq u1qq u2qq u3qq u4qq => ?_)
      · show wp PP _ _ _ _ [vI _] _ _
        refine n_if_eq ⟨by omega, by omega⟩ (fun zqq => by omega) (fun _ => ?_)
        refine x_iload rfl ?_
        refine x_iret ?_
        refine kF j wqq ?_ (by omega) uqq (fun i hi => ?_) (fun b q q1 q2 q3 => ?_)
        · rw [g2, show lg + 1 - j = (lg - j) + 1 by omega]
          exact shF_y fw
        · have := u1qq i hi
          rw [show (0 : Int) + (i : Int) = i by omega] at this
          exact this
        · rw [u3qq b q q1 (by omega) (by omega) (by omega), up_f (by omega)]
          exact gF b q q1 q2 q3
      · have fn : sfN (gdB L) (kOf L) j c n = none := by
          rcases fn with fn | fn
          · exact absurd fn (by decide)
          · exact fn
        show wp PP _ _ _ _ [vI _] _ _
        refine n_if_eq ⟨by omega, by omega⟩ (fun _ => ?_) (fun zqq => absurd rfl zqq)
        refine n_iinc [_, _, _] rfl rfl ?_
        refine x_goto ?_
        refine ih (lg + 1 - (j + 1)) (by omega) (j + 1) _ uqq (by omega) (by omega) u1qq ?_ ?_ (fun b q q1 q2 q3 => ?_) ?_
        · rw [u4qq 82 4 (by omega) (by omega) (by omega) (by omega), up_i (by decide)]
          exact g4
        · rw [u4qq 82 5 (by omega) (by omega) (by omega) (by omega), up_i (by decide)]
          exact g5
        · rw [u4qq b q q1 (by omega) (by omega) (by omega), up_f (by omega)]
          exact gF b q q1 q2 q3
        · rw [g2, show lg + 1 - j = (lg + 1 - (j + 1)) + 1 by omega]
          exact shF_n fn
  refine n_at (m := 259) (q := mr259) (kn := (0, 2)) [some (vR _), some (vI _), none] mb259 rfl rfl (h_rcv sc_82) (Nat.le_of_ble_eq_true rfl) rfl rfl ?_
  refine x_aload rfl ?_
  refine x_ci ?_
  refine h_putZ 5 sc_82 rfl rfl (by first | exact bI_01 _ | omega) ?_
  refine x_ci ?_
  refine n_istore [some (vR _), some (vI _), some (vI _)] (Nat.le_of_ble_eq_true rfl) rfl ?_
  refine x_fall ?_
  refine L1 (lg + 1) 0 0 _ rfl (by omega) (hp.up (by omega)) ((up_i (by decide)).trans h4) up_e (fun b q q1 q2 q3 => up_f (by omega)) rfl
theorem m_danceBack (hd : 30 ≤ d) (hp : PL 54 L n c s) (hn48 : n ≤ 48) {wqq : Int} (hw : iR wqq) (kY : 0 ≤ wqq ∧ wqq ≤ 3 → ∀ tqq, lkC tp s tqq → Q (some (vI (bkA (shF (fun r => sfN (gdB L) (kOf L) r c n) 0 4) wqq))) (HP h0 tqq)) (kN : ¬ (0 ≤ wqq ∧ wqq ≤ 3) → Q (some (vI (-1))) (HP h0 s)) : wpM PP d 27 [vR 32, vI wqq] (HP h0 s) Q := by
  refine n_at (m := 27) (q := mr27) (kn := (0, 2)) [some (vR _), some (vI _)] mb27 rfl rfl (h_rcv sc_32) (Nat.le_of_ble_eq_true rfl) rfl rfl ?_
  refine x_iload rfl ?_
  refine n_if_lt ⟨by omega, by omega⟩ (fun c1 => ?_) (fun c1 => ?_)
  · refine x_ci ?_
    refine x_iret ?_
    exact kN (by omega)
  · refine x_iload rfl ?_
    refine x_ci ?_
    refine n_icmp_le ⟨by omega, by omega⟩ ⟨by omega, by omega⟩ (fun c2 => ?_) (fun c2 => ?_)
    · refine x_aload rfl ?_
      refine h_getR sc_32 rfl (by omega) ?_
      refine x_aload rfl ?_
      refine h_getR sc_32 rfl (by omega) ?_
      refine h_getR sc_53 rfl (by omega) ?_
      refine n_call [vR _, vR _] [] (by omega) (Nat.le_of_ble_eq_true rfl) rfl rfl (Nat.le_of_ble_eq_true rfl) ?_
      refine m_beginBack (by omega) hp (fun tqq t1qq t2qq t3qq => ?_)
      show wp PP _ _ _ [some (vR _), some (vI _)] [] _ _
      refine x_aload rfl ?_
      refine h_getR sc_32 rfl (by omega) ?_
      refine x_aload rfl ?_
      refine h_getR sc_32 rfl (by omega) ?_
      refine x_ci ?_
      refine n_call [vR _, vI _] [vR _] (by omega) (Nat.le_of_ble_eq_true rfl) rfl rfl (Nat.le_of_ble_eq_true rfl) ?_
      have fr0 : ∀ uqq, sFr tqq uqq → lkC tp s uqq := fun uqq g b q q1 q2 q3 q4 => by
        rw [g b q (by omega) (by omega) (by omega)]
        exact t3qq b q (by omega) (by omega)
      refine m_shortestB (lg := 3) (by omega) t1qq (by omega) (by omega) t2qq (fun r l fl hr uqq u1qq u2qq => ?_) (fun fn uqq u2qq => ?_)
      · show wp PP _ _ _ _ [vI _, vR _] _ _
        refine x_iload rfl ?_
        refine n_call [vR _, vI _, vI _] [] (by omega) (Nat.le_of_ble_eq_true rfl) rfl rfl (Nat.le_of_ble_eq_true rfl) ?_
        have e : bkA (shF (fun r => sfN (gdB L) (kOf L) r c n) 0 4) wqq = if wqq = 0 then (r : Int) else if 0 < wqq ∧ wqq ≤ r then ((l.getD (wqq.toNat - 1) 0 : Nat) : Int) else -2 := by
          rw [fl]
          rfl
        refine m_stold (by omega) ⟨by omega, by omega⟩ hw (fun y => ?_) (fun y => ?_) (fun y y2 => ?_)
        · show wp PP _ _ _ _ [vI _] _ _
          refine x_iret ?_
          refine cI (kY (by omega) uqq (fr0 uqq u2qq)) ?_
          rw [e, if_pos y]
        · show wp PP _ _ _ _ [vI _] _ _
          refine x_iret ?_
          refine cI (kY (by omega) uqq (fr0 uqq u2qq)) ?_
          have := u1qq (wqq.toNat - 1) (by omega)
          rw [show ((wqq.toNat - 1 : Nat) : Int) = wqq - 1 by omega] at this
          rw [e, if_neg (by omega), if_pos y, this]
        · show wp PP _ _ _ _ [vI _] _ _
          refine x_iret ?_
          refine cI (kY (by omega) uqq (fr0 uqq u2qq)) ?_
          rw [e, if_neg y, if_neg y2]
      · show wp PP _ _ _ _ [vI _, vR _] _ _
        refine x_iload rfl ?_
        refine n_call [vR _, vI _, vI _] [] (by omega) (Nat.le_of_ble_eq_true rfl) rfl rfl (Nat.le_of_ble_eq_true rfl) ?_
        have e : bkA (shF (fun r => sfN (gdB L) (kOf L) r c n) 0 4) wqq = -2 := by
          rw [fn]
          rfl
        refine m_stold (by omega) ⟨by omega, by omega⟩ hw (fun y => ?_) (fun y => ?_) (fun y y2 => ?_)
        · show wp PP _ _ _ _ [vI _] _ _
          refine x_iret ?_
          exact cI (kY (by omega) uqq (fr0 uqq u2qq)) e
        · exfalso
          omega
        · show wp PP _ _ _ _ [vI _] _ _
          refine x_iret ?_
          exact cI (kY (by omega) uqq (fr0 uqq u2qq)) e
    · refine x_fall ?_
      refine x_ci ?_
      refine x_iret ?_
      exact kN (by omega)
end PC7
