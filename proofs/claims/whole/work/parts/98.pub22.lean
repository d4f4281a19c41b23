/-! FITS -/
section PB4
variable {d tp : Nat} {h0 : pheap} {s : St} {Q : Option pv → pheap → Prop} {L : Int} {n zqq K N : Nat} {c c' : Int → Int} {kf : Int} {kd on ot mu ia : Int → Int}
def ftC (c : Int → Int) (x vqq : Int) : Int → Int := fun i => if i = x then vqq else c i
abbrev ftX (kd on : Int → Int) (zqq : Nat) (kf : Int) : Int → Int := stF kd on (kz zqq kf) (kz zqq kf).toNat
abbrev ftP (L : Int) (n : Nat) (c : Int → Int) (x : Int) (zqq : Nat) (kf : Int) (kd on ot mu ia : Int → Int) (k : Nat) : Prop := allP (kz zqq kf).toNat (ftX kd on zqq kf) L n (ftC c x k) kd on ot mu ia
def ftA (L : Int) (n : Nat) (c : Int → Int) (x : Int) (zqq : Nat) (kf : Int) (kd on ot mu ia : Int → Int) : Nat → Int
  | 0 => 0
  | k + 1 => ftA L n c x zqq kf kd on ot mu ia k + (if ftP L n c x zqq kf kd on ot mu ia k then 2 ^ k else 0)
theorem ftA_R {x : Int} : ∀ k : Nat, 0 ≤ ftA L n c x zqq kf kd on ot mu ia k ∧ ftA L n c x zqq kf kd on ot mu ia k < 2 ^ k
  | 0 => by simp [ftA]
  | k + 1 => by
    have := ftA_R (x := x) k
    simp only [ftA, Int.pow_succ]
    split <;> omega
theorem ftC_v {x vqq : Int} (h : vC L c n) (hv : 0 ≤ vqq ∧ vqq < 2 * (cnt L - 1)) : vC L (ftC c x vqq) n := fun i i0 i1 => by
  unfold ftC
  split
  · exact hv
  · exact h i i0 i1
theorem pow_cap {k : Nat} (h : k ≤ 10) : (2 : Int) ^ k ≤ 1024 := by
  have e : k = 0 ∨ k = 1 ∨ k = 2 ∨ k = 3 ∨ k = 4 ∨ k = 5 ∨ k = 6 ∨ k = 7 ∨ k = 8 ∨ k = 9 ∨ k = 10 := by omega
  rcases e with rfl | rfl | rfl | rfl | rfl | rfl | rfl | rfl | rfl | rfl | rfl <;> decide
theorem m_fits (hd : 14 ≤ d) (hp : PL 54 L n c s) (hr : RC zqq kf kd on ot mu ia s) (ho : okR zqq kf kd on ot mu ia) {x : Int} (hx : iR x) (kY : 0 ≤ x ∧ x < n → ∀ tqq, lkC tp s tqq → Q (some (vI (ftA L n c x zqq kf kd on ot mu ia (2 * cnt L - 2).toNat))) (HP h0 tqq)) (kN : ¬ (0 ≤ x ∧ x < n) → Q (some (vI (-1))) (HP h0 s)) : wpM PP d 37 [vR 32, vI x] (HP h0 s) Q := by
  have hct := cnt_R L
  have LL : (hxn : 0 ≤ x ∧ x < n) → (kL : ∀ tqq, lkC tp s tqq → Q (some (vI (ftA L n c x zqq kf kd on ot mu ia (2 * cnt L - 2).toNat))) (HP h0 tqq)) → ∀ uqq : St, PL 64 L n c uqq → (∀ b : Nat, (b < 63 ∨ (69 < b ∧ ¬ b = 81)) → ∀ r, uqq b r = s b r) → (∀ r : Int, 0 ≤ r → r < 24 → uqq 81 r = ftX kd on zqq kf r) → wp PP d mb37 (mb37.getD 2 []) [some (vR 32), some (vI x), some (vI 0), some (vI 0)] [] (HP h0 uqq) Q := by
    intro hxn kL u0qq h1 h2 h3
    have L1 : ∀ M : Nat, ∀ (k : Nat) (kk : Int) (wqq : Int) (cc : Int → Int) (tqq : St), (kk = k) → (M = 10 - k ∧ k ≤ 10 ∧ (k : Int) ≤ max 0 (2 * (cnt L - 1))) → (wqq = ftA L n c x zqq kf kd on ot mu ia k) → (PL 64 L n cc tqq) → (∀ q : Int, q ≠ x → 0 ≤ q → q < n → cc q = c q) → (∀ b : Nat, (b < 63 ∨ (69 < b ∧ ¬ b = 81)) → ∀ r, tqq b r = s b r) → (∀ r : Int, 0 ≤ r → r < 24 → tqq 81 r = ftX kd on zqq kf r) →  wp PP d mb37 (mb37.getD 2 []) [some (vR 32), some (vI x), some (vI wqq), some (vI kk)] [] (HP h0 tqq) Q := by
      refine s_ind (fun M ih => ?_)
      intro k kk wqq cc tqq hkk hM hw g1 g2 g3 g81
      subst hkk
      have wR : 0 ≤ ftA L n c x zqq kf kd on ot mu ia k ∧ ftA L n c x zqq kf kd on ot mu ia k < 2 ^ k := ftA_R k
      have pc := pow_cap (k := k) (by omega)
      rw [← hw] at wR
      refine x_iload rfl ?_
      refine x_aload rfl ?_
      refine h_getR sc_32 rfl (by omega) ?_
      refine h_getR sc_53 rfl (by omega) ?_
      refine n_call [vR _] [vI _] (by omega) (Nat.le_of_ble_eq_true rfl) rfl rfl (Nat.le_of_ble_eq_true rfl) ?_
      have hpt : PL 54 L n c tqq := PLout hp (fun b q1 q2 r => g3 b (by omega) r)
      refine m_codeCount pl_54 (by omega) (by rw [hpt.count]; omega) ?_
      rw [hpt.count]
      show wp PP _ _ _ [some (vR _), some (vI _), some (vI _), some (vI _)] [vI _, vI _] _ _
      refine n_icmp_ge ⟨by omega, by omega⟩ ⟨by omega, by omega⟩ (fun c1 => ?_) (fun c1 => ?_)
      · refine x_iload rfl ?_
        refine x_iret ?_
        have e : k = (2 * cnt L - 2).toNat := by omega
        refine cI (kL tqq (fun b r q1 q2 q3 q4 => g3 b (by omega) r)) ?_
        rw [hw, e]
      · refine x_aload rfl ?_
        refine h_getR sc_32 rfl (by omega) ?_
        refine h_getR sc_63 rfl (by omega) ?_
        refine x_iload rfl ?_
        refine x_iload rfl ?_
        refine n_call [vR _, vI _, vI _] [] (by omega) (Nat.le_of_ble_eq_true rfl) rfl rfl (Nat.le_of_ble_eq_true rfl) ?_
        refine m_setCode pl_64 (by rw [g1.size]; have := g1.hn; omega) (by rw [g1.size]; omega) ?_
        show wp PP _ _ _ [some (vR _), some (vI _), some (vI _), some (vI _)] [] _ _
        refine x_aload rfl ?_
        refine h_getR sc_32 rfl (by omega) ?_
        refine h_getR sc_63 rfl (by omega) ?_
        refine n_call [vR _] [] (by omega) (Nat.le_of_ble_eq_true rfl) rfl rfl (Nat.le_of_ble_eq_true rfl) ?_
        refine m_walk (L := L) (n := n) (c := ftC c x k) pl_64 (by omega) ((up_a (by decide)).trans g1.left) hp.hL ((up_a (by decide)).trans g1.size) g1.hn (ftC_v hp.v (by omega)) (fun q q0 q1 => ?_) (fun uqq u1qq u2qq => ?_)
        · unfold ftC
          by_cases e : q = x
          · rw [e, up_e, if_pos rfl]
          · rw [up_i e, if_neg e, g1.code q0 q1]
            exact g2 q e q0 q1
        have fu : ∀ b : Nat, (b < 63 ∨ (69 < b ∧ ¬ b = 81)) → ∀ r, uqq b r = s b r := fun b q r => by
          rw [u2qq b (by omega) r, up_a (by omega)]
          exact g3 b q r
        have f81 : ∀ r : Int, 0 ≤ r → r < 24 → uqq 81 r = ftX kd on zqq kf r := fun r r0 r1 => by
          rw [u2qq 81 (by omega) r, up_a (by omega)]
          exact g81 r r0 r1
        show wp PP _ _ _ [some (vR _), some (vI _), some (vI _), some (vI _)] [] _ _
        refine x_aload rfl ?_
        refine h_getR sc_32 rfl (by omega) ?_
        refine x_aload rfl ?_
        refine h_getR sc_32 rfl (by omega) ?_
        refine h_getR sc_63 rfl (by omega) ?_
        refine n_call [vR _, vR _] [] (by omega) (Nat.le_of_ble_eq_true rfl) rfl rfl (Nat.le_of_ble_eq_true rfl) ?_
        have hru : RC zqq kf kd on ot mu ia uqq := ⟨(fu 75 (by omega) 6).trans hr.1, (fu 75 (by omega) 7).trans hr.2.1, fun i i0 i1 => by
          have := hr.2.2 i i0 i1
          rw [fu 76 (by omega), fu 77 (by omega), fu 78 (by omega), fu 79 (by omega), fu 80 (by omega)]
          exact this⟩
        refine m_areAllSo (by omega) pl_64 u1qq hru ho f81 (fun r => stF_R _ _) ?_
        show wp PP _ _ _ [some (vR _), some (vI _), some (vI _), some (vI _)] [vI _] _ _
        refine z_if_eq (fun c2 => ?_) (fun c2 => ?_)
        · refine n_iinc [some (vR _), some (vI _), some (vI _), some (vI _)] rfl rfl ?_
          refine x_goto ?_
          refine ih (10 - (k + 1)) (by omega) (k + 1) _ _ (ftC c x k) uqq (by omega) (by omega) ?_ u1qq (fun q e q0 q1 => if_neg e) fu f81
          simp only [ftA]
          rw [if_neg (by assumption), hw]
          omega
        · refine x_iload rfl ?_
          refine x_ci ?_
          refine x_iload rfl ?_
          refine x_ishl ?_
          refine x_ior ?_
          rw [or_bit (by omega) (by rw [hw, show ((k : Nat) : Int).toNat = k by omega]; exact ftA_R k), show ((k : Nat) : Int).toNat = k by omega]
          refine n_istore [some (vR _), some (vI _), some (vI _), some (vI _)] (Nat.le_of_ble_eq_true rfl) rfl ?_
          refine x_fall ?_
          refine n_iinc [some (vR _), some (vI _), some (vI _), some (vI _)] rfl rfl ?_
          refine x_goto ?_
          refine ih (10 - (k + 1)) (by omega) (k + 1) _ _ (ftC c x k) uqq (by omega) (by omega) ?_ u1qq (fun q e q0 q1 => if_neg e) fu f81
          simp only [ftA]
          rw [if_pos (by assumption), hw]
    exact L1 10 0 0 0 c u0qq rfl (by omega) rfl h1 (fun _ _ _ _ => rfl) h2 h3
  refine n_at (m := 37) (q := mr37) (kn := (0, 2)) [some (vR _), some (vI _), none, none] mb37 rfl rfl (h_rcv sc_32) (Nat.le_of_ble_eq_true rfl) rfl rfl ?_
  refine x_aload rfl ?_
  refine x_iload rfl ?_
  refine n_call [vR _, vI _] [] (by omega) (Nat.le_of_ble_eq_true rfl) rfl rfl (Nat.le_of_ble_eq_true rfl) ?_
  refine m_isCrossing hp ⟨by omega, by omega⟩ ?_
  show wp PP _ _ _ [some (vR _), some (vI _), _, _] [vI _] _ _
  refine z_if_ne (fun c1 => ?_) (fun c1 => ?_)
  · refine x_aload rfl ?_
    refine h_getR sc_32 rfl (by omega) ?_
    refine n_call [vR _] [] (by omega) (Nat.le_of_ble_eq_true rfl) rfl rfl (Nat.le_of_ble_eq_true rfl) ?_
    refine m_findStruck (by omega) hr ho (fun tqq t1qq t2qq => ?_)
    show wp PP _ _ _ [some (vR _), some (vI _), _, _] [] _ _
    refine x_aload rfl ?_
    refine h_getR sc_32 rfl (by omega) ?_
    refine h_getR sc_63 rfl (by omega) ?_
    refine x_aload rfl ?_
    refine h_getR sc_32 rfl (by omega) ?_
    refine h_getR sc_53 rfl (by omega) ?_
    refine n_call [vR _, vR _] [] (by omega) (Nat.le_of_ble_eq_true rfl) rfl rfl (Nat.le_of_ble_eq_true rfl) ?_
    refine m_takeFrom pl_64 pl_54 (by omega) (by omega) (PLout hp (fun b q1 q2 r => t1qq b (by omega) r)) (fun uqq u1qq u2qq => ?_)
    show wp PP _ _ _ [some (vR _), some (vI _), _, _] [] _ _
    refine x_ci ?_
    refine n_istore [some (vR _), some (vI _), some (vI _), _] (Nat.le_of_ble_eq_true rfl) rfl ?_
    refine x_ci ?_
    refine n_istore [some (vR _), some (vI _), some (vI _), some (vI _)] (Nat.le_of_ble_eq_true rfl) rfl ?_
    refine x_fall ?_
    refine LL (by omega) (kY (by omega)) uqq u1qq (fun b q r => ?_) (fun r r0 r1 => ?_)
    · rw [u2qq b (by omega) r]
      exact t1qq b (by omega) r
    · rw [u2qq 81 (by omega) r]
      exact t2qq r r0 r1
  · refine x_ci ?_
    refine x_iret ?_
    exact kN (by omega)
end PB4
