/-! SEARCH: looseRows, danceBack of the class -/
section PC6
variable {d tp : Nat} {h0 : pheap} {s : St} {Q : Option pv → pheap → Prop} {L : Int} {n zqq K N : Nat} {c c' : Int → Int}
theorem tpW_0f : ∀ l : Fin 64, tpO (ordN ((l : Nat) : Int) 6) (cnt ((l : Nat) : Int)).toNat (cnt ((l : Nat) : Int)).toNat = 0 := by decide +kernel
theorem tpW_0 (hL : 0 ≤ L ∧ L < 64) : tpW L c 0 = 0 := by
  have := tpW_0f ⟨L.toNat, by omega⟩
  simp only [Int.toNat_of_nonneg hL.1] at this
  exact this
theorem t_sk {x y e : Int} {m : Nat} (h : x = y) (k : wpM PP d m [vR 82, vI e, vI y] (HP h0 s) Q) : wpM PP d m [vR 82, vI e, vI x] (HP h0 s) Q := h ▸ k
abbrev kOf (L : Int) : Nat := (2 * cnt L - 2).toNat
/-- how many rows of r codes from nothing are LOOSE -/
def lrA (L : Int) (r : Nat) : Int := scN (gdB L) (kOf L) r c00 0
/-- the shortest row: its length, itself -/
def shF (S : Nat → Option (List Nat)) : Nat → Nat → Option (Nat × List Nat)
  | _, 0 => none
  | j, k + 1 => match S j with
    | some wqq => some (j, wqq)
    | none => shF S (j + 1) k
theorem shF_y {S : Nat → Option (List Nat)} {j k : Nat} {wqq : List Nat} (h : S j = some wqq) : shF S j (k + 1) = some (j, wqq) := by
  show (match S j with | some wqq => some (j, wqq) | none => shF S (j + 1) k) = _
  rw [h]
theorem shF_n {S : Nat → Option (List Nat)} {j k : Nat} (h : S j = none) : shF S j (k + 1) = shF S (j + 1) k := by
  show (match S j with | some wqq => some (j, wqq) | none => shF S (j + 1) k) = _
  rw [h]
/-- what is told of a row found -/
def bkA (o : Option (Nat × List Nat)) (wqq : Int) : Int := match o with
  | none => -2
  | some (r, l) => if wqq = 0 then (r : Int) else if 0 < wqq ∧ wqq ≤ r then ((l.getD (wqq.toNat - 1) 0 : Nat) : Int) else -2
theorem m_countLoose (hd : 26 ≤ d) (hL : 0 ≤ L ∧ L < 64) {r : Nat} (hr : r ≤ 4) (k : ∀ tqq, (∀ (b : Nat) (q : Int), ¬ (83 ≤ b ∧ b ≤ 86) → ¬ (b = 88 ∨ b = 89) → ¬ b = 82 → tqq b q = s b q) → Q (some (vI (lrA L r))) (HP h0 tqq)) : wpM PP d 260 [vR 82, vI L, vI (r : Int)] (HP h0 s) Q := by
  have hct := cnt_R L
  refine n_at (m := 260) (q := mr260) (kn := (0, 3)) [some (vR _), some (vI _), some (vI _)] mb260 rfl rfl (h_rcv sc_82) (Nat.le_of_ble_eq_true rfl) rfl rfl ?_
  refine x_aload rfl ?_
  refine h_getR sc_82 rfl (by omega) ?_
  refine x_iload rfl ?_
  refine n_call [vR _, vI _] [] (by omega) (Nat.le_of_ble_eq_true rfl) rfl rfl (Nat.le_of_ble_eq_true rfl) ?_
  refine m_begin (c := c00) pl_83 (by omega) hL (fun tqq t1qq t2qq t3qq => ?_)
  show wp PP _ _ _ [some (vR _), some (vI _), some (vI _)] [] _ _
  refine x_aload rfl ?_
  refine x_ci ?_
  refine h_putI 4 sc_82 rfl rfl ?_
  refine x_aload rfl ?_
  refine x_iload rfl ?_
  refine h_putI 3 sc_82 rfl rfl ?_
  refine x_aload rfl ?_
  refine x_ci ?_
  refine h_putZ 5 sc_82 rfl rfl (by first | exact bI_01 _ | omega) ?_
  refine x_aload rfl ?_
  refine x_ci ?_
  refine h_putI 6 sc_82 rfl rfl ?_
  refine x_aload rfl ?_
  refine x_ci ?_
  refine x_ci ?_
  refine n_call [vR _, vI _, vI _] [] (by omega) (Nat.le_of_ble_eq_true rfl) rfl rfl (Nat.le_of_ble_eq_true rfl) ?_
  refine t_sk (tpW_0 hL (c := c00)).symm ?_
  refine m_seekB (cf := 1) (K := kOf L) (fo := 0) (Or.inr rfl) rfl r (by omega) ((((t1qq.up (by omega)).up (by omega)).up (by omega)).up (by omega)) (by omega) (by rw [up_i (by decide), up_i (by decide), up_e]; omega) (by omega) (by rw [up_i (by decide), up_i (by decide), up_i (by decide), up_e]) (by rw [up_i (by decide), up_e]) up_e (fun f0 => absurd f0 (by decide)) (fun _ uqq u1qq u2qq u3qq u4qq => ?_)
  show wp PP _ _ _ _ [vI _] _ _
  refine x_popI ?_
  refine x_aload rfl ?_
  refine h_getI 6 sc_82 rfl rfl ?_
  rw [u3qq]
  refine x_iret ?_
  refine cI (k uqq (fun b q q1 q2 q3 => ?_)) (by rw [if_pos rfl]; unfold lrA; omega)
  rw [u4qq b q q1 (by omega) (by omega) (by omega), up_f (by omega), up_f (by omega), up_f (by omega), up_f (by omega)]
  exact t3qq b (by omega) q
theorem m_looseRows (hd : 28 ≤ d) (hp : PL 54 L n c s) {wqq : Int} (hw : iR wqq) (kY : 0 ≤ wqq ∧ wqq ≤ 4 → ∀ tqq, lkC tp s tqq → Q (some (vI (lrA L wqq.toNat))) (HP h0 tqq)) (kN : ¬ (0 ≤ wqq ∧ wqq ≤ 4) → Q (some (vI (-1))) (HP h0 s)) : wpM PP d 29 [vR 32, vI wqq] (HP h0 s) Q := by
  refine n_at (m := 29) (q := mr29) (kn := (0, 2)) [some (vR _), some (vI _)] mb29 rfl rfl (h_rcv sc_32) (Nat.le_of_ble_eq_true rfl) rfl rfl ?_
  refine x_iload rfl ?_
  refine n_if_lt ⟨by omega, by omega⟩ (fun c1 => ?_) (fun c1 => ?_)
  · refine x_ci ?_
    refine x_iret ?_
    first
      | exact kN (by omega)
      | exact kY (by omega) tqq (fun b q q1 q2 q3 q4 => t1qq b q (by omega) (by omega) (by omega))
  · refine x_iload rfl ?_
    refine x_ci ?_
    refine n_icmp_le ⟨by omega, by omega⟩ ⟨by omega, by omega⟩ (fun c2 => ?_) (fun c2 => ?_)
    · refine x_aload rfl ?_
      refine h_getR sc_32 rfl (by omega) ?_
      refine x_aload rfl ?_
      refine h_getR sc_32 rfl (by omega) ?_
      refine h_getR sc_53 rfl (by omega) ?_
      refine h_getI 3 sc_54 rfl rfl ?_
      rw [hp.left]
      refine x_iload rfl ?_
      refine n_call [vR _, vI _, vI _] [] (by omega) (Nat.le_of_ble_eq_true rfl) rfl rfl (Nat.le_of_ble_eq_true rfl) ?_
      obtain ⟨r, hr⟩ : ∃ r : Nat, wqq = r := ⟨wqq.toNat, by omega⟩
      subst hr
      refine m_countLoose (by omega) hp.hL (r := r) (by omega) (fun tqq t1qq => ?_)
      show wp PP _ _ _ [some (vR _), some (vI _)] [vI _] _ _
      refine x_iret ?_
      first
        | exact kN (by omega)
        | exact kY (by omega) tqq (fun b q q1 q2 q3 q4 => t1qq b q (by omega) (by omega) (by omega))
    · refine x_fall ?_
      refine x_ci ?_
      refine x_iret ?_
      first
        | exact kN (by omega)
        | exact kY (by omega) tqq (fun b q q1 q2 q3 q4 => t1qq b q (by omega) (by omega) (by omega))
end PC6
