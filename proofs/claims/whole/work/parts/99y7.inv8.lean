/-! THE DANCER's half of the class: who is not left passes nobody; thrown -/
section INV8
variable {d a : Nat} {h0 : pheap} {s tqq uqq : St} {Q : Option pv → pheap → Prop} {L : Int} {n : Nat} {c : Int → Int}
theorem paf_no {x : Int} (hx : bt L x ≠ 1) : paf L x = -1 := if_neg (fun y => hx y.2.2)
theorem wP_no {ov x : Int} (hL : 0 ≤ L ∧ L < 64) (hx : bt L x ≠ 1) : ∀ n : Nat, vC L c n → wP L c ov x n = 0
  | 0, _ => rfl
  | n + 1, vqq => by
    have v2qq : vC L c n := fun i i0 i1 => vqq i i0 (by omega)
    have ih := wP_no (ov := ov) hL hx n v2qq
    have cv := vqq n (by omega) (by omega)
    have wqq := wO_R hL v2qq (c n / 2 + (if (c n % 2 = 0 ↔ ov = 1) then 0 else 1)) (by split <;> omega) (by split <;> omega)
    show wP L c ov x n + bI (who L c ov n = x) = 0
    have e : ¬ who L c ov n = x := fun y => hx (by rw [← y]; exact wqq.2.2)
    rw [ih]
    unfold bI
    rw [if_neg e]
    rfl
theorem m_passesNo (hP : isPl a) (hd : 2 ≤ d) (hp : PL a L n c s) {x ov : Int} (hx6 : 0 ≤ x ∧ x < 6) (hx : bt L x ≠ 1) (k : Q (some (vI 0)) (HP h0 s)) : wpM PP d 220 [vR a, vI x, vI ov] (HP h0 s) Q := by
  have hL := hp.1
  have n52 := hp.2.1
  refine n_at (m := 220) (q := mr220) (kn := (0, 3)) [some (vR _), some (vI _), some (vI _), none, none, none, none, none, none] mb220 rfl rfl (h_rcv hP.1) (Nat.le_of_ble_eq_true rfl) rfl rfl ?_
  refine x_ci ?_
  refine n_istore [some (vR _), some (vI _), some (vI _), some (vI _), _, _, _, _, _] (Nat.le_of_ble_eq_true rfl) rfl ?_
  refine x_aload rfl ?_
  refine x_iload rfl ?_
  refine n_call [vR _, vI _] [] (by omega) (Nat.le_of_ble_eq_true rfl) rfl rfl (Nat.le_of_ble_eq_true rfl) ?_
  refine m_placeAtFirst hP (by omega) (by rw [hp.2.2.2.1]; exact hL) (by omega) ?_
  rw [hp.2.2.2.1, paf_no hx]
  show wp PP _ _ _ [some (vR _), some (vI _), some (vI _), some (vI _), _, _, _, _, _] [vI _] _ _
  refine n_istore [some (vR _), some (vI _), some (vI _), some (vI _), some (vI _), _, _, _, _] (Nat.le_of_ble_eq_true rfl) rfl ?_
  refine x_ci ?_
  refine n_istore [some (vR _), some (vI _), some (vI _), some (vI _), some (vI _), some (vI _), _, _, _] (Nat.le_of_ble_eq_true rfl) rfl ?_
  refine x_fall ?_
  refine x_iload rfl ?_
  refine x_aload rfl ?_
  refine h_getI 5 hP.1 rfl rfl ?_
  rw [hp.2.2.2.2.2.1]
  refine n_icmp_ge ⟨by omega, by omega⟩ ⟨by omega, by omega⟩ (fun c1 => ?_) (fun c1 => ?_)
  · refine x_iload rfl ?_
    refine x_iret ?_
    exact k
  · refine x_iload rfl ?_
    refine x_ci ?_
    refine n_icmp_eq ⟨by omega, by omega⟩ ⟨by omega, by omega⟩ (fun c2 => ?_) (fun c2 => ?_)
    · refine x_iload rfl ?_
      refine x_iret ?_
      exact k
    · refine x_aload rfl ?_
      refine x_iload rfl ?_
      exfalso
      omega
theorem r_thrown (k : Q (some (vI (s 94 0))) (HP h0 s)) : wpM PP d 58 [vR 94] (HP h0 s) Q := by
  refine n_at (m := 58) (q := mr58) (kn := (0, 1)) [some (vR _)] mb58 rfl rfl (h_rcv sc_94) (Nat.le_of_ble_eq_true rfl) rfl rfl ?_
  refine x_aload rfl ?_
  refine h_getI 0 sc_94 rfl rfl ?_
  refine x_iret ?_
  exact k
end INV8
