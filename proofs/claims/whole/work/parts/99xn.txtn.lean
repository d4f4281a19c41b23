/-! TEXT of the class -/
section TXN
variable {d sp tp : Nat} {h0 h : pheap} {s tqq uqq : St} {Q : Option pv → pheap → Prop} {B : Int → Int} {n p q N : Nat} {sz : Int} {D : Nat × (Int → Int)} {T : Nat × (Int → Int) × (Int → Int)} {S E : Int × Int} {K : KS} {L : (Int → Int) × (Int → Int)}
def TXC (sp tp : Nat) (D : Nat × (Int → Int)) (T : Nat × (Int → Int) × (Int → Int)) (S E : Int × Int) (K : KS) (L : (Int → Int) × (Int → Int)) (N : Nat) (s uqq : St) : Prop := uqq 32 2 = (sp : Int) + 1 ∧ uqq 32 3 = (tp : Int) + 1 ∧ uqq 32 4 = 0 ∧ uqq 32 5 = -1 ∧ uqq 32 8 = 0 ∧ uqq 33 1 = 0 ∧ TSC sp D T S E K L uqq ∧ uqq sp 9 = N ∧ DA 53 0 0 0 0 E.2 (L0 D.1) 0 c00 uqq ∧ uqq 70 4 = 0 ∧ uqq 70 5 = 0 ∧ uqq 75 6 = 0 ∧ uqq 75 7 = -1 ∧ ∀ (b : Nat) (r : Int), ¬ b = 33 → ¬ b = 35 → ¬ b = 36 → ¬ (sp ≤ b ∧ b ≤ sp + 7) → ¬ (53 ≤ b ∧ b ≤ 57) → ¬ (b = 32 ∧ (r = 2 ∨ r = 3 ∨ r = 4 ∨ r = 5 ∨ r = 8)) → ¬ (b = 70 ∧ (r = 4 ∨ r = 5)) → ¬ (b = 75 ∧ (r = 6 ∨ r = 7)) → uqq b r = s b r
def TXF (sp : Nat) (f pl : Int) (s uqq : St) : Prop := uqq 32 4 = f ∧ uqq 32 5 = pl ∧ uqq 33 1 = 0 ∧ ∀ (b : Nat) (r : Int), ¬ b = 33 → ¬ b = 35 → ¬ b = 36 → ¬ (sp ≤ b ∧ b ≤ sp + 7) → ¬ (b = 32 ∧ (r = 4 ∨ r = 5)) → uqq b r = s b r
theorem m_text (hd : 23 ≤ d) (hsp : sp = 37 ∨ sp = 45) (htp : tp = 37 ∨ tp = 45) (hne : sp ≠ tp) (hS : isSc sp) (hSt : isSc tp) (hT2 : s 32 2 = (tp : Int) + 1) (hT3 : s 32 3 = (sp : Int) + 1) (h1 : s 33 1 = sz) (hz : 0 ≤ sz ∧ sz ≤ 700) (hB : ∀ i : Int, 0 ≤ i → i < sz → i_and (s 34 i) 255 = B i ∧ 0 ≤ B i ∧ B i < 256) {x : Int} (hx : iR x) (k2 : x < 0 ∨ sz < x → Q (some (vI (-2))) (HP h0 s)) (kF : 0 ≤ x ∧ x ≤ sz → ∀ (f : Int) (pl : Nat) (X : TS), tEnd B x.toNat (0, Y0) (f, pl, X) → f ≠ 0 ∧ f ≠ -1 → ∀ uqq, TXF sp f pl s uqq → Q (some (vI (-1))) (HP h0 uqq)) (kD : 0 ≤ x ∧ x ≤ sz → ∀ (q : Nat) (D : Nat × (Int → Int)) (T : Nat × (Int → Int) × (Int → Int)) (S E : Int × Int) (K : KS) (L : (Int → Int) × (Int → Int)) (N : Nat), tEnd B x.toNat (0, Y0) (-1, 0, (q, D, T, S, E, K, L, N)) → XI D T S E K L → ∀ uqq, TXC sp tp D T S E K L N s uqq → Q (some (vI (N : Int))) (HP h0 uqq)) : wpM PP d 8 [vR 32, vI x] (HP h0 s) Q := by
  refine n_at (m := 8) (q := mr8) (kn := (0, 2)) [some (vR _), some (vI _), none, none] mb8 rfl rfl (h_rcv sc_32) (Nat.le_of_ble_eq_true rfl) rfl rfl ?_
  refine x_iload rfl ?_
  refine n_if_lt ⟨by omega, by omega⟩ (fun c1 => ?_) (fun c1 => ?_)
  · refine x_ci ?_
    refine x_iret ?_
    exact k2 (by omega)
  · refine x_iload rfl ?_
    refine x_aload rfl ?_
    refine h_getR sc_32 rfl (by omega) ?_
    refine h_getI 1 sc_33 rfl rfl ?_
    rw [h1]
    refine n_icmp_le ⟨by omega, by omega⟩ ⟨by omega, by omega⟩ (fun c2 => ?_) (fun c2 => ?_)
    · refine x_aload rfl ?_
      refine h_getR sc_32 rfl (by omega) ?_
      refine x_iload rfl ?_
      refine x_aload rfl ?_
      refine h_getB 3 sc_32 rfl rfl hT3 ?_
      refine n_call [vR _, vI _, vR _] [] (by omega) (Nat.le_of_ble_eq_true rfl) rfl rfl (Nat.le_of_ble_eq_true rfl) ?_
      obtain ⟨n, hn⟩ : ∃ n : Nat, x = n := ⟨x.toNat, by omega⟩
      subst hn
      refine m_reads (B := B) (n := n) (by omega) hsp hS h1 (by omega) hz.2 (fun i i0 i1 => (hB i i0 i1).1) (fun i i0 i1 => (hB i i0 (by omega)).2) (fun q D T S E K L N en hI tqq t1qq t9qq t350 t351 t2qq => ?_) (fun f pl X en hf tqq t350 t351 t2qq => ?_)
      · have r2 : tqq 32 2 = (tp : Int) + 1 := (t2qq 32 2 (by omega) (by omega) (by omega) (by omega)).trans hT2
        have r3 : tqq 32 3 = (sp : Int) + 1 := (t2qq 32 3 (by omega) (by omega) (by omega) (by omega)).trans hT3
        have r3 : ∀ {y zqq wqq : Int}, up (up (up tqq 33 1 y) 32 4 zqq) 32 5 wqq 32 3 = (sp : Int) + 1 := fun {y zqq wqq} => by
          rw [up_i (by decide), up_i (by decide), up_a (by decide)]
          exact r3
        have r2 : ∀ {y zqq wqq : Int}, up (up (up tqq 33 1 y) 32 4 zqq) 32 5 wqq 32 2 = (tp : Int) + 1 := fun {y zqq wqq} => by
          rw [up_i (by decide), up_i (by decide), up_a (by decide)]
          exact r2
        show wp PP _ _ _ _ [vI _] _ _
        refine n_istore [some (vR _), some (vI _), some (vI _), _] (Nat.le_of_ble_eq_true rfl) rfl ?_
        refine x_aload rfl ?_
        refine h_getR sc_32 rfl (by omega) ?_
        refine x_ci ?_
        refine h_putI 1 sc_33 rfl rfl ?_
        refine x_aload rfl ?_
        refine x_aload rfl ?_
        refine h_getR sc_32 rfl (by omega) ?_
        refine h_getI 0 sc_35 rfl rfl ?_
        rw [up_a (by decide)]
        refine h_putI 4 sc_32 rfl rfl ?_
        refine x_aload rfl ?_
        refine x_aload rfl ?_
        refine h_getR sc_32 rfl (by omega) ?_
        refine h_getI 1 sc_35 rfl rfl ?_
        rw [up_a (by decide), up_a (by decide)]
        refine h_putI 5 sc_32 rfl rfl ?_
        refine x_iload rfl ?_
        refine n_if_ne ⟨by omega, by omega⟩ (fun _ => ?_) (fun c9 => by exfalso; omega)
        refine x_aload rfl ?_
        refine h_getB 2 sc_32 rfl rfl r2 ?_
        refine n_astore [some (vR _), some (vI _), some (vI _), some (vR _)] (Nat.le_of_ble_eq_true rfl) rfl ?_
        refine x_aload rfl ?_
        refine x_aload rfl ?_
        refine h_getB 3 sc_32 rfl rfl r3 ?_
        refine h_putR 2 sc_32 rfl rfl ?_
        refine x_aload rfl ?_
        refine x_aload rfl ?_
        refine h_putR 3 sc_32 rfl rfl ?_
        have r2n : ∀ {x : Int}, up (up (up (up (up tqq 33 1 0) 32 4 (tqq 35 0)) 32 5 (tqq 35 1)) 32 2 x) 32 3 ((tp : Int) + 1) 32 2 = x := by
          intro x
          rw [up_i (by decide), up_e]
        refine x_aload rfl ?_
        refine h_getR sc_32 rfl (by omega) ?_
        refine x_aload rfl ?_
        refine h_getB 2 sc_32 rfl rfl r2n ?_
        refine h_getI 1 hS.1 rfl rfl ?_
        rw [(show up (up (up (up (up tqq 33 1 0) 32 4 (tqq 35 0)) 32 5 (tqq 35 1)) 32 2 ((sp : Int) + 1)) 32 3 ((tp : Int) + 1) sp = tqq sp from by funext i; rw [up_a (by omega), up_a (by omega), up_a (by omega), up_a (by omega), up_a (by omega)]), t1qq.1.1]
        refine x_aload rfl ?_
        refine h_getB 2 sc_32 rfl rfl r2n ?_
        refine h_getI 7 hS.1 rfl rfl ?_
        rw [(show up (up (up (up (up tqq 33 1 0) 32 4 (tqq 35 0)) 32 5 (tqq 35 1)) 32 2 ((sp : Int) + 1)) 32 3 ((tp : Int) + 1) sp = tqq sp from by funext i; rw [up_a (by omega), up_a (by omega), up_a (by omega), up_a (by omega), up_a (by omega)]), t1qq.2.2.1.2.2.1]
        refine n_call [vR _, vI _, vI _] [] (by omega) (Nat.le_of_ble_eq_true rfl) rfl rfl (Nat.le_of_ble_eq_true rfl) ?_
        have d6 := hI.1.1
        have e5 := hI.2.2.2.1.2
        refine m_danceBegin (c := c00) da_53 (by omega) ⟨by omega, by omega⟩ ⟨by omega, by omega⟩ (fun uqq u1qq u2qq => ?_)
        have uu : ∀ (b : Nat) (r : Int), ¬ (53 ≤ b ∧ b ≤ 57) → uqq b r = (up (up (up (up (up tqq 33 1 0) 32 4 (tqq 35 0)) 32 5 (tqq 35 1)) 32 2 ((sp : Int) + 1)) 32 3 ((tp : Int) + 1)) b r := fun b r q => u2qq b (by omega) r
        show wp PP _ _ _ [some (vR _), some (vI _), some (vI _), some (vR _)] [] _ _
        refine x_aload rfl ?_
        refine x_ci ?_
        refine h_putZ 8 sc_32 rfl rfl (by first | exact bI_01 _ | omega) ?_
        refine x_aload rfl ?_
        refine h_getR sc_32 rfl (by omega) ?_
        refine n_call [vR _] [] (by omega) (Nat.le_of_ble_eq_true rfl) rfl rfl (Nat.le_of_ble_eq_true rfl) ?_
        refine m_forget ?_
        show wp PP _ _ _ [some (vR _), some (vI _), some (vI _), some (vR _)] [] _ _
        refine x_aload rfl ?_
        refine h_getR sc_32 rfl (by omega) ?_
        refine n_call [vR _] [] (by omega) (Nat.le_of_ble_eq_true rfl) rfl rfl (Nat.le_of_ble_eq_true rfl) ?_
        refine m_rforget ?_
        show wp PP _ _ _ [some (vR _), some (vI _), some (vI _), some (vR _)] [] _ _
        refine x_aload rfl ?_
        have r2z : up (up (up (up (up uqq 32 8 0) 70 4 0) 70 5 0) 75 6 0) 75 7 (-1) 32 2 = (sp : Int) + 1 := by
          rw [up_a (by decide), up_a (by decide), up_a (by decide), up_a (by decide), up_i (by decide), uu 32 2 (by omega), up_i (by decide), up_e]
        have w0qq : ∀ (b : Nat) (r : Int), ¬ (53 ≤ b ∧ b ≤ 57) → ¬ (b = 32 ∧ (r = 2 ∨ r = 3 ∨ r = 4 ∨ r = 5 ∨ r = 8)) → ¬ (b = 33 ∧ r = 1) → ¬ (b = 70 ∧ (r = 4 ∨ r = 5)) → ¬ (b = 75 ∧ (r = 6 ∨ r = 7)) → up (up (up (up (up uqq 32 8 0) 70 4 0) 70 5 0) 75 6 0) 75 7 (-1) b r = tqq b r := fun b r q1 q2 q3 q4 q5 => by
          rw [up_f (by omega), up_f (by omega), up_f (by omega), up_f (by omega), up_f (by omega), uu b r q1, up_f (by omega), up_f (by omega), up_f (by omega), up_f (by omega), up_f (by omega)]
        have e9 : up (up (up (up (up uqq 32 8 0) 70 4 0) 70 5 0) 75 6 0) 75 7 (-1) sp 9 = N := by
          rw [w0qq sp 9 (by omega) (by omega) (by omega) (by omega) (by omega)]
          exact t9qq
        refine h_getB 2 sc_32 rfl rfl r2z ?_
        refine h_getI 9 hS.1 rfl rfl ?_
        rw [e9]
        refine x_iret ?_
        refine kD ⟨by omega, by omega⟩ q D T S E K L N en hI _ ⟨r2z, ?_, ?_, ?_, ?_, ?_, t1qq.of (fun b r q1 q2 => w0qq b r (by omega) (by omega) (by omega) (by omega) (by omega)), e9, ?_, ?_, ?_, ?_, up_e, fun b r q1 q2 q3 q4 q5 q6 q7 q8 => ?_⟩
        · rw [up_a (by decide), up_a (by decide), up_a (by decide), up_a (by decide), up_i (by decide), uu 32 3 (by omega), up_e]
        · rw [up_a (by decide), up_a (by decide), up_a (by decide), up_a (by decide), up_i (by decide), uu 32 4 (by omega), up_i (by decide), up_i (by decide), up_i (by decide), up_e]
          exact t350
        · rw [up_a (by decide), up_a (by decide), up_a (by decide), up_a (by decide), up_i (by decide), uu 32 5 (by omega), up_i (by decide), up_i (by decide), up_e]
          exact t351
        · rw [up_a (by decide), up_a (by decide), up_a (by decide), up_a (by decide), up_e]
        · rw [up_a (by decide), up_a (by decide), up_a (by decide), up_a (by decide), up_a (by decide), uu 33 1 (by omega), up_a (by decide), up_a (by decide), up_a (by decide), up_a (by decide), up_e]
        · obtain ⟨a1, a2, a3, a4, a5, a6⟩ := u1qq
          exact ⟨by rw [up_a (by decide), up_a (by decide), up_a (by decide), up_a (by decide), up_a (by decide)]; exact a1, by rw [up_a (by decide), up_a (by decide), up_a (by decide), up_a (by decide), up_a (by decide)]; exact a2, by rw [up_a (by decide), up_a (by decide), up_a (by decide), up_a (by decide), up_a (by decide)]; exact a3, by rw [up_a (by decide), up_a (by decide), up_a (by decide), up_a (by decide), up_a (by decide)]; exact a4, by rw [up_a (by decide), up_a (by decide), up_a (by decide), up_a (by decide), up_a (by decide)]; exact a5, PLout a6 (fun b q1 q2 r => by rw [up_a (by omega), up_a (by omega), up_a (by omega), up_a (by omega), up_a (by omega)])⟩
        · rw [up_a (by decide), up_a (by decide), up_i (by decide), up_e]
        · rw [up_a (by decide), up_a (by decide), up_e]
        · rw [up_i (by decide), up_e]
        · rw [w0qq b r q5 q6 (by omega) q7 q8]
          exact t2qq b r (by omega) q2 q3 q4
      · show wp PP _ _ _ _ [vI _] _ _
        refine n_istore [some (vR _), some (vI _), some (vI _), _] (Nat.le_of_ble_eq_true rfl) rfl ?_
        refine x_aload rfl ?_
        refine h_getR sc_32 rfl (by omega) ?_
        refine x_ci ?_
        refine h_putI 1 sc_33 rfl rfl ?_
        refine x_aload rfl ?_
        refine x_aload rfl ?_
        refine h_getR sc_32 rfl (by omega) ?_
        refine h_getI 0 sc_35 rfl rfl ?_
        rw [up_a (by decide)]
        refine h_putI 4 sc_32 rfl rfl ?_
        refine x_aload rfl ?_
        refine x_aload rfl ?_
        refine h_getR sc_32 rfl (by omega) ?_
        refine h_getI 1 sc_35 rfl rfl ?_
        rw [up_a (by decide), up_a (by decide)]
        refine h_putI 5 sc_32 rfl rfl ?_
        refine x_iload rfl ?_
        refine n_if_ne ⟨by omega, by omega⟩ (fun c9 => by exfalso; omega) (fun _ => ?_)
        refine x_ci ?_
        refine x_iret ?_
        refine kF ⟨by omega, by omega⟩ f pl X en hf _ ⟨?_, ?_, ?_, fun b r q1 q2 q3 q4 q5 => ?_⟩
        · rw [up_i (by decide), up_e]
          exact t350
        · rw [up_e]
          exact t351
        · rw [up_a (by decide), up_a (by decide), up_e]
        · rw [up_f (by omega), up_f (by omega), up_f (by omega)]
          exact t2qq b r (by omega) q2 q3 q4
    · refine x_fall ?_
      refine x_ci ?_
      refine x_iret ?_
      exact k2 (by omega)
end TXN
