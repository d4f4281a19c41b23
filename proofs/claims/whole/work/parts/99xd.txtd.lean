/-! TEXT: the reference's reader: small methods; behind a fault nothing is done -/
section TXD
variable {d : Nat} {h0 h : pheap} {s tqq uqq : St} {Q : Option pv → pheap → Prop} {B : Int → Int} {n m p : Nat} {k vqq c : Int} {pl nx : Nat} {W V : List Int} {K K0 : KS}
/-- what waits becomes knots, the latest first -/
def pps : List Int → KS → KS
  | [], K => K
  | x :: V, K => pps V (addK K (20000 + x))
theorem stl_pps (c : Int) : ∀ {V : List Int} {W : List Int} {K : KS}, (∀ x, x ∈ V → x ≠ 13 ∧ c ≤ clo x) → stl c (V ++ W) K = stl c W (pps V K)
  | [], _, _, _ => rfl
  | x :: V, W, K, h => by
    have hx := h x (List.mem_cons_self ..)
    show stl c (x :: (V ++ W)) K = _
    simp only [stl]
    rw [if_neg (by omega)]
    exact stl_pps c (fun y hy => h y (List.mem_cons_of_mem _ hy))
def topL (c : Int) (W : List Int) : Prop := ∀ x U, W = x :: U → x = 13 ∨ clo x < c
theorem stl_id {c : Int} (h : topL c W) : stl c W K = (W, K) := by
  cases W with
  | nil => rfl
  | cons x U =>
    simp only [stl]
    rw [if_pos (h x U rfl)]
theorem topL_le {c c' : Int} (h : topL c W) (hc : c ≤ c') : topL c' W := fun x U e => by
  have := h x U e
  omega
theorem topL_c {c x : Int} (h : clo x < c) : topL c (x :: W) := fun y U e => by
  have := (List.cons.inj e).1
  rw [← this]
  exact Or.inr h
theorem tot_pps : ∀ {V W : List Int} {K : KS}, (∀ x, x ∈ V → x ≠ 13) → tot W (pps V K) = tot (V ++ W) K ∧ opn (V ++ W) = opn W
  | [], _, _, _ => ⟨rfl, rfl⟩
  | x :: V, W, K, h => by
    have hx := h x (List.mem_cons_self ..)
    have ih := tot_pps (V := V) (W := W) (K := addK K (20000 + x)) (fun y hy => h y (List.mem_cons_of_mem _ hy))
    refine ⟨?_, ?_⟩
    · show tot W (pps V (addK K (20000 + x))) = _
      rw [ih.1]
      unfold tot addK
      show ((K.1 + 1 : Nat) : Int) + _ - _ = (K.1 : Int) + (((x :: (V ++ W)).length : Nat) : Int) - ((opn (x :: (V ++ W)) : Nat) : Int)
      rw [opn_s, if_neg hx, List.length_cons]
      omega
    · show opn (x :: (V ++ W)) = _
      rw [opn_s, if_neg hx, ih.2]
      omega
theorem pps_app : ∀ {V U : List Int} {K : KS}, pps (V ++ U) K = pps U (pps V K)
  | [], _, _ => rfl
  | _ :: V, _, _ => pps_app (V := V)
def RK (K : KS) (s : St) : Prop := s 96 9 = K.1 ∧ ∀ i : Int, 0 ≤ i → i < K.1 → kR (K.2 i) (s 102 (64 + i)) (s 103 (64 + i))
/-- the reference reads an E: the token behind p is read, no fault as yet -/
def RE (B : Int → Int) (n p : Nat) (W : List Int) (K : KS) (s : St) : Prop := RBR B n s ∧ TKN (tkK B n p) (tkV B n p) (tkP B n p) (tkE B n p) s ∧ s 94 18 = 0 ∧ s 94 23 = tot W K ∧ s 94 22 = opn W ∧ RK K s
/-- what reading changes of the reference -/
def qF (s tqq : St) : Prop := ∀ (b : Nat) (r : Int), ¬ (b = 94 ∧ 14 ≤ r ∧ r ≤ 17) → ¬ (b = 94 ∧ 22 ≤ r ∧ r ≤ 23) → ¬ (b = 96 ∧ r = 9) → ¬ ((b = 102 ∨ b = 103) ∧ 64 ≤ r) → tqq b r = s b r
theorem qF_rfl : qF s s := fun _ _ _ _ _ _ => rfl
theorem qF_tr (h : qF s tqq) (g : qF tqq uqq) : qF s uqq := fun b r q1 q2 q3 q4 => (g b r q1 q2 q3 q4).trans (h b r q1 q2 q3 q4)
theorem qF_up {i x : Int} (h : qF s tqq) (hi : (14 ≤ i ∧ i ≤ 17) ∨ (22 ≤ i ∧ i ≤ 23)) : qF s (up tqq 94 i x) := fun b r q1 q2 q3 q4 => by
  rw [up_f (by omega)]
  exact h b r q1 q2 q3 q4
def qFw (s tqq : St) : Prop := ∀ (b : Nat) (r : Int), ¬ (b = 94 ∧ 14 ≤ r ∧ r ≤ 19) → ¬ (b = 94 ∧ 22 ≤ r ∧ r ≤ 23) → ¬ (b = 96 ∧ r = 9) → ¬ ((b = 102 ∨ b = 103) ∧ 64 ≤ r) → tqq b r = s b r
theorem qF.w (h : qF s tqq) : qFw s tqq := fun b r q1 q2 q3 q4 => h b r (by omega) q2 q3 q4
theorem qFw_tr (h : qF s tqq) (g : qFw tqq uqq) : qFw s uqq := fun b r q1 q2 q3 q4 => (g b r q1 q2 q3 q4).trans (h b r (by omega) q2 q3 q4)
theorem qFw_up {i x : Int} (h : qFw s tqq) (hi : 14 ≤ i ∧ i ≤ 19) : qFw s (up tqq 94 i x) := fun b r q1 q2 q3 q4 => by
  rw [up_f (by omega)]
  exact h b r q1 q2 q3 q4
theorem rtF.q (h : rtF s tqq) : qF s tqq := fun b r q1 _ _ _ => h b r (by omega)
theorem chS_f : ∀ a b : Fin 16, chS ((a : Nat) : Int) = chS ((b : Nat) : Int) → (a : Nat) = (b : Nat) := by decide +kernel
theorem chS_one {a b : Int} (ha : 0 ≤ a ∧ a < 16) (hb : 0 ≤ b ∧ b < 16) (h : chS a = chS b) : a = b := by
  have := chS_f ⟨a.toNat, by omega⟩ ⟨b.toNat, by omega⟩
  simp only [Int.toNat_of_nonneg ha.1, Int.toNat_of_nonneg hb.1] at this
  have := this h
  omega
theorem chS_R : ∀ a : Fin 16, 0 ≤ chS ((a : Nat) : Int) ∧ chS ((a : Nat) : Int) < 300 := by decide +kernel
theorem chS_iR {a : Int} (ha : 0 ≤ a ∧ a < 16) : 0 ≤ chS a ∧ chS a < 300 := by
  have := chS_R ⟨a.toNat, by omega⟩
  simp only [Int.toNat_of_nonneg ha.1] at this
  exact this
/-- how the reference tells a token: its sort, its value -/
theorem TKN_s (h : TKN k vqq pl nx s) (hr : tkR k vqq) : (k = 0 ∧ s 94 16 = 4) ∨ (k = 1 ∧ s 94 16 = 5) ∨ (k = 2 ∧ s 94 16 = 2) ∨ (k = 3 ∧ s 94 16 = 1) ∨ (k = 4 ∧ s 94 16 = 0 ∧ s 94 17 = vqq ∧ 0 ≤ vqq ∧ vqq < 19) ∨ (k = 5 ∧ s 94 16 = 3 ∧ s 94 17 = chS vqq ∧ 3 ≤ vqq ∧ vqq ≤ 15) := by
  obtain ⟨h1, h2, h3, h4, h5, h6, h7, h8⟩ := h
  have kc : k = 0 ∨ k = 1 ∨ k = 2 ∨ k = 3 ∨ k = 4 ∨ k = 5 := by
    have := hr.1
    have := hr.2.1
    omega
  rcases kc with zqq | zqq | zqq | zqq | zqq | zqq
  · exact Or.inl ⟨zqq, h3 zqq⟩
  · exact Or.inr (Or.inl ⟨zqq, h4 zqq⟩)
  · exact Or.inr (Or.inr (Or.inl ⟨zqq, (h5 zqq).1⟩))
  · exact Or.inr (Or.inr (Or.inr (Or.inl ⟨zqq, (h6 zqq).1⟩)))
  · exact Or.inr (Or.inr (Or.inr (Or.inr (Or.inl ⟨zqq, (h7 zqq).1, (h7 zqq).2, hr.2.2.2.2.1 zqq⟩))))
  · exact Or.inr (Or.inr (Or.inr (Or.inr (Or.inr ⟨zqq, (h8 zqq).1, (h8 zqq).2, hr.2.2.2.2.2 zqq⟩))))
theorem r_wrong {x : Int} (h18 : s 94 18 = 0) (h15 : s 94 15 = pl) (k1 : Q none (HP h0 (up (up s 94 18 x) 94 19 pl))) : wpM PP d 67 [vR 94, vI x] (HP h0 s) Q := by
  refine n_at (m := 67) (q := mr67) (kn := (0, 2)) [some (vR _), some (vI _)] mb67 rfl rfl (h_rcv sc_94) (Nat.le_of_ble_eq_true rfl) rfl rfl ?_
  refine x_aload rfl ?_
  refine h_getI 18 sc_94 rfl rfl ?_
  rw [h18]
  refine n_if_eq ⟨by omega, by omega⟩ (fun c1 => ?_) (fun c1 => ?_)
  · refine x_aload rfl ?_
    refine x_iload rfl ?_
    refine h_putI 18 sc_94 rfl rfl ?_
    refine x_aload rfl ?_
    refine x_aload rfl ?_
    refine h_getI 15 sc_94 rfl rfl ?_
    rw [up_i (by decide), h15]
    refine h_putI 19 sc_94 rfl rfl ?_
    refine x_ret ?_
    first
      | exact k1
      | (exfalso; omega)
  · refine x_ret ?_
    first
      | exact k1
      | (exfalso; omega)
theorem f_isWord (hf : iR (s 94 18) ∧ s 94 18 ≠ 0) (k1 : Q (some (vI 0)) (HP h0 s)) : wpM PP d 68 [vR 94, vI vqq] (HP h0 s) Q := by
  obtain ⟨hf1, hf2⟩ := hf
  have hf : iR (s 94 18) ∧ s 94 18 ≠ 0 := ⟨hf1, hf2⟩
  refine n_at (m := 68) (q := mr68) (kn := (0, 2)) [some (vR _), some (vI _)] mb68 rfl rfl (h_rcv sc_94) (Nat.le_of_ble_eq_true rfl) rfl rfl ?_
  refine x_aload rfl ?_
  refine h_getI 18 sc_94 rfl rfl ?_
  refine n_if_ne ⟨by omega, by omega⟩ (fun c1 => ?_) (fun c1 => ?_)
  · refine x_ci ?_
    refine x_fall ?_
    refine x_zret (by first | exact bI_01 _ | omega) ?_
    first
      | exact k1
      | (exfalso; omega)
  · exfalso
    omega
theorem f_isSign (hf : iR (s 94 18) ∧ s 94 18 ≠ 0) (k1 : Q (some (vI 0)) (HP h0 s)) : wpM PP d 69 [vR 94, vI vqq] (HP h0 s) Q := by
  obtain ⟨hf1, hf2⟩ := hf
  have hf : iR (s 94 18) ∧ s 94 18 ≠ 0 := ⟨hf1, hf2⟩
  refine n_at (m := 69) (q := mr69) (kn := (0, 2)) [some (vR _), some (vI _)] mb69 rfl rfl (h_rcv sc_94) (Nat.le_of_ble_eq_true rfl) rfl rfl ?_
  refine x_aload rfl ?_
  refine h_getI 18 sc_94 rfl rfl ?_
  refine n_if_ne ⟨by omega, by omega⟩ (fun c1 => ?_) (fun c1 => ?_)
  · refine x_ci ?_
    refine x_fall ?_
    refine x_zret (by first | exact bI_01 _ | omega) ?_
    first
      | exact k1
      | (exfalso; omega)
  · exfalso
    omega
theorem f_goOn (hf : iR (s 94 18) ∧ s 94 18 ≠ 0) (k1 : Q none (HP h0 s)) : wpM PP d 70 [vR 94] (HP h0 s) Q := by
  obtain ⟨hf1, hf2⟩ := hf
  have hf : iR (s 94 18) ∧ s 94 18 ≠ 0 := ⟨hf1, hf2⟩
  refine n_at (m := 70) (q := mr70) (kn := (0, 1)) [some (vR _)] mb70 rfl rfl (h_rcv sc_94) (Nat.le_of_ble_eq_true rfl) rfl rfl ?_
  refine x_aload rfl ?_
  refine h_getI 18 sc_94 rfl rfl ?_
  refine n_if_ne ⟨by omega, by omega⟩ (fun c1 => ?_) (fun c1 => ?_)
  · refine x_ret ?_
    first
      | exact k1
      | (exfalso; omega)
  · exfalso
    omega
theorem f_puts (hf : iR (s 94 18) ∧ s 94 18 ≠ 0) (k1 : Q none (HP h0 s)) : wpM PP d 79 [vR 94, vI vqq, vI c] (HP h0 s) Q := by
  obtain ⟨hf1, hf2⟩ := hf
  have hf : iR (s 94 18) ∧ s 94 18 ≠ 0 := ⟨hf1, hf2⟩
  refine n_at (m := 79) (q := mr79) (kn := (0, 3)) [some (vR _), some (vI _), some (vI _)] mb79 rfl rfl (h_rcv sc_94) (Nat.le_of_ble_eq_true rfl) rfl rfl ?_
  refine x_aload rfl ?_
  refine h_getI 18 sc_94 rfl rfl ?_
  refine n_if_eq ⟨by omega, by omega⟩ (fun c1 => ?_) (fun c1 => ?_)
  · exfalso
    omega
  · refine x_ret ?_
    first
      | exact k1
      | (exfalso; omega)
theorem f_knot (hf : iR (s 94 18) ∧ s 94 18 ≠ 0) (k1 : Q none (HP h0 s)) : wpM PP d 80 [vR 94] (HP h0 s) Q := by
  obtain ⟨hf1, hf2⟩ := hf
  have hf : iR (s 94 18) ∧ s 94 18 ≠ 0 := ⟨hf1, hf2⟩
  refine n_at (m := 80) (q := mr80) (kn := (0, 1)) [some (vR _)] mb80 rfl rfl (h_rcv sc_94) (Nat.le_of_ble_eq_true rfl) rfl rfl ?_
  refine x_aload rfl ?_
  refine h_getI 18 sc_94 rfl rfl ?_
  refine n_if_eq ⟨by omega, by omega⟩ (fun c1 => ?_) (fun c1 => ?_)
  · exfalso
    omega
  · refine x_ret ?_
    first
      | exact k1
      | (exfalso; omega)
theorem f_primary (hf : iR (s 94 18) ∧ s 94 18 ≠ 0) (k1 : Q none (HP h0 s)) : wpM PP d 86 [vR 94] (HP h0 s) Q := by
  obtain ⟨hf1, hf2⟩ := hf
  have hf : iR (s 94 18) ∧ s 94 18 ≠ 0 := ⟨hf1, hf2⟩
  refine n_at (m := 86) (q := mr86) (kn := (0, 1)) [some (vR _), none] mb86 rfl rfl (h_rcv sc_94) (Nat.le_of_ble_eq_true rfl) rfl rfl ?_
  refine x_aload rfl ?_
  refine h_getI 18 sc_94 rfl rfl ?_
  refine n_if_eq ⟨by omega, by omega⟩ (fun c1 => ?_) (fun c1 => ?_)
  · exfalso
    omega
  · refine x_ret ?_
    first
      | exact k1
      | (exfalso; omega)
theorem f_wrong (hf : iR (s 94 18) ∧ s 94 18 ≠ 0) (k1 : Q none (HP h0 s)) : wpM PP d 67 [vR 94, vI vqq] (HP h0 s) Q := by
  obtain ⟨hf1, hf2⟩ := hf
  have hf : iR (s 94 18) ∧ s 94 18 ≠ 0 := ⟨hf1, hf2⟩
  refine n_at (m := 67) (q := mr67) (kn := (0, 2)) [some (vR _), some (vI _)] mb67 rfl rfl (h_rcv sc_94) (Nat.le_of_ble_eq_true rfl) rfl rfl ?_
  refine x_aload rfl ?_
  refine h_getI 18 sc_94 rfl rfl ?_
  refine n_if_eq ⟨by omega, by omega⟩ (fun c1 => ?_) (fun c1 => ?_)
  · exfalso
    omega
  · refine x_ret ?_
    first
      | exact k1
      | (exfalso; omega)
theorem f_product (hd : 2 ≤ d) (hf : iR (s 94 18) ∧ s 94 18 ≠ 0) (k1 : Q none (HP h0 s)) : wpM PP d 85 [vR 94] (HP h0 s) Q := by
  obtain ⟨hf1, hf2⟩ := hf
  have hf : iR (s 94 18) ∧ s 94 18 ≠ 0 := ⟨hf1, hf2⟩
  refine n_at (m := 85) (q := mr85) (kn := (0, 1)) [some (vR _), none] mb85 rfl rfl (h_rcv sc_94) (Nat.le_of_ble_eq_true rfl) rfl rfl ?_
  refine x_aload rfl ?_
  refine n_call [vR _] [] (by omega) (Nat.le_of_ble_eq_true rfl) rfl rfl (Nat.le_of_ble_eq_true rfl) ?_
  refine f_primary hf ?_
  show wp PP _ _ _ [some (vR _), _] [] _ _
  refine x_fall ?_
  refine x_aload rfl ?_
  refine x_ci ?_
  refine n_call [vR _, vI _] [] (by omega) (Nat.le_of_ble_eq_true rfl) rfl rfl (Nat.le_of_ble_eq_true rfl) ?_
  refine f_isSign hf ?_
  show wp PP _ _ _ [some (vR _), _] [vI _] _ _
  refine n_if_ne ⟨by omega, by omega⟩ (fun c1 => ?_) (fun c1 => ?_)
  · exfalso
    omega
  · refine x_aload rfl ?_
    refine x_ci ?_
    refine n_call [vR _, vI _] [] (by omega) (Nat.le_of_ble_eq_true rfl) rfl rfl (Nat.le_of_ble_eq_true rfl) ?_
    refine f_isSign hf ?_
    show wp PP _ _ _ [some (vR _), _] [vI _] _ _
    refine n_if_eq ⟨by omega, by omega⟩ (fun c2 => ?_) (fun c2 => ?_)
    · refine x_ret ?_
      first
        | exact k1
        | (exfalso; omega)
    · refine x_fall ?_
      exfalso
      omega
theorem f_sum (hd : 4 ≤ d) (hf : iR (s 94 18) ∧ s 94 18 ≠ 0) (k1 : Q none (HP h0 s)) : wpM PP d 84 [vR 94] (HP h0 s) Q := by
  obtain ⟨hf1, hf2⟩ := hf
  have hf : iR (s 94 18) ∧ s 94 18 ≠ 0 := ⟨hf1, hf2⟩
  refine n_at (m := 84) (q := mr84) (kn := (0, 1)) [some (vR _), none] mb84 rfl rfl (h_rcv sc_94) (Nat.le_of_ble_eq_true rfl) rfl rfl ?_
  refine x_aload rfl ?_
  refine n_call [vR _] [] (by omega) (Nat.le_of_ble_eq_true rfl) rfl rfl (Nat.le_of_ble_eq_true rfl) ?_
  refine f_product (by omega) hf ?_
  show wp PP _ _ _ [some (vR _), _] [] _ _
  refine x_fall ?_
  refine x_aload rfl ?_
  refine x_ci ?_
  refine n_call [vR _, vI _] [] (by omega) (Nat.le_of_ble_eq_true rfl) rfl rfl (Nat.le_of_ble_eq_true rfl) ?_
  refine f_isSign hf ?_
  show wp PP _ _ _ [some (vR _), _] [vI _] _ _
  refine n_if_ne ⟨by omega, by omega⟩ (fun c1 => ?_) (fun c1 => ?_)
  · exfalso
    omega
  · refine x_aload rfl ?_
    refine x_ci ?_
    refine n_call [vR _, vI _] [] (by omega) (Nat.le_of_ble_eq_true rfl) rfl rfl (Nat.le_of_ble_eq_true rfl) ?_
    refine f_isSign hf ?_
    show wp PP _ _ _ [some (vR _), _] [vI _] _ _
    refine n_if_eq ⟨by omega, by omega⟩ (fun c2 => ?_) (fun c2 => ?_)
    · refine x_ret ?_
      first
        | exact k1
        | (exfalso; omega)
    · refine x_fall ?_
      exfalso
      omega
theorem f_negation (hd : 6 ≤ d) (hf : iR (s 94 18) ∧ s 94 18 ≠ 0) (k1 : Q none (HP h0 s)) : wpM PP d 83 [vR 94] (HP h0 s) Q := by
  obtain ⟨hf1, hf2⟩ := hf
  have hf : iR (s 94 18) ∧ s 94 18 ≠ 0 := ⟨hf1, hf2⟩
  refine n_at (m := 83) (q := mr83) (kn := (0, 1)) [some (vR _), none] mb83 rfl rfl (h_rcv sc_94) (Nat.le_of_ble_eq_true rfl) rfl rfl ?_
  refine x_aload rfl ?_
  refine x_ci ?_
  refine n_call [vR _, vI _] [] (by omega) (Nat.le_of_ble_eq_true rfl) rfl rfl (Nat.le_of_ble_eq_true rfl) ?_
  refine f_isWord hf ?_
  show wp PP _ _ _ [some (vR _), _] [vI _] _ _
  refine n_if_eq ⟨by omega, by omega⟩ (fun c1 => ?_) (fun c1 => ?_)
  · refine x_aload rfl ?_
    refine n_call [vR _] [] (by omega) (Nat.le_of_ble_eq_true rfl) rfl rfl (Nat.le_of_ble_eq_true rfl) ?_
    refine f_sum (by omega) hf ?_
    show wp PP _ _ _ [some (vR _), _] [] _ _
    refine x_aload rfl ?_
    refine h_getI 18 sc_94 rfl rfl ?_
    refine n_if_ne ⟨by omega, by omega⟩ (fun c2 => ?_) (fun c2 => ?_)
    · refine x_ret ?_
      first
        | exact k1
        | (exfalso; omega)
    · exfalso
      omega
  · exfalso
    omega
theorem f_conjunction (hd : 8 ≤ d) (hf : iR (s 94 18) ∧ s 94 18 ≠ 0) (k1 : Q none (HP h0 s)) : wpM PP d 82 [vR 94] (HP h0 s) Q := by
  obtain ⟨hf1, hf2⟩ := hf
  have hf : iR (s 94 18) ∧ s 94 18 ≠ 0 := ⟨hf1, hf2⟩
  refine n_at (m := 82) (q := mr82) (kn := (0, 1)) [some (vR _)] mb82 rfl rfl (h_rcv sc_94) (Nat.le_of_ble_eq_true rfl) rfl rfl ?_
  refine x_aload rfl ?_
  refine n_call [vR _] [] (by omega) (Nat.le_of_ble_eq_true rfl) rfl rfl (Nat.le_of_ble_eq_true rfl) ?_
  refine f_negation (by omega) hf ?_
  show wp PP _ _ _ [some (vR _)] [] _ _
  refine x_fall ?_
  refine x_aload rfl ?_
  refine x_ci ?_
  refine n_call [vR _, vI _] [] (by omega) (Nat.le_of_ble_eq_true rfl) rfl rfl (Nat.le_of_ble_eq_true rfl) ?_
  refine f_isWord hf ?_
  show wp PP _ _ _ [some (vR _)] [vI _] _ _
  refine n_if_eq ⟨by omega, by omega⟩ (fun c1 => ?_) (fun c1 => ?_)
  · refine x_ret ?_
    first
      | exact k1
      | (exfalso; omega)
  · exfalso
    omega
theorem f_expression (hd : 10 ≤ d) (hf : iR (s 94 18) ∧ s 94 18 ≠ 0) (k1 : Q none (HP h0 s)) : wpM PP d 81 [vR 94] (HP h0 s) Q := by
  obtain ⟨hf1, hf2⟩ := hf
  have hf : iR (s 94 18) ∧ s 94 18 ≠ 0 := ⟨hf1, hf2⟩
  refine n_at (m := 81) (q := mr81) (kn := (0, 1)) [some (vR _)] mb81 rfl rfl (h_rcv sc_94) (Nat.le_of_ble_eq_true rfl) rfl rfl ?_
  refine x_aload rfl ?_
  refine n_call [vR _] [] (by omega) (Nat.le_of_ble_eq_true rfl) rfl rfl (Nat.le_of_ble_eq_true rfl) ?_
  refine f_conjunction (by omega) hf ?_
  show wp PP _ _ _ [some (vR _)] [] _ _
  refine x_fall ?_
  refine x_aload rfl ?_
  refine x_ci ?_
  refine n_call [vR _, vI _] [] (by omega) (Nat.le_of_ble_eq_true rfl) rfl rfl (Nat.le_of_ble_eq_true rfl) ?_
  refine f_isWord hf ?_
  show wp PP _ _ _ [some (vR _)] [vI _] _ _
  refine n_if_eq ⟨by omega, by omega⟩ (fun c1 => ?_) (fun c1 => ?_)
  · refine x_ret ?_
    first
      | exact k1
      | (exfalso; omega)
  · exfalso
    omega
theorem RE.tk (h : RE B n p W K s) : TKN (tkK B n p) (tkV B n p) (tkP B n p) (tkE B n p) s := h.2.1
theorem r_isWord {x : Int} (h18 : s 94 18 = 0) (hk : TKN k vqq pl nx s) (hr : tkR k vqq) (hx : 0 ≤ x ∧ x < 19) (k1 : Q (some (vI (bI (k = 4 ∧ vqq = x)))) (HP h0 s)) : wpM PP d 68 [vR 94, vI x] (HP h0 s) Q := by
  have ts := TKN_s hk hr
  refine n_at (m := 68) (q := mr68) (kn := (0, 2)) [some (vR _), some (vI _)] mb68 rfl rfl (h_rcv sc_94) (Nat.le_of_ble_eq_true rfl) rfl rfl ?_
  refine x_aload rfl ?_
  refine h_getI 18 sc_94 rfl rfl ?_
  rw [h18]
  refine n_if_ne ⟨by omega, by omega⟩ (fun c1 => ?_) (fun c1 => ?_)
  · refine x_ci ?_
    refine x_fall ?_
    refine x_zret (by first | exact bI_01 _ | omega) ?_
    first
      | exact cB0 k1 (by omega)
      | exact cB1 k1 (by omega)
      | (exfalso; omega)
  · refine x_aload rfl ?_
    refine h_getI 16 sc_94 rfl rfl ?_
    refine n_if_ne ⟨by omega, by omega⟩ (fun c2 => ?_) (fun c2 => ?_)
    · refine x_ci ?_
      refine x_fall ?_
      refine x_zret (by first | exact bI_01 _ | omega) ?_
      first
        | exact cB0 k1 (by omega)
        | exact cB1 k1 (by omega)
        | (exfalso; omega)
    · refine x_aload rfl ?_
      refine h_getI 17 sc_94 rfl rfl ?_
      refine x_iload rfl ?_
      refine n_icmp_ne ⟨by omega, by omega⟩ ⟨by omega, by omega⟩ (fun c3 => ?_) (fun c3 => ?_)
      · refine x_ci ?_
        refine x_fall ?_
        refine x_zret (by first | exact bI_01 _ | omega) ?_
        first
          | exact cB0 k1 (by omega)
          | exact cB1 k1 (by omega)
          | (exfalso; omega)
      · refine x_ci ?_
        refine x_goto ?_
        refine x_zret (by first | exact bI_01 _ | omega) ?_
        first
          | exact cB0 k1 (by omega)
          | exact cB1 k1 (by omega)
          | (exfalso; omega)
theorem r_isSign {x : Int} (h18 : s 94 18 = 0) (hk : TKN k vqq pl nx s) (hr : tkR k vqq) (hx : 0 ≤ x ∧ x < 16) (k1 : Q (some (vI (bI (k = 5 ∧ vqq = x)))) (HP h0 s)) : wpM PP d 69 [vR 94, vI (chS x)] (HP h0 s) Q := by
  have ts := TKN_s hk hr
  have cx := chS_iR hx
  have cv : k = 5 → 0 ≤ chS vqq ∧ chS vqq < 300 := fun zqq => by
    have := hr.2.2.2.2.2 zqq
    exact chS_iR (by omega)
  refine n_at (m := 69) (q := mr69) (kn := (0, 2)) [some (vR _), some (vI _)] mb69 rfl rfl (h_rcv sc_94) (Nat.le_of_ble_eq_true rfl) rfl rfl ?_
  refine x_aload rfl ?_
  refine h_getI 18 sc_94 rfl rfl ?_
  rw [h18]
  refine n_if_ne ⟨by omega, by omega⟩ (fun c1 => ?_) (fun c1 => ?_)
  · refine x_ci ?_
    refine x_fall ?_
    refine x_zret (by first | exact bI_01 _ | omega) ?_
    first
      | exact cB0 k1 (by omega)
      | exact cB1 k1 ⟨by omega, chS_one (by omega) hx (by omega)⟩
      | exact cB0 k1 (fun y => by rw [y.2] at ts; omega)
      | (exfalso; omega)
  · refine x_aload rfl ?_
    refine h_getI 16 sc_94 rfl rfl ?_
    refine x_ci ?_
    refine n_icmp_ne ⟨by omega, by omega⟩ ⟨by omega, by omega⟩ (fun c2 => ?_) (fun c2 => ?_)
    · refine x_ci ?_
      refine x_fall ?_
      refine x_zret (by first | exact bI_01 _ | omega) ?_
      first
        | exact cB0 k1 (by omega)
        | exact cB1 k1 ⟨by omega, chS_one (by omega) hx (by omega)⟩
        | exact cB0 k1 (fun y => by rw [y.2] at ts; omega)
        | (exfalso; omega)
    · refine x_aload rfl ?_
      refine h_getI 17 sc_94 rfl rfl ?_
      refine x_iload rfl ?_
      refine n_icmp_ne ⟨by omega, by omega⟩ ⟨by omega, by omega⟩ (fun c3 => ?_) (fun c3 => ?_)
      · refine x_ci ?_
        refine x_fall ?_
        refine x_zret (by first | exact bI_01 _ | omega) ?_
        first
          | exact cB0 k1 (by omega)
          | exact cB1 k1 ⟨by omega, chS_one (by omega) hx (by omega)⟩
          | exact cB0 k1 (fun y => by rw [y.2] at ts; omega)
          | (exfalso; omega)
      · refine x_ci ?_
        refine x_goto ?_
        refine x_zret (by first | exact bI_01 _ | omega) ?_
        first
          | exact cB0 k1 (by omega)
          | exact cB1 k1 ⟨by omega, chS_one (by omega) hx (by omega)⟩
          | exact cB0 k1 (fun y => by rw [y.2] at ts; omega)
          | (exfalso; omega)
theorem r_goOn (hd : 14 ≤ d) (h18 : s 94 18 = 0) (hR : RBR B n s) (hb : bOk B n) (h14 : s 94 14 = p) (hp : p ≤ n) (k1 : ∀ tqq, TKN (tkK B n p) (tkV B n p) (tkP B n p) (tkE B n p) tqq → rtF s tqq → Q none (HP h0 tqq)) : wpM PP d 70 [vR 94] (HP h0 s) Q := by
  refine n_at (m := 70) (q := mr70) (kn := (0, 1)) [some (vR _)] mb70 rfl rfl (h_rcv sc_94) (Nat.le_of_ble_eq_true rfl) rfl rfl ?_
  refine x_aload rfl ?_
  refine h_getI 18 sc_94 rfl rfl ?_
  rw [h18]
  refine n_if_ne ⟨by omega, by omega⟩ (fun c1 => ?_) (fun c1 => ?_)
  · refine x_ret ?_
    first
      | exact k1 tqq t1qq t2qq
      | (exfalso; omega)
  · refine x_aload rfl ?_
    refine n_call [vR _] [] (by omega) (Nat.le_of_ble_eq_true rfl) rfl rfl (Nat.le_of_ble_eq_true rfl) ?_
    refine r_token (by omega) hR hb h14 hp (fun tqq t1qq t2qq => ?_)
    show wp PP _ _ _ [some (vR _)] [] _ _
    refine x_fall ?_
    refine x_ret ?_
    first
      | exact k1 tqq t1qq t2qq
      | (exfalso; omega)
theorem r_fresher {x : Int} (hx : 0 ≤ x ∧ x < 5) (k1 : Q (some (vI (s 96 (5 + x)))) (HP h0 s)) : wpM PP d 74 [vR 94, vI x] (HP h0 s) Q := by
  refine n_at (m := 74) (q := mr74) (kn := (0, 2)) [some (vR _), some (vI _)] mb74 rfl rfl (h_rcv sc_94) (Nat.le_of_ble_eq_true rfl) rfl rfl ?_
  refine x_aload rfl ?_
  refine h_getR sc_94 rfl (by omega) ?_
  refine x_ci ?_
  refine x_iload rfl ?_
  refine x_iadd ?_
  refine h_iald sc_96 ⟨by omega, by omega⟩ (by decide) ?_
  refine x_iret ?_
  exact k1
theorem r_reads {x y : Int} (hx : 0 ≤ x ∧ x < 5) (k1 : Q none (HP h0 (up s 96 (5 + x) y))) : wpM PP d 75 [vR 94, vI x, vI y] (HP h0 s) Q := by
  refine n_at (m := 75) (q := mr75) (kn := (0, 3)) [some (vR _), some (vI _), some (vI _)] mb75 rfl rfl (h_rcv sc_94) (Nat.le_of_ble_eq_true rfl) rfl rfl ?_
  refine x_aload rfl ?_
  refine h_getR sc_94 rfl (by omega) ?_
  refine x_ci ?_
  refine x_iload rfl ?_
  refine x_iadd ?_
  refine x_iload rfl ?_
  refine h_iast sc_96 ⟨by omega, by omega⟩ (by decide) ?_
  refine x_ret ?_
  exact k1
theorem r_knot {x : Int} (hd : 1 ≤ d) (h18 : s 94 18 = 0) (h15 : s 94 15 = pl) (h23 : s 94 23 = x) (hx : 0 ≤ x ∧ x ≤ 64) (kY : x < 64 → Q none (HP h0 (up s 94 23 (x + 1)))) (kN : 64 ≤ x → Q none (HP h0 (up (up s 94 18 2) 94 19 pl))) : wpM PP d 80 [vR 94] (HP h0 s) Q := by
  refine n_at (m := 80) (q := mr80) (kn := (0, 1)) [some (vR _)] mb80 rfl rfl (h_rcv sc_94) (Nat.le_of_ble_eq_true rfl) rfl rfl ?_
  refine x_aload rfl ?_
  refine h_getI 18 sc_94 rfl rfl ?_
  rw [h18]
  refine n_if_eq ⟨by omega, by omega⟩ (fun c1 => ?_) (fun c1 => ?_)
  · refine x_aload rfl ?_
    refine h_getI 23 sc_94 rfl rfl ?_
    rw [h23]
    refine x_ci ?_
    refine n_icmp_ne ⟨by omega, by omega⟩ ⟨by omega, by omega⟩ (fun c2 => ?_) (fun c2 => ?_)
    · refine x_aload rfl ?_
      refine x_dupR ?_
      refine h_getI 23 sc_94 rfl rfl ?_
      rw [h23]
      refine x_ci ?_
      refine x_iadd ?_
      refine h_putI 23 sc_94 rfl rfl ?_
      refine x_fall ?_
      refine x_ret ?_
      first
        | exact kY (by omega)
        | exact kN (by omega)
        | (exfalso; omega)
    · refine x_aload rfl ?_
      refine x_ci ?_
      refine n_call [vR _, vI _] [] (by omega) (Nat.le_of_ble_eq_true rfl) rfl rfl (Nat.le_of_ble_eq_true rfl) ?_
      refine r_wrong h18 h15 ?_
      show wp PP _ _ _ [some (vR _)] [] _ _
      refine x_goto ?_
      refine x_ret ?_
      first
        | exact kY (by omega)
        | exact kN (by omega)
        | (exfalso; omega)
  · refine x_ret ?_
    first
      | exact kY (by omega)
      | exact kN (by omega)
      | (exfalso; omega)
theorem r_puts {ks kv x : Int} (hd : 1 ≤ d) (h18 : s 94 18 = 0) (hK : RK K s) (hK64 : K.1 < 64) (hk : kR x ks kv) (k1 : ∀ tqq, RK (addK K x) tqq → (∀ (b : Nat) (r : Int), ¬ (b = 96 ∧ r = 9) → ¬ ((b = 102 ∨ b = 103) ∧ 64 ≤ r) → tqq b r = s b r) → Q none (HP h0 tqq)) : wpM PP d 79 [vR 94, vI ks, vI kv] (HP h0 s) Q := by
  refine n_at (m := 79) (q := mr79) (kn := (0, 3)) [some (vR _), some (vI _), some (vI _)] mb79 rfl rfl (h_rcv sc_94) (Nat.le_of_ble_eq_true rfl) rfl rfl ?_
  refine x_aload rfl ?_
  refine h_getI 18 sc_94 rfl rfl ?_
  rw [h18]
  refine n_if_eq ⟨by omega, by omega⟩ (fun c1 => ?_) (fun c1 => ?_)
  · refine x_aload rfl ?_
    refine h_getR sc_94 rfl (by omega) ?_
    refine x_ci ?_
    refine x_aload rfl ?_
    refine x_ci ?_
    refine n_call [vR _, vI _] [vI _, vR _] (by omega) (Nat.le_of_ble_eq_true rfl) rfl rfl (Nat.le_of_ble_eq_true rfl) ?_
    refine r_fresher (by omega) ?_
    show wp PP _ _ _ [some (vR _), some (vI _), some (vI _)] [vI _, vI _, vR _] _ _
    rw [show (5 : Int) + 4 = 9 by omega]
    first | rw [hK.1] | rw [up_a (by decide), hK.1] | rw [up_a (by decide), up_a (by decide), hK.1]
    refine x_iadd ?_
    refine x_iload rfl ?_
    refine h_iast sc_102 ⟨by omega, by omega⟩ (by decide) ?_
    refine x_aload rfl ?_
    refine h_getR sc_94 rfl (by omega) ?_
    refine x_ci ?_
    refine x_aload rfl ?_
    refine x_ci ?_
    refine n_call [vR _, vI _] [vI _, vR _] (by omega) (Nat.le_of_ble_eq_true rfl) rfl rfl (Nat.le_of_ble_eq_true rfl) ?_
    refine r_fresher (by omega) ?_
    show wp PP _ _ _ [some (vR _), some (vI _), some (vI _)] [vI _, vI _, vR _] _ _
    rw [show (5 : Int) + 4 = 9 by omega]
    first | rw [hK.1] | rw [up_a (by decide), hK.1] | rw [up_a (by decide), up_a (by decide), hK.1]
    refine x_iadd ?_
    refine x_iload rfl ?_
    refine h_iast sc_103 ⟨by omega, by omega⟩ (by decide) ?_
    refine x_aload rfl ?_
    refine x_ci ?_
    refine x_aload rfl ?_
    refine x_ci ?_
    refine n_call [vR _, vI _] [vI _, vR _] (by omega) (Nat.le_of_ble_eq_true rfl) rfl rfl (Nat.le_of_ble_eq_true rfl) ?_
    refine r_fresher (by omega) ?_
    show wp PP _ _ _ [some (vR _), some (vI _), some (vI _)] [vI _, vI _, vR _] _ _
    rw [show (5 : Int) + 4 = 9 by omega]
    first | rw [hK.1] | rw [up_a (by decide), hK.1] | rw [up_a (by decide), up_a (by decide), hK.1]
    refine x_ci ?_
    refine x_iadd ?_
    refine n_call [vR _, vI _, vI _] [] (by omega) (Nat.le_of_ble_eq_true rfl) rfl rfl (Nat.le_of_ble_eq_true rfl) ?_
    refine r_reads (by omega) ?_
    rw [show (5 : Int) + 4 = 9 by omega]
    show wp PP _ _ _ [some (vR _), some (vI _), some (vI _)] [] _ _
    refine x_ret ?_
    first
      | (exfalso; omega)
      | (refine k1 _ ⟨?_, fun i i0 i1 => ?_⟩ (fun b r q1 q2 => by rw [up_f (by omega), up_f (by omega), up_f (by omega)])
         · rw [up_e]
           rfl
         · have i1 : i < ((K.1 + 1 : Nat) : Int) := i1
           have e2 : ∀ (b : Nat) (r : Int), b = 102 ∨ b = 103 → up (up (up s 102 (64 + (K.1 : Int)) ks) 103 (64 + (K.1 : Int)) kv) 96 9 ((K.1 : Int) + 1) b r = (if r = 64 + (K.1 : Int) then (if b = 102 then ks else kv) else s b r) := fun b r hb => by
             rw [up_a (by omega)]
             by_cases e3 : r = 64 + (K.1 : Int)
             · rw [if_pos e3, e3]
               rcases hb with hb | hb
               · rw [hb, up_a (by decide), up_e, if_pos rfl]
               · rw [hb, up_e, if_neg (by decide)]
             · rw [if_neg e3, up_i e3, up_i e3]
           rw [e2 102 _ (Or.inl rfl), e2 103 _ (Or.inr rfl)]
           by_cases e : i = K.1
           · rw [e, addK_new, if_pos rfl, if_pos rfl, if_pos rfl, if_neg (by decide)]
             exact hk
           · rw [addK_old (by omega), if_neg (by omega), if_neg (by omega)]
             exact hK.2 i i0 (by omega))
  · refine x_ret ?_
    first
      | (exfalso; omega)
      | (refine k1 _ ⟨?_, fun i i0 i1 => ?_⟩ (fun b r q1 q2 => by rw [up_f (by omega), up_f (by omega), up_f (by omega)])
         · rw [up_e]
           rfl
         · have i1 : i < ((K.1 + 1 : Nat) : Int) := i1
           have e2 : ∀ (b : Nat) (r : Int), b = 102 ∨ b = 103 → up (up (up s 102 (64 + (K.1 : Int)) ks) 103 (64 + (K.1 : Int)) kv) 96 9 ((K.1 : Int) + 1) b r = (if r = 64 + (K.1 : Int) then (if b = 102 then ks else kv) else s b r) := fun b r hb => by
             rw [up_a (by omega)]
             by_cases e3 : r = 64 + (K.1 : Int)
             · rw [if_pos e3, e3]
               rcases hb with hb | hb
               · rw [hb, up_a (by decide), up_e, if_pos rfl]
               · rw [hb, up_e, if_neg (by decide)]
             · rw [if_neg e3, up_i e3, up_i e3]
           rw [e2 102 _ (Or.inl rfl), e2 103 _ (Or.inr rfl)]
           by_cases e : i = K.1
           · rw [e, addK_new, if_pos rfl, if_pos rfl, if_pos rfl, if_neg (by decide)]
             exact hk
           · rw [addK_old (by omega), if_neg (by omega), if_neg (by omega)]
             exact hK.2 i i0 (by omega))
end TXD
