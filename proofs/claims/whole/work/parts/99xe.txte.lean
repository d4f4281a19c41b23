/-! TEXT: the reference's reader: an E, level by level -/
section TXE
variable {d : Nat} {h0 h : pheap} {s tqq uqq : St} {Q : Option pv → pheap → Prop} {B : Int → Int} {n m p : Nat} {k vqq c : Int} {pl nx : Nat} {W V : List Int} {K K0 : KS}
/-- what may not stand behind a part of an E that is read as far as it goes -/
def LA (B : Int → Int) (n : Nat) (c : Int) (p : Nat) (U : List Int) (K : KS) : Prop := (c ≤ 6 → ¬ (tkK B n p = 5 ∧ (tkV B n p = 11 ∨ tkV B n p = 12))) ∧ (c ≤ 5 → ¬ (tkK B n p = 5 ∧ (tkV B n p = 9 ∨ tkV B n p = 10))) ∧ (c ≤ 3 → tkK B n p = 5 ∧ 3 ≤ tkV B n p ∧ tkV B n p ≤ 8 → clo ((stl 5 U K).1.headD 13) = 4) ∧ (c ≤ 2 → ¬ (tkK B n p = 4 ∧ tkV B n p = 10)) ∧ (c ≤ 1 → ¬ (tkK B n p = 4 ∧ tkV B n p = 9))
def dD (W : List Int) (K : KS) : Int := 8 * (8 - opn W) + (64 - tot W K)
/-- a part of an E: from a machine that wants an operand to one that wants a sign, or to a fault -/
def RFS (B : Int → Int) (n mth : Nat) (c tp off : Int) (M : Nat) : Prop := ∀ {d p m b : Nat} {W : List Int} {K K0 : KS} {h0 : pheap} {s : St} {Q : Option pv → pheap → Prop}, n - p ≤ M → dD W K + off ≤ d → p ≤ n → RE B n p W K s → iE b K0 m W K → m < 2 → (c ≤ 3 → m = 0) → (3 < c → ¬ (m = 0 ∧ tkK B n p = 4 ∧ tkV B n p = 11)) → topL tp W →
  (∀ (p2 : Nat) (V : List Int) (K2 : KS) (tqq : St), (∀ r, eEnd B n p2 2 (V ++ W) K2 r → eEnd B n p m W K r) → (∀ x, x ∈ V → x ≠ 13 ∧ c ≤ clo x) → iE b K0 2 (V ++ W) K2 → RE B n p2 W (pps V K2) tqq → LA B n c p2 (V ++ W) K2 → p < p2 ∧ p2 ≤ n ∧ tot W K ≤ tot (V ++ W) K2 → qF s tqq → Q none (HP h0 tqq)) →
  (∀ (f : Int) (pl : Nat) (K2 : KS) (tqq : St), f = 1 ∨ f = 2 → eEnd B n p m W K (f, pl, K2) → tqq 94 18 = f → tqq 94 19 = (pl : Int) → qFw s tqq → Q none (HP h0 tqq)) → wpM PP d mth [vR 94] (HP h0 s) Q
theorem RK.of (h : RK K s) (g : ∀ (b : Nat) (r : Int), b = 96 ∨ b = 102 ∨ b = 103 → tqq b r = s b r) : RK K tqq := ⟨(g 96 9 (by omega)).trans h.1, fun i i0 i1 => by
  rw [g 102 _ (by omega), g 103 _ (by omega)]
  exact h.2 i i0 i1⟩
theorem RBR.of (h : RBR B n s) (g : tqq 94 13 = s 94 13) (g2 : ∀ r, tqq 95 r = s 95 r) : RBR B n tqq := ⟨g.trans h.1, h.2.1, fun i i0 i1 => by
  rw [g2]
  exact h.2.2 i i0 i1⟩
theorem RBR.q (h : RBR B n s) (g : qF s tqq) : RBR B n tqq := h.of (g 94 13 (by omega) (by omega) (by omega) (by omega)) (fun r => g 95 r (by omega) (by omega) (by omega) (by omega))
theorem iE.suf {b : Nat} (h : iE b K0 2 (V ++ W) K) (hV : ∀ x, x ∈ V → x ≠ 13) : eB W (pps V K) := by
  have tp := tot_pps (W := W) (K := K) hV
  obtain ⟨_, _, _, _, h5, h6, h7⟩ := h
  exact ⟨by rw [tp.1]; exact h5, by rw [← tp.2]; exact h6, fun x hx => h7 x (List.mem_append_right _ hx)⟩
theorem tot_cons {x : Int} (hx : x ≠ 13) : tot (x :: W) K = tot W K + 1 ∧ opn (x :: W) = opn W := by
  unfold tot
  rw [opn_s, if_neg hx, List.length_cons]
  omega
theorem tot_add {x : Int} : tot W (addK K x) = tot W K + 1 := by
  unfold tot addK
  show ((K.1 + 1 : Nat) : Int) + _ - _ = _
  omega
theorem top_no {c : Int} (h : topL 4 W) : clo (W.headD 13) ≠ 4 := by
  cases W with
  | nil => decide
  | cons x U =>
    have := h x U rfl
    show clo x ≠ 4
    rcases this with zqq | zqq
    · rw [zqq]
      decide
    · omega
theorem cmp_f : ∀ a : Fin 16, 3 ≤ (a : Nat) → ((a : Nat) ≤ 8 ↔ (chS ((a : Nat) : Int) = 60 ∨ chS ((a : Nat) : Int) = 62 ∨ chS ((a : Nat) : Int) = 61 ∨ 256 ≤ chS ((a : Nat) : Int))) := by decide +kernel
theorem cmp_is {a : Int} (ha : 3 ≤ a ∧ a ≤ 15) : a ≤ 8 ↔ (chS a = 60 ∨ chS a = 62 ∨ chS a = 61 ∨ 256 ≤ chS a) := by
  have := cmp_f ⟨a.toNat, by omega⟩
  simp only [Int.toNat_of_nonneg (show 0 ≤ a by omega)] at this
  rw [← this (by omega)]
  omega
theorem clo_v : clo 0 = 1 ∧ clo 1 = 2 ∧ clo 2 = 3 ∧ clo 3 = 4 ∧ clo 4 = 4 ∧ clo 5 = 4 ∧ clo 6 = 4 ∧ clo 7 = 4 ∧ clo 8 = 4 ∧ clo 9 = 5 ∧ clo 10 = 5 ∧ clo 11 = 6 ∧ clo 12 = 6 ∧ clo 13 = 0 := by decide
theorem jsg_5 {vqq : Int} (hv : vqq < 13) : jsg 5 vqq = vqq := by
  unfold jsg
  rw [if_neg (by omega), if_pos ⟨rfl, hv⟩]
theorem jsg_4 {vqq : Int} (hv : vqq = 9 ∨ vqq = 10) : jsg 4 vqq = vqq - 9 := by
  unfold jsg
  rw [if_pos ⟨rfl, hv⟩]
theorem kR_sg {g : Int} (h : 0 ≤ g ∧ g ≤ 12) : kR (20000 + g) 2 (chr g) := Or.inr (Or.inr ⟨by omega, by omega, rfl, by rw [show 20000 + g - 20000 = g by omega]⟩)
theorem chS_12 {g : Int} (h : g ≤ 12) : chS g = chr g := by
  unfold chS
  rw [if_neg (by omega), if_neg (by omega), if_neg (by omega)]
/-- a sign behind parts that are read: the machine's step -/
theorem eS_op {g k vqq : Int} (hj : jsg k vqq = g) (hg : 0 ≤ g) (hV : ∀ x, x ∈ V → x ≠ 13 ∧ cl5 g ≤ clo x) (hW : topL (cl5 g) W) (h4 : clo g = 4 → topL 4 W) (h64 : tot (V ++ W) K < 64) : eStep k vqq 2 (V ++ W) K = (0, if clo g ≤ 2 then 0 else 1, g :: W, pps V K) := by
  have es : stl (cl5 g) (V ++ W) K = (W, pps V K) := by rw [stl_pps _ hV, stl_id hW]
  rw [eO_5 (by omega) (fun y => ?_) h64, hj, es]
  rw [hj] at y
  have c5 : cl5 g = 5 := by
    unfold cl5
    rw [if_pos y.1]
  rw [c5] at es
  rw [es] at y
  exact top_no (c := 0) (h4 y.1) y.2
theorem eS_op2 {g k vqq : Int} (hj : jsg k vqq = g) (hg : 0 ≤ g) (hV : ∀ x, x ∈ V → x ≠ 13 ∧ cl5 g ≤ clo x) (hW : topL (cl5 g) W) (h4 : clo g = 4 → topL 4 W) (h64 : 64 ≤ tot (V ++ W) K) : eStep k vqq 2 (V ++ W) K = (2, 2, V ++ W, K) := by
  have es : stl (cl5 g) (V ++ W) K = (W, pps V K) := by rw [stl_pps _ hV, stl_id hW]
  refine eO_4 (by omega) (fun y => ?_) h64
  rw [hj] at y
  have c5 : cl5 g = 5 := by
    unfold cl5
    rw [if_pos y.1]
  rw [c5] at es
  rw [es] at y
  exact top_no (c := 0) (h4 y.1) y.2
theorem r_product {M : Nat} (hb : bOk B n) (hIn : RFS B n 86 7 7 20 M) (hIn2 : ∀ M2, M2 < M → RFS B n 86 7 7 20 M2) : RFS B n 85 6 6 21 M := by
  intro d p m b W K K0 h0 s Q hM0 hd hp hE hI hm hm0 hno hT kS kF
  have op0 := hI.2.2.2.2.2.1
  have tt0 := hI.2.2.2.2.1
  have dd0 : 0 ≤ dD W K := by
    unfold dD
    omega
  have L1 : ∀ N : Nat, ∀ {o1 : Option pv} (p1 : Nat) (V : List Int) (K2 : KS) (tqq : St), (N = n - p1 ∧ p < p1 ∧ p1 ≤ n ∧ tot W K ≤ tot (V ++ W) K2) → (∀ r, eEnd B n p1 2 (V ++ W) K2 r → eEnd B n p m W K r) → (∀ x, x ∈ V → x ≠ 13 ∧ 6 ≤ clo x) → (iE b K0 2 (V ++ W) K2) → (RE B n p1 W (pps V K2) tqq) → (LA B n 7 p1 (V ++ W) K2) → (qF s tqq) →  wp PP d mb85 (mb85.getD 1 []) [some (vR 94), o1] [] (HP h0 tqq) Q := by
    refine s_ind (fun N ih => ?_)
    intro o1 p1 V K2 tqq hM gR gV gI gE gL gF
    refine x_aload rfl ?_
    refine x_ci ?_
    refine n_call [vR _, vI _] [] (by omega) (Nat.le_of_ble_eq_true rfl) rfl rfl (Nat.le_of_ble_eq_true rfl) ?_
    show wpM PP _ _ [vR 94, vI (chS 11)] _ _
    refine r_isSign gE.2.2.1 gE.2.1 (tkR_is hb) (by omega) ?_
    show wp PP _ _ _ [some (vR _), _] [vI _] _ _
    refine z_if_ne (fun c1 => ?_) (fun c1 => ?_)
    · have hv : tkK B n p1 = 5 ∧ (tkV B n p1 = 11 ∨ tkV B n p1 = 12) := by omega
      obtain ⟨g, hgv⟩ : ∃ g, tkV B n p1 = g := ⟨_, rfl⟩
      rw [hgv] at hv
      have hj : jsg (tkK B n p1) (tkV B n p1) = g := by rw [hv.1, hgv]; exact jsg_5 (by omega)
      have cv := clo_v
      have cg : clo g = 6 := by
        rcases hv.2 with zqq | zqq <;> rw [zqq] <;> omega
      have c5 : cl5 g = 6 := by
        unfold cl5
        rw [if_neg (by omega)]
        omega
      have tn := tkE_R (B := B) hM.2.2.1 (by omega) (by omega)
      have tp2 := tot_pps (W := W) (K := K2) (fun x hx => (gV x hx).1)
      have sb1 := gI.suf (fun x hx => (gV x hx).1)
      have hVc : ∀ x, x ∈ V → x ≠ 13 ∧ cl5 g ≤ clo x := fun x hx => ⟨(gV x hx).1, by have := (gV x hx).2; omega⟩
      have hWc : topL (cl5 g) W := topL_le hT (by omega)
      have tR : 0 ≤ tot W (pps V K2) ∧ tot W (pps V K2) ≤ 64 := ⟨by
        have := opn_le W
        unfold tot
        omega, sb1.1⟩
      have dk : dD W (pps V K2) ≤ dD W K := by
        unfold dD
        rw [tp2.1]
        have := hM.2.2.2
        omega
      have op8 := sb1.2.1
      refine x_aload rfl ?_
      refine h_getI 17 sc_94 rfl rfl ?_
      rw [(gE.2.1.2.2.2.2.2.2.2 hv.1).2, hgv]
      refine n_istore [some (vR _), some (vI _)] (Nat.le_of_ble_eq_true rfl) rfl ?_
      refine x_aload rfl ?_
      refine n_call [vR _] [] (by omega) (Nat.le_of_ble_eq_true rfl) rfl rfl (Nat.le_of_ble_eq_true rfl) ?_
      refine r_knot (by omega) gE.2.2.1 gE.2.1.2.1 gE.2.2.2.1 (by omega) (fun y => ?_) (fun y => ?_)
      · show wp PP _ _ _ _ [] _ _
        refine x_aload rfl ?_
        refine n_call [vR _] [] (by omega) (Nat.le_of_ble_eq_true rfl) rfl rfl (Nat.le_of_ble_eq_true rfl) ?_
        refine r_goOn (p := tkE B n p1) (by omega) ((up_i (by decide)).trans gE.2.2.1) (gE.1.of (up_i (by decide)) (fun r => up_a (by decide))) hb ((up_i (by decide)).trans gE.2.1.1) tn.2 (fun uqq u1qq u2qq => ?_)
        have hE2 : RE B n (tkE B n p1) (g :: W) (pps V K2) uqq := ⟨(gE.1.of (up_i (by decide)) (fun r => up_a (by decide))).f u2qq, u1qq, (u2qq 94 18 (by omega)).trans ((up_i (by decide)).trans gE.2.2.1), by rw [u2qq 94 23 (by omega), up_e, (tot_cons (W := W) (K := pps V K2) (x := g) (by omega)).1], by rw [u2qq 94 22 (by omega), up_i (by decide), gE.2.2.2.2.1, (tot_cons (W := W) (K := pps V K2) (x := g) (by omega)).2], gE.2.2.2.2.2.of (fun b r hb9 => by rw [u2qq b r (by omega), up_f (by omega)])⟩
        have es := eS_op (V := V) (W := W) (K := K2) hj (by omega) hVc hWc (fun zqq => by omega) (by omega)
        have ok := eStep_ok (tkR_is hb) (by omega) gI es
        have dd : dD (g :: W) (pps V K2) = dD W (pps V K2) - 1 := by
          unfold dD
          rw [(tot_cons (W := W) (K := pps V K2) (x := g) (by omega)).1, (tot_cons (W := W) (K := pps V K2) (x := g) (by omega)).2]
          omega
        show wp PP _ _ _ [some (vR _), some (vI _)] [] _ _
        refine x_aload rfl ?_
        refine n_call [vR _] [] (by omega) (Nat.le_of_ble_eq_true rfl) rfl rfl (Nat.le_of_ble_eq_true rfl) ?_
        refine hIn2 (n - tkE B n p1) (by omega) (Nat.le_refl _) (by omega) tn.2 hE2 ok.1 (by split <;> omega) (fun y => by omega) (fun _ y => by have y1 := y.1; rw [if_neg (show ¬ clo g ≤ 2 by omega)] at y1; omega) (topL_c (by omega)) (fun p2 V2 K3 wqq e1 e2 e3 e4 e5 e6 e7 => ?_) (fun f pl K3 wqq hf12 e1 f18 f19 wF0 => ?_)
        · have sb := e3.suf (fun x hx => (e2 x hx).1)
          have sp2 := eB_pop sb (by omega)
          show wp PP _ _ _ _ [] _ _
          refine x_aload rfl ?_
          refine x_ci ?_
          refine x_iload rfl ?_
          refine n_call [vR _, vI _, vI _] [] (by omega) (Nat.le_of_ble_eq_true rfl) rfl rfl (Nat.le_of_ble_eq_true rfl) ?_
          rw [chS_12 (show g ≤ 12 by omega)]
          refine r_puts (x := 20000 + g) (by omega) e4.2.2.1 e4.2.2.2.2.2 sp2.2 (kR_sg (by omega)) (fun x x1 x2 => ?_)
          have hE3 : RE B n p2 W (pps (V2 ++ [g]) K3) x := by
            rw [pps_app]
            refine ⟨e4.1.of (x2 94 13 (by omega) (by omega)) (fun r => x2 95 r (by omega) (by omega)), ?_, (x2 94 18 (by omega) (by omega)).trans e4.2.2.1, ?_, ?_, x1⟩
            · have e42 := e4.2.1
              unfold TKN at e42 ⊢
              rw [x2 94 14 (by omega) (by omega), x2 94 15 (by omega) (by omega), x2 94 16 (by omega) (by omega), x2 94 17 (by omega) (by omega)]
              exact e42
            · show _ = tot W (addK (pps V2 K3) (20000 + g))
              rw [x2 94 23 (by omega) (by omega), e4.2.2.2.1, (tot_cons (W := W) (K := pps V2 K3) (x := g) (by omega)).1, tot_add]
            · rw [x2 94 22 (by omega) (by omega), e4.2.2.2.2.1, (tot_cons (W := W) (K := pps V2 K3) (x := g) (by omega)).2]
          show wp PP _ _ _ [some (vR _), some (vI _)] [] _ _
          refine x_goto ?_
          have ea : V2 ++ [g] ++ W = V2 ++ g :: W := by rw [List.append_assoc]; rfl
          refine ih (n - p2) (by omega) p2 (V2 ++ [g]) K3 x ⟨rfl, by omega, by omega, by rw [ea]; have e8 := (tot_cons (W := W) (K := pps V K2) (x := g) (by omega)).1; have := e6.2.2; omega⟩ (fun r y => gR r (eEnd_step es (e1 r (by rw [← ea]; exact y)))) (fun y hy => ?_) (by rw [ea]; exact e3) hE3 (by rw [ea]; exact e5) (qF_tr gF (qF_tr (qF_tr (qF_up qF_rfl (by omega)) u2qq.q) (qF_tr e7 (fun b r q1 q2 q3 q4 => x2 b r (by omega) (by omega)))))
          rcases List.mem_append.mp hy with hy | hy
          · exact ⟨(e2 y hy).1, by have := (e2 y hy).2; omega⟩
          · have := List.mem_singleton.mp hy
            rw [this]
            omega
        · have en := gR _ (eEnd_step es e1)
          have hf : iR (wqq 94 18) ∧ wqq 94 18 ≠ 0 := by rw [f18]; omega
          have wF : qFw s wqq := qFw_tr gF (qFw_tr (qF_tr (qF_up qF_rfl (by omega)) u2qq.q) wF0)
          show wp PP _ _ _ _ [] _ _
          refine x_aload rfl ?_
          refine x_ci ?_
          refine x_iload rfl ?_
          refine n_call [vR _, vI _, vI _] [] (by omega) (Nat.le_of_ble_eq_true rfl) rfl rfl (Nat.le_of_ble_eq_true rfl) ?_
          refine f_puts hf ?_
          show wp PP _ _ _ [some (vR _), some (vI _)] [] _ _
          refine x_goto ?_
          refine x_aload rfl ?_
          refine x_ci ?_
          refine n_call [vR _, vI _] [] (by omega) (Nat.le_of_ble_eq_true rfl) rfl rfl (Nat.le_of_ble_eq_true rfl) ?_
          refine f_isSign hf ?_
          show wp PP _ _ _ [some (vR _), some (vI _)] [vI _] _ _
          refine n_if_ne ⟨by omega, by omega⟩ (fun c9 => by exfalso; omega) (fun _ => ?_)
          refine x_aload rfl ?_
          refine x_ci ?_
          refine n_call [vR _, vI _] [] (by omega) (Nat.le_of_ble_eq_true rfl) rfl rfl (Nat.le_of_ble_eq_true rfl) ?_
          refine f_isSign hf ?_
          show wp PP _ _ _ [some (vR _), some (vI _)] [vI _] _ _
          refine n_if_eq ⟨by omega, by omega⟩ (fun _ => ?_) (fun c9 => by exfalso; omega)
          refine x_ret ?_
          exact kF f pl K3 wqq hf12 en f18 f19 wF
      · have en := gR _ (eEnd_stop (eS_op2 (V := V) (W := W) (K := K2) hj (by omega) hVc hWc (fun zqq => by omega) (by omega)) (by omega))
        rw [if_neg (show ¬ (2 : Int) = -1 by decide)] at en
        obtain ⟨wqq, hw⟩ : ∃ wqq, wqq = up (up tqq 94 18 2) 94 19 ((tkP B n p1 : Nat) : Int) := ⟨_, rfl⟩
        rw [← hw]
        have f18 : wqq 94 18 = 2 := by rw [hw, up_i (by decide), up_e]
        have f19 : wqq 94 19 = ((tkP B n p1 : Nat) : Int) := by rw [hw, up_e]
        have hf : iR (wqq 94 18) ∧ wqq 94 18 ≠ 0 := by rw [f18]; omega
        have wF : qFw s wqq := by
          rw [hw]
          exact qFw_up (qFw_up (qF.w gF) (by omega)) (by omega)
        show wp PP _ _ _ _ [] _ _
        refine x_aload rfl ?_
        refine n_call [vR _] [] (by omega) (Nat.le_of_ble_eq_true rfl) rfl rfl (Nat.le_of_ble_eq_true rfl) ?_
        refine f_goOn hf ?_
        show wp PP _ _ _ [some (vR _), some (vI _)] [] _ _
        refine x_aload rfl ?_
        refine n_call [vR _] [] (by omega) (Nat.le_of_ble_eq_true rfl) rfl rfl (Nat.le_of_ble_eq_true rfl) ?_
        refine f_primary hf ?_
        show wp PP _ _ _ [some (vR _), some (vI _)] [] _ _
        refine x_aload rfl ?_
        refine x_ci ?_
        refine x_iload rfl ?_
        refine n_call [vR _, vI _, vI _] [] (by omega) (Nat.le_of_ble_eq_true rfl) rfl rfl (Nat.le_of_ble_eq_true rfl) ?_
        refine f_puts hf ?_
        show wp PP _ _ _ [some (vR _), some (vI _)] [] _ _
        refine x_goto ?_
        refine x_aload rfl ?_
        refine x_ci ?_
        refine n_call [vR _, vI _] [] (by omega) (Nat.le_of_ble_eq_true rfl) rfl rfl (Nat.le_of_ble_eq_true rfl) ?_
        refine f_isSign hf ?_
        show wp PP _ _ _ [some (vR _), some (vI _)] [vI _] _ _
        refine n_if_ne ⟨by omega, by omega⟩ (fun c9 => by exfalso; omega) (fun _ => ?_)
        refine x_aload rfl ?_
        refine x_ci ?_
        refine n_call [vR _, vI _] [] (by omega) (Nat.le_of_ble_eq_true rfl) rfl rfl (Nat.le_of_ble_eq_true rfl) ?_
        refine f_isSign hf ?_
        show wp PP _ _ _ [some (vR _), some (vI _)] [vI _] _ _
        refine n_if_eq ⟨by omega, by omega⟩ (fun _ => ?_) (fun c9 => by exfalso; omega)
        refine x_ret ?_
        exact kF 2 _ _ wqq (Or.inr rfl) en f18 f19 wF
    · refine x_aload rfl ?_
      refine x_ci ?_
      refine n_call [vR _, vI _] [] (by omega) (Nat.le_of_ble_eq_true rfl) rfl rfl (Nat.le_of_ble_eq_true rfl) ?_
      show wpM PP _ _ [vR 94, vI (chS 12)] _ _
      refine r_isSign gE.2.2.1 gE.2.1 (tkR_is hb) (by omega) ?_
      show wp PP _ _ _ [some (vR _), _] [vI _] _ _
      refine z_if_eq (fun c2 => ?_) (fun c2 => ?_)
      · refine x_ret ?_
        exact kS p1 V K2 tqq gR gV gI gE ⟨fun y zqq => by omega, fun y => absurd y (by decide), fun y => absurd y (by decide), fun y => absurd y (by decide), fun y => absurd y (by decide)⟩ hM.2 gF
      · refine x_fall ?_
        have hv : tkK B n p1 = 5 ∧ (tkV B n p1 = 11 ∨ tkV B n p1 = 12) := by omega
        obtain ⟨g, hgv⟩ : ∃ g, tkV B n p1 = g := ⟨_, rfl⟩
        rw [hgv] at hv
        have hj : jsg (tkK B n p1) (tkV B n p1) = g := by rw [hv.1, hgv]; exact jsg_5 (by omega)
        have cv := clo_v
        have cg : clo g = 6 := by
          rcases hv.2 with zqq | zqq <;> rw [zqq] <;> omega
        have c5 : cl5 g = 6 := by
          unfold cl5
          rw [if_neg (by omega)]
          omega
        have tn := tkE_R (B := B) hM.2.2.1 (by omega) (by omega)
        have tp2 := tot_pps (W := W) (K := K2) (fun x hx => (gV x hx).1)
        have sb1 := gI.suf (fun x hx => (gV x hx).1)
        have hVc : ∀ x, x ∈ V → x ≠ 13 ∧ cl5 g ≤ clo x := fun x hx => ⟨(gV x hx).1, by have := (gV x hx).2; omega⟩
        have hWc : topL (cl5 g) W := topL_le hT (by omega)
        have tR : 0 ≤ tot W (pps V K2) ∧ tot W (pps V K2) ≤ 64 := ⟨by
          have := opn_le W
          unfold tot
          omega, sb1.1⟩
        have dk : dD W (pps V K2) ≤ dD W K := by
          unfold dD
          rw [tp2.1]
          have := hM.2.2.2
          omega
        have op8 := sb1.2.1
        refine x_aload rfl ?_
        refine h_getI 17 sc_94 rfl rfl ?_
        rw [(gE.2.1.2.2.2.2.2.2.2 hv.1).2, hgv]
        refine n_istore [some (vR _), some (vI _)] (Nat.le_of_ble_eq_true rfl) rfl ?_
        refine x_aload rfl ?_
        refine n_call [vR _] [] (by omega) (Nat.le_of_ble_eq_true rfl) rfl rfl (Nat.le_of_ble_eq_true rfl) ?_
        refine r_knot (by omega) gE.2.2.1 gE.2.1.2.1 gE.2.2.2.1 (by omega) (fun y => ?_) (fun y => ?_)
        · show wp PP _ _ _ _ [] _ _
          refine x_aload rfl ?_
          refine n_call [vR _] [] (by omega) (Nat.le_of_ble_eq_true rfl) rfl rfl (Nat.le_of_ble_eq_true rfl) ?_
          refine r_goOn (p := tkE B n p1) (by omega) ((up_i (by decide)).trans gE.2.2.1) (gE.1.of (up_i (by decide)) (fun r => up_a (by decide))) hb ((up_i (by decide)).trans gE.2.1.1) tn.2 (fun uqq u1qq u2qq => ?_)
          have hE2 : RE B n (tkE B n p1) (g :: W) (pps V K2) uqq := ⟨(gE.1.of (up_i (by decide)) (fun r => up_a (by decide))).f u2qq, u1qq, (u2qq 94 18 (by omega)).trans ((up_i (by decide)).trans gE.2.2.1), by rw [u2qq 94 23 (by omega), up_e, (tot_cons (W := W) (K := pps V K2) (x := g) (by omega)).1], by rw [u2qq 94 22 (by omega), up_i (by decide), gE.2.2.2.2.1, (tot_cons (W := W) (K := pps V K2) (x := g) (by omega)).2], gE.2.2.2.2.2.of (fun b r hb9 => by rw [u2qq b r (by omega), up_f (by omega)])⟩
          have es := eS_op (V := V) (W := W) (K := K2) hj (by omega) hVc hWc (fun zqq => by omega) (by omega)
          have ok := eStep_ok (tkR_is hb) (by omega) gI es
          have dd : dD (g :: W) (pps V K2) = dD W (pps V K2) - 1 := by
            unfold dD
            rw [(tot_cons (W := W) (K := pps V K2) (x := g) (by omega)).1, (tot_cons (W := W) (K := pps V K2) (x := g) (by omega)).2]
            omega
          show wp PP _ _ _ [some (vR _), some (vI _)] [] _ _
          refine x_aload rfl ?_
          refine n_call [vR _] [] (by omega) (Nat.le_of_ble_eq_true rfl) rfl rfl (Nat.le_of_ble_eq_true rfl) ?_
          refine hIn2 (n - tkE B n p1) (by omega) (Nat.le_refl _) (by omega) tn.2 hE2 ok.1 (by split <;> omega) (fun y => by omega) (fun _ y => by have y1 := y.1; rw [if_neg (show ¬ clo g ≤ 2 by omega)] at y1; omega) (topL_c (by omega)) (fun p2 V2 K3 wqq e1 e2 e3 e4 e5 e6 e7 => ?_) (fun f pl K3 wqq hf12 e1 f18 f19 wF0 => ?_)
          · have sb := e3.suf (fun x hx => (e2 x hx).1)
            have sp2 := eB_pop sb (by omega)
            show wp PP _ _ _ _ [] _ _
            refine x_aload rfl ?_
            refine x_ci ?_
            refine x_iload rfl ?_
            refine n_call [vR _, vI _, vI _] [] (by omega) (Nat.le_of_ble_eq_true rfl) rfl rfl (Nat.le_of_ble_eq_true rfl) ?_
            rw [chS_12 (show g ≤ 12 by omega)]
            refine r_puts (x := 20000 + g) (by omega) e4.2.2.1 e4.2.2.2.2.2 sp2.2 (kR_sg (by omega)) (fun x x1 x2 => ?_)
            have hE3 : RE B n p2 W (pps (V2 ++ [g]) K3) x := by
              rw [pps_app]
              refine ⟨e4.1.of (x2 94 13 (by omega) (by omega)) (fun r => x2 95 r (by omega) (by omega)), ?_, (x2 94 18 (by omega) (by omega)).trans e4.2.2.1, ?_, ?_, x1⟩
              · have e42 := e4.2.1
                unfold TKN at e42 ⊢
                rw [x2 94 14 (by omega) (by omega), x2 94 15 (by omega) (by omega), x2 94 16 (by omega) (by omega), x2 94 17 (by omega) (by omega)]
                exact e42
              · show _ = tot W (addK (pps V2 K3) (20000 + g))
                rw [x2 94 23 (by omega) (by omega), e4.2.2.2.1, (tot_cons (W := W) (K := pps V2 K3) (x := g) (by omega)).1, tot_add]
              · rw [x2 94 22 (by omega) (by omega), e4.2.2.2.2.1, (tot_cons (W := W) (K := pps V2 K3) (x := g) (by omega)).2]
            show wp PP _ _ _ [some (vR _), some (vI _)] [] _ _
            refine x_goto ?_
            have ea : V2 ++ [g] ++ W = V2 ++ g :: W := by rw [List.append_assoc]; rfl
            refine ih (n - p2) (by omega) p2 (V2 ++ [g]) K3 x ⟨rfl, by omega, by omega, by rw [ea]; have e8 := (tot_cons (W := W) (K := pps V K2) (x := g) (by omega)).1; have := e6.2.2; omega⟩ (fun r y => gR r (eEnd_step es (e1 r (by rw [← ea]; exact y)))) (fun y hy => ?_) (by rw [ea]; exact e3) hE3 (by rw [ea]; exact e5) (qF_tr gF (qF_tr (qF_tr (qF_up qF_rfl (by omega)) u2qq.q) (qF_tr e7 (fun b r q1 q2 q3 q4 => x2 b r (by omega) (by omega)))))
            rcases List.mem_append.mp hy with hy | hy
            · exact ⟨(e2 y hy).1, by have := (e2 y hy).2; omega⟩
            · have := List.mem_singleton.mp hy
              rw [this]
              omega
          · have en := gR _ (eEnd_step es e1)
            have hf : iR (wqq 94 18) ∧ wqq 94 18 ≠ 0 := by rw [f18]; omega
            have wF : qFw s wqq := qFw_tr gF (qFw_tr (qF_tr (qF_up qF_rfl (by omega)) u2qq.q) wF0)
            show wp PP _ _ _ _ [] _ _
            refine x_aload rfl ?_
            refine x_ci ?_
            refine x_iload rfl ?_
            refine n_call [vR _, vI _, vI _] [] (by omega) (Nat.le_of_ble_eq_true rfl) rfl rfl (Nat.le_of_ble_eq_true rfl) ?_
            refine f_puts hf ?_
            show wp PP _ _ _ [some (vR _), some (vI _)] [] _ _
            refine x_goto ?_
            refine x_aload rfl ?_
            refine x_ci ?_
            refine n_call [vR _, vI _] [] (by omega) (Nat.le_of_ble_eq_true rfl) rfl rfl (Nat.le_of_ble_eq_true rfl) ?_
            refine f_isSign hf ?_
            show wp PP _ _ _ [some (vR _), some (vI _)] [vI _] _ _
            refine n_if_ne ⟨by omega, by omega⟩ (fun c9 => by exfalso; omega) (fun _ => ?_)
            refine x_aload rfl ?_
            refine x_ci ?_
            refine n_call [vR _, vI _] [] (by omega) (Nat.le_of_ble_eq_true rfl) rfl rfl (Nat.le_of_ble_eq_true rfl) ?_
            refine f_isSign hf ?_
            show wp PP _ _ _ [some (vR _), some (vI _)] [vI _] _ _
            refine n_if_eq ⟨by omega, by omega⟩ (fun _ => ?_) (fun c9 => by exfalso; omega)
            refine x_ret ?_
            exact kF f pl K3 wqq hf12 en f18 f19 wF
        · have en := gR _ (eEnd_stop (eS_op2 (V := V) (W := W) (K := K2) hj (by omega) hVc hWc (fun zqq => by omega) (by omega)) (by omega))
          rw [if_neg (show ¬ (2 : Int) = -1 by decide)] at en
          obtain ⟨wqq, hw⟩ : ∃ wqq, wqq = up (up tqq 94 18 2) 94 19 ((tkP B n p1 : Nat) : Int) := ⟨_, rfl⟩
          rw [← hw]
          have f18 : wqq 94 18 = 2 := by rw [hw, up_i (by decide), up_e]
          have f19 : wqq 94 19 = ((tkP B n p1 : Nat) : Int) := by rw [hw, up_e]
          have hf : iR (wqq 94 18) ∧ wqq 94 18 ≠ 0 := by rw [f18]; omega
          have wF : qFw s wqq := by
            rw [hw]
            exact qFw_up (qFw_up (qF.w gF) (by omega)) (by omega)
          show wp PP _ _ _ _ [] _ _
          refine x_aload rfl ?_
          refine n_call [vR _] [] (by omega) (Nat.le_of_ble_eq_true rfl) rfl rfl (Nat.le_of_ble_eq_true rfl) ?_
          refine f_goOn hf ?_
          show wp PP _ _ _ [some (vR _), some (vI _)] [] _ _
          refine x_aload rfl ?_
          refine n_call [vR _] [] (by omega) (Nat.le_of_ble_eq_true rfl) rfl rfl (Nat.le_of_ble_eq_true rfl) ?_
          refine f_primary hf ?_
          show wp PP _ _ _ [some (vR _), some (vI _)] [] _ _
          refine x_aload rfl ?_
          refine x_ci ?_
          refine x_iload rfl ?_
          refine n_call [vR _, vI _, vI _] [] (by omega) (Nat.le_of_ble_eq_true rfl) rfl rfl (Nat.le_of_ble_eq_true rfl) ?_
          refine f_puts hf ?_
          show wp PP _ _ _ [some (vR _), some (vI _)] [] _ _
          refine x_goto ?_
          refine x_aload rfl ?_
          refine x_ci ?_
          refine n_call [vR _, vI _] [] (by omega) (Nat.le_of_ble_eq_true rfl) rfl rfl (Nat.le_of_ble_eq_true rfl) ?_
          refine f_isSign hf ?_
          show wp PP _ _ _ [some (vR _), some (vI _)] [vI _] _ _
          refine n_if_ne ⟨by omega, by omega⟩ (fun c9 => by exfalso; omega) (fun _ => ?_)
          refine x_aload rfl ?_
          refine x_ci ?_
          refine n_call [vR _, vI _] [] (by omega) (Nat.le_of_ble_eq_true rfl) rfl rfl (Nat.le_of_ble_eq_true rfl) ?_
          refine f_isSign hf ?_
          show wp PP _ _ _ [some (vR _), some (vI _)] [vI _] _ _
          refine n_if_eq ⟨by omega, by omega⟩ (fun _ => ?_) (fun c9 => by exfalso; omega)
          refine x_ret ?_
          exact kF 2 _ _ wqq (Or.inr rfl) en f18 f19 wF
  refine n_at (m := 85) (q := mr85) (kn := (0, 1)) [some (vR _), none] mb85 rfl rfl (h_rcv sc_94) (Nat.le_of_ble_eq_true rfl) rfl rfl ?_
  refine x_aload rfl ?_
  refine n_call [vR _] [] (by omega) (Nat.le_of_ble_eq_true rfl) rfl rfl (Nat.le_of_ble_eq_true rfl) ?_
  refine hIn hM0 (by omega) hp hE hI hm (fun y => by omega) (fun _ => hno (by omega)) (topL_le hT (by omega)) (fun p2 V K2 tqq e1 e2 e3 e4 e5 e6 e7 => ?_) (fun f pl K2 wqq hf12 e1 f18 f19 wF => ?_)
  · show wp PP _ _ _ _ [] _ _
    refine x_fall ?_
    exact L1 (n - p2) p2 V K2 tqq ⟨rfl, e6⟩ e1 (fun x hx => ⟨(e2 x hx).1, by have := (e2 x hx).2; omega⟩) e3 e4 e5 e7
  · have hf : iR (wqq 94 18) ∧ wqq 94 18 ≠ 0 := by rw [f18]; omega
    show wp PP _ _ _ _ [] _ _
    refine x_fall ?_
    refine x_aload rfl ?_
    refine x_ci ?_
    refine n_call [vR _, vI _] [] (by omega) (Nat.le_of_ble_eq_true rfl) rfl rfl (Nat.le_of_ble_eq_true rfl) ?_
    refine f_isSign hf ?_
    show wp PP _ _ _ [some (vR _), _] [vI _] _ _
    refine n_if_ne ⟨by omega, by omega⟩ (fun c9 => by exfalso; omega) (fun _ => ?_)
    refine x_aload rfl ?_
    refine x_ci ?_
    refine n_call [vR _, vI _] [] (by omega) (Nat.le_of_ble_eq_true rfl) rfl rfl (Nat.le_of_ble_eq_true rfl) ?_
    refine f_isSign hf ?_
    show wp PP _ _ _ [some (vR _), _] [vI _] _ _
    refine n_if_eq ⟨by omega, by omega⟩ (fun _ => ?_) (fun c9 => by exfalso; omega)
    refine x_ret ?_
    exact kF f pl K2 wqq hf12 e1 f18 f19 wF
theorem r_sum {M : Nat} (hb : bOk B n) (hIn : RFS B n 85 6 6 21 M) (hIn2 : ∀ M2, M2 < M → RFS B n 85 6 6 21 M2) : RFS B n 84 5 5 22 M := by
  intro d p m b W K K0 h0 s Q hM0 hd hp hE hI hm hm0 hno hT kS kF
  have op0 := hI.2.2.2.2.2.1
  have tt0 := hI.2.2.2.2.1
  have dd0 : 0 ≤ dD W K := by
    unfold dD
    omega
  have L1 : ∀ N : Nat, ∀ {o1 : Option pv} (p1 : Nat) (V : List Int) (K2 : KS) (tqq : St), (N = n - p1 ∧ p < p1 ∧ p1 ≤ n ∧ tot W K ≤ tot (V ++ W) K2) → (∀ r, eEnd B n p1 2 (V ++ W) K2 r → eEnd B n p m W K r) → (∀ x, x ∈ V → x ≠ 13 ∧ 5 ≤ clo x) → (iE b K0 2 (V ++ W) K2) → (RE B n p1 W (pps V K2) tqq) → (LA B n 6 p1 (V ++ W) K2) → (qF s tqq) →  wp PP d mb84 (mb84.getD 1 []) [some (vR 94), o1] [] (HP h0 tqq) Q := by
    refine s_ind (fun N ih => ?_)
    intro o1 p1 V K2 tqq hM gR gV gI gE gL gF
    refine x_aload rfl ?_
    refine x_ci ?_
    refine n_call [vR _, vI _] [] (by omega) (Nat.le_of_ble_eq_true rfl) rfl rfl (Nat.le_of_ble_eq_true rfl) ?_
    show wpM PP _ _ [vR 94, vI (chS 9)] _ _
    refine r_isSign gE.2.2.1 gE.2.1 (tkR_is hb) (by omega) ?_
    show wp PP _ _ _ [some (vR _), _] [vI _] _ _
    refine z_if_ne (fun c1 => ?_) (fun c1 => ?_)
    · have hv : tkK B n p1 = 5 ∧ (tkV B n p1 = 9 ∨ tkV B n p1 = 10) := by omega
      obtain ⟨g, hgv⟩ : ∃ g, tkV B n p1 = g := ⟨_, rfl⟩
      rw [hgv] at hv
      have hj : jsg (tkK B n p1) (tkV B n p1) = g := by rw [hv.1, hgv]; exact jsg_5 (by omega)
      have cv := clo_v
      have cg : clo g = 5 := by
        rcases hv.2 with zqq | zqq <;> rw [zqq] <;> omega
      have c5 : cl5 g = 5 := by
        unfold cl5
        rw [if_neg (by omega)]
        omega
      have tn := tkE_R (B := B) hM.2.2.1 (by omega) (by omega)
      have tp2 := tot_pps (W := W) (K := K2) (fun x hx => (gV x hx).1)
      have sb1 := gI.suf (fun x hx => (gV x hx).1)
      have hVc : ∀ x, x ∈ V → x ≠ 13 ∧ cl5 g ≤ clo x := fun x hx => ⟨(gV x hx).1, by have := (gV x hx).2; omega⟩
      have hWc : topL (cl5 g) W := topL_le hT (by omega)
      have tR : 0 ≤ tot W (pps V K2) ∧ tot W (pps V K2) ≤ 64 := ⟨by
        have := opn_le W
        unfold tot
        omega, sb1.1⟩
      have dk : dD W (pps V K2) ≤ dD W K := by
        unfold dD
        rw [tp2.1]
        have := hM.2.2.2
        omega
      have op8 := sb1.2.1
      refine x_aload rfl ?_
      refine h_getI 17 sc_94 rfl rfl ?_
      rw [(gE.2.1.2.2.2.2.2.2.2 hv.1).2, hgv]
      refine n_istore [some (vR _), some (vI _)] (Nat.le_of_ble_eq_true rfl) rfl ?_
      refine x_aload rfl ?_
      refine n_call [vR _] [] (by omega) (Nat.le_of_ble_eq_true rfl) rfl rfl (Nat.le_of_ble_eq_true rfl) ?_
      refine r_knot (by omega) gE.2.2.1 gE.2.1.2.1 gE.2.2.2.1 (by omega) (fun y => ?_) (fun y => ?_)
      · show wp PP _ _ _ _ [] _ _
        refine x_aload rfl ?_
        refine n_call [vR _] [] (by omega) (Nat.le_of_ble_eq_true rfl) rfl rfl (Nat.le_of_ble_eq_true rfl) ?_
        refine r_goOn (p := tkE B n p1) (by omega) ((up_i (by decide)).trans gE.2.2.1) (gE.1.of (up_i (by decide)) (fun r => up_a (by decide))) hb ((up_i (by decide)).trans gE.2.1.1) tn.2 (fun uqq u1qq u2qq => ?_)
        have hE2 : RE B n (tkE B n p1) (g :: W) (pps V K2) uqq := ⟨(gE.1.of (up_i (by decide)) (fun r => up_a (by decide))).f u2qq, u1qq, (u2qq 94 18 (by omega)).trans ((up_i (by decide)).trans gE.2.2.1), by rw [u2qq 94 23 (by omega), up_e, (tot_cons (W := W) (K := pps V K2) (x := g) (by omega)).1], by rw [u2qq 94 22 (by omega), up_i (by decide), gE.2.2.2.2.1, (tot_cons (W := W) (K := pps V K2) (x := g) (by omega)).2], gE.2.2.2.2.2.of (fun b r hb9 => by rw [u2qq b r (by omega), up_f (by omega)])⟩
        have es := eS_op (V := V) (W := W) (K := K2) hj (by omega) hVc hWc (fun zqq => by omega) (by omega)
        have ok := eStep_ok (tkR_is hb) (by omega) gI es
        have dd : dD (g :: W) (pps V K2) = dD W (pps V K2) - 1 := by
          unfold dD
          rw [(tot_cons (W := W) (K := pps V K2) (x := g) (by omega)).1, (tot_cons (W := W) (K := pps V K2) (x := g) (by omega)).2]
          omega
        show wp PP _ _ _ [some (vR _), some (vI _)] [] _ _
        refine x_aload rfl ?_
        refine n_call [vR _] [] (by omega) (Nat.le_of_ble_eq_true rfl) rfl rfl (Nat.le_of_ble_eq_true rfl) ?_
        refine hIn2 (n - tkE B n p1) (by omega) (Nat.le_refl _) (by omega) tn.2 hE2 ok.1 (by split <;> omega) (fun y => by omega) (fun _ y => by have y1 := y.1; rw [if_neg (show ¬ clo g ≤ 2 by omega)] at y1; omega) (topL_c (by omega)) (fun p2 V2 K3 wqq e1 e2 e3 e4 e5 e6 e7 => ?_) (fun f pl K3 wqq hf12 e1 f18 f19 wF0 => ?_)
        · have sb := e3.suf (fun x hx => (e2 x hx).1)
          have sp2 := eB_pop sb (by omega)
          show wp PP _ _ _ _ [] _ _
          refine x_aload rfl ?_
          refine x_ci ?_
          refine x_iload rfl ?_
          refine n_call [vR _, vI _, vI _] [] (by omega) (Nat.le_of_ble_eq_true rfl) rfl rfl (Nat.le_of_ble_eq_true rfl) ?_
          rw [chS_12 (show g ≤ 12 by omega)]
          refine r_puts (x := 20000 + g) (by omega) e4.2.2.1 e4.2.2.2.2.2 sp2.2 (kR_sg (by omega)) (fun x x1 x2 => ?_)
          have hE3 : RE B n p2 W (pps (V2 ++ [g]) K3) x := by
            rw [pps_app]
            refine ⟨e4.1.of (x2 94 13 (by omega) (by omega)) (fun r => x2 95 r (by omega) (by omega)), ?_, (x2 94 18 (by omega) (by omega)).trans e4.2.2.1, ?_, ?_, x1⟩
            · have e42 := e4.2.1
              unfold TKN at e42 ⊢
              rw [x2 94 14 (by omega) (by omega), x2 94 15 (by omega) (by omega), x2 94 16 (by omega) (by omega), x2 94 17 (by omega) (by omega)]
              exact e42
            · show _ = tot W (addK (pps V2 K3) (20000 + g))
              rw [x2 94 23 (by omega) (by omega), e4.2.2.2.1, (tot_cons (W := W) (K := pps V2 K3) (x := g) (by omega)).1, tot_add]
            · rw [x2 94 22 (by omega) (by omega), e4.2.2.2.2.1, (tot_cons (W := W) (K := pps V2 K3) (x := g) (by omega)).2]
          show wp PP _ _ _ [some (vR _), some (vI _)] [] _ _
          refine x_goto ?_
          have ea : V2 ++ [g] ++ W = V2 ++ g :: W := by rw [List.append_assoc]; rfl
          refine ih (n - p2) (by omega) p2 (V2 ++ [g]) K3 x ⟨rfl, by omega, by omega, by rw [ea]; have e8 := (tot_cons (W := W) (K := pps V K2) (x := g) (by omega)).1; have := e6.2.2; omega⟩ (fun r y => gR r (eEnd_step es (e1 r (by rw [← ea]; exact y)))) (fun y hy => ?_) (by rw [ea]; exact e3) hE3 (by rw [ea]; exact e5) (qF_tr gF (qF_tr (qF_tr (qF_up qF_rfl (by omega)) u2qq.q) (qF_tr e7 (fun b r q1 q2 q3 q4 => x2 b r (by omega) (by omega)))))
          rcases List.mem_append.mp hy with hy | hy
          · exact ⟨(e2 y hy).1, by have := (e2 y hy).2; omega⟩
          · have := List.mem_singleton.mp hy
            rw [this]
            omega
        · have en := gR _ (eEnd_step es e1)
          have hf : iR (wqq 94 18) ∧ wqq 94 18 ≠ 0 := by rw [f18]; omega
          have wF : qFw s wqq := qFw_tr gF (qFw_tr (qF_tr (qF_up qF_rfl (by omega)) u2qq.q) wF0)
          show wp PP _ _ _ _ [] _ _
          refine x_aload rfl ?_
          refine x_ci ?_
          refine x_iload rfl ?_
          refine n_call [vR _, vI _, vI _] [] (by omega) (Nat.le_of_ble_eq_true rfl) rfl rfl (Nat.le_of_ble_eq_true rfl) ?_
          refine f_puts hf ?_
          show wp PP _ _ _ [some (vR _), some (vI _)] [] _ _
          refine x_goto ?_
          refine x_aload rfl ?_
          refine x_ci ?_
          refine n_call [vR _, vI _] [] (by omega) (Nat.le_of_ble_eq_true rfl) rfl rfl (Nat.le_of_ble_eq_true rfl) ?_
          refine f_isSign hf ?_
          show wp PP _ _ _ [some (vR _), some (vI _)] [vI _] _ _
          refine n_if_ne ⟨by omega, by omega⟩ (fun c9 => by exfalso; omega) (fun _ => ?_)
          refine x_aload rfl ?_
          refine x_ci ?_
          refine n_call [vR _, vI _] [] (by omega) (Nat.le_of_ble_eq_true rfl) rfl rfl (Nat.le_of_ble_eq_true rfl) ?_
          refine f_isSign hf ?_
          show wp PP _ _ _ [some (vR _), some (vI _)] [vI _] _ _
          refine n_if_eq ⟨by omega, by omega⟩ (fun _ => ?_) (fun c9 => by exfalso; omega)
          refine x_ret ?_
          exact kF f pl K3 wqq hf12 en f18 f19 wF
      · have en := gR _ (eEnd_stop (eS_op2 (V := V) (W := W) (K := K2) hj (by omega) hVc hWc (fun zqq => by omega) (by omega)) (by omega))
        rw [if_neg (show ¬ (2 : Int) = -1 by decide)] at en
        obtain ⟨wqq, hw⟩ : ∃ wqq, wqq = up (up tqq 94 18 2) 94 19 ((tkP B n p1 : Nat) : Int) := ⟨_, rfl⟩
        rw [← hw]
        have f18 : wqq 94 18 = 2 := by rw [hw, up_i (by decide), up_e]
        have f19 : wqq 94 19 = ((tkP B n p1 : Nat) : Int) := by rw [hw, up_e]
        have hf : iR (wqq 94 18) ∧ wqq 94 18 ≠ 0 := by rw [f18]; omega
        have wF : qFw s wqq := by
          rw [hw]
          exact qFw_up (qFw_up (qF.w gF) (by omega)) (by omega)
        show wp PP _ _ _ _ [] _ _
        refine x_aload rfl ?_
        refine n_call [vR _] [] (by omega) (Nat.le_of_ble_eq_true rfl) rfl rfl (Nat.le_of_ble_eq_true rfl) ?_
        refine f_goOn hf ?_
        show wp PP _ _ _ [some (vR _), some (vI _)] [] _ _
        refine x_aload rfl ?_
        refine n_call [vR _] [] (by omega) (Nat.le_of_ble_eq_true rfl) rfl rfl (Nat.le_of_ble_eq_true rfl) ?_
        refine f_product (by omega) hf ?_
        show wp PP _ _ _ [some (vR _), some (vI _)] [] _ _
        refine x_aload rfl ?_
        refine x_ci ?_
        refine x_iload rfl ?_
        refine n_call [vR _, vI _, vI _] [] (by omega) (Nat.le_of_ble_eq_true rfl) rfl rfl (Nat.le_of_ble_eq_true rfl) ?_
        refine f_puts hf ?_
        show wp PP _ _ _ [some (vR _), some (vI _)] [] _ _
        refine x_goto ?_
        refine x_aload rfl ?_
        refine x_ci ?_
        refine n_call [vR _, vI _] [] (by omega) (Nat.le_of_ble_eq_true rfl) rfl rfl (Nat.le_of_ble_eq_true rfl) ?_
        refine f_isSign hf ?_
        show wp PP _ _ _ [some (vR _), some (vI _)] [vI _] _ _
        refine n_if_ne ⟨by omega, by omega⟩ (fun c9 => by exfalso; omega) (fun _ => ?_)
        refine x_aload rfl ?_
        refine x_ci ?_
        refine n_call [vR _, vI _] [] (by omega) (Nat.le_of_ble_eq_true rfl) rfl rfl (Nat.le_of_ble_eq_true rfl) ?_
        refine f_isSign hf ?_
        show wp PP _ _ _ [some (vR _), some (vI _)] [vI _] _ _
        refine n_if_eq ⟨by omega, by omega⟩ (fun _ => ?_) (fun c9 => by exfalso; omega)
        refine x_ret ?_
        exact kF 2 _ _ wqq (Or.inr rfl) en f18 f19 wF
    · refine x_aload rfl ?_
      refine x_ci ?_
      refine n_call [vR _, vI _] [] (by omega) (Nat.le_of_ble_eq_true rfl) rfl rfl (Nat.le_of_ble_eq_true rfl) ?_
      show wpM PP _ _ [vR 94, vI (chS 10)] _ _
      refine r_isSign gE.2.2.1 gE.2.1 (tkR_is hb) (by omega) ?_
      show wp PP _ _ _ [some (vR _), _] [vI _] _ _
      refine z_if_eq (fun c2 => ?_) (fun c2 => ?_)
      · refine x_ret ?_
        exact kS p1 V K2 tqq gR gV gI gE ⟨fun y => gL.1 (by omega), fun y zqq => by omega, fun y => absurd y (by decide), fun y => absurd y (by decide), fun y => absurd y (by decide)⟩ hM.2 gF
      · refine x_fall ?_
        have hv : tkK B n p1 = 5 ∧ (tkV B n p1 = 9 ∨ tkV B n p1 = 10) := by omega
        obtain ⟨g, hgv⟩ : ∃ g, tkV B n p1 = g := ⟨_, rfl⟩
        rw [hgv] at hv
        have hj : jsg (tkK B n p1) (tkV B n p1) = g := by rw [hv.1, hgv]; exact jsg_5 (by omega)
        have cv := clo_v
        have cg : clo g = 5 := by
          rcases hv.2 with zqq | zqq <;> rw [zqq] <;> omega
        have c5 : cl5 g = 5 := by
          unfold cl5
          rw [if_neg (by omega)]
          omega
        have tn := tkE_R (B := B) hM.2.2.1 (by omega) (by omega)
        have tp2 := tot_pps (W := W) (K := K2) (fun x hx => (gV x hx).1)
        have sb1 := gI.suf (fun x hx => (gV x hx).1)
        have hVc : ∀ x, x ∈ V → x ≠ 13 ∧ cl5 g ≤ clo x := fun x hx => ⟨(gV x hx).1, by have := (gV x hx).2; omega⟩
        have hWc : topL (cl5 g) W := topL_le hT (by omega)
        have tR : 0 ≤ tot W (pps V K2) ∧ tot W (pps V K2) ≤ 64 := ⟨by
          have := opn_le W
          unfold tot
          omega, sb1.1⟩
        have dk : dD W (pps V K2) ≤ dD W K := by
          unfold dD
          rw [tp2.1]
          have := hM.2.2.2
          omega
        have op8 := sb1.2.1
        refine x_aload rfl ?_
        refine h_getI 17 sc_94 rfl rfl ?_
        rw [(gE.2.1.2.2.2.2.2.2.2 hv.1).2, hgv]
        refine n_istore [some (vR _), some (vI _)] (Nat.le_of_ble_eq_true rfl) rfl ?_
        refine x_aload rfl ?_
        refine n_call [vR _] [] (by omega) (Nat.le_of_ble_eq_true rfl) rfl rfl (Nat.le_of_ble_eq_true rfl) ?_
        refine r_knot (by omega) gE.2.2.1 gE.2.1.2.1 gE.2.2.2.1 (by omega) (fun y => ?_) (fun y => ?_)
        · show wp PP _ _ _ _ [] _ _
          refine x_aload rfl ?_
          refine n_call [vR _] [] (by omega) (Nat.le_of_ble_eq_true rfl) rfl rfl (Nat.le_of_ble_eq_true rfl) ?_
          refine r_goOn (p := tkE B n p1) (by omega) ((up_i (by decide)).trans gE.2.2.1) (gE.1.of (up_i (by decide)) (fun r => up_a (by decide))) hb ((up_i (by decide)).trans gE.2.1.1) tn.2 (fun uqq u1qq u2qq => ?_)
          have hE2 : RE B n (tkE B n p1) (g :: W) (pps V K2) uqq := ⟨(gE.1.of (up_i (by decide)) (fun r => up_a (by decide))).f u2qq, u1qq, (u2qq 94 18 (by omega)).trans ((up_i (by decide)).trans gE.2.2.1), by rw [u2qq 94 23 (by omega), up_e, (tot_cons (W := W) (K := pps V K2) (x := g) (by omega)).1], by rw [u2qq 94 22 (by omega), up_i (by decide), gE.2.2.2.2.1, (tot_cons (W := W) (K := pps V K2) (x := g) (by omega)).2], gE.2.2.2.2.2.of (fun b r hb9 => by rw [u2qq b r (by omega), up_f (by omega)])⟩
          have es := eS_op (V := V) (W := W) (K := K2) hj (by omega) hVc hWc (fun zqq => by omega) (by omega)
          have ok := eStep_ok (tkR_is hb) (by omega) gI es
          have dd : dD (g :: W) (pps V K2) = dD W (pps V K2) - 1 := by
            unfold dD
            rw [(tot_cons (W := W) (K := pps V K2) (x := g) (by omega)).1, (tot_cons (W := W) (K := pps V K2) (x := g) (by omega)).2]
            omega
          show wp PP _ _ _ [some (vR _), some (vI _)] [] _ _
          refine x_aload rfl ?_
          refine n_call [vR _] [] (by omega) (Nat.le_of_ble_eq_true rfl) rfl rfl (Nat.le_of_ble_eq_true rfl) ?_
          refine hIn2 (n - tkE B n p1) (by omega) (Nat.le_refl _) (by omega) tn.2 hE2 ok.1 (by split <;> omega) (fun y => by omega) (fun _ y => by have y1 := y.1; rw [if_neg (show ¬ clo g ≤ 2 by omega)] at y1; omega) (topL_c (by omega)) (fun p2 V2 K3 wqq e1 e2 e3 e4 e5 e6 e7 => ?_) (fun f pl K3 wqq hf12 e1 f18 f19 wF0 => ?_)
          · have sb := e3.suf (fun x hx => (e2 x hx).1)
            have sp2 := eB_pop sb (by omega)
            show wp PP _ _ _ _ [] _ _
            refine x_aload rfl ?_
            refine x_ci ?_
            refine x_iload rfl ?_
            refine n_call [vR _, vI _, vI _] [] (by omega) (Nat.le_of_ble_eq_true rfl) rfl rfl (Nat.le_of_ble_eq_true rfl) ?_
            rw [chS_12 (show g ≤ 12 by omega)]
            refine r_puts (x := 20000 + g) (by omega) e4.2.2.1 e4.2.2.2.2.2 sp2.2 (kR_sg (by omega)) (fun x x1 x2 => ?_)
            have hE3 : RE B n p2 W (pps (V2 ++ [g]) K3) x := by
              rw [pps_app]
              refine ⟨e4.1.of (x2 94 13 (by omega) (by omega)) (fun r => x2 95 r (by omega) (by omega)), ?_, (x2 94 18 (by omega) (by omega)).trans e4.2.2.1, ?_, ?_, x1⟩
              · have e42 := e4.2.1
                unfold TKN at e42 ⊢
                rw [x2 94 14 (by omega) (by omega), x2 94 15 (by omega) (by omega), x2 94 16 (by omega) (by omega), x2 94 17 (by omega) (by omega)]
                exact e42
              · show _ = tot W (addK (pps V2 K3) (20000 + g))
                rw [x2 94 23 (by omega) (by omega), e4.2.2.2.1, (tot_cons (W := W) (K := pps V2 K3) (x := g) (by omega)).1, tot_add]
              · rw [x2 94 22 (by omega) (by omega), e4.2.2.2.2.1, (tot_cons (W := W) (K := pps V2 K3) (x := g) (by omega)).2]
            show wp PP _ _ _ [some (vR _), some (vI _)] [] _ _
            refine x_goto ?_
            have ea : V2 ++ [g] ++ W = V2 ++ g :: W := by rw [List.append_assoc]; rfl
            refine ih (n - p2) (by omega) p2 (V2 ++ [g]) K3 x ⟨rfl, by omega, by omega, by rw [ea]; have e8 := (tot_cons (W := W) (K := pps V K2) (x := g) (by omega)).1; have := e6.2.2; omega⟩ (fun r y => gR r (eEnd_step es (e1 r (by rw [← ea]; exact y)))) (fun y hy => ?_) (by rw [ea]; exact e3) hE3 (by rw [ea]; exact e5) (qF_tr gF (qF_tr (qF_tr (qF_up qF_rfl (by omega)) u2qq.q) (qF_tr e7 (fun b r q1 q2 q3 q4 => x2 b r (by omega) (by omega)))))
            rcases List.mem_append.mp hy with hy | hy
            · exact ⟨(e2 y hy).1, by have := (e2 y hy).2; omega⟩
            · have := List.mem_singleton.mp hy
              rw [this]
              omega
          · have en := gR _ (eEnd_step es e1)
            have hf : iR (wqq 94 18) ∧ wqq 94 18 ≠ 0 := by rw [f18]; omega
            have wF : qFw s wqq := qFw_tr gF (qFw_tr (qF_tr (qF_up qF_rfl (by omega)) u2qq.q) wF0)
            show wp PP _ _ _ _ [] _ _
            refine x_aload rfl ?_
            refine x_ci ?_
            refine x_iload rfl ?_
            refine n_call [vR _, vI _, vI _] [] (by omega) (Nat.le_of_ble_eq_true rfl) rfl rfl (Nat.le_of_ble_eq_true rfl) ?_
            refine f_puts hf ?_
            show wp PP _ _ _ [some (vR _), some (vI _)] [] _ _
            refine x_goto ?_
            refine x_aload rfl ?_
            refine x_ci ?_
            refine n_call [vR _, vI _] [] (by omega) (Nat.le_of_ble_eq_true rfl) rfl rfl (Nat.le_of_ble_eq_true rfl) ?_
            refine f_isSign hf ?_
            show wp PP _ _ _ [some (vR _), some (vI _)] [vI _] _ _
            refine n_if_ne ⟨by omega, by omega⟩ (fun c9 => by exfalso; omega) (fun _ => ?_)
            refine x_aload rfl ?_
            refine x_ci ?_
            refine n_call [vR _, vI _] [] (by omega) (Nat.le_of_ble_eq_true rfl) rfl rfl (Nat.le_of_ble_eq_true rfl) ?_
            refine f_isSign hf ?_
            show wp PP _ _ _ [some (vR _), some (vI _)] [vI _] _ _
            refine n_if_eq ⟨by omega, by omega⟩ (fun _ => ?_) (fun c9 => by exfalso; omega)
            refine x_ret ?_
            exact kF f pl K3 wqq hf12 en f18 f19 wF
        · have en := gR _ (eEnd_stop (eS_op2 (V := V) (W := W) (K := K2) hj (by omega) hVc hWc (fun zqq => by omega) (by omega)) (by omega))
          rw [if_neg (show ¬ (2 : Int) = -1 by decide)] at en
          obtain ⟨wqq, hw⟩ : ∃ wqq, wqq = up (up tqq 94 18 2) 94 19 ((tkP B n p1 : Nat) : Int) := ⟨_, rfl⟩
          rw [← hw]
          have f18 : wqq 94 18 = 2 := by rw [hw, up_i (by decide), up_e]
          have f19 : wqq 94 19 = ((tkP B n p1 : Nat) : Int) := by rw [hw, up_e]
          have hf : iR (wqq 94 18) ∧ wqq 94 18 ≠ 0 := by rw [f18]; omega
          have wF : qFw s wqq := by
            rw [hw]
            exact qFw_up (qFw_up (qF.w gF) (by omega)) (by omega)
          show wp PP _ _ _ _ [] _ _
          refine x_aload rfl ?_
          refine n_call [vR _] [] (by omega) (Nat.le_of_ble_eq_true rfl) rfl rfl (Nat.le_of_ble_eq_true rfl) ?_
          refine f_goOn hf ?_
          show wp PP _ _ _ [some (vR _), some (vI _)] [] _ _
          refine x_aload rfl ?_
          refine n_call [vR _] [] (by omega) (Nat.le_of_ble_eq_true rfl) rfl rfl (Nat.le_of_ble_eq_true rfl) ?_
          refine f_product (by omega) hf ?_
          show wp PP _ _ _ [some (vR _), some (vI _)] [] _ _
          refine x_aload rfl ?_
          refine x_ci ?_
          refine x_iload rfl ?_
          refine n_call [vR _, vI _, vI _] [] (by omega) (Nat.le_of_ble_eq_true rfl) rfl rfl (Nat.le_of_ble_eq_true rfl) ?_
          refine f_puts hf ?_
          show wp PP _ _ _ [some (vR _), some (vI _)] [] _ _
          refine x_goto ?_
          refine x_aload rfl ?_
          refine x_ci ?_
          refine n_call [vR _, vI _] [] (by omega) (Nat.le_of_ble_eq_true rfl) rfl rfl (Nat.le_of_ble_eq_true rfl) ?_
          refine f_isSign hf ?_
          show wp PP _ _ _ [some (vR _), some (vI _)] [vI _] _ _
          refine n_if_ne ⟨by omega, by omega⟩ (fun c9 => by exfalso; omega) (fun _ => ?_)
          refine x_aload rfl ?_
          refine x_ci ?_
          refine n_call [vR _, vI _] [] (by omega) (Nat.le_of_ble_eq_true rfl) rfl rfl (Nat.le_of_ble_eq_true rfl) ?_
          refine f_isSign hf ?_
          show wp PP _ _ _ [some (vR _), some (vI _)] [vI _] _ _
          refine n_if_eq ⟨by omega, by omega⟩ (fun _ => ?_) (fun c9 => by exfalso; omega)
          refine x_ret ?_
          exact kF 2 _ _ wqq (Or.inr rfl) en f18 f19 wF
  refine n_at (m := 84) (q := mr84) (kn := (0, 1)) [some (vR _), none] mb84 rfl rfl (h_rcv sc_94) (Nat.le_of_ble_eq_true rfl) rfl rfl ?_
  refine x_aload rfl ?_
  refine n_call [vR _] [] (by omega) (Nat.le_of_ble_eq_true rfl) rfl rfl (Nat.le_of_ble_eq_true rfl) ?_
  refine hIn hM0 (by omega) hp hE hI hm (fun y => by omega) (fun _ => hno (by omega)) (topL_le hT (by omega)) (fun p2 V K2 tqq e1 e2 e3 e4 e5 e6 e7 => ?_) (fun f pl K2 wqq hf12 e1 f18 f19 wF => ?_)
  · show wp PP _ _ _ _ [] _ _
    refine x_fall ?_
    exact L1 (n - p2) p2 V K2 tqq ⟨rfl, e6⟩ e1 (fun x hx => ⟨(e2 x hx).1, by have := (e2 x hx).2; omega⟩) e3 e4 e5 e7
  · have hf : iR (wqq 94 18) ∧ wqq 94 18 ≠ 0 := by rw [f18]; omega
    show wp PP _ _ _ _ [] _ _
    refine x_fall ?_
    refine x_aload rfl ?_
    refine x_ci ?_
    refine n_call [vR _, vI _] [] (by omega) (Nat.le_of_ble_eq_true rfl) rfl rfl (Nat.le_of_ble_eq_true rfl) ?_
    refine f_isSign hf ?_
    show wp PP _ _ _ [some (vR _), _] [vI _] _ _
    refine n_if_ne ⟨by omega, by omega⟩ (fun c9 => by exfalso; omega) (fun _ => ?_)
    refine x_aload rfl ?_
    refine x_ci ?_
    refine n_call [vR _, vI _] [] (by omega) (Nat.le_of_ble_eq_true rfl) rfl rfl (Nat.le_of_ble_eq_true rfl) ?_
    refine f_isSign hf ?_
    show wp PP _ _ _ [some (vR _), _] [vI _] _ _
    refine n_if_eq ⟨by omega, by omega⟩ (fun _ => ?_) (fun c9 => by exfalso; omega)
    refine x_ret ?_
    exact kF f pl K2 wqq hf12 e1 f18 f19 wF
theorem r_conjunction {M : Nat} (hb : bOk B n) (hIn : RFS B n 83 3 4 23 M) (hIn2 : ∀ M2, M2 < M → RFS B n 83 3 4 23 M2) : RFS B n 82 2 2 24 M := by
  intro d p m b W K K0 h0 s Q hM0 hd hp hE hI hm hm0 hno hT kS kF
  have op0 := hI.2.2.2.2.2.1
  have tt0 := hI.2.2.2.2.1
  have dd0 : 0 ≤ dD W K := by
    unfold dD
    omega
  have L1 : ∀ N : Nat, ∀ (p1 : Nat) (V : List Int) (K2 : KS) (tqq : St), (N = n - p1 ∧ p < p1 ∧ p1 ≤ n ∧ tot W K ≤ tot (V ++ W) K2) → (∀ r, eEnd B n p1 2 (V ++ W) K2 r → eEnd B n p m W K r) → (∀ x, x ∈ V → x ≠ 13 ∧ 2 ≤ clo x) → (iE b K0 2 (V ++ W) K2) → (RE B n p1 W (pps V K2) tqq) → (LA B n 3 p1 (V ++ W) K2) → (qF s tqq) →  wp PP d mb82 (mb82.getD 1 []) [some (vR 94)] [] (HP h0 tqq) Q := by
    refine s_ind (fun N ih => ?_)
    intro p1 V K2 tqq hM gR gV gI gE gL gF
    refine x_aload rfl ?_
    refine x_ci ?_
    refine n_call [vR _, vI _] [] (by omega) (Nat.le_of_ble_eq_true rfl) rfl rfl (Nat.le_of_ble_eq_true rfl) ?_
    refine r_isWord gE.2.2.1 gE.2.1 (tkR_is hb) (by omega) ?_
    show wp PP _ _ _ [some (vR _)] [vI _] _ _
    refine z_if_eq (fun c1 => ?_) (fun c1 => ?_)
    · refine x_ret ?_
      exact kS p1 V K2 tqq gR gV gI gE ⟨fun y => gL.1 (by omega), fun y => gL.2.1 (by omega), fun y => gL.2.2.1 (by omega), fun y => c1, fun y => absurd y (by decide)⟩ hM.2 gF
    · have hv : tkK B n p1 = 4 ∧ tkV B n p1 = 10 := c1
      have hj : jsg (tkK B n p1) (tkV B n p1) = 1 := by rw [hv.1, hv.2]; rfl
      have cg := clo_v
      have c5 : cl5 (1 : Int) = 2 := by
        unfold cl5
        rw [if_neg (by omega)]
        omega
      have tn := tkE_R (B := B) hM.2.2.1 (by omega) (by omega)
      have tp2 := tot_pps (W := W) (K := K2) (fun x hx => (gV x hx).1)
      have sb1 := gI.suf (fun x hx => (gV x hx).1)
      have hVc : ∀ x, x ∈ V → x ≠ 13 ∧ cl5 (1 : Int) ≤ clo x := fun x hx => ⟨(gV x hx).1, by have := (gV x hx).2; omega⟩
      have hWc : topL (cl5 (1 : Int)) W := topL_le hT (by omega)
      have tR : 0 ≤ tot W (pps V K2) ∧ tot W (pps V K2) ≤ 64 := ⟨by
        have := opn_le W
        unfold tot
        omega, sb1.1⟩
      have dk : dD W (pps V K2) ≤ dD W K := by
        unfold dD
        rw [tp2.1]
        have := hM.2.2.2
        omega
      have op8 := sb1.2.1
      refine x_aload rfl ?_
      refine n_call [vR _] [] (by omega) (Nat.le_of_ble_eq_true rfl) rfl rfl (Nat.le_of_ble_eq_true rfl) ?_
      refine r_knot (by omega) gE.2.2.1 gE.2.1.2.1 gE.2.2.2.1 (by omega) (fun y => ?_) (fun y => ?_)
      · show wp PP _ _ _ _ [] _ _
        refine x_aload rfl ?_
        refine n_call [vR _] [] (by omega) (Nat.le_of_ble_eq_true rfl) rfl rfl (Nat.le_of_ble_eq_true rfl) ?_
        refine r_goOn (p := tkE B n p1) (by omega) ((up_i (by decide)).trans gE.2.2.1) (gE.1.of (up_i (by decide)) (fun r => up_a (by decide))) hb ((up_i (by decide)).trans gE.2.1.1) tn.2 (fun uqq u1qq u2qq => ?_)
        have hE2 : RE B n (tkE B n p1) ((1 : Int) :: W) (pps V K2) uqq := ⟨(gE.1.of (up_i (by decide)) (fun r => up_a (by decide))).f u2qq, u1qq, (u2qq 94 18 (by omega)).trans ((up_i (by decide)).trans gE.2.2.1), by rw [u2qq 94 23 (by omega), up_e, (tot_cons (W := W) (K := pps V K2) (x := (1 : Int)) (by omega)).1], by rw [u2qq 94 22 (by omega), up_i (by decide), gE.2.2.2.2.1, (tot_cons (W := W) (K := pps V K2) (x := (1 : Int)) (by omega)).2], gE.2.2.2.2.2.of (fun b r hb9 => by rw [u2qq b r (by omega), up_f (by omega)])⟩
        have es := eS_op (V := V) (W := W) (K := K2) hj (by omega) hVc hWc (fun zqq => by omega) (by omega)
        have ok := eStep_ok (tkR_is hb) (by omega) gI es
        have dd : dD ((1 : Int) :: W) (pps V K2) = dD W (pps V K2) - 1 := by
          unfold dD
          rw [(tot_cons (W := W) (K := pps V K2) (x := (1 : Int)) (by omega)).1, (tot_cons (W := W) (K := pps V K2) (x := (1 : Int)) (by omega)).2]
          omega
        show wp PP _ _ _ [some (vR _)] [] _ _
        refine x_aload rfl ?_
        refine n_call [vR _] [] (by omega) (Nat.le_of_ble_eq_true rfl) rfl rfl (Nat.le_of_ble_eq_true rfl) ?_
        refine hIn2 (n - tkE B n p1) (by omega) (Nat.le_refl _) (by omega) tn.2 hE2 ok.1 (by split <;> omega) (fun _ => by rw [if_pos (show clo (1 : Int) ≤ 2 by omega)]) (fun y => by omega) (topL_c (by omega)) (fun p2 V2 K3 wqq e1 e2 e3 e4 e5 e6 e7 => ?_) (fun f pl K3 wqq hf12 e1 f18 f19 wF0 => ?_)
        · have sb := e3.suf (fun x hx => (e2 x hx).1)
          have sp2 := eB_pop sb (by omega)
          show wp PP _ _ _ _ [] _ _
          refine x_aload rfl ?_
          refine x_ci ?_
          refine x_ci ?_
          refine n_call [vR _, vI _, vI _] [] (by omega) (Nat.le_of_ble_eq_true rfl) rfl rfl (Nat.le_of_ble_eq_true rfl) ?_
          refine r_puts (x := 20000 + (1 : Int)) (by omega) e4.2.2.1 e4.2.2.2.2.2 sp2.2 (kR_sg (by omega)) (fun x x1 x2 => ?_)
          have hE3 : RE B n p2 W (pps (V2 ++ [(1 : Int)]) K3) x := by
            rw [pps_app]
            refine ⟨e4.1.of (x2 94 13 (by omega) (by omega)) (fun r => x2 95 r (by omega) (by omega)), ?_, (x2 94 18 (by omega) (by omega)).trans e4.2.2.1, ?_, ?_, x1⟩
            · have e42 := e4.2.1
              unfold TKN at e42 ⊢
              rw [x2 94 14 (by omega) (by omega), x2 94 15 (by omega) (by omega), x2 94 16 (by omega) (by omega), x2 94 17 (by omega) (by omega)]
              exact e42
            · show _ = tot W (addK (pps V2 K3) (20000 + (1 : Int)))
              rw [x2 94 23 (by omega) (by omega), e4.2.2.2.1, (tot_cons (W := W) (K := pps V2 K3) (x := (1 : Int)) (by omega)).1, tot_add]
            · rw [x2 94 22 (by omega) (by omega), e4.2.2.2.2.1, (tot_cons (W := W) (K := pps V2 K3) (x := (1 : Int)) (by omega)).2]
          show wp PP _ _ _ [some (vR _)] [] _ _
          refine x_goto ?_
          have ea : V2 ++ [(1 : Int)] ++ W = V2 ++ (1 : Int) :: W := by rw [List.append_assoc]; rfl
          refine ih (n - p2) (by omega) p2 (V2 ++ [(1 : Int)]) K3 x ⟨rfl, by omega, by omega, by rw [ea]; have e8 := (tot_cons (W := W) (K := pps V K2) (x := (1 : Int)) (by omega)).1; have := e6.2.2; omega⟩ (fun r y => gR r (eEnd_step es (e1 r (by rw [← ea]; exact y)))) (fun y hy => ?_) (by rw [ea]; exact e3) hE3 (by rw [ea]; exact e5) (qF_tr gF (qF_tr (qF_tr (qF_up qF_rfl (by omega)) u2qq.q) (qF_tr e7 (fun b r q1 q2 q3 q4 => x2 b r (by omega) (by omega)))))
          rcases List.mem_append.mp hy with hy | hy
          · exact ⟨(e2 y hy).1, by have := (e2 y hy).2; omega⟩
          · have := List.mem_singleton.mp hy
            rw [this]
            omega
        · have en := gR _ (eEnd_step es e1)
          have hf : iR (wqq 94 18) ∧ wqq 94 18 ≠ 0 := by rw [f18]; omega
          have wF : qFw s wqq := qFw_tr gF (qFw_tr (qF_tr (qF_up qF_rfl (by omega)) u2qq.q) wF0)
          show wp PP _ _ _ _ [] _ _
          refine x_aload rfl ?_
          refine x_ci ?_
          refine x_ci ?_
          refine n_call [vR _, vI _, vI _] [] (by omega) (Nat.le_of_ble_eq_true rfl) rfl rfl (Nat.le_of_ble_eq_true rfl) ?_
          refine f_puts hf ?_
          show wp PP _ _ _ [some (vR _)] [] _ _
          refine x_goto ?_
          refine x_aload rfl ?_
          refine x_ci ?_
          refine n_call [vR _, vI _] [] (by omega) (Nat.le_of_ble_eq_true rfl) rfl rfl (Nat.le_of_ble_eq_true rfl) ?_
          refine f_isWord hf ?_
          show wp PP _ _ _ [some (vR _)] [vI _] _ _
          refine n_if_eq ⟨by omega, by omega⟩ (fun _ => ?_) (fun c9 => by exfalso; omega)
          refine x_ret ?_
          exact kF f pl K3 wqq hf12 en f18 f19 wF
      · have en := gR _ (eEnd_stop (eS_op2 (V := V) (W := W) (K := K2) hj (by omega) hVc hWc (fun zqq => by omega) (by omega)) (by omega))
        rw [if_neg (show ¬ (2 : Int) = -1 by decide)] at en
        obtain ⟨wqq, hw⟩ : ∃ wqq, wqq = up (up tqq 94 18 2) 94 19 ((tkP B n p1 : Nat) : Int) := ⟨_, rfl⟩
        rw [← hw]
        have f18 : wqq 94 18 = 2 := by rw [hw, up_i (by decide), up_e]
        have f19 : wqq 94 19 = ((tkP B n p1 : Nat) : Int) := by rw [hw, up_e]
        have hf : iR (wqq 94 18) ∧ wqq 94 18 ≠ 0 := by rw [f18]; omega
        have wF : qFw s wqq := by
          rw [hw]
          exact qFw_up (qFw_up (qF.w gF) (by omega)) (by omega)
        show wp PP _ _ _ _ [] _ _
        refine x_aload rfl ?_
        refine n_call [vR _] [] (by omega) (Nat.le_of_ble_eq_true rfl) rfl rfl (Nat.le_of_ble_eq_true rfl) ?_
        refine f_goOn hf ?_
        show wp PP _ _ _ [some (vR _)] [] _ _
        refine x_aload rfl ?_
        refine n_call [vR _] [] (by omega) (Nat.le_of_ble_eq_true rfl) rfl rfl (Nat.le_of_ble_eq_true rfl) ?_
        refine f_negation (by omega) hf ?_
        show wp PP _ _ _ [some (vR _)] [] _ _
        refine x_aload rfl ?_
        refine x_ci ?_
        refine x_ci ?_
        refine n_call [vR _, vI _, vI _] [] (by omega) (Nat.le_of_ble_eq_true rfl) rfl rfl (Nat.le_of_ble_eq_true rfl) ?_
        refine f_puts hf ?_
        show wp PP _ _ _ [some (vR _)] [] _ _
        refine x_goto ?_
        refine x_aload rfl ?_
        refine x_ci ?_
        refine n_call [vR _, vI _] [] (by omega) (Nat.le_of_ble_eq_true rfl) rfl rfl (Nat.le_of_ble_eq_true rfl) ?_
        refine f_isWord hf ?_
        show wp PP _ _ _ [some (vR _)] [vI _] _ _
        refine n_if_eq ⟨by omega, by omega⟩ (fun _ => ?_) (fun c9 => by exfalso; omega)
        refine x_ret ?_
        exact kF 2 _ _ wqq (Or.inr rfl) en f18 f19 wF
  refine n_at (m := 82) (q := mr82) (kn := (0, 1)) [some (vR _)] mb82 rfl rfl (h_rcv sc_94) (Nat.le_of_ble_eq_true rfl) rfl rfl ?_
  refine x_aload rfl ?_
  refine n_call [vR _] [] (by omega) (Nat.le_of_ble_eq_true rfl) rfl rfl (Nat.le_of_ble_eq_true rfl) ?_
  refine hIn hM0 (by omega) hp hE hI hm (fun _ => hm0 (by omega)) (fun y => by omega) (topL_le hT (by omega)) (fun p2 V K2 tqq e1 e2 e3 e4 e5 e6 e7 => ?_) (fun f pl K2 wqq hf12 e1 f18 f19 wF => ?_)
  · show wp PP _ _ _ _ [] _ _
    refine x_fall ?_
    exact L1 (n - p2) p2 V K2 tqq ⟨rfl, e6⟩ e1 (fun x hx => ⟨(e2 x hx).1, by have := (e2 x hx).2; omega⟩) e3 e4 e5 e7
  · have hf : iR (wqq 94 18) ∧ wqq 94 18 ≠ 0 := by rw [f18]; omega
    show wp PP _ _ _ _ [] _ _
    refine x_fall ?_
    refine x_aload rfl ?_
    refine x_ci ?_
    refine n_call [vR _, vI _] [] (by omega) (Nat.le_of_ble_eq_true rfl) rfl rfl (Nat.le_of_ble_eq_true rfl) ?_
    refine f_isWord hf ?_
    show wp PP _ _ _ [some (vR _)] [vI _] _ _
    refine n_if_eq ⟨by omega, by omega⟩ (fun _ => ?_) (fun c9 => by exfalso; omega)
    refine x_ret ?_
    exact kF f pl K2 wqq hf12 e1 f18 f19 wF
theorem r_expression {M : Nat} (hb : bOk B n) (hIn : RFS B n 82 2 2 24 M) (hIn2 : ∀ M2, M2 < M → RFS B n 82 2 2 24 M2) : RFS B n 81 1 1 25 M := by
  intro d p m b W K K0 h0 s Q hM0 hd hp hE hI hm hm0 hno hT kS kF
  have op0 := hI.2.2.2.2.2.1
  have tt0 := hI.2.2.2.2.1
  have dd0 : 0 ≤ dD W K := by
    unfold dD
    omega
  have L1 : ∀ N : Nat, ∀ (p1 : Nat) (V : List Int) (K2 : KS) (tqq : St), (N = n - p1 ∧ p < p1 ∧ p1 ≤ n ∧ tot W K ≤ tot (V ++ W) K2) → (∀ r, eEnd B n p1 2 (V ++ W) K2 r → eEnd B n p m W K r) → (∀ x, x ∈ V → x ≠ 13 ∧ 1 ≤ clo x) → (iE b K0 2 (V ++ W) K2) → (RE B n p1 W (pps V K2) tqq) → (LA B n 2 p1 (V ++ W) K2) → (qF s tqq) →  wp PP d mb81 (mb81.getD 1 []) [some (vR 94)] [] (HP h0 tqq) Q := by
    refine s_ind (fun N ih => ?_)
    intro p1 V K2 tqq hM gR gV gI gE gL gF
    refine x_aload rfl ?_
    refine x_ci ?_
    refine n_call [vR _, vI _] [] (by omega) (Nat.le_of_ble_eq_true rfl) rfl rfl (Nat.le_of_ble_eq_true rfl) ?_
    refine r_isWord gE.2.2.1 gE.2.1 (tkR_is hb) (by omega) ?_
    show wp PP _ _ _ [some (vR _)] [vI _] _ _
    refine z_if_eq (fun c1 => ?_) (fun c1 => ?_)
    · refine x_ret ?_
      exact kS p1 V K2 tqq gR gV gI gE ⟨fun y => gL.1 (by omega), fun y => gL.2.1 (by omega), fun y => gL.2.2.1 (by omega), fun y => gL.2.2.2.1 (by omega), fun y => c1⟩ hM.2 gF
    · have hv : tkK B n p1 = 4 ∧ tkV B n p1 = 9 := c1
      have hj : jsg (tkK B n p1) (tkV B n p1) = 0 := by rw [hv.1, hv.2]; rfl
      have cg := clo_v
      have c5 : cl5 (0 : Int) = 1 := by
        unfold cl5
        rw [if_neg (by omega)]
        omega
      have tn := tkE_R (B := B) hM.2.2.1 (by omega) (by omega)
      have tp2 := tot_pps (W := W) (K := K2) (fun x hx => (gV x hx).1)
      have sb1 := gI.suf (fun x hx => (gV x hx).1)
      have hVc : ∀ x, x ∈ V → x ≠ 13 ∧ cl5 (0 : Int) ≤ clo x := fun x hx => ⟨(gV x hx).1, by have := (gV x hx).2; omega⟩
      have hWc : topL (cl5 (0 : Int)) W := topL_le hT (by omega)
      have tR : 0 ≤ tot W (pps V K2) ∧ tot W (pps V K2) ≤ 64 := ⟨by
        have := opn_le W
        unfold tot
        omega, sb1.1⟩
      have dk : dD W (pps V K2) ≤ dD W K := by
        unfold dD
        rw [tp2.1]
        have := hM.2.2.2
        omega
      have op8 := sb1.2.1
      refine x_aload rfl ?_
      refine n_call [vR _] [] (by omega) (Nat.le_of_ble_eq_true rfl) rfl rfl (Nat.le_of_ble_eq_true rfl) ?_
      refine r_knot (by omega) gE.2.2.1 gE.2.1.2.1 gE.2.2.2.1 (by omega) (fun y => ?_) (fun y => ?_)
      · show wp PP _ _ _ _ [] _ _
        refine x_aload rfl ?_
        refine n_call [vR _] [] (by omega) (Nat.le_of_ble_eq_true rfl) rfl rfl (Nat.le_of_ble_eq_true rfl) ?_
        refine r_goOn (p := tkE B n p1) (by omega) ((up_i (by decide)).trans gE.2.2.1) (gE.1.of (up_i (by decide)) (fun r => up_a (by decide))) hb ((up_i (by decide)).trans gE.2.1.1) tn.2 (fun uqq u1qq u2qq => ?_)
        have hE2 : RE B n (tkE B n p1) ((0 : Int) :: W) (pps V K2) uqq := ⟨(gE.1.of (up_i (by decide)) (fun r => up_a (by decide))).f u2qq, u1qq, (u2qq 94 18 (by omega)).trans ((up_i (by decide)).trans gE.2.2.1), by rw [u2qq 94 23 (by omega), up_e, (tot_cons (W := W) (K := pps V K2) (x := (0 : Int)) (by omega)).1], by rw [u2qq 94 22 (by omega), up_i (by decide), gE.2.2.2.2.1, (tot_cons (W := W) (K := pps V K2) (x := (0 : Int)) (by omega)).2], gE.2.2.2.2.2.of (fun b r hb9 => by rw [u2qq b r (by omega), up_f (by omega)])⟩
        have es := eS_op (V := V) (W := W) (K := K2) hj (by omega) hVc hWc (fun zqq => by omega) (by omega)
        have ok := eStep_ok (tkR_is hb) (by omega) gI es
        have dd : dD ((0 : Int) :: W) (pps V K2) = dD W (pps V K2) - 1 := by
          unfold dD
          rw [(tot_cons (W := W) (K := pps V K2) (x := (0 : Int)) (by omega)).1, (tot_cons (W := W) (K := pps V K2) (x := (0 : Int)) (by omega)).2]
          omega
        show wp PP _ _ _ [some (vR _)] [] _ _
        refine x_aload rfl ?_
        refine n_call [vR _] [] (by omega) (Nat.le_of_ble_eq_true rfl) rfl rfl (Nat.le_of_ble_eq_true rfl) ?_
        refine hIn2 (n - tkE B n p1) (by omega) (Nat.le_refl _) (by omega) tn.2 hE2 ok.1 (by split <;> omega) (fun _ => by rw [if_pos (show clo (0 : Int) ≤ 2 by omega)]) (fun y => by omega) (topL_c (by omega)) (fun p2 V2 K3 wqq e1 e2 e3 e4 e5 e6 e7 => ?_) (fun f pl K3 wqq hf12 e1 f18 f19 wF0 => ?_)
        · have sb := e3.suf (fun x hx => (e2 x hx).1)
          have sp2 := eB_pop sb (by omega)
          show wp PP _ _ _ _ [] _ _
          refine x_aload rfl ?_
          refine x_ci ?_
          refine x_ci ?_
          refine n_call [vR _, vI _, vI _] [] (by omega) (Nat.le_of_ble_eq_true rfl) rfl rfl (Nat.le_of_ble_eq_true rfl) ?_
          refine r_puts (x := 20000 + (0 : Int)) (by omega) e4.2.2.1 e4.2.2.2.2.2 sp2.2 (kR_sg (by omega)) (fun x x1 x2 => ?_)
          have hE3 : RE B n p2 W (pps (V2 ++ [(0 : Int)]) K3) x := by
            rw [pps_app]
            refine ⟨e4.1.of (x2 94 13 (by omega) (by omega)) (fun r => x2 95 r (by omega) (by omega)), ?_, (x2 94 18 (by omega) (by omega)).trans e4.2.2.1, ?_, ?_, x1⟩
            · have e42 := e4.2.1
              unfold TKN at e42 ⊢
              rw [x2 94 14 (by omega) (by omega), x2 94 15 (by omega) (by omega), x2 94 16 (by omega) (by omega), x2 94 17 (by omega) (by omega)]
              exact e42
            · show _ = tot W (addK (pps V2 K3) (20000 + (0 : Int)))
              rw [x2 94 23 (by omega) (by omega), e4.2.2.2.1, (tot_cons (W := W) (K := pps V2 K3) (x := (0 : Int)) (by omega)).1, tot_add]
            · rw [x2 94 22 (by omega) (by omega), e4.2.2.2.2.1, (tot_cons (W := W) (K := pps V2 K3) (x := (0 : Int)) (by omega)).2]
          show wp PP _ _ _ [some (vR _)] [] _ _
          refine x_goto ?_
          have ea : V2 ++ [(0 : Int)] ++ W = V2 ++ (0 : Int) :: W := by rw [List.append_assoc]; rfl
          refine ih (n - p2) (by omega) p2 (V2 ++ [(0 : Int)]) K3 x ⟨rfl, by omega, by omega, by rw [ea]; have e8 := (tot_cons (W := W) (K := pps V K2) (x := (0 : Int)) (by omega)).1; have := e6.2.2; omega⟩ (fun r y => gR r (eEnd_step es (e1 r (by rw [← ea]; exact y)))) (fun y hy => ?_) (by rw [ea]; exact e3) hE3 (by rw [ea]; exact e5) (qF_tr gF (qF_tr (qF_tr (qF_up qF_rfl (by omega)) u2qq.q) (qF_tr e7 (fun b r q1 q2 q3 q4 => x2 b r (by omega) (by omega)))))
          rcases List.mem_append.mp hy with hy | hy
          · exact ⟨(e2 y hy).1, by have := (e2 y hy).2; omega⟩
          · have := List.mem_singleton.mp hy
            rw [this]
            omega
        · have en := gR _ (eEnd_step es e1)
          have hf : iR (wqq 94 18) ∧ wqq 94 18 ≠ 0 := by rw [f18]; omega
          have wF : qFw s wqq := qFw_tr gF (qFw_tr (qF_tr (qF_up qF_rfl (by omega)) u2qq.q) wF0)
          show wp PP _ _ _ _ [] _ _
          refine x_aload rfl ?_
          refine x_ci ?_
          refine x_ci ?_
          refine n_call [vR _, vI _, vI _] [] (by omega) (Nat.le_of_ble_eq_true rfl) rfl rfl (Nat.le_of_ble_eq_true rfl) ?_
          refine f_puts hf ?_
          show wp PP _ _ _ [some (vR _)] [] _ _
          refine x_goto ?_
          refine x_aload rfl ?_
          refine x_ci ?_
          refine n_call [vR _, vI _] [] (by omega) (Nat.le_of_ble_eq_true rfl) rfl rfl (Nat.le_of_ble_eq_true rfl) ?_
          refine f_isWord hf ?_
          show wp PP _ _ _ [some (vR _)] [vI _] _ _
          refine n_if_eq ⟨by omega, by omega⟩ (fun _ => ?_) (fun c9 => by exfalso; omega)
          refine x_ret ?_
          exact kF f pl K3 wqq hf12 en f18 f19 wF
      · have en := gR _ (eEnd_stop (eS_op2 (V := V) (W := W) (K := K2) hj (by omega) hVc hWc (fun zqq => by omega) (by omega)) (by omega))
        rw [if_neg (show ¬ (2 : Int) = -1 by decide)] at en
        obtain ⟨wqq, hw⟩ : ∃ wqq, wqq = up (up tqq 94 18 2) 94 19 ((tkP B n p1 : Nat) : Int) := ⟨_, rfl⟩
        rw [← hw]
        have f18 : wqq 94 18 = 2 := by rw [hw, up_i (by decide), up_e]
        have f19 : wqq 94 19 = ((tkP B n p1 : Nat) : Int) := by rw [hw, up_e]
        have hf : iR (wqq 94 18) ∧ wqq 94 18 ≠ 0 := by rw [f18]; omega
        have wF : qFw s wqq := by
          rw [hw]
          exact qFw_up (qFw_up (qF.w gF) (by omega)) (by omega)
        show wp PP _ _ _ _ [] _ _
        refine x_aload rfl ?_
        refine n_call [vR _] [] (by omega) (Nat.le_of_ble_eq_true rfl) rfl rfl (Nat.le_of_ble_eq_true rfl) ?_
        refine f_goOn hf ?_
        show wp PP _ _ _ [some (vR _)] [] _ _
        refine x_aload rfl ?_
        refine n_call [vR _] [] (by omega) (Nat.le_of_ble_eq_true rfl) rfl rfl (Nat.le_of_ble_eq_true rfl) ?_
        refine f_conjunction (by omega) hf ?_
        show wp PP _ _ _ [some (vR _)] [] _ _
        refine x_aload rfl ?_
        refine x_ci ?_
        refine x_ci ?_
        refine n_call [vR _, vI _, vI _] [] (by omega) (Nat.le_of_ble_eq_true rfl) rfl rfl (Nat.le_of_ble_eq_true rfl) ?_
        refine f_puts hf ?_
        show wp PP _ _ _ [some (vR _)] [] _ _
        refine x_goto ?_
        refine x_aload rfl ?_
        refine x_ci ?_
        refine n_call [vR _, vI _] [] (by omega) (Nat.le_of_ble_eq_true rfl) rfl rfl (Nat.le_of_ble_eq_true rfl) ?_
        refine f_isWord hf ?_
        show wp PP _ _ _ [some (vR _)] [vI _] _ _
        refine n_if_eq ⟨by omega, by omega⟩ (fun _ => ?_) (fun c9 => by exfalso; omega)
        refine x_ret ?_
        exact kF 2 _ _ wqq (Or.inr rfl) en f18 f19 wF
  refine n_at (m := 81) (q := mr81) (kn := (0, 1)) [some (vR _)] mb81 rfl rfl (h_rcv sc_94) (Nat.le_of_ble_eq_true rfl) rfl rfl ?_
  refine x_aload rfl ?_
  refine n_call [vR _] [] (by omega) (Nat.le_of_ble_eq_true rfl) rfl rfl (Nat.le_of_ble_eq_true rfl) ?_
  refine hIn hM0 (by omega) hp hE hI hm (fun _ => hm0 (by omega)) (fun y => by omega) (topL_le hT (by omega)) (fun p2 V K2 tqq e1 e2 e3 e4 e5 e6 e7 => ?_) (fun f pl K2 wqq hf12 e1 f18 f19 wF => ?_)
  · show wp PP _ _ _ _ [] _ _
    refine x_fall ?_
    exact L1 (n - p2) p2 V K2 tqq ⟨rfl, e6⟩ e1 (fun x hx => ⟨(e2 x hx).1, by have := (e2 x hx).2; omega⟩) e3 e4 e5 e7
  · have hf : iR (wqq 94 18) ∧ wqq 94 18 ≠ 0 := by rw [f18]; omega
    show wp PP _ _ _ _ [] _ _
    refine x_fall ?_
    refine x_aload rfl ?_
    refine x_ci ?_
    refine n_call [vR _, vI _] [] (by omega) (Nat.le_of_ble_eq_true rfl) rfl rfl (Nat.le_of_ble_eq_true rfl) ?_
    refine f_isWord hf ?_
    show wp PP _ _ _ [some (vR _)] [vI _] _ _
    refine n_if_eq ⟨by omega, by omega⟩ (fun _ => ?_) (fun c9 => by exfalso; omega)
    refine x_ret ?_
    exact kF f pl K2 wqq hf12 e1 f18 f19 wF
end TXE
