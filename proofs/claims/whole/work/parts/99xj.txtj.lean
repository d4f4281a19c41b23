/-! TEXT: the class's lines, one by one -/
section TXJ
variable {d sp : Nat} {h0 h : pheap} {s tqq uqq : St} {Q : Option pv → pheap → Prop} {B : Int → Int} {n p q N : Nat} {sz : Int} {k vqq : Int} {D : Nat × (Int → Int)} {T : Nat × (Int → Int) × (Int → Int)} {S E : Int × Int} {K : KS} {L : (Int → Int) × (Int → Int)} {X : TS}
theorem TSC.dan (h : TSC sp D T S E K L s) (hsp : sp = 37 ∨ sp = 45) {x : Int} : TSC sp (D.1 + 1, updF D.2 D.1 x) T S E K L (up (up s (sp + 1) D.1 x) sp 1 ((D.1 : Int) + 1)) := by
  obtain ⟨⟨a1, a2⟩, ⟨b1, b2⟩, ⟨c1, c2, c3, c4⟩, ⟨d1, d2⟩, e⟩ := h
  refine ⟨⟨by rw [up_e]; rfl, fun i i0 i1 => ?_⟩, ⟨by rw [up_i (by decide), up_a (by omega)]; exact b1, fun i i0 i1 => ?_⟩, ⟨by rw [up_i (by decide), up_a (by omega)]; exact c1, by rw [up_i (by decide), up_a (by omega)]; exact c2, by rw [up_i (by decide), up_a (by omega)]; exact c3, by rw [up_i (by decide), up_a (by omega)]; exact c4⟩, ⟨by rw [up_i (by decide), up_a (by omega)]; exact d1, fun i i0 i1 => by rw [up_a (by omega), up_a (by omega)]; exact d2 i i0 i1⟩, fun r r0 r1 => by rw [up_a (by omega), up_a (by omega), up_a (by omega), up_a (by omega)]; exact e r r0 r1⟩
  · rw [up_a (by omega)]
    have i1 : i < ((D.1 + 1 : Nat) : Int) := i1
    show _ = updF D.2 D.1 x i
    unfold updF
    by_cases q : i = D.1
    · rw [q, up_e, if_pos rfl]
    · rw [up_i q, if_neg q]
      exact a2 i i0 (by omega)
  · rw [up_a (by omega), up_a (by omega), up_a (by omega), up_a (by omega)]
    exact b2 i i0 i1
theorem TSC.tel (h : TSC sp D T S E K L s) (hsp : sp = 37 ∨ sp = 45) {x y : Int} : TSC sp D (T.1 + 1, updF T.2.1 T.1 x, updF T.2.2 T.1 y) S E K L (up (up (up s (sp + 2) T.1 x) (sp + 3) T.1 y) sp 4 ((T.1 : Int) + 1)) := by
  obtain ⟨⟨a1, a2⟩, ⟨b1, b2⟩, ⟨c1, c2, c3, c4⟩, ⟨d1, d2⟩, e⟩ := h
  refine ⟨⟨by rw [up_i (by decide), up_a (by omega), up_a (by omega)]; exact a1, fun i i0 i1 => by rw [up_a (by omega), up_a (by omega), up_a (by omega)]; exact a2 i i0 i1⟩, ⟨by rw [up_e]; rfl, fun i i0 i1 => ?_⟩, ⟨by rw [up_i (by decide), up_a (by omega), up_a (by omega)]; exact c1, by rw [up_i (by decide), up_a (by omega), up_a (by omega)]; exact c2, by rw [up_i (by decide), up_a (by omega), up_a (by omega)]; exact c3, by rw [up_i (by decide), up_a (by omega), up_a (by omega)]; exact c4⟩, ⟨by rw [up_i (by decide), up_a (by omega), up_a (by omega)]; exact d1, fun i i0 i1 => by rw [up_a (by omega), up_a (by omega), up_a (by omega)]; exact d2 i i0 i1⟩, fun r r0 r1 => by rw [up_a (by omega), up_a (by omega), up_a (by omega), up_a (by omega), up_a (by omega), up_a (by omega)]; exact e r r0 r1⟩
  have i1 : i < ((T.1 + 1 : Nat) : Int) := i1
  show _ = updF T.2.1 T.1 x i ∧ _ = updF T.2.2 T.1 y i
  rw [up_a (b := sp + 2) (by omega), up_a (b := sp + 2) (by omega), up_a (b := sp + 3) (by omega)]
  unfold updF
  by_cases q : i = T.1
  · rw [q, up_e, up_e, if_pos rfl, if_pos rfl]
    exact ⟨rfl, rfl⟩
  · rw [up_i q, up_i q, if_neg q, if_neg q, up_a (b := sp + 3) (by omega)]
    exact b2 i i0 (by omega)
theorem TSC.slip (h : TSC sp D T S E K L s) (hsp : sp = 37 ∨ sp = 45) {x : Int} : TSC sp D T (1, x) E K L (up (up s sp 6 1) sp 5 x) := by
  obtain ⟨⟨a1, a2⟩, ⟨b1, b2⟩, ⟨c1, c2, c3, c4⟩, ⟨d1, d2⟩, e⟩ := h
  exact ⟨⟨by rw [up_i (by decide), up_i (by decide)]; exact a1, fun i i0 i1 => by rw [up_a (by omega), up_a (by omega)]; exact a2 i i0 i1⟩, ⟨by rw [up_i (by decide), up_i (by decide)]; exact b1, fun i i0 i1 => by rw [up_a (by omega), up_a (by omega), up_a (by omega), up_a (by omega)]; exact b2 i i0 i1⟩, ⟨by rw [up_e], by rw [up_i (by decide), up_e], by rw [up_i (by decide), up_i (by decide)]; exact c3, by rw [up_i (by decide), up_i (by decide)]; exact c4⟩, ⟨by rw [up_i (by decide), up_i (by decide)]; exact d1, fun i i0 i1 => by rw [up_a (by omega), up_a (by omega)]; exact d2 i i0 i1⟩, fun r r0 r1 => by rw [up_a (by omega), up_a (by omega), up_a (by omega), up_a (by omega)]; exact e r r0 r1⟩
theorem TSC.seed (h : TSC sp D T S E K L s) (hsp : sp = 37 ∨ sp = 45) {x : Int} : TSC sp D T S (1, x) K L (up (up s sp 8 1) sp 7 x) := by
  obtain ⟨⟨a1, a2⟩, ⟨b1, b2⟩, ⟨c1, c2, c3, c4⟩, ⟨d1, d2⟩, e⟩ := h
  exact ⟨⟨by rw [up_i (by decide), up_i (by decide)]; exact a1, fun i i0 i1 => by rw [up_a (by omega), up_a (by omega)]; exact a2 i i0 i1⟩, ⟨by rw [up_i (by decide), up_i (by decide)]; exact b1, fun i i0 i1 => by rw [up_a (by omega), up_a (by omega), up_a (by omega), up_a (by omega)]; exact b2 i i0 i1⟩, ⟨by rw [up_i (by decide), up_i (by decide)]; exact c1, by rw [up_i (by decide), up_i (by decide)]; exact c2, by rw [up_e], by rw [up_i (by decide), up_e]⟩, ⟨by rw [up_i (by decide), up_i (by decide)]; exact d1, fun i i0 i1 => by rw [up_a (by omega), up_a (by omega)]; exact d2 i i0 i1⟩, fun r r0 r1 => by rw [up_a (by omega), up_a (by omega), up_a (by omega), up_a (by omega)]; exact e r r0 r1⟩
theorem lEnd_y {Y : TS2} (h : tkK B n p = 5 ∧ tkV B n p = 15) : lEnd B n p X Y = (0, 0, (tkE B n p, Y)) := if_pos h
theorem lEnd_n {Y : TS2} (h : ¬ (tkK B n p = 5 ∧ tkV B n p = 15)) : lEnd B n p X Y = (1, tkP B n p, X) := if_neg h
theorem lNum_1 {m : Int} {r : LNR} (h : ¬ tkK B n p = 2) : lNum B n p m X r = (1, tkP B n p, X) := if_pos h
theorem lNum_2 {m : Int} {r : LNR} (h : tkK B n p = 2) (g : m < tkV B n p) : lNum B n p m X r = (2, tkP B n p, X) := by
  unfold lNum
  rw [if_neg (fun zqq => zqq h), if_pos g]
theorem lNum_y {m : Int} {r : LNR} (h : tkK B n p = 2) (g : tkV B n p ≤ m) : lNum B n p m X r = r := by
  unfold lNum
  rw [if_neg (fun zqq => zqq h), if_neg (by omega)]
theorem up_tk {x i : Int} {b : Nat} {j y : Int} (h : s 33 j = y) (hb : b ≠ 33) : up s b i x 33 j = y := (up_a (by omega)).trans h
theorem fnd_R {f : Int → Int} {x : Int} : ∀ k : Nat, -1 ≤ fndN f x k ∧ fndN f x k < k ∨ fndN f x k = -1
  | 0 => Or.inr rfl
  | k + 1 => by
    have := fnd_R (f := f) (x := x) k
    unfold fndN
    split
    · omega
    · omega
theorem m_readDancer {Y : (Nat × (Int → Int)) → TS2} (hd : 17 ≤ d) (hsp : sp = 37 ∨ sp = 45) (hS : isSc sp) (hT : TBC B n sz s) (hb : bOk B n) (hk : TKC (tkK B n p) (tkV B n p) (tkP B n p) (tkE B n p) s) (hX : TSC sp D T S E K L s) (hI : XI D T S E K L) (hp : tkE B n p ≤ n) (kS : ∀ q D2, lDan B n p D X Y = (0, 0, (q, Y D2)) → q ≤ n → ∀ tqq, tqq 33 3 = ((q : Nat) : Int) → TSC sp D2 T S E K L tqq → wF sp s tqq → Q (some (vI 1)) (HP h0 tqq)) (kF : ∀ (f : Int) (pl : Nat), lDan B n p D X Y = (f, pl, X) → f = 1 ∨ f = 2 ∨ f = 3 → ∀ tqq, tqq 35 0 = f → tqq 35 1 = (pl : Int) → wG sp s tqq → Q (some (vI 0)) (HP h0 tqq)) : wpM PP d 268 [vR 35, vR sp] (HP h0 s) Q := by
  have d6 := hI.1.1
  refine n_at (m := 268) (q := mr268) (kn := (0, 2)) [some (vR _), some (vR _)] mb268 rfl rfl (h_rcv sc_35) (Nat.le_of_ble_eq_true rfl) rfl rfl ?_
  refine x_aload rfl ?_
  refine h_getI 1 hS.1 rfl rfl ?_
  rw [hX.1.1]
  refine x_ci ?_
  refine n_icmp_lt ⟨by omega, by omega⟩ ⟨by omega, by omega⟩ (fun c1 => ?_) (fun c1 => ?_)
  · refine x_aload rfl ?_
    refine h_getR sc_35 rfl (by omega) ?_
    refine n_call [vR _] [] (by omega) (Nat.le_of_ble_eq_true rfl) rfl rfl (Nat.le_of_ble_eq_true rfl) ?_
    refine m_step (p := tkE B n p) (by omega) hT hb hk.1 (by omega) (fun uqq u1qq u2qq => ?_)
    have tr := tkR_is (B := B) (n := n) (p := tkE B n p) hb
    have tr1 := tr.1
    have tr2 := tr.2.1
    show wp PP _ _ _ [some (vR _), some (vR _)] [] _ _
    refine x_aload rfl ?_
    refine h_getR sc_35 rfl (by omega) ?_
    refine h_getI 5 sc_33 rfl rfl ?_
    rw [u1qq.2.2.1]
    refine x_ci ?_
    refine n_icmp_eq ⟨by omega, by omega⟩ ⟨by omega, by omega⟩ (fun c2 => ?_) (fun c2 => ?_)
    · refine x_aload rfl ?_
      refine x_aload rfl ?_
      refine h_getR sc_35 rfl (by omega) ?_
      refine h_getI 7 sc_33 rfl rfl ?_
      rw [u1qq.2.2.2.2.1 c2]
      have vr := tr.2.2.2.1 c2
      refine n_call [vR _, vI _] [] (by omega) (Nat.le_of_ble_eq_true rfl) rfl rfl (Nat.le_of_ble_eq_true rfl) ?_
      have hXu := hX.tk hsp u2qq
      have tn2 := tkE_R (B := B) (n := n) (p := tkE B n p) (by omega) (by omega) (by omega)
      refine m_numberOf hS hXu.1.1 hI.1.1 hXu.1.2 (fun i i0 i1 => by have := hI.1.2 i i0 i1; omega) ⟨by omega, by omega⟩ ?_
      have fr := fnd_R (f := D.2) (x := tkV B n (tkE B n p)) D.1
      show wp PP _ _ _ [some (vR _), some (vR _)] [vI _] _ _
      refine x_ci ?_
      refine n_icmp_eq ⟨by omega, by omega⟩ ⟨by omega, by omega⟩ (fun c3 => ?_) (fun c3 => ?_)
      · refine x_aload rfl ?_
        refine x_aload rfl ?_
        refine h_getR sc_35 rfl (by omega) ?_
        refine h_getI 7 sc_33 rfl rfl ?_
        rw [u1qq.2.2.2.2.1 c2]
        have vr := tr.2.2.2.1 c2
        refine n_call [vR _, vI _] [] (by omega) (Nat.le_of_ble_eq_true rfl) rfl rfl (Nat.le_of_ble_eq_true rfl) ?_
        refine m_addDancer hS hXu.1.1 ⟨by omega, by omega⟩ ?_
        show wp PP _ _ _ [some (vR _), some (vR _)] [] _ _
        refine x_aload rfl ?_
        refine n_call [vR _] [] (by omega) (Nat.le_of_ble_eq_true rfl) rfl rfl (Nat.le_of_ble_eq_true rfl) ?_
        refine m_readLineEnd (sp := sp) (p := tkE B n (tkE B n p)) (by omega) hsp hS (hT.w hsp (wF_tr u2qq.w (fun b r q0 q1 q2 q3 => by rw [up_f (by omega), up_f (by omega)]))) hb (up_tk (up_tk u1qq.1 (by omega)) (by omega)) (by omega) (fun y x x1 x2 => ?_) (fun y x x0 x1 x2 => ?_)
        · have tn9 := tkE_R (B := B) (n := n) (p := tkE B n (tkE B n p)) (by omega) (by omega) (by omega)
          show wp PP _ _ _ _ [vI _] _ _
          refine x_zret (by omega) ?_
          exact kS _ _ (by unfold lDan; rw [if_neg (show ¬ 6 ≤ D.1 by omega), if_neg (fun zqq => zqq c2), if_neg (fun zqq => zqq c3)]; exact lEnd_y y) tn9.2 x x1 ((hXu.dan hsp).tk hsp x2) (wF_tr (wF_tr u2qq.w (fun b r q0 q1 q2 q3 => by rw [up_f (by omega), up_f (by omega)])) x2.w)
        · show wp PP _ _ _ _ [vI _] _ _
          refine x_zret (by omega) ?_
          exact kF _ _ (by unfold lDan; rw [if_neg (show ¬ 6 ≤ D.1 by omega), if_neg (fun zqq => zqq c2), if_neg (fun zqq => zqq c3)]; exact lEnd_n y) (by omega) x x0 x1 (wG_tr (wF_tr u2qq.w (fun b r q0 q1 q2 q3 => by rw [up_f (by omega), up_f (by omega)])) x2)
      · refine x_aload rfl ?_
        refine x_ci ?_
        refine n_call [vR _, vI _] [] (by omega) (Nat.le_of_ble_eq_true rfl) rfl rfl (Nat.le_of_ble_eq_true rfl) ?_
        refine m_fail u1qq.2.1 ?_
        show wp PP _ _ _ [some (vR _), some (vR _)] [vI _] _ _
        refine x_zret (by first | exact bI_01 _ | omega) ?_
        first
          | exact kF 3 _ (by unfold lDan; rw [if_neg (show ¬ 6 ≤ D.1 by omega), if_neg (fun zqq => zqq c2), if_pos c3]) (by omega) _ (by rw [up_i (by decide), up_e]) up_e (wF_fail u2qq.w)
          | exact kF 1 _ (by unfold lDan; rw [if_neg (show ¬ 6 ≤ D.1 by omega), if_pos c2]) (by omega) _ (by rw [up_i (by decide), up_e]) up_e (wF_fail u2qq.w)
          | exact kF 2 _ (by unfold lDan; rw [if_pos (show 6 ≤ D.1 by omega)]) (by omega) _ (by rw [up_i (by decide), up_e]) up_e (wF_fail wF_rfl)
    · refine x_aload rfl ?_
      refine x_ci ?_
      refine n_call [vR _, vI _] [] (by omega) (Nat.le_of_ble_eq_true rfl) rfl rfl (Nat.le_of_ble_eq_true rfl) ?_
      refine m_fail u1qq.2.1 ?_
      show wp PP _ _ _ [some (vR _), some (vR _)] [vI _] _ _
      refine x_zret (by first | exact bI_01 _ | omega) ?_
      first
        | exact kF 3 _ (by unfold lDan; rw [if_neg (show ¬ 6 ≤ D.1 by omega), if_neg (fun zqq => zqq c2), if_pos c3]) (by omega) _ (by rw [up_i (by decide), up_e]) up_e (wF_fail u2qq.w)
        | exact kF 1 _ (by unfold lDan; rw [if_neg (show ¬ 6 ≤ D.1 by omega), if_pos c2]) (by omega) _ (by rw [up_i (by decide), up_e]) up_e (wF_fail u2qq.w)
        | exact kF 2 _ (by unfold lDan; rw [if_pos (show 6 ≤ D.1 by omega)]) (by omega) _ (by rw [up_i (by decide), up_e]) up_e (wF_fail wF_rfl)
  · refine x_aload rfl ?_
    refine x_ci ?_
    refine n_call [vR _, vI _] [] (by omega) (Nat.le_of_ble_eq_true rfl) rfl rfl (Nat.le_of_ble_eq_true rfl) ?_
    refine m_fail hk.2.1 ?_
    show wp PP _ _ _ [some (vR _), some (vR _)] [vI _] _ _
    refine x_zret (by first | exact bI_01 _ | omega) ?_
    first
      | exact kF 3 _ (by unfold lDan; rw [if_neg (show ¬ 6 ≤ D.1 by omega), if_neg (fun zqq => zqq c2), if_pos c3]) (by omega) _ (by rw [up_i (by decide), up_e]) up_e (wF_fail u2qq.w)
      | exact kF 1 _ (by unfold lDan; rw [if_neg (show ¬ 6 ≤ D.1 by omega), if_pos c2]) (by omega) _ (by rw [up_i (by decide), up_e]) up_e (wF_fail u2qq.w)
      | exact kF 2 _ (by unfold lDan; rw [if_pos (show 6 ≤ D.1 by omega)]) (by omega) _ (by rw [up_i (by decide), up_e]) up_e (wF_fail wF_rfl)
theorem m_readSlip {Y : (Int × Int) → TS2} (hd : 17 ≤ d) (hsp : sp = 37 ∨ sp = 45) (hS : isSc sp) (hT : TBC B n sz s) (hb : bOk B n) (hk : TKC (tkK B n p) (tkV B n p) (tkP B n p) (tkE B n p) s) (hX : TSC sp D T S E K L s) (hI : XI D T S E K L) (hp : tkE B n p ≤ n) (kS : ∀ q S2, lOne B n p 100 S X Y = (0, 0, (q, Y S2)) → q ≤ n → ∀ tqq, tqq 33 3 = ((q : Nat) : Int) → TSC sp D T S2 E K L tqq → wF sp s tqq → Q (some (vI 1)) (HP h0 tqq)) (kF : ∀ (f : Int) (pl : Nat), lOne B n p 100 S X Y = (f, pl, X) → f = 1 ∨ f = 2 ∨ f = 3 → ∀ tqq, tqq 35 0 = f → tqq 35 1 = (pl : Int) → wG sp s tqq → Q (some (vI 0)) (HP h0 tqq)) : wpM PP d 270 [vR 35, vR sp] (HP h0 s) Q := by
  have s01 := hI.2.2.1.1
  have e01 := hI.2.2.2.1.1
  refine n_at (m := 270) (q := mr270) (kn := (0, 2)) [some (vR _), some (vR _)] mb270 rfl rfl (h_rcv sc_35) (Nat.le_of_ble_eq_true rfl) rfl rfl ?_
  refine x_aload rfl ?_
  refine h_getZ 6 hS.1 rfl rfl ?_
  rw [hX.2.2.1.2.1]
  refine n_if_eq ⟨by omega, by omega⟩ (fun c1 => ?_) (fun c1 => ?_)
  · refine x_aload rfl ?_
    refine x_ci ?_
    refine n_call [vR _, vI _] [] (by omega) (Nat.le_of_ble_eq_true rfl) rfl rfl (Nat.le_of_ble_eq_true rfl) ?_
    refine m_readNumber (sp := sp) (p := tkE B n p) (by omega) hsp hS hT hb hk.1 (by omega) (by omega) (fun y1 y2 wqq w1qq w8qq w2qq => ?_) (fun f hf wqq w0qq w1qq w2qq => ?_)
    · have tn2 := tkE_R (B := B) (n := n) (p := tkE B n p) (by omega) (by omega) (by omega)
      show wp PP _ _ _ _ [vI _] _ _
      refine n_if_ne ⟨by omega, by omega⟩ (fun _ => ?_) (fun c9 => by exfalso; omega)
      refine x_aload rfl ?_
      refine x_ci ?_
      refine h_putZ 6 hS.1 rfl rfl (by first | exact bI_01 _ | omega) ?_
      refine x_aload rfl ?_
      refine x_aload rfl ?_
      refine h_getR sc_35 rfl (by omega) ?_
      refine h_getI 8 sc_33 rfl rfl ?_
      rw [up_a (by omega), w8qq]
      refine h_putI 5 hS.1 rfl rfl ?_
      refine x_aload rfl ?_
      refine n_call [vR _] [] (by omega) (Nat.le_of_ble_eq_true rfl) rfl rfl (Nat.le_of_ble_eq_true rfl) ?_
      refine m_readLineEnd (sp := sp) (p := tkE B n (tkE B n p)) (by omega) hsp hS (hT.w hsp (wF_tr w2qq.w (fun b r q0 q1 q2 q3 => by rw [up_f (by omega), up_f (by omega)]))) hb (up_tk (up_tk w1qq (by omega)) (by omega)) (by omega) (fun y x x1 x2 => ?_) (fun y x x0 x1 x2 => ?_)
      · have tn9 := tkE_R (B := B) (n := n) (p := tkE B n (tkE B n p)) (by omega) (by omega) (by omega)
        show wp PP _ _ _ _ [vI _] _ _
        refine x_zret (by omega) ?_
        exact kS _ _ (by unfold lOne; rw [if_neg (show ¬ S.1 = 1 by omega), lNum_y y1 y2]; exact lEnd_y y) tn9.2 x x1 (((hX.tk hsp w2qq).slip hsp).tk hsp x2) (wF_tr (wF_tr w2qq.w (fun b r q0 q1 q2 q3 => by rw [up_f (by omega), up_f (by omega)])) x2.w)
      · show wp PP _ _ _ _ [vI _] _ _
        refine x_zret (by omega) ?_
        exact kF _ _ (by unfold lOne; rw [if_neg (show ¬ S.1 = 1 by omega), lNum_y y1 y2]; exact lEnd_n y) (by omega) x x0 x1 (wG_tr (wF_tr w2qq.w (fun b r q0 q1 q2 q3 => by rw [up_f (by omega), up_f (by omega)])) x2)
    · have hf2 : lOne B n p 100 S X Y = (f, tkP B n (tkE B n p), X) := by
        unfold lOne
        rw [if_neg (show ¬ S.1 = 1 by omega)]
        rcases hf with zqq | zqq
        · rw [lNum_1 zqq.2, zqq.1]
        · rw [lNum_2 zqq.2.1 zqq.2.2, zqq.1]
      show wp PP _ _ _ _ [vI _] _ _
      refine n_if_ne ⟨by omega, by omega⟩ (fun c9 => by exfalso; omega) (fun _ => ?_)
      refine x_ci ?_
      refine x_zret (by first | exact bI_01 _ | omega) ?_
      exact kF f _ hf2 (by omega) wqq w0qq w1qq w2qq
  · refine x_aload rfl ?_
    refine x_ci ?_
    refine n_call [vR _, vI _] [] (by omega) (Nat.le_of_ble_eq_true rfl) rfl rfl (Nat.le_of_ble_eq_true rfl) ?_
    refine m_fail hk.2.1 ?_
    show wp PP _ _ _ [some (vR _), some (vR _)] [vI _] _ _
    refine x_zret (by first | exact bI_01 _ | omega) ?_
    exact kF 3 _ (by unfold lOne; rw [if_pos (show S.1 = 1 by omega)]) (by omega) _ (by rw [up_i (by decide), up_e]) up_e (wF_fail wF_rfl)
theorem m_readSeed {Y : (Int × Int) → TS2} (hd : 17 ≤ d) (hsp : sp = 37 ∨ sp = 45) (hS : isSc sp) (hT : TBC B n sz s) (hb : bOk B n) (hk : TKC (tkK B n p) (tkV B n p) (tkP B n p) (tkE B n p) s) (hX : TSC sp D T S E K L s) (hI : XI D T S E K L) (hp : tkE B n p ≤ n) (kS : ∀ q E2, lOne B n p 99999 E X Y = (0, 0, (q, Y E2)) → q ≤ n → ∀ tqq, tqq 33 3 = ((q : Nat) : Int) → TSC sp D T S E2 K L tqq → wF sp s tqq → Q (some (vI 1)) (HP h0 tqq)) (kF : ∀ (f : Int) (pl : Nat), lOne B n p 99999 E X Y = (f, pl, X) → f = 1 ∨ f = 2 ∨ f = 3 → ∀ tqq, tqq 35 0 = f → tqq 35 1 = (pl : Int) → wG sp s tqq → Q (some (vI 0)) (HP h0 tqq)) : wpM PP d 271 [vR 35, vR sp] (HP h0 s) Q := by
  have s01 := hI.2.2.1.1
  have e01 := hI.2.2.2.1.1
  refine n_at (m := 271) (q := mr271) (kn := (0, 2)) [some (vR _), some (vR _)] mb271 rfl rfl (h_rcv sc_35) (Nat.le_of_ble_eq_true rfl) rfl rfl ?_
  refine x_aload rfl ?_
  refine h_getZ 8 hS.1 rfl rfl ?_
  rw [hX.2.2.1.2.2.2]
  refine n_if_eq ⟨by omega, by omega⟩ (fun c1 => ?_) (fun c1 => ?_)
  · refine x_aload rfl ?_
    refine x_ci ?_
    refine n_call [vR _, vI _] [] (by omega) (Nat.le_of_ble_eq_true rfl) rfl rfl (Nat.le_of_ble_eq_true rfl) ?_
    refine m_readNumber (sp := sp) (p := tkE B n p) (by omega) hsp hS hT hb hk.1 (by omega) (by omega) (fun y1 y2 wqq w1qq w8qq w2qq => ?_) (fun f hf wqq w0qq w1qq w2qq => ?_)
    · have tn2 := tkE_R (B := B) (n := n) (p := tkE B n p) (by omega) (by omega) (by omega)
      show wp PP _ _ _ _ [vI _] _ _
      refine n_if_ne ⟨by omega, by omega⟩ (fun _ => ?_) (fun c9 => by exfalso; omega)
      refine x_aload rfl ?_
      refine x_ci ?_
      refine h_putZ 8 hS.1 rfl rfl (by first | exact bI_01 _ | omega) ?_
      refine x_aload rfl ?_
      refine x_aload rfl ?_
      refine h_getR sc_35 rfl (by omega) ?_
      refine h_getI 8 sc_33 rfl rfl ?_
      rw [up_a (by omega), w8qq]
      refine h_putI 7 hS.1 rfl rfl ?_
      refine x_aload rfl ?_
      refine n_call [vR _] [] (by omega) (Nat.le_of_ble_eq_true rfl) rfl rfl (Nat.le_of_ble_eq_true rfl) ?_
      refine m_readLineEnd (sp := sp) (p := tkE B n (tkE B n p)) (by omega) hsp hS (hT.w hsp (wF_tr w2qq.w (fun b r q0 q1 q2 q3 => by rw [up_f (by omega), up_f (by omega)]))) hb (up_tk (up_tk w1qq (by omega)) (by omega)) (by omega) (fun y x x1 x2 => ?_) (fun y x x0 x1 x2 => ?_)
      · have tn9 := tkE_R (B := B) (n := n) (p := tkE B n (tkE B n p)) (by omega) (by omega) (by omega)
        show wp PP _ _ _ _ [vI _] _ _
        refine x_zret (by omega) ?_
        exact kS _ _ (by unfold lOne; rw [if_neg (show ¬ E.1 = 1 by omega), lNum_y y1 y2]; exact lEnd_y y) tn9.2 x x1 (((hX.tk hsp w2qq).seed hsp).tk hsp x2) (wF_tr (wF_tr w2qq.w (fun b r q0 q1 q2 q3 => by rw [up_f (by omega), up_f (by omega)])) x2.w)
      · show wp PP _ _ _ _ [vI _] _ _
        refine x_zret (by omega) ?_
        exact kF _ _ (by unfold lOne; rw [if_neg (show ¬ E.1 = 1 by omega), lNum_y y1 y2]; exact lEnd_n y) (by omega) x x0 x1 (wG_tr (wF_tr w2qq.w (fun b r q0 q1 q2 q3 => by rw [up_f (by omega), up_f (by omega)])) x2)
    · have hf2 : lOne B n p 99999 E X Y = (f, tkP B n (tkE B n p), X) := by
        unfold lOne
        rw [if_neg (show ¬ E.1 = 1 by omega)]
        rcases hf with zqq | zqq
        · rw [lNum_1 zqq.2, zqq.1]
        · rw [lNum_2 zqq.2.1 zqq.2.2, zqq.1]
      show wp PP _ _ _ _ [vI _] _ _
      refine n_if_ne ⟨by omega, by omega⟩ (fun c9 => by exfalso; omega) (fun _ => ?_)
      refine x_ci ?_
      refine x_zret (by first | exact bI_01 _ | omega) ?_
      exact kF f _ hf2 (by omega) wqq w0qq w1qq w2qq
  · refine x_aload rfl ?_
    refine x_ci ?_
    refine n_call [vR _, vI _] [] (by omega) (Nat.le_of_ble_eq_true rfl) rfl rfl (Nat.le_of_ble_eq_true rfl) ?_
    refine m_fail hk.2.1 ?_
    show wp PP _ _ _ [some (vR _), some (vR _)] [vI _] _ _
    refine x_zret (by first | exact bI_01 _ | omega) ?_
    exact kF 3 _ (by unfold lOne; rw [if_pos (show E.1 = 1 by omega)]) (by omega) _ (by rw [up_i (by decide), up_e]) up_e (wF_fail wF_rfl)
end TXJ
