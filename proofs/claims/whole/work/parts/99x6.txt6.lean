/-! TEXT: the reference's tokens: name, sign, a step -/
section TX6
variable {d : Nat} {h0 h : pheap} {s tqq uqq : St} {Q : Option pv → pheap → Prop} {B : Int → Int} {n q : Nat} {sz k vqq : Int} {pl nx : Nat}
theorem ishl5 {g : Nat} (h : g < 67108864) : i_shl (g : Int) 5 = ((2 ^ 5 * g : Nat) : Int) := by
  unfold i_shl
  have e2 : (Int32.ofInt 5 &&& 31) = 5 := by decide
  rw [e2, ← Int32.toInt_toBitVec, Int32.toBitVec_shiftLeft]
  have e3 : ((5 : Int32).toBitVec.smod 32) = 5#32 := by decide
  rw [e3]
  have e1 : (Int32.ofInt (g : Int)).toBitVec = BitVec.ofNat 32 g := by
    show BitVec.ofInt 32 (g : Int) = _
    exact BitVec.ofInt_natCast 32 g
  rw [e1, BitVec.shiftLeft_eq']
  have e4 : (BitVec.ofNat 32 g <<< (5#32).toNat).toNat = 2 ^ 5 * g := by
    have e0 : (BitVec.ofNat 32 g).toNat = g := by
      rw [BitVec.toNat_ofNat]
      exact Nat.mod_eq_of_lt (by omega)
    rw [BitVec.toNat_shiftLeft, e0]
    show (g <<< 5) % 4294967296 = 2 ^ 5 * g
    rw [Nat.shiftLeft_eq, Nat.mod_eq_of_lt (by omega), Nat.mul_comm]
  rw [BitVec.toInt_eq_toNat_of_lt (by rw [e4]; omega), e4]
def nmV (B : Int → Int) (q : Int) (k : Nat) : Nat → Int
  | 0 => 0
  | i + 1 => 32 * nmV B q k i + dg B q k i
theorem nmV_6 {q : Int} {k : Nat} (hk : k ≤ 6) : nmV B q k 6 = pkN B q k := by
  rw [pk_six B q hk]
  simp only [nmV]
  omega
theorem nm_or {x b : Int} (hx : 0 ≤ x ∧ x < 33554432) (hb : 0 ≤ b ∧ b < 32) : i_or (i_shl x 5) b = 32 * x + b := by
  obtain ⟨g, rfl⟩ : ∃ g : Nat, x = g := ⟨x.toNat, by omega⟩
  obtain ⟨b, rfl⟩ : ∃ g : Nat, b = g := ⟨b.toNat, by omega⟩
  rw [ishl5 (by omega), or_mul (by simp; omega) (by omega)]
  omega
theorem r_name {e : Nat} (hR : RBR B n s) (h15 : s 94 15 = q) (h14 : s 94 14 = e) (he : e = spE isLe B n q) (hq : q ≤ n) (h6 : e - q ≤ 6) (k1 : ∀ tqq, tqq 94 17 = pkN B q (e - q) → (∀ (b : Nat) (r : Int), ¬ (b = 94 ∧ r = 17) → tqq b r = s b r) → Q none (HP h0 tqq)) : wpM PP d 66 [vR 94] (HP h0 s) Q := by
  have n700 := hR.2.1
  have eR1 := spE_le (f := isLe) (B := B) (n := n) (p := q)
  have eR2 := spE_R (f := isLe) (B := B) (n := n) (p := q) hq
  rw [← he] at eR1 eR2
  have ll : ∀ i : Nat, i < e - q → 97 ≤ B ((q : Int) + i) ∧ B ((q : Int) + i) ≤ 122 := fun i hi => by
    have := (spE_all (f := isLe) (B := B) (n := n) (p := q) (j := q + i) (by omega) (by omega)).2
    rw [isLe_i, show (((q + i : Nat)) : Int) = (q : Int) + i by omega] at this
    exact this
  have L1 : ∀ N : Nat, ∀ (i : Nat) (ii : Int) (tqq : St), (ii = i) → (N = 6 - i ∧ i ≤ 6) → (tqq 94 17 = nmV B q (e - q) i) → (0 ≤ nmV B q (e - q) i ∧ nmV B q (e - q) i < 32 ^ i) → (∀ (b : Nat) (r : Int), ¬ (b = 94 ∧ r = 17) → tqq b r = s b r) →  wp PP d mb66 (mb66.getD 1 []) [some (vR 94), some (vI ii)] [] (HP h0 tqq) Q := by
    refine s_ind (fun N ih => ?_)
    intro i ii tqq hii hM g17 gR gF
    subst hii
    refine x_iload rfl ?_
    refine x_ci ?_
    refine n_icmp_ge ⟨by omega, by omega⟩ ⟨by omega, by omega⟩ (fun c1 => ?_) (fun c1 => ?_)
    · refine x_ret ?_
      refine k1 tqq ?_ gF
      have ei : i = 6 := by omega
      rw [g17, ei, nmV_6 (by omega)]
    · refine x_aload rfl ?_
      refine x_aload rfl ?_
      refine h_getI 17 sc_94 rfl rfl ?_
      rw [g17]
      refine x_ci ?_
      refine x_ishl ?_
      refine x_aload rfl ?_
      refine h_getI 15 sc_94 rfl rfl ?_
      rw [gF 94 15 (by omega), h15]
      refine x_iload rfl ?_
      refine x_iadd ?_
      refine x_aload rfl ?_
      refine h_getI 14 sc_94 rfl rfl ?_
      rw [gF 94 14 (by omega), h14]
      refine n_icmp_ge ⟨by omega, by omega⟩ ⟨by omega, by omega⟩ (fun c2 => ?_) (fun c2 => ?_)
      · refine x_ci ?_
        refine x_fall ?_
        refine x_ior ?_
        refine h_putI 17 sc_94 rfl rfl ?_
        refine n_iinc [some (vR _), some (vI _)] rfl rfl ?_
        refine x_goto ?_
        have dR : 0 ≤ dg B q (e - q) i ∧ dg B q (e - q) i < 32 := by
          unfold dg
          split
          · have := ll i (by omega)
            omega
          · omega
        refine ih (6 - (i + 1)) (by omega) (i + 1) _ _ (by omega) (by omega) ?_ (by
          simp only [nmV]
          have : (32 : Int) ^ (i + 1) = 32 * 32 ^ i := by rw [Int.pow_succ, Int.mul_comm]
          omega) (fun b r y => ?_)
        · rw [up_e]
          have e32 : (32 : Int) ^ i ≤ 33554432 := by
            have c : i = 0 ∨ i = 1 ∨ i = 2 ∨ i = 3 ∨ i = 4 ∨ i = 5 := by omega
            rcases c with rfl | rfl | rfl | rfl | rfl | rfl <;> decide
          have ed : dg B q (e - q) i = 0 := by
            unfold dg
            first
              | rw [if_pos (show i < e - q by omega)]
              | rw [if_neg (show ¬ i < e - q by omega)]
          simp only [nmV]
          rw [← nm_or ⟨gR.1, by omega⟩ dR, ed]
          all_goals first
            | rfl
            | (congr 1 <;> omega)
        · rw [up_f (by omega)]
          exact gF b r y
      · refine x_aload rfl ?_
        refine h_getR sc_94 rfl (by omega) ?_
        refine x_aload rfl ?_
        refine h_getI 15 sc_94 rfl rfl ?_
        rw [gF 94 15 (by omega), h15]
        refine x_iload rfl ?_
        refine x_iadd ?_
        refine h_iald sc_95 ⟨by omega, by omega⟩ (by decide) ?_
        rw [gF 95 _ (by omega), hR.2.2 _ (by omega) (by omega)]
        have li := ll i (by omega)
        refine x_ci ?_
        refine x_isub ?_
        refine x_ci ?_
        refine x_iadd ?_
        refine x_goto ?_
        refine x_ior ?_
        refine h_putI 17 sc_94 rfl rfl ?_
        refine n_iinc [some (vR _), some (vI _)] rfl rfl ?_
        refine x_goto ?_
        have dR : 0 ≤ dg B q (e - q) i ∧ dg B q (e - q) i < 32 := by
          unfold dg
          split
          · have := ll i (by omega)
            omega
          · omega
        refine ih (6 - (i + 1)) (by omega) (i + 1) _ _ (by omega) (by omega) ?_ (by
          simp only [nmV]
          have : (32 : Int) ^ (i + 1) = 32 * 32 ^ i := by rw [Int.pow_succ, Int.mul_comm]
          omega) (fun b r y => ?_)
        · rw [up_e]
          have e32 : (32 : Int) ^ i ≤ 33554432 := by
            have c : i = 0 ∨ i = 1 ∨ i = 2 ∨ i = 3 ∨ i = 4 ∨ i = 5 := by omega
            rcases c with rfl | rfl | rfl | rfl | rfl | rfl <;> decide
          have ed : dg B q (e - q) i = B ((q : Int) + i) - 96 := by
            unfold dg
            first
              | rw [if_pos (show i < e - q by omega)]
              | rw [if_neg (show ¬ i < e - q by omega)]
          simp only [nmV]
          rw [← nm_or ⟨gR.1, by omega⟩ dR, ed]
          all_goals first
            | rfl
            | (congr 1 <;> omega)
        · rw [up_f (by omega)]
          exact gF b r y
  refine n_at (m := 66) (q := mr66) (kn := (0, 1)) [some (vR _), none] mb66 rfl rfl (h_rcv sc_94) (Nat.le_of_ble_eq_true rfl) rfl rfl ?_
  refine x_aload rfl ?_
  refine x_ci ?_
  refine h_putI 17 sc_94 rfl rfl ?_
  refine x_ci ?_
  refine n_istore [some (vR _), some (vI _)] (Nat.le_of_ble_eq_true rfl) rfl ?_
  refine x_fall ?_
  refine L1 6 0 0 _ rfl (by omega) up_e ⟨by simp [nmV], by simp [nmV]⟩ (fun b r y => up_f (by omega))
theorem r_sign {x y2 : Int} (hd : 2 ≤ d) (hR : RBR B n s) (h14 : s 94 14 = q) (hq : q < n) (hx : 0 ≤ x ∧ x < 256) (hy : y2 = bA B n ((q : Int) + 1)) (hyR : -1 ≤ y2 ∧ y2 < 256) (k1 : ∀ tqq, tqq 94 14 = (((if sgOf x y2 = 4 ∨ sgOf x y2 = 6 ∨ sgOf x y2 = 7 then q + 2 else q + 1 : Nat)) : Int) → tqq 94 16 = (if sgOf x y2 = -1 then 5 else 3) → (¬ sgOf x y2 = -1 → tqq 94 17 = chS (sgOf x y2)) → (∀ (b : Nat) (r : Int), ¬ (b = 94 ∧ (r = 14 ∨ r = 16 ∨ r = 17)) → tqq b r = s b r) → Q none (HP h0 tqq)) : wpM PP d 64 [vR 94, vI x] (HP h0 s) Q := by
  have n700 := hR.2.1
  have L3 : ∀ (sk : Int) (tqq : St), ((sk = 5 ∧ sgOf x y2 = -1 ∧ x ≠ 60 ∧ x ≠ 62) ∨ (sk = 3 ∧ ¬ sgOf x y2 = -1 ∧ (x ≠ 60 → x ≠ 62 → chS (sgOf x y2) = x ∧ sgOf x y2 ≠ 4 ∧ sgOf x y2 ≠ 6 ∧ sgOf x y2 ≠ 7))) → tqq 94 14 = ((q + 1 : Nat) : Int) → RBR B n tqq → (∀ (b : Nat) (r : Int), ¬ (b = 94 ∧ r = 14) → tqq b r = s b r) → wp PP d mb64 (mb64.getD 3 []) [some (vR 94), some (vI x)] [vI sk, vR 94] (HP h0 tqq) Q := by
    intro sk tqq hs g14 hRt gF
    refine h_putI 16 sc_94 rfl rfl ?_
    refine x_aload rfl ?_
    refine x_iload rfl ?_
    refine h_putI 17 sc_94 rfl rfl ?_
    refine x_iload rfl ?_
    refine x_ci ?_
    refine n_icmp_ne ⟨by omega, by omega⟩ ⟨by omega, by omega⟩ (fun c1 => ?_) (fun c1 => ?_)
    · refine x_iload rfl ?_
      refine x_ci ?_
      refine n_icmp_ne ⟨by omega, by omega⟩ ⟨by omega, by omega⟩ (fun c2 => ?_) (fun c2 => ?_)
      · refine x_iload rfl ?_
        refine x_ci ?_
        refine n_icmp_ne ⟨by omega, by omega⟩ ⟨by omega, by omega⟩ (fun c3 => ?_) (fun c3 => ?_)
        · refine x_aload rfl ?_
          refine h_getI 17 sc_94 rfl rfl ?_
          first | rw [up_e] | rw [up_i (by decide), up_e]
          refine x_ci ?_
          refine n_icmp_lt ⟨by omega, by omega⟩ ⟨by omega, by omega⟩ (fun c4 => ?_) (fun c4 => ?_)
          · refine x_ret ?_
            rcases hs with hs | hs
            · by_cases ff : x = 60 ∨ x = 62
              · exfalso
                omega
              refine k1 _ ?_ ?_ (fun y => absurd hs.2.1 y) (fun b r y => ?_)
              · rw [hs.2.1, if_neg (by omega)]
                first
                  | (exfalso; omega)
                  | (rw [up_i (by decide), up_i (by decide), g14] <;> omega)
              · rw [hs.2.1, if_pos rfl]
                first
                  | (exfalso; omega)
                  | (rw [up_i (by decide), up_e]; exact hs.1)
              · first
                  | (exfalso; omega)
                  | (rw [up_f (by omega), up_f (by omega)]; exact gF b r (by omega))
            · rw [← hy] at *
              first
                | (exfalso; omega)
                | (have e : sgOf x y2 = 4 := by rw [show x = 60 by omega, sgOf_60, if_pos (by omega)]
                   exact k1 _ (by rw [e]; simp [up] <;> omega) (by rw [e]; simp [up] <;> omega) (fun _ => by rw [e]; simp [up] <;> rfl) (fun b r y => by rw [up_f (by omega), up_f (by omega), up_f (by omega), up_f (by omega)]; exact gF b r (by omega)))
                | (have e : sgOf x y2 = 6 := by rw [show x = 60 by omega, sgOf_60, if_neg (by omega), if_pos (by omega)]
                   exact k1 _ (by rw [e]; simp [up] <;> omega) (by rw [e]; simp [up] <;> omega) (fun _ => by rw [e]; simp [up] <;> rfl) (fun b r y => by rw [up_f (by omega), up_f (by omega), up_f (by omega), up_f (by omega)]; exact gF b r (by omega)))
                | (have e : sgOf x y2 = 7 := by rw [show x = 62 by omega, sgOf_62, if_pos (by omega)]
                   exact k1 _ (by rw [e]; simp [up] <;> omega) (by rw [e]; simp [up] <;> omega) (fun _ => by rw [e]; simp [up] <;> rfl) (fun b r y => by rw [up_f (by omega), up_f (by omega), up_f (by omega), up_f (by omega)]; exact gF b r (by omega)))
                | (have e : sgOf x y2 = 3 := by rw [show x = 60 by omega, sgOf_60, if_neg (by omega), if_neg (by omega)]
                   exact k1 _ (by rw [e]; simp [up] <;> omega) (by rw [e]; simp [up] <;> omega) (fun _ => by rw [e, up_e, show x = 60 by omega]; rfl) (fun b r y => by rw [up_f (by omega), up_f (by omega)]; exact gF b r (by omega)))
                | (have e : sgOf x y2 = 8 := by rw [show x = 62 by omega, sgOf_62, if_neg (by omega)]
                   exact k1 _ (by rw [e]; simp [up] <;> omega) (by rw [e]; simp [up] <;> omega) (fun _ => by rw [e, up_e, show x = 62 by omega]; rfl) (fun b r y => by rw [up_f (by omega), up_f (by omega)]; exact gF b r (by omega)))
                | (have e := hs.2.2 (by omega) (by omega)
                   have e3 := hs.2.1
                   exact k1 _ (by rw [if_neg (show ¬ (sgOf x y2 = 4 ∨ sgOf x y2 = 6 ∨ sgOf x y2 = 7) by omega), up_i (by decide), up_i (by decide), g14] <;> omega) (by rw [if_neg e3, up_i (by decide), up_e]; exact hs.1) (fun _ => by rw [up_e]; exact e.1.symm) (fun b r y => by rw [up_f (by omega), up_f (by omega)]; exact gF b r (by omega)))
                | (exfalso; omega)
          · refine x_aload rfl ?_
            refine x_dupR ?_
            refine h_getI 14 sc_94 rfl rfl ?_
            first | rw [up_i (by decide), up_i (by decide), up_i (by decide), up_i (by decide), up_i (by decide), g14] | rw [up_i (by decide), up_i (by decide), up_i (by decide), up_i (by decide), g14] | rw [up_i (by decide), up_i (by decide), up_i (by decide), g14] | rw [up_i (by decide), up_i (by decide), g14]
            refine x_ci ?_
            refine x_iadd ?_
            refine h_putI 14 sc_94 rfl rfl ?_
            refine x_fall ?_
            refine x_ret ?_
            rcases hs with hs | hs
            · by_cases ff : x = 60 ∨ x = 62
              · exfalso
                omega
              refine k1 _ ?_ ?_ (fun y => absurd hs.2.1 y) (fun b r y => ?_)
              · rw [hs.2.1, if_neg (by omega)]
                first
                  | (exfalso; omega)
                  | (rw [up_i (by decide), up_i (by decide), g14] <;> omega)
              · rw [hs.2.1, if_pos rfl]
                first
                  | (exfalso; omega)
                  | (rw [up_i (by decide), up_e]; exact hs.1)
              · first
                  | (exfalso; omega)
                  | (rw [up_f (by omega), up_f (by omega)]; exact gF b r (by omega))
            · rw [← hy] at *
              first
                | (exfalso; omega)
                | (have e : sgOf x y2 = 4 := by rw [show x = 60 by omega, sgOf_60, if_pos (by omega)]
                   exact k1 _ (by rw [e]; simp [up] <;> omega) (by rw [e]; simp [up] <;> omega) (fun _ => by rw [e]; simp [up] <;> rfl) (fun b r y => by rw [up_f (by omega), up_f (by omega), up_f (by omega), up_f (by omega)]; exact gF b r (by omega)))
                | (have e : sgOf x y2 = 6 := by rw [show x = 60 by omega, sgOf_60, if_neg (by omega), if_pos (by omega)]
                   exact k1 _ (by rw [e]; simp [up] <;> omega) (by rw [e]; simp [up] <;> omega) (fun _ => by rw [e]; simp [up] <;> rfl) (fun b r y => by rw [up_f (by omega), up_f (by omega), up_f (by omega), up_f (by omega)]; exact gF b r (by omega)))
                | (have e : sgOf x y2 = 7 := by rw [show x = 62 by omega, sgOf_62, if_pos (by omega)]
                   exact k1 _ (by rw [e]; simp [up] <;> omega) (by rw [e]; simp [up] <;> omega) (fun _ => by rw [e]; simp [up] <;> rfl) (fun b r y => by rw [up_f (by omega), up_f (by omega), up_f (by omega), up_f (by omega)]; exact gF b r (by omega)))
                | (have e : sgOf x y2 = 3 := by rw [show x = 60 by omega, sgOf_60, if_neg (by omega), if_neg (by omega)]
                   exact k1 _ (by rw [e]; simp [up] <;> omega) (by rw [e]; simp [up] <;> omega) (fun _ => by rw [e, up_e, show x = 60 by omega]; rfl) (fun b r y => by rw [up_f (by omega), up_f (by omega)]; exact gF b r (by omega)))
                | (have e : sgOf x y2 = 8 := by rw [show x = 62 by omega, sgOf_62, if_neg (by omega)]
                   exact k1 _ (by rw [e]; simp [up] <;> omega) (by rw [e]; simp [up] <;> omega) (fun _ => by rw [e, up_e, show x = 62 by omega]; rfl) (fun b r y => by rw [up_f (by omega), up_f (by omega)]; exact gF b r (by omega)))
                | (have e := hs.2.2 (by omega) (by omega)
                   have e3 := hs.2.1
                   exact k1 _ (by rw [if_neg (show ¬ (sgOf x y2 = 4 ∨ sgOf x y2 = 6 ∨ sgOf x y2 = 7) by omega), up_i (by decide), up_i (by decide), g14] <;> omega) (by rw [if_neg e3, up_i (by decide), up_e]; exact hs.1) (fun _ => by rw [up_e]; exact e.1.symm) (fun b r y => by rw [up_f (by omega), up_f (by omega)]; exact gF b r (by omega)))
                | (exfalso; omega)
        · refine x_aload rfl ?_
          refine n_call [vR _] [] (by omega) (Nat.le_of_ble_eq_true rfl) rfl rfl (Nat.le_of_ble_eq_true rfl) ?_
          refine n_here (j := q + 1) (hRt.f (fun b r y => by first | rw [up_f (by omega), up_f (by omega), up_f (by omega), up_f (by omega)] | rw [up_f (by omega), up_f (by omega), up_f (by omega)] | rw [up_f (by omega), up_f (by omega)])) (by first | (rw [up_i (by decide), up_i (by decide), up_i (by decide), up_i (by decide)]; exact g14) | (rw [up_i (by decide), up_i (by decide), up_i (by decide)]; exact g14) | (rw [up_i (by decide), up_i (by decide)]; exact g14)) (by omega) ?_
          rw [show (((q + 1 : Nat)) : Int) = (q : Int) + 1 by omega]
          show wp PP _ _ _ [some (vR _), some (vI _)] [vI _] _ _
          refine x_ci ?_
          refine n_icmp_ne ⟨by omega, by omega⟩ ⟨by omega, by omega⟩ (fun c4 => ?_) (fun c4 => ?_)
          · refine x_aload rfl ?_
            refine h_getI 17 sc_94 rfl rfl ?_
            first | rw [up_e] | rw [up_i (by decide), up_e]
            refine x_ci ?_
            refine n_icmp_lt ⟨by omega, by omega⟩ ⟨by omega, by omega⟩ (fun c5 => ?_) (fun c5 => ?_)
            · refine x_ret ?_
              rcases hs with hs | hs
              · by_cases ff : x = 60 ∨ x = 62
                · exfalso
                  omega
                refine k1 _ ?_ ?_ (fun y => absurd hs.2.1 y) (fun b r y => ?_)
                · rw [hs.2.1, if_neg (by omega)]
                  first
                    | (exfalso; omega)
                    | (rw [up_i (by decide), up_i (by decide), g14] <;> omega)
                · rw [hs.2.1, if_pos rfl]
                  first
                    | (exfalso; omega)
                    | (rw [up_i (by decide), up_e]; exact hs.1)
                · first
                    | (exfalso; omega)
                    | (rw [up_f (by omega), up_f (by omega)]; exact gF b r (by omega))
              · rw [← hy] at *
                first
                  | (exfalso; omega)
                  | (have e : sgOf x y2 = 4 := by rw [show x = 60 by omega, sgOf_60, if_pos (by omega)]
                     exact k1 _ (by rw [e]; simp [up] <;> omega) (by rw [e]; simp [up] <;> omega) (fun _ => by rw [e]; simp [up] <;> rfl) (fun b r y => by rw [up_f (by omega), up_f (by omega), up_f (by omega), up_f (by omega)]; exact gF b r (by omega)))
                  | (have e : sgOf x y2 = 6 := by rw [show x = 60 by omega, sgOf_60, if_neg (by omega), if_pos (by omega)]
                     exact k1 _ (by rw [e]; simp [up] <;> omega) (by rw [e]; simp [up] <;> omega) (fun _ => by rw [e]; simp [up] <;> rfl) (fun b r y => by rw [up_f (by omega), up_f (by omega), up_f (by omega), up_f (by omega)]; exact gF b r (by omega)))
                  | (have e : sgOf x y2 = 7 := by rw [show x = 62 by omega, sgOf_62, if_pos (by omega)]
                     exact k1 _ (by rw [e]; simp [up] <;> omega) (by rw [e]; simp [up] <;> omega) (fun _ => by rw [e]; simp [up] <;> rfl) (fun b r y => by rw [up_f (by omega), up_f (by omega), up_f (by omega), up_f (by omega)]; exact gF b r (by omega)))
                  | (have e : sgOf x y2 = 3 := by rw [show x = 60 by omega, sgOf_60, if_neg (by omega), if_neg (by omega)]
                     exact k1 _ (by rw [e]; simp [up] <;> omega) (by rw [e]; simp [up] <;> omega) (fun _ => by rw [e, up_e, show x = 60 by omega]; rfl) (fun b r y => by rw [up_f (by omega), up_f (by omega)]; exact gF b r (by omega)))
                  | (have e : sgOf x y2 = 8 := by rw [show x = 62 by omega, sgOf_62, if_neg (by omega)]
                     exact k1 _ (by rw [e]; simp [up] <;> omega) (by rw [e]; simp [up] <;> omega) (fun _ => by rw [e, up_e, show x = 62 by omega]; rfl) (fun b r y => by rw [up_f (by omega), up_f (by omega)]; exact gF b r (by omega)))
                  | (have e := hs.2.2 (by omega) (by omega)
                     have e3 := hs.2.1
                     exact k1 _ (by rw [if_neg (show ¬ (sgOf x y2 = 4 ∨ sgOf x y2 = 6 ∨ sgOf x y2 = 7) by omega), up_i (by decide), up_i (by decide), g14] <;> omega) (by rw [if_neg e3, up_i (by decide), up_e]; exact hs.1) (fun _ => by rw [up_e]; exact e.1.symm) (fun b r y => by rw [up_f (by omega), up_f (by omega)]; exact gF b r (by omega)))
                  | (exfalso; omega)
            · refine x_aload rfl ?_
              refine x_dupR ?_
              refine h_getI 14 sc_94 rfl rfl ?_
              first | rw [up_i (by decide), up_i (by decide), up_i (by decide), up_i (by decide), up_i (by decide), g14] | rw [up_i (by decide), up_i (by decide), up_i (by decide), up_i (by decide), g14] | rw [up_i (by decide), up_i (by decide), up_i (by decide), g14] | rw [up_i (by decide), up_i (by decide), g14]
              refine x_ci ?_
              refine x_iadd ?_
              refine h_putI 14 sc_94 rfl rfl ?_
              refine x_fall ?_
              refine x_ret ?_
              rcases hs with hs | hs
              · by_cases ff : x = 60 ∨ x = 62
                · exfalso
                  omega
                refine k1 _ ?_ ?_ (fun y => absurd hs.2.1 y) (fun b r y => ?_)
                · rw [hs.2.1, if_neg (by omega)]
                  first
                    | (exfalso; omega)
                    | (rw [up_i (by decide), up_i (by decide), g14] <;> omega)
                · rw [hs.2.1, if_pos rfl]
                  first
                    | (exfalso; omega)
                    | (rw [up_i (by decide), up_e]; exact hs.1)
                · first
                    | (exfalso; omega)
                    | (rw [up_f (by omega), up_f (by omega)]; exact gF b r (by omega))
              · rw [← hy] at *
                first
                  | (exfalso; omega)
                  | (have e : sgOf x y2 = 4 := by rw [show x = 60 by omega, sgOf_60, if_pos (by omega)]
                     exact k1 _ (by rw [e]; simp [up] <;> omega) (by rw [e]; simp [up] <;> omega) (fun _ => by rw [e]; simp [up] <;> rfl) (fun b r y => by rw [up_f (by omega), up_f (by omega), up_f (by omega), up_f (by omega)]; exact gF b r (by omega)))
                  | (have e : sgOf x y2 = 6 := by rw [show x = 60 by omega, sgOf_60, if_neg (by omega), if_pos (by omega)]
                     exact k1 _ (by rw [e]; simp [up] <;> omega) (by rw [e]; simp [up] <;> omega) (fun _ => by rw [e]; simp [up] <;> rfl) (fun b r y => by rw [up_f (by omega), up_f (by omega), up_f (by omega), up_f (by omega)]; exact gF b r (by omega)))
                  | (have e : sgOf x y2 = 7 := by rw [show x = 62 by omega, sgOf_62, if_pos (by omega)]
                     exact k1 _ (by rw [e]; simp [up] <;> omega) (by rw [e]; simp [up] <;> omega) (fun _ => by rw [e]; simp [up] <;> rfl) (fun b r y => by rw [up_f (by omega), up_f (by omega), up_f (by omega), up_f (by omega)]; exact gF b r (by omega)))
                  | (have e : sgOf x y2 = 3 := by rw [show x = 60 by omega, sgOf_60, if_neg (by omega), if_neg (by omega)]
                     exact k1 _ (by rw [e]; simp [up] <;> omega) (by rw [e]; simp [up] <;> omega) (fun _ => by rw [e, up_e, show x = 60 by omega]; rfl) (fun b r y => by rw [up_f (by omega), up_f (by omega)]; exact gF b r (by omega)))
                  | (have e : sgOf x y2 = 8 := by rw [show x = 62 by omega, sgOf_62, if_neg (by omega)]
                     exact k1 _ (by rw [e]; simp [up] <;> omega) (by rw [e]; simp [up] <;> omega) (fun _ => by rw [e, up_e, show x = 62 by omega]; rfl) (fun b r y => by rw [up_f (by omega), up_f (by omega)]; exact gF b r (by omega)))
                  | (have e := hs.2.2 (by omega) (by omega)
                     have e3 := hs.2.1
                     exact k1 _ (by rw [if_neg (show ¬ (sgOf x y2 = 4 ∨ sgOf x y2 = 6 ∨ sgOf x y2 = 7) by omega), up_i (by decide), up_i (by decide), g14] <;> omega) (by rw [if_neg e3, up_i (by decide), up_e]; exact hs.1) (fun _ => by rw [up_e]; exact e.1.symm) (fun b r y => by rw [up_f (by omega), up_f (by omega)]; exact gF b r (by omega)))
                  | (exfalso; omega)
          · refine x_aload rfl ?_
            refine x_ci ?_
            refine h_putI 17 sc_94 rfl rfl ?_
            refine x_fall ?_
            refine x_aload rfl ?_
            refine h_getI 17 sc_94 rfl rfl ?_
            first | rw [up_e] | rw [up_i (by decide), up_e]
            refine x_ci ?_
            refine n_icmp_lt ⟨by omega, by omega⟩ ⟨by omega, by omega⟩ (fun c5 => ?_) (fun c5 => ?_)
            · refine x_ret ?_
              rcases hs with hs | hs
              · by_cases ff : x = 60 ∨ x = 62
                · exfalso
                  omega
                refine k1 _ ?_ ?_ (fun y => absurd hs.2.1 y) (fun b r y => ?_)
                · rw [hs.2.1, if_neg (by omega)]
                  first
                    | (exfalso; omega)
                    | (rw [up_i (by decide), up_i (by decide), g14] <;> omega)
                · rw [hs.2.1, if_pos rfl]
                  first
                    | (exfalso; omega)
                    | (rw [up_i (by decide), up_e]; exact hs.1)
                · first
                    | (exfalso; omega)
                    | (rw [up_f (by omega), up_f (by omega)]; exact gF b r (by omega))
              · rw [← hy] at *
                first
                  | (exfalso; omega)
                  | (have e : sgOf x y2 = 4 := by rw [show x = 60 by omega, sgOf_60, if_pos (by omega)]
                     exact k1 _ (by rw [e]; simp [up] <;> omega) (by rw [e]; simp [up] <;> omega) (fun _ => by rw [e]; simp [up] <;> rfl) (fun b r y => by rw [up_f (by omega), up_f (by omega), up_f (by omega), up_f (by omega)]; exact gF b r (by omega)))
                  | (have e : sgOf x y2 = 6 := by rw [show x = 60 by omega, sgOf_60, if_neg (by omega), if_pos (by omega)]
                     exact k1 _ (by rw [e]; simp [up] <;> omega) (by rw [e]; simp [up] <;> omega) (fun _ => by rw [e]; simp [up] <;> rfl) (fun b r y => by rw [up_f (by omega), up_f (by omega), up_f (by omega), up_f (by omega)]; exact gF b r (by omega)))
                  | (have e : sgOf x y2 = 7 := by rw [show x = 62 by omega, sgOf_62, if_pos (by omega)]
                     exact k1 _ (by rw [e]; simp [up] <;> omega) (by rw [e]; simp [up] <;> omega) (fun _ => by rw [e]; simp [up] <;> rfl) (fun b r y => by rw [up_f (by omega), up_f (by omega), up_f (by omega), up_f (by omega)]; exact gF b r (by omega)))
                  | (have e : sgOf x y2 = 3 := by rw [show x = 60 by omega, sgOf_60, if_neg (by omega), if_neg (by omega)]
                     exact k1 _ (by rw [e]; simp [up] <;> omega) (by rw [e]; simp [up] <;> omega) (fun _ => by rw [e, up_e, show x = 60 by omega]; rfl) (fun b r y => by rw [up_f (by omega), up_f (by omega)]; exact gF b r (by omega)))
                  | (have e : sgOf x y2 = 8 := by rw [show x = 62 by omega, sgOf_62, if_neg (by omega)]
                     exact k1 _ (by rw [e]; simp [up] <;> omega) (by rw [e]; simp [up] <;> omega) (fun _ => by rw [e, up_e, show x = 62 by omega]; rfl) (fun b r y => by rw [up_f (by omega), up_f (by omega)]; exact gF b r (by omega)))
                  | (have e := hs.2.2 (by omega) (by omega)
                     have e3 := hs.2.1
                     exact k1 _ (by rw [if_neg (show ¬ (sgOf x y2 = 4 ∨ sgOf x y2 = 6 ∨ sgOf x y2 = 7) by omega), up_i (by decide), up_i (by decide), g14] <;> omega) (by rw [if_neg e3, up_i (by decide), up_e]; exact hs.1) (fun _ => by rw [up_e]; exact e.1.symm) (fun b r y => by rw [up_f (by omega), up_f (by omega)]; exact gF b r (by omega)))
                  | (exfalso; omega)
            · refine x_aload rfl ?_
              refine x_dupR ?_
              refine h_getI 14 sc_94 rfl rfl ?_
              first | rw [up_i (by decide), up_i (by decide), up_i (by decide), up_i (by decide), up_i (by decide), g14] | rw [up_i (by decide), up_i (by decide), up_i (by decide), up_i (by decide), g14] | rw [up_i (by decide), up_i (by decide), up_i (by decide), g14] | rw [up_i (by decide), up_i (by decide), g14]
              refine x_ci ?_
              refine x_iadd ?_
              refine h_putI 14 sc_94 rfl rfl ?_
              refine x_fall ?_
              refine x_ret ?_
              rcases hs with hs | hs
              · by_cases ff : x = 60 ∨ x = 62
                · exfalso
                  omega
                refine k1 _ ?_ ?_ (fun y => absurd hs.2.1 y) (fun b r y => ?_)
                · rw [hs.2.1, if_neg (by omega)]
                  first
                    | (exfalso; omega)
                    | (rw [up_i (by decide), up_i (by decide), g14] <;> omega)
                · rw [hs.2.1, if_pos rfl]
                  first
                    | (exfalso; omega)
                    | (rw [up_i (by decide), up_e]; exact hs.1)
                · first
                    | (exfalso; omega)
                    | (rw [up_f (by omega), up_f (by omega)]; exact gF b r (by omega))
              · rw [← hy] at *
                first
                  | (exfalso; omega)
                  | (have e : sgOf x y2 = 4 := by rw [show x = 60 by omega, sgOf_60, if_pos (by omega)]
                     exact k1 _ (by rw [e]; simp [up] <;> omega) (by rw [e]; simp [up] <;> omega) (fun _ => by rw [e]; simp [up] <;> rfl) (fun b r y => by rw [up_f (by omega), up_f (by omega), up_f (by omega), up_f (by omega)]; exact gF b r (by omega)))
                  | (have e : sgOf x y2 = 6 := by rw [show x = 60 by omega, sgOf_60, if_neg (by omega), if_pos (by omega)]
                     exact k1 _ (by rw [e]; simp [up] <;> omega) (by rw [e]; simp [up] <;> omega) (fun _ => by rw [e]; simp [up] <;> rfl) (fun b r y => by rw [up_f (by omega), up_f (by omega), up_f (by omega), up_f (by omega)]; exact gF b r (by omega)))
                  | (have e : sgOf x y2 = 7 := by rw [show x = 62 by omega, sgOf_62, if_pos (by omega)]
                     exact k1 _ (by rw [e]; simp [up] <;> omega) (by rw [e]; simp [up] <;> omega) (fun _ => by rw [e]; simp [up] <;> rfl) (fun b r y => by rw [up_f (by omega), up_f (by omega), up_f (by omega), up_f (by omega)]; exact gF b r (by omega)))
                  | (have e : sgOf x y2 = 3 := by rw [show x = 60 by omega, sgOf_60, if_neg (by omega), if_neg (by omega)]
                     exact k1 _ (by rw [e]; simp [up] <;> omega) (by rw [e]; simp [up] <;> omega) (fun _ => by rw [e, up_e, show x = 60 by omega]; rfl) (fun b r y => by rw [up_f (by omega), up_f (by omega)]; exact gF b r (by omega)))
                  | (have e : sgOf x y2 = 8 := by rw [show x = 62 by omega, sgOf_62, if_neg (by omega)]
                     exact k1 _ (by rw [e]; simp [up] <;> omega) (by rw [e]; simp [up] <;> omega) (fun _ => by rw [e, up_e, show x = 62 by omega]; rfl) (fun b r y => by rw [up_f (by omega), up_f (by omega)]; exact gF b r (by omega)))
                  | (have e := hs.2.2 (by omega) (by omega)
                     have e3 := hs.2.1
                     exact k1 _ (by rw [if_neg (show ¬ (sgOf x y2 = 4 ∨ sgOf x y2 = 6 ∨ sgOf x y2 = 7) by omega), up_i (by decide), up_i (by decide), g14] <;> omega) (by rw [if_neg e3, up_i (by decide), up_e]; exact hs.1) (fun _ => by rw [up_e]; exact e.1.symm) (fun b r y => by rw [up_f (by omega), up_f (by omega)]; exact gF b r (by omega)))
                  | (exfalso; omega)
      · refine x_aload rfl ?_
        refine n_call [vR _] [] (by omega) (Nat.le_of_ble_eq_true rfl) rfl rfl (Nat.le_of_ble_eq_true rfl) ?_
        refine n_here (j := q + 1) (hRt.f (fun b r y => by first | rw [up_f (by omega), up_f (by omega), up_f (by omega), up_f (by omega)] | rw [up_f (by omega), up_f (by omega), up_f (by omega)] | rw [up_f (by omega), up_f (by omega)])) (by first | (rw [up_i (by decide), up_i (by decide), up_i (by decide), up_i (by decide)]; exact g14) | (rw [up_i (by decide), up_i (by decide), up_i (by decide)]; exact g14) | (rw [up_i (by decide), up_i (by decide)]; exact g14)) (by omega) ?_
        rw [show (((q + 1 : Nat)) : Int) = (q : Int) + 1 by omega]
        show wp PP _ _ _ [some (vR _), some (vI _)] [vI _] _ _
        refine x_ci ?_
        refine n_icmp_ne ⟨by omega, by omega⟩ ⟨by omega, by omega⟩ (fun c3 => ?_) (fun c3 => ?_)
        · refine x_iload rfl ?_
          refine x_ci ?_
          refine n_icmp_ne ⟨by omega, by omega⟩ ⟨by omega, by omega⟩ (fun c4 => ?_) (fun c4 => ?_)
          · refine x_aload rfl ?_
            refine h_getI 17 sc_94 rfl rfl ?_
            first | rw [up_e] | rw [up_i (by decide), up_e]
            refine x_ci ?_
            refine n_icmp_lt ⟨by omega, by omega⟩ ⟨by omega, by omega⟩ (fun c5 => ?_) (fun c5 => ?_)
            · refine x_ret ?_
              rcases hs with hs | hs
              · by_cases ff : x = 60 ∨ x = 62
                · exfalso
                  omega
                refine k1 _ ?_ ?_ (fun y => absurd hs.2.1 y) (fun b r y => ?_)
                · rw [hs.2.1, if_neg (by omega)]
                  first
                    | (exfalso; omega)
                    | (rw [up_i (by decide), up_i (by decide), g14] <;> omega)
                · rw [hs.2.1, if_pos rfl]
                  first
                    | (exfalso; omega)
                    | (rw [up_i (by decide), up_e]; exact hs.1)
                · first
                    | (exfalso; omega)
                    | (rw [up_f (by omega), up_f (by omega)]; exact gF b r (by omega))
              · rw [← hy] at *
                first
                  | (exfalso; omega)
                  | (have e : sgOf x y2 = 4 := by rw [show x = 60 by omega, sgOf_60, if_pos (by omega)]
                     exact k1 _ (by rw [e]; simp [up] <;> omega) (by rw [e]; simp [up] <;> omega) (fun _ => by rw [e]; simp [up] <;> rfl) (fun b r y => by rw [up_f (by omega), up_f (by omega), up_f (by omega), up_f (by omega)]; exact gF b r (by omega)))
                  | (have e : sgOf x y2 = 6 := by rw [show x = 60 by omega, sgOf_60, if_neg (by omega), if_pos (by omega)]
                     exact k1 _ (by rw [e]; simp [up] <;> omega) (by rw [e]; simp [up] <;> omega) (fun _ => by rw [e]; simp [up] <;> rfl) (fun b r y => by rw [up_f (by omega), up_f (by omega), up_f (by omega), up_f (by omega)]; exact gF b r (by omega)))
                  | (have e : sgOf x y2 = 7 := by rw [show x = 62 by omega, sgOf_62, if_pos (by omega)]
                     exact k1 _ (by rw [e]; simp [up] <;> omega) (by rw [e]; simp [up] <;> omega) (fun _ => by rw [e]; simp [up] <;> rfl) (fun b r y => by rw [up_f (by omega), up_f (by omega), up_f (by omega), up_f (by omega)]; exact gF b r (by omega)))
                  | (have e : sgOf x y2 = 3 := by rw [show x = 60 by omega, sgOf_60, if_neg (by omega), if_neg (by omega)]
                     exact k1 _ (by rw [e]; simp [up] <;> omega) (by rw [e]; simp [up] <;> omega) (fun _ => by rw [e, up_e, show x = 60 by omega]; rfl) (fun b r y => by rw [up_f (by omega), up_f (by omega)]; exact gF b r (by omega)))
                  | (have e : sgOf x y2 = 8 := by rw [show x = 62 by omega, sgOf_62, if_neg (by omega)]
                     exact k1 _ (by rw [e]; simp [up] <;> omega) (by rw [e]; simp [up] <;> omega) (fun _ => by rw [e, up_e, show x = 62 by omega]; rfl) (fun b r y => by rw [up_f (by omega), up_f (by omega)]; exact gF b r (by omega)))
                  | (have e := hs.2.2 (by omega) (by omega)
                     have e3 := hs.2.1
                     exact k1 _ (by rw [if_neg (show ¬ (sgOf x y2 = 4 ∨ sgOf x y2 = 6 ∨ sgOf x y2 = 7) by omega), up_i (by decide), up_i (by decide), g14] <;> omega) (by rw [if_neg e3, up_i (by decide), up_e]; exact hs.1) (fun _ => by rw [up_e]; exact e.1.symm) (fun b r y => by rw [up_f (by omega), up_f (by omega)]; exact gF b r (by omega)))
                  | (exfalso; omega)
            · refine x_aload rfl ?_
              refine x_dupR ?_
              refine h_getI 14 sc_94 rfl rfl ?_
              first | rw [up_i (by decide), up_i (by decide), up_i (by decide), up_i (by decide), up_i (by decide), g14] | rw [up_i (by decide), up_i (by decide), up_i (by decide), up_i (by decide), g14] | rw [up_i (by decide), up_i (by decide), up_i (by decide), g14] | rw [up_i (by decide), up_i (by decide), g14]
              refine x_ci ?_
              refine x_iadd ?_
              refine h_putI 14 sc_94 rfl rfl ?_
              refine x_fall ?_
              refine x_ret ?_
              rcases hs with hs | hs
              · by_cases ff : x = 60 ∨ x = 62
                · exfalso
                  omega
                refine k1 _ ?_ ?_ (fun y => absurd hs.2.1 y) (fun b r y => ?_)
                · rw [hs.2.1, if_neg (by omega)]
                  first
                    | (exfalso; omega)
                    | (rw [up_i (by decide), up_i (by decide), g14] <;> omega)
                · rw [hs.2.1, if_pos rfl]
                  first
                    | (exfalso; omega)
                    | (rw [up_i (by decide), up_e]; exact hs.1)
                · first
                    | (exfalso; omega)
                    | (rw [up_f (by omega), up_f (by omega)]; exact gF b r (by omega))
              · rw [← hy] at *
                first
                  | (exfalso; omega)
                  | (have e : sgOf x y2 = 4 := by rw [show x = 60 by omega, sgOf_60, if_pos (by omega)]
                     exact k1 _ (by rw [e]; simp [up] <;> omega) (by rw [e]; simp [up] <;> omega) (fun _ => by rw [e]; simp [up] <;> rfl) (fun b r y => by rw [up_f (by omega), up_f (by omega), up_f (by omega), up_f (by omega)]; exact gF b r (by omega)))
                  | (have e : sgOf x y2 = 6 := by rw [show x = 60 by omega, sgOf_60, if_neg (by omega), if_pos (by omega)]
                     exact k1 _ (by rw [e]; simp [up] <;> omega) (by rw [e]; simp [up] <;> omega) (fun _ => by rw [e]; simp [up] <;> rfl) (fun b r y => by rw [up_f (by omega), up_f (by omega), up_f (by omega), up_f (by omega)]; exact gF b r (by omega)))
                  | (have e : sgOf x y2 = 7 := by rw [show x = 62 by omega, sgOf_62, if_pos (by omega)]
                     exact k1 _ (by rw [e]; simp [up] <;> omega) (by rw [e]; simp [up] <;> omega) (fun _ => by rw [e]; simp [up] <;> rfl) (fun b r y => by rw [up_f (by omega), up_f (by omega), up_f (by omega), up_f (by omega)]; exact gF b r (by omega)))
                  | (have e : sgOf x y2 = 3 := by rw [show x = 60 by omega, sgOf_60, if_neg (by omega), if_neg (by omega)]
                     exact k1 _ (by rw [e]; simp [up] <;> omega) (by rw [e]; simp [up] <;> omega) (fun _ => by rw [e, up_e, show x = 60 by omega]; rfl) (fun b r y => by rw [up_f (by omega), up_f (by omega)]; exact gF b r (by omega)))
                  | (have e : sgOf x y2 = 8 := by rw [show x = 62 by omega, sgOf_62, if_neg (by omega)]
                     exact k1 _ (by rw [e]; simp [up] <;> omega) (by rw [e]; simp [up] <;> omega) (fun _ => by rw [e, up_e, show x = 62 by omega]; rfl) (fun b r y => by rw [up_f (by omega), up_f (by omega)]; exact gF b r (by omega)))
                  | (have e := hs.2.2 (by omega) (by omega)
                     have e3 := hs.2.1
                     exact k1 _ (by rw [if_neg (show ¬ (sgOf x y2 = 4 ∨ sgOf x y2 = 6 ∨ sgOf x y2 = 7) by omega), up_i (by decide), up_i (by decide), g14] <;> omega) (by rw [if_neg e3, up_i (by decide), up_e]; exact hs.1) (fun _ => by rw [up_e]; exact e.1.symm) (fun b r y => by rw [up_f (by omega), up_f (by omega)]; exact gF b r (by omega)))
                  | (exfalso; omega)
          · refine x_aload rfl ?_
            refine n_call [vR _] [] (by omega) (Nat.le_of_ble_eq_true rfl) rfl rfl (Nat.le_of_ble_eq_true rfl) ?_
            refine n_here (j := q + 1) (hRt.f (fun b r y => by first | rw [up_f (by omega), up_f (by omega), up_f (by omega), up_f (by omega)] | rw [up_f (by omega), up_f (by omega), up_f (by omega)] | rw [up_f (by omega), up_f (by omega)])) (by first | (rw [up_i (by decide), up_i (by decide), up_i (by decide), up_i (by decide)]; exact g14) | (rw [up_i (by decide), up_i (by decide), up_i (by decide)]; exact g14) | (rw [up_i (by decide), up_i (by decide)]; exact g14)) (by omega) ?_
            rw [show (((q + 1 : Nat)) : Int) = (q : Int) + 1 by omega]
            show wp PP _ _ _ [some (vR _), some (vI _)] [vI _] _ _
            refine x_ci ?_
            refine n_icmp_ne ⟨by omega, by omega⟩ ⟨by omega, by omega⟩ (fun c5 => ?_) (fun c5 => ?_)
            · refine x_aload rfl ?_
              refine h_getI 17 sc_94 rfl rfl ?_
              first | rw [up_e] | rw [up_i (by decide), up_e]
              refine x_ci ?_
              refine n_icmp_lt ⟨by omega, by omega⟩ ⟨by omega, by omega⟩ (fun c6 => ?_) (fun c6 => ?_)
              · refine x_ret ?_
                rcases hs with hs | hs
                · by_cases ff : x = 60 ∨ x = 62
                  · exfalso
                    omega
                  refine k1 _ ?_ ?_ (fun y => absurd hs.2.1 y) (fun b r y => ?_)
                  · rw [hs.2.1, if_neg (by omega)]
                    first
                      | (exfalso; omega)
                      | (rw [up_i (by decide), up_i (by decide), g14] <;> omega)
                  · rw [hs.2.1, if_pos rfl]
                    first
                      | (exfalso; omega)
                      | (rw [up_i (by decide), up_e]; exact hs.1)
                  · first
                      | (exfalso; omega)
                      | (rw [up_f (by omega), up_f (by omega)]; exact gF b r (by omega))
                · rw [← hy] at *
                  first
                    | (exfalso; omega)
                    | (have e : sgOf x y2 = 4 := by rw [show x = 60 by omega, sgOf_60, if_pos (by omega)]
                       exact k1 _ (by rw [e]; simp [up] <;> omega) (by rw [e]; simp [up] <;> omega) (fun _ => by rw [e]; simp [up] <;> rfl) (fun b r y => by rw [up_f (by omega), up_f (by omega), up_f (by omega), up_f (by omega)]; exact gF b r (by omega)))
                    | (have e : sgOf x y2 = 6 := by rw [show x = 60 by omega, sgOf_60, if_neg (by omega), if_pos (by omega)]
                       exact k1 _ (by rw [e]; simp [up] <;> omega) (by rw [e]; simp [up] <;> omega) (fun _ => by rw [e]; simp [up] <;> rfl) (fun b r y => by rw [up_f (by omega), up_f (by omega), up_f (by omega), up_f (by omega)]; exact gF b r (by omega)))
                    | (have e : sgOf x y2 = 7 := by rw [show x = 62 by omega, sgOf_62, if_pos (by omega)]
                       exact k1 _ (by rw [e]; simp [up] <;> omega) (by rw [e]; simp [up] <;> omega) (fun _ => by rw [e]; simp [up] <;> rfl) (fun b r y => by rw [up_f (by omega), up_f (by omega), up_f (by omega), up_f (by omega)]; exact gF b r (by omega)))
                    | (have e : sgOf x y2 = 3 := by rw [show x = 60 by omega, sgOf_60, if_neg (by omega), if_neg (by omega)]
                       exact k1 _ (by rw [e]; simp [up] <;> omega) (by rw [e]; simp [up] <;> omega) (fun _ => by rw [e, up_e, show x = 60 by omega]; rfl) (fun b r y => by rw [up_f (by omega), up_f (by omega)]; exact gF b r (by omega)))
                    | (have e : sgOf x y2 = 8 := by rw [show x = 62 by omega, sgOf_62, if_neg (by omega)]
                       exact k1 _ (by rw [e]; simp [up] <;> omega) (by rw [e]; simp [up] <;> omega) (fun _ => by rw [e, up_e, show x = 62 by omega]; rfl) (fun b r y => by rw [up_f (by omega), up_f (by omega)]; exact gF b r (by omega)))
                    | (have e := hs.2.2 (by omega) (by omega)
                       have e3 := hs.2.1
                       exact k1 _ (by rw [if_neg (show ¬ (sgOf x y2 = 4 ∨ sgOf x y2 = 6 ∨ sgOf x y2 = 7) by omega), up_i (by decide), up_i (by decide), g14] <;> omega) (by rw [if_neg e3, up_i (by decide), up_e]; exact hs.1) (fun _ => by rw [up_e]; exact e.1.symm) (fun b r y => by rw [up_f (by omega), up_f (by omega)]; exact gF b r (by omega)))
                    | (exfalso; omega)
              · refine x_aload rfl ?_
                refine x_dupR ?_
                refine h_getI 14 sc_94 rfl rfl ?_
                first | rw [up_i (by decide), up_i (by decide), up_i (by decide), up_i (by decide), up_i (by decide), g14] | rw [up_i (by decide), up_i (by decide), up_i (by decide), up_i (by decide), g14] | rw [up_i (by decide), up_i (by decide), up_i (by decide), g14] | rw [up_i (by decide), up_i (by decide), g14]
                refine x_ci ?_
                refine x_iadd ?_
                refine h_putI 14 sc_94 rfl rfl ?_
                refine x_fall ?_
                refine x_ret ?_
                rcases hs with hs | hs
                · by_cases ff : x = 60 ∨ x = 62
                  · exfalso
                    omega
                  refine k1 _ ?_ ?_ (fun y => absurd hs.2.1 y) (fun b r y => ?_)
                  · rw [hs.2.1, if_neg (by omega)]
                    first
                      | (exfalso; omega)
                      | (rw [up_i (by decide), up_i (by decide), g14] <;> omega)
                  · rw [hs.2.1, if_pos rfl]
                    first
                      | (exfalso; omega)
                      | (rw [up_i (by decide), up_e]; exact hs.1)
                  · first
                      | (exfalso; omega)
                      | (rw [up_f (by omega), up_f (by omega)]; exact gF b r (by omega))
                · rw [← hy] at *
                  first
                    | (exfalso; omega)
                    | (have e : sgOf x y2 = 4 := by rw [show x = 60 by omega, sgOf_60, if_pos (by omega)]
                       exact k1 _ (by rw [e]; simp [up] <;> omega) (by rw [e]; simp [up] <;> omega) (fun _ => by rw [e]; simp [up] <;> rfl) (fun b r y => by rw [up_f (by omega), up_f (by omega), up_f (by omega), up_f (by omega)]; exact gF b r (by omega)))
                    | (have e : sgOf x y2 = 6 := by rw [show x = 60 by omega, sgOf_60, if_neg (by omega), if_pos (by omega)]
                       exact k1 _ (by rw [e]; simp [up] <;> omega) (by rw [e]; simp [up] <;> omega) (fun _ => by rw [e]; simp [up] <;> rfl) (fun b r y => by rw [up_f (by omega), up_f (by omega), up_f (by omega), up_f (by omega)]; exact gF b r (by omega)))
                    | (have e : sgOf x y2 = 7 := by rw [show x = 62 by omega, sgOf_62, if_pos (by omega)]
                       exact k1 _ (by rw [e]; simp [up] <;> omega) (by rw [e]; simp [up] <;> omega) (fun _ => by rw [e]; simp [up] <;> rfl) (fun b r y => by rw [up_f (by omega), up_f (by omega), up_f (by omega), up_f (by omega)]; exact gF b r (by omega)))
                    | (have e : sgOf x y2 = 3 := by rw [show x = 60 by omega, sgOf_60, if_neg (by omega), if_neg (by omega)]
                       exact k1 _ (by rw [e]; simp [up] <;> omega) (by rw [e]; simp [up] <;> omega) (fun _ => by rw [e, up_e, show x = 60 by omega]; rfl) (fun b r y => by rw [up_f (by omega), up_f (by omega)]; exact gF b r (by omega)))
                    | (have e : sgOf x y2 = 8 := by rw [show x = 62 by omega, sgOf_62, if_neg (by omega)]
                       exact k1 _ (by rw [e]; simp [up] <;> omega) (by rw [e]; simp [up] <;> omega) (fun _ => by rw [e, up_e, show x = 62 by omega]; rfl) (fun b r y => by rw [up_f (by omega), up_f (by omega)]; exact gF b r (by omega)))
                    | (have e := hs.2.2 (by omega) (by omega)
                       have e3 := hs.2.1
                       exact k1 _ (by rw [if_neg (show ¬ (sgOf x y2 = 4 ∨ sgOf x y2 = 6 ∨ sgOf x y2 = 7) by omega), up_i (by decide), up_i (by decide), g14] <;> omega) (by rw [if_neg e3, up_i (by decide), up_e]; exact hs.1) (fun _ => by rw [up_e]; exact e.1.symm) (fun b r y => by rw [up_f (by omega), up_f (by omega)]; exact gF b r (by omega)))
                    | (exfalso; omega)
            · refine x_aload rfl ?_
              refine x_ci ?_
              refine h_putI 17 sc_94 rfl rfl ?_
              refine x_fall ?_
              refine x_aload rfl ?_
              refine h_getI 17 sc_94 rfl rfl ?_
              first | rw [up_e] | rw [up_i (by decide), up_e]
              refine x_ci ?_
              refine n_icmp_lt ⟨by omega, by omega⟩ ⟨by omega, by omega⟩ (fun c6 => ?_) (fun c6 => ?_)
              · refine x_ret ?_
                rcases hs with hs | hs
                · by_cases ff : x = 60 ∨ x = 62
                  · exfalso
                    omega
                  refine k1 _ ?_ ?_ (fun y => absurd hs.2.1 y) (fun b r y => ?_)
                  · rw [hs.2.1, if_neg (by omega)]
                    first
                      | (exfalso; omega)
                      | (rw [up_i (by decide), up_i (by decide), g14] <;> omega)
                  · rw [hs.2.1, if_pos rfl]
                    first
                      | (exfalso; omega)
                      | (rw [up_i (by decide), up_e]; exact hs.1)
                  · first
                      | (exfalso; omega)
                      | (rw [up_f (by omega), up_f (by omega)]; exact gF b r (by omega))
                · rw [← hy] at *
                  first
                    | (exfalso; omega)
                    | (have e : sgOf x y2 = 4 := by rw [show x = 60 by omega, sgOf_60, if_pos (by omega)]
                       exact k1 _ (by rw [e]; simp [up] <;> omega) (by rw [e]; simp [up] <;> omega) (fun _ => by rw [e]; simp [up] <;> rfl) (fun b r y => by rw [up_f (by omega), up_f (by omega), up_f (by omega), up_f (by omega)]; exact gF b r (by omega)))
                    | (have e : sgOf x y2 = 6 := by rw [show x = 60 by omega, sgOf_60, if_neg (by omega), if_pos (by omega)]
                       exact k1 _ (by rw [e]; simp [up] <;> omega) (by rw [e]; simp [up] <;> omega) (fun _ => by rw [e]; simp [up] <;> rfl) (fun b r y => by rw [up_f (by omega), up_f (by omega), up_f (by omega), up_f (by omega)]; exact gF b r (by omega)))
                    | (have e : sgOf x y2 = 7 := by rw [show x = 62 by omega, sgOf_62, if_pos (by omega)]
                       exact k1 _ (by rw [e]; simp [up] <;> omega) (by rw [e]; simp [up] <;> omega) (fun _ => by rw [e]; simp [up] <;> rfl) (fun b r y => by rw [up_f (by omega), up_f (by omega), up_f (by omega), up_f (by omega)]; exact gF b r (by omega)))
                    | (have e : sgOf x y2 = 3 := by rw [show x = 60 by omega, sgOf_60, if_neg (by omega), if_neg (by omega)]
                       exact k1 _ (by rw [e]; simp [up] <;> omega) (by rw [e]; simp [up] <;> omega) (fun _ => by rw [e, up_e, show x = 60 by omega]; rfl) (fun b r y => by rw [up_f (by omega), up_f (by omega)]; exact gF b r (by omega)))
                    | (have e : sgOf x y2 = 8 := by rw [show x = 62 by omega, sgOf_62, if_neg (by omega)]
                       exact k1 _ (by rw [e]; simp [up] <;> omega) (by rw [e]; simp [up] <;> omega) (fun _ => by rw [e, up_e, show x = 62 by omega]; rfl) (fun b r y => by rw [up_f (by omega), up_f (by omega)]; exact gF b r (by omega)))
                    | (have e := hs.2.2 (by omega) (by omega)
                       have e3 := hs.2.1
                       exact k1 _ (by rw [if_neg (show ¬ (sgOf x y2 = 4 ∨ sgOf x y2 = 6 ∨ sgOf x y2 = 7) by omega), up_i (by decide), up_i (by decide), g14] <;> omega) (by rw [if_neg e3, up_i (by decide), up_e]; exact hs.1) (fun _ => by rw [up_e]; exact e.1.symm) (fun b r y => by rw [up_f (by omega), up_f (by omega)]; exact gF b r (by omega)))
                    | (exfalso; omega)
              · refine x_aload rfl ?_
                refine x_dupR ?_
                refine h_getI 14 sc_94 rfl rfl ?_
                first | rw [up_i (by decide), up_i (by decide), up_i (by decide), up_i (by decide), up_i (by decide), g14] | rw [up_i (by decide), up_i (by decide), up_i (by decide), up_i (by decide), g14] | rw [up_i (by decide), up_i (by decide), up_i (by decide), g14] | rw [up_i (by decide), up_i (by decide), g14]
                refine x_ci ?_
                refine x_iadd ?_
                refine h_putI 14 sc_94 rfl rfl ?_
                refine x_fall ?_
                refine x_ret ?_
                rcases hs with hs | hs
                · by_cases ff : x = 60 ∨ x = 62
                  · exfalso
                    omega
                  refine k1 _ ?_ ?_ (fun y => absurd hs.2.1 y) (fun b r y => ?_)
                  · rw [hs.2.1, if_neg (by omega)]
                    first
                      | (exfalso; omega)
                      | (rw [up_i (by decide), up_i (by decide), g14] <;> omega)
                  · rw [hs.2.1, if_pos rfl]
                    first
                      | (exfalso; omega)
                      | (rw [up_i (by decide), up_e]; exact hs.1)
                  · first
                      | (exfalso; omega)
                      | (rw [up_f (by omega), up_f (by omega)]; exact gF b r (by omega))
                · rw [← hy] at *
                  first
                    | (exfalso; omega)
                    | (have e : sgOf x y2 = 4 := by rw [show x = 60 by omega, sgOf_60, if_pos (by omega)]
                       exact k1 _ (by rw [e]; simp [up] <;> omega) (by rw [e]; simp [up] <;> omega) (fun _ => by rw [e]; simp [up] <;> rfl) (fun b r y => by rw [up_f (by omega), up_f (by omega), up_f (by omega), up_f (by omega)]; exact gF b r (by omega)))
                    | (have e : sgOf x y2 = 6 := by rw [show x = 60 by omega, sgOf_60, if_neg (by omega), if_pos (by omega)]
                       exact k1 _ (by rw [e]; simp [up] <;> omega) (by rw [e]; simp [up] <;> omega) (fun _ => by rw [e]; simp [up] <;> rfl) (fun b r y => by rw [up_f (by omega), up_f (by omega), up_f (by omega), up_f (by omega)]; exact gF b r (by omega)))
                    | (have e : sgOf x y2 = 7 := by rw [show x = 62 by omega, sgOf_62, if_pos (by omega)]
                       exact k1 _ (by rw [e]; simp [up] <;> omega) (by rw [e]; simp [up] <;> omega) (fun _ => by rw [e]; simp [up] <;> rfl) (fun b r y => by rw [up_f (by omega), up_f (by omega), up_f (by omega), up_f (by omega)]; exact gF b r (by omega)))
                    | (have e : sgOf x y2 = 3 := by rw [show x = 60 by omega, sgOf_60, if_neg (by omega), if_neg (by omega)]
                       exact k1 _ (by rw [e]; simp [up] <;> omega) (by rw [e]; simp [up] <;> omega) (fun _ => by rw [e, up_e, show x = 60 by omega]; rfl) (fun b r y => by rw [up_f (by omega), up_f (by omega)]; exact gF b r (by omega)))
                    | (have e : sgOf x y2 = 8 := by rw [show x = 62 by omega, sgOf_62, if_neg (by omega)]
                       exact k1 _ (by rw [e]; simp [up] <;> omega) (by rw [e]; simp [up] <;> omega) (fun _ => by rw [e, up_e, show x = 62 by omega]; rfl) (fun b r y => by rw [up_f (by omega), up_f (by omega)]; exact gF b r (by omega)))
                    | (have e := hs.2.2 (by omega) (by omega)
                       have e3 := hs.2.1
                       exact k1 _ (by rw [if_neg (show ¬ (sgOf x y2 = 4 ∨ sgOf x y2 = 6 ∨ sgOf x y2 = 7) by omega), up_i (by decide), up_i (by decide), g14] <;> omega) (by rw [if_neg e3, up_i (by decide), up_e]; exact hs.1) (fun _ => by rw [up_e]; exact e.1.symm) (fun b r y => by rw [up_f (by omega), up_f (by omega)]; exact gF b r (by omega)))
                    | (exfalso; omega)
        · refine x_aload rfl ?_
          refine x_ci ?_
          refine h_putI 17 sc_94 rfl rfl ?_
          refine x_fall ?_
          refine x_iload rfl ?_
          refine x_ci ?_
          refine n_icmp_ne ⟨by omega, by omega⟩ ⟨by omega, by omega⟩ (fun c4 => ?_) (fun c4 => ?_)
          · refine x_aload rfl ?_
            refine h_getI 17 sc_94 rfl rfl ?_
            first | rw [up_e] | rw [up_i (by decide), up_e]
            refine x_ci ?_
            refine n_icmp_lt ⟨by omega, by omega⟩ ⟨by omega, by omega⟩ (fun c5 => ?_) (fun c5 => ?_)
            · refine x_ret ?_
              rcases hs with hs | hs
              · by_cases ff : x = 60 ∨ x = 62
                · exfalso
                  omega
                refine k1 _ ?_ ?_ (fun y => absurd hs.2.1 y) (fun b r y => ?_)
                · rw [hs.2.1, if_neg (by omega)]
                  first
                    | (exfalso; omega)
                    | (rw [up_i (by decide), up_i (by decide), g14] <;> omega)
                · rw [hs.2.1, if_pos rfl]
                  first
                    | (exfalso; omega)
                    | (rw [up_i (by decide), up_e]; exact hs.1)
                · first
                    | (exfalso; omega)
                    | (rw [up_f (by omega), up_f (by omega)]; exact gF b r (by omega))
              · rw [← hy] at *
                first
                  | (exfalso; omega)
                  | (have e : sgOf x y2 = 4 := by rw [show x = 60 by omega, sgOf_60, if_pos (by omega)]
                     exact k1 _ (by rw [e]; simp [up] <;> omega) (by rw [e]; simp [up] <;> omega) (fun _ => by rw [e]; simp [up] <;> rfl) (fun b r y => by rw [up_f (by omega), up_f (by omega), up_f (by omega), up_f (by omega)]; exact gF b r (by omega)))
                  | (have e : sgOf x y2 = 6 := by rw [show x = 60 by omega, sgOf_60, if_neg (by omega), if_pos (by omega)]
                     exact k1 _ (by rw [e]; simp [up] <;> omega) (by rw [e]; simp [up] <;> omega) (fun _ => by rw [e]; simp [up] <;> rfl) (fun b r y => by rw [up_f (by omega), up_f (by omega), up_f (by omega), up_f (by omega)]; exact gF b r (by omega)))
                  | (have e : sgOf x y2 = 7 := by rw [show x = 62 by omega, sgOf_62, if_pos (by omega)]
                     exact k1 _ (by rw [e]; simp [up] <;> omega) (by rw [e]; simp [up] <;> omega) (fun _ => by rw [e]; simp [up] <;> rfl) (fun b r y => by rw [up_f (by omega), up_f (by omega), up_f (by omega), up_f (by omega)]; exact gF b r (by omega)))
                  | (have e : sgOf x y2 = 3 := by rw [show x = 60 by omega, sgOf_60, if_neg (by omega), if_neg (by omega)]
                     exact k1 _ (by rw [e]; simp [up] <;> omega) (by rw [e]; simp [up] <;> omega) (fun _ => by rw [e, up_e, show x = 60 by omega]; rfl) (fun b r y => by rw [up_f (by omega), up_f (by omega)]; exact gF b r (by omega)))
                  | (have e : sgOf x y2 = 8 := by rw [show x = 62 by omega, sgOf_62, if_neg (by omega)]
                     exact k1 _ (by rw [e]; simp [up] <;> omega) (by rw [e]; simp [up] <;> omega) (fun _ => by rw [e, up_e, show x = 62 by omega]; rfl) (fun b r y => by rw [up_f (by omega), up_f (by omega)]; exact gF b r (by omega)))
                  | (have e := hs.2.2 (by omega) (by omega)
                     have e3 := hs.2.1
                     exact k1 _ (by rw [if_neg (show ¬ (sgOf x y2 = 4 ∨ sgOf x y2 = 6 ∨ sgOf x y2 = 7) by omega), up_i (by decide), up_i (by decide), g14] <;> omega) (by rw [if_neg e3, up_i (by decide), up_e]; exact hs.1) (fun _ => by rw [up_e]; exact e.1.symm) (fun b r y => by rw [up_f (by omega), up_f (by omega)]; exact gF b r (by omega)))
                  | (exfalso; omega)
            · refine x_aload rfl ?_
              refine x_dupR ?_
              refine h_getI 14 sc_94 rfl rfl ?_
              first | rw [up_i (by decide), up_i (by decide), up_i (by decide), up_i (by decide), up_i (by decide), g14] | rw [up_i (by decide), up_i (by decide), up_i (by decide), up_i (by decide), g14] | rw [up_i (by decide), up_i (by decide), up_i (by decide), g14] | rw [up_i (by decide), up_i (by decide), g14]
              refine x_ci ?_
              refine x_iadd ?_
              refine h_putI 14 sc_94 rfl rfl ?_
              refine x_fall ?_
              refine x_ret ?_
              rcases hs with hs | hs
              · by_cases ff : x = 60 ∨ x = 62
                · exfalso
                  omega
                refine k1 _ ?_ ?_ (fun y => absurd hs.2.1 y) (fun b r y => ?_)
                · rw [hs.2.1, if_neg (by omega)]
                  first
                    | (exfalso; omega)
                    | (rw [up_i (by decide), up_i (by decide), g14] <;> omega)
                · rw [hs.2.1, if_pos rfl]
                  first
                    | (exfalso; omega)
                    | (rw [up_i (by decide), up_e]; exact hs.1)
                · first
                    | (exfalso; omega)
                    | (rw [up_f (by omega), up_f (by omega)]; exact gF b r (by omega))
              · rw [← hy] at *
                first
                  | (exfalso; omega)
                  | (have e : sgOf x y2 = 4 := by rw [show x = 60 by omega, sgOf_60, if_pos (by omega)]
                     exact k1 _ (by rw [e]; simp [up] <;> omega) (by rw [e]; simp [up] <;> omega) (fun _ => by rw [e]; simp [up] <;> rfl) (fun b r y => by rw [up_f (by omega), up_f (by omega), up_f (by omega), up_f (by omega)]; exact gF b r (by omega)))
                  | (have e : sgOf x y2 = 6 := by rw [show x = 60 by omega, sgOf_60, if_neg (by omega), if_pos (by omega)]
                     exact k1 _ (by rw [e]; simp [up] <;> omega) (by rw [e]; simp [up] <;> omega) (fun _ => by rw [e]; simp [up] <;> rfl) (fun b r y => by rw [up_f (by omega), up_f (by omega), up_f (by omega), up_f (by omega)]; exact gF b r (by omega)))
                  | (have e : sgOf x y2 = 7 := by rw [show x = 62 by omega, sgOf_62, if_pos (by omega)]
                     exact k1 _ (by rw [e]; simp [up] <;> omega) (by rw [e]; simp [up] <;> omega) (fun _ => by rw [e]; simp [up] <;> rfl) (fun b r y => by rw [up_f (by omega), up_f (by omega), up_f (by omega), up_f (by omega)]; exact gF b r (by omega)))
                  | (have e : sgOf x y2 = 3 := by rw [show x = 60 by omega, sgOf_60, if_neg (by omega), if_neg (by omega)]
                     exact k1 _ (by rw [e]; simp [up] <;> omega) (by rw [e]; simp [up] <;> omega) (fun _ => by rw [e, up_e, show x = 60 by omega]; rfl) (fun b r y => by rw [up_f (by omega), up_f (by omega)]; exact gF b r (by omega)))
                  | (have e : sgOf x y2 = 8 := by rw [show x = 62 by omega, sgOf_62, if_neg (by omega)]
                     exact k1 _ (by rw [e]; simp [up] <;> omega) (by rw [e]; simp [up] <;> omega) (fun _ => by rw [e, up_e, show x = 62 by omega]; rfl) (fun b r y => by rw [up_f (by omega), up_f (by omega)]; exact gF b r (by omega)))
                  | (have e := hs.2.2 (by omega) (by omega)
                     have e3 := hs.2.1
                     exact k1 _ (by rw [if_neg (show ¬ (sgOf x y2 = 4 ∨ sgOf x y2 = 6 ∨ sgOf x y2 = 7) by omega), up_i (by decide), up_i (by decide), g14] <;> omega) (by rw [if_neg e3, up_i (by decide), up_e]; exact hs.1) (fun _ => by rw [up_e]; exact e.1.symm) (fun b r y => by rw [up_f (by omega), up_f (by omega)]; exact gF b r (by omega)))
                  | (exfalso; omega)
          · refine x_aload rfl ?_
            refine n_call [vR _] [] (by omega) (Nat.le_of_ble_eq_true rfl) rfl rfl (Nat.le_of_ble_eq_true rfl) ?_
            refine n_here (j := q + 1) (hRt.f (fun b r y => by first | rw [up_f (by omega), up_f (by omega), up_f (by omega), up_f (by omega)] | rw [up_f (by omega), up_f (by omega), up_f (by omega)] | rw [up_f (by omega), up_f (by omega)])) (by first | (rw [up_i (by decide), up_i (by decide), up_i (by decide), up_i (by decide)]; exact g14) | (rw [up_i (by decide), up_i (by decide), up_i (by decide)]; exact g14) | (rw [up_i (by decide), up_i (by decide)]; exact g14)) (by omega) ?_
            rw [show (((q + 1 : Nat)) : Int) = (q : Int) + 1 by omega]
            show wp PP _ _ _ [some (vR _), some (vI _)] [vI _] _ _
            refine x_ci ?_
            refine n_icmp_ne ⟨by omega, by omega⟩ ⟨by omega, by omega⟩ (fun c5 => ?_) (fun c5 => ?_)
            · refine x_aload rfl ?_
              refine h_getI 17 sc_94 rfl rfl ?_
              first | rw [up_e] | rw [up_i (by decide), up_e]
              refine x_ci ?_
              refine n_icmp_lt ⟨by omega, by omega⟩ ⟨by omega, by omega⟩ (fun c6 => ?_) (fun c6 => ?_)
              · refine x_ret ?_
                rcases hs with hs | hs
                · by_cases ff : x = 60 ∨ x = 62
                  · exfalso
                    omega
                  refine k1 _ ?_ ?_ (fun y => absurd hs.2.1 y) (fun b r y => ?_)
                  · rw [hs.2.1, if_neg (by omega)]
                    first
                      | (exfalso; omega)
                      | (rw [up_i (by decide), up_i (by decide), g14] <;> omega)
                  · rw [hs.2.1, if_pos rfl]
                    first
                      | (exfalso; omega)
                      | (rw [up_i (by decide), up_e]; exact hs.1)
                  · first
                      | (exfalso; omega)
                      | (rw [up_f (by omega), up_f (by omega)]; exact gF b r (by omega))
                · rw [← hy] at *
                  first
                    | (exfalso; omega)
                    | (have e : sgOf x y2 = 4 := by rw [show x = 60 by omega, sgOf_60, if_pos (by omega)]
                       exact k1 _ (by rw [e]; simp [up] <;> omega) (by rw [e]; simp [up] <;> omega) (fun _ => by rw [e]; simp [up] <;> rfl) (fun b r y => by rw [up_f (by omega), up_f (by omega), up_f (by omega), up_f (by omega)]; exact gF b r (by omega)))
                    | (have e : sgOf x y2 = 6 := by rw [show x = 60 by omega, sgOf_60, if_neg (by omega), if_pos (by omega)]
                       exact k1 _ (by rw [e]; simp [up] <;> omega) (by rw [e]; simp [up] <;> omega) (fun _ => by rw [e]; simp [up] <;> rfl) (fun b r y => by rw [up_f (by omega), up_f (by omega), up_f (by omega), up_f (by omega)]; exact gF b r (by omega)))
                    | (have e : sgOf x y2 = 7 := by rw [show x = 62 by omega, sgOf_62, if_pos (by omega)]
                       exact k1 _ (by rw [e]; simp [up] <;> omega) (by rw [e]; simp [up] <;> omega) (fun _ => by rw [e]; simp [up] <;> rfl) (fun b r y => by rw [up_f (by omega), up_f (by omega), up_f (by omega), up_f (by omega)]; exact gF b r (by omega)))
                    | (have e : sgOf x y2 = 3 := by rw [show x = 60 by omega, sgOf_60, if_neg (by omega), if_neg (by omega)]
                       exact k1 _ (by rw [e]; simp [up] <;> omega) (by rw [e]; simp [up] <;> omega) (fun _ => by rw [e, up_e, show x = 60 by omega]; rfl) (fun b r y => by rw [up_f (by omega), up_f (by omega)]; exact gF b r (by omega)))
                    | (have e : sgOf x y2 = 8 := by rw [show x = 62 by omega, sgOf_62, if_neg (by omega)]
                       exact k1 _ (by rw [e]; simp [up] <;> omega) (by rw [e]; simp [up] <;> omega) (fun _ => by rw [e, up_e, show x = 62 by omega]; rfl) (fun b r y => by rw [up_f (by omega), up_f (by omega)]; exact gF b r (by omega)))
                    | (have e := hs.2.2 (by omega) (by omega)
                       have e3 := hs.2.1
                       exact k1 _ (by rw [if_neg (show ¬ (sgOf x y2 = 4 ∨ sgOf x y2 = 6 ∨ sgOf x y2 = 7) by omega), up_i (by decide), up_i (by decide), g14] <;> omega) (by rw [if_neg e3, up_i (by decide), up_e]; exact hs.1) (fun _ => by rw [up_e]; exact e.1.symm) (fun b r y => by rw [up_f (by omega), up_f (by omega)]; exact gF b r (by omega)))
                    | (exfalso; omega)
              · refine x_aload rfl ?_
                refine x_dupR ?_
                refine h_getI 14 sc_94 rfl rfl ?_
                first | rw [up_i (by decide), up_i (by decide), up_i (by decide), up_i (by decide), up_i (by decide), g14] | rw [up_i (by decide), up_i (by decide), up_i (by decide), up_i (by decide), g14] | rw [up_i (by decide), up_i (by decide), up_i (by decide), g14] | rw [up_i (by decide), up_i (by decide), g14]
                refine x_ci ?_
                refine x_iadd ?_
                refine h_putI 14 sc_94 rfl rfl ?_
                refine x_fall ?_
                refine x_ret ?_
                rcases hs with hs | hs
                · by_cases ff : x = 60 ∨ x = 62
                  · exfalso
                    omega
                  refine k1 _ ?_ ?_ (fun y => absurd hs.2.1 y) (fun b r y => ?_)
                  · rw [hs.2.1, if_neg (by omega)]
                    first
                      | (exfalso; omega)
                      | (rw [up_i (by decide), up_i (by decide), g14] <;> omega)
                  · rw [hs.2.1, if_pos rfl]
                    first
                      | (exfalso; omega)
                      | (rw [up_i (by decide), up_e]; exact hs.1)
                  · first
                      | (exfalso; omega)
                      | (rw [up_f (by omega), up_f (by omega)]; exact gF b r (by omega))
                · rw [← hy] at *
                  first
                    | (exfalso; omega)
                    | (have e : sgOf x y2 = 4 := by rw [show x = 60 by omega, sgOf_60, if_pos (by omega)]
                       exact k1 _ (by rw [e]; simp [up] <;> omega) (by rw [e]; simp [up] <;> omega) (fun _ => by rw [e]; simp [up] <;> rfl) (fun b r y => by rw [up_f (by omega), up_f (by omega), up_f (by omega), up_f (by omega)]; exact gF b r (by omega)))
                    | (have e : sgOf x y2 = 6 := by rw [show x = 60 by omega, sgOf_60, if_neg (by omega), if_pos (by omega)]
                       exact k1 _ (by rw [e]; simp [up] <;> omega) (by rw [e]; simp [up] <;> omega) (fun _ => by rw [e]; simp [up] <;> rfl) (fun b r y => by rw [up_f (by omega), up_f (by omega), up_f (by omega), up_f (by omega)]; exact gF b r (by omega)))
                    | (have e : sgOf x y2 = 7 := by rw [show x = 62 by omega, sgOf_62, if_pos (by omega)]
                       exact k1 _ (by rw [e]; simp [up] <;> omega) (by rw [e]; simp [up] <;> omega) (fun _ => by rw [e]; simp [up] <;> rfl) (fun b r y => by rw [up_f (by omega), up_f (by omega), up_f (by omega), up_f (by omega)]; exact gF b r (by omega)))
                    | (have e : sgOf x y2 = 3 := by rw [show x = 60 by omega, sgOf_60, if_neg (by omega), if_neg (by omega)]
                       exact k1 _ (by rw [e]; simp [up] <;> omega) (by rw [e]; simp [up] <;> omega) (fun _ => by rw [e, up_e, show x = 60 by omega]; rfl) (fun b r y => by rw [up_f (by omega), up_f (by omega)]; exact gF b r (by omega)))
                    | (have e : sgOf x y2 = 8 := by rw [show x = 62 by omega, sgOf_62, if_neg (by omega)]
                       exact k1 _ (by rw [e]; simp [up] <;> omega) (by rw [e]; simp [up] <;> omega) (fun _ => by rw [e, up_e, show x = 62 by omega]; rfl) (fun b r y => by rw [up_f (by omega), up_f (by omega)]; exact gF b r (by omega)))
                    | (have e := hs.2.2 (by omega) (by omega)
                       have e3 := hs.2.1
                       exact k1 _ (by rw [if_neg (show ¬ (sgOf x y2 = 4 ∨ sgOf x y2 = 6 ∨ sgOf x y2 = 7) by omega), up_i (by decide), up_i (by decide), g14] <;> omega) (by rw [if_neg e3, up_i (by decide), up_e]; exact hs.1) (fun _ => by rw [up_e]; exact e.1.symm) (fun b r y => by rw [up_f (by omega), up_f (by omega)]; exact gF b r (by omega)))
                    | (exfalso; omega)
            · refine x_aload rfl ?_
              refine x_ci ?_
              refine h_putI 17 sc_94 rfl rfl ?_
              refine x_fall ?_
              refine x_aload rfl ?_
              refine h_getI 17 sc_94 rfl rfl ?_
              first | rw [up_e] | rw [up_i (by decide), up_e]
              refine x_ci ?_
              refine n_icmp_lt ⟨by omega, by omega⟩ ⟨by omega, by omega⟩ (fun c6 => ?_) (fun c6 => ?_)
              · refine x_ret ?_
                rcases hs with hs | hs
                · by_cases ff : x = 60 ∨ x = 62
                  · exfalso
                    omega
                  refine k1 _ ?_ ?_ (fun y => absurd hs.2.1 y) (fun b r y => ?_)
                  · rw [hs.2.1, if_neg (by omega)]
                    first
                      | (exfalso; omega)
                      | (rw [up_i (by decide), up_i (by decide), g14] <;> omega)
                  · rw [hs.2.1, if_pos rfl]
                    first
                      | (exfalso; omega)
                      | (rw [up_i (by decide), up_e]; exact hs.1)
                  · first
                      | (exfalso; omega)
                      | (rw [up_f (by omega), up_f (by omega)]; exact gF b r (by omega))
                · rw [← hy] at *
                  first
                    | (exfalso; omega)
                    | (have e : sgOf x y2 = 4 := by rw [show x = 60 by omega, sgOf_60, if_pos (by omega)]
                       exact k1 _ (by rw [e]; simp [up] <;> omega) (by rw [e]; simp [up] <;> omega) (fun _ => by rw [e]; simp [up] <;> rfl) (fun b r y => by rw [up_f (by omega), up_f (by omega), up_f (by omega), up_f (by omega)]; exact gF b r (by omega)))
                    | (have e : sgOf x y2 = 6 := by rw [show x = 60 by omega, sgOf_60, if_neg (by omega), if_pos (by omega)]
                       exact k1 _ (by rw [e]; simp [up] <;> omega) (by rw [e]; simp [up] <;> omega) (fun _ => by rw [e]; simp [up] <;> rfl) (fun b r y => by rw [up_f (by omega), up_f (by omega), up_f (by omega), up_f (by omega)]; exact gF b r (by omega)))
                    | (have e : sgOf x y2 = 7 := by rw [show x = 62 by omega, sgOf_62, if_pos (by omega)]
                       exact k1 _ (by rw [e]; simp [up] <;> omega) (by rw [e]; simp [up] <;> omega) (fun _ => by rw [e]; simp [up] <;> rfl) (fun b r y => by rw [up_f (by omega), up_f (by omega), up_f (by omega), up_f (by omega)]; exact gF b r (by omega)))
                    | (have e : sgOf x y2 = 3 := by rw [show x = 60 by omega, sgOf_60, if_neg (by omega), if_neg (by omega)]
                       exact k1 _ (by rw [e]; simp [up] <;> omega) (by rw [e]; simp [up] <;> omega) (fun _ => by rw [e, up_e, show x = 60 by omega]; rfl) (fun b r y => by rw [up_f (by omega), up_f (by omega)]; exact gF b r (by omega)))
                    | (have e : sgOf x y2 = 8 := by rw [show x = 62 by omega, sgOf_62, if_neg (by omega)]
                       exact k1 _ (by rw [e]; simp [up] <;> omega) (by rw [e]; simp [up] <;> omega) (fun _ => by rw [e, up_e, show x = 62 by omega]; rfl) (fun b r y => by rw [up_f (by omega), up_f (by omega)]; exact gF b r (by omega)))
                    | (have e := hs.2.2 (by omega) (by omega)
                       have e3 := hs.2.1
                       exact k1 _ (by rw [if_neg (show ¬ (sgOf x y2 = 4 ∨ sgOf x y2 = 6 ∨ sgOf x y2 = 7) by omega), up_i (by decide), up_i (by decide), g14] <;> omega) (by rw [if_neg e3, up_i (by decide), up_e]; exact hs.1) (fun _ => by rw [up_e]; exact e.1.symm) (fun b r y => by rw [up_f (by omega), up_f (by omega)]; exact gF b r (by omega)))
                    | (exfalso; omega)
              · refine x_aload rfl ?_
                refine x_dupR ?_
                refine h_getI 14 sc_94 rfl rfl ?_
                first | rw [up_i (by decide), up_i (by decide), up_i (by decide), up_i (by decide), up_i (by decide), g14] | rw [up_i (by decide), up_i (by decide), up_i (by decide), up_i (by decide), g14] | rw [up_i (by decide), up_i (by decide), up_i (by decide), g14] | rw [up_i (by decide), up_i (by decide), g14]
                refine x_ci ?_
                refine x_iadd ?_
                refine h_putI 14 sc_94 rfl rfl ?_
                refine x_fall ?_
                refine x_ret ?_
                rcases hs with hs | hs
                · by_cases ff : x = 60 ∨ x = 62
                  · exfalso
                    omega
                  refine k1 _ ?_ ?_ (fun y => absurd hs.2.1 y) (fun b r y => ?_)
                  · rw [hs.2.1, if_neg (by omega)]
                    first
                      | (exfalso; omega)
                      | (rw [up_i (by decide), up_i (by decide), g14] <;> omega)
                  · rw [hs.2.1, if_pos rfl]
                    first
                      | (exfalso; omega)
                      | (rw [up_i (by decide), up_e]; exact hs.1)
                  · first
                      | (exfalso; omega)
                      | (rw [up_f (by omega), up_f (by omega)]; exact gF b r (by omega))
                · rw [← hy] at *
                  first
                    | (exfalso; omega)
                    | (have e : sgOf x y2 = 4 := by rw [show x = 60 by omega, sgOf_60, if_pos (by omega)]
                       exact k1 _ (by rw [e]; simp [up] <;> omega) (by rw [e]; simp [up] <;> omega) (fun _ => by rw [e]; simp [up] <;> rfl) (fun b r y => by rw [up_f (by omega), up_f (by omega), up_f (by omega), up_f (by omega)]; exact gF b r (by omega)))
                    | (have e : sgOf x y2 = 6 := by rw [show x = 60 by omega, sgOf_60, if_neg (by omega), if_pos (by omega)]
                       exact k1 _ (by rw [e]; simp [up] <;> omega) (by rw [e]; simp [up] <;> omega) (fun _ => by rw [e]; simp [up] <;> rfl) (fun b r y => by rw [up_f (by omega), up_f (by omega), up_f (by omega), up_f (by omega)]; exact gF b r (by omega)))
                    | (have e : sgOf x y2 = 7 := by rw [show x = 62 by omega, sgOf_62, if_pos (by omega)]
                       exact k1 _ (by rw [e]; simp [up] <;> omega) (by rw [e]; simp [up] <;> omega) (fun _ => by rw [e]; simp [up] <;> rfl) (fun b r y => by rw [up_f (by omega), up_f (by omega), up_f (by omega), up_f (by omega)]; exact gF b r (by omega)))
                    | (have e : sgOf x y2 = 3 := by rw [show x = 60 by omega, sgOf_60, if_neg (by omega), if_neg (by omega)]
                       exact k1 _ (by rw [e]; simp [up] <;> omega) (by rw [e]; simp [up] <;> omega) (fun _ => by rw [e, up_e, show x = 60 by omega]; rfl) (fun b r y => by rw [up_f (by omega), up_f (by omega)]; exact gF b r (by omega)))
                    | (have e : sgOf x y2 = 8 := by rw [show x = 62 by omega, sgOf_62, if_neg (by omega)]
                       exact k1 _ (by rw [e]; simp [up] <;> omega) (by rw [e]; simp [up] <;> omega) (fun _ => by rw [e, up_e, show x = 62 by omega]; rfl) (fun b r y => by rw [up_f (by omega), up_f (by omega)]; exact gF b r (by omega)))
                    | (have e := hs.2.2 (by omega) (by omega)
                       have e3 := hs.2.1
                       exact k1 _ (by rw [if_neg (show ¬ (sgOf x y2 = 4 ∨ sgOf x y2 = 6 ∨ sgOf x y2 = 7) by omega), up_i (by decide), up_i (by decide), g14] <;> omega) (by rw [if_neg e3, up_i (by decide), up_e]; exact hs.1) (fun _ => by rw [up_e]; exact e.1.symm) (fun b r y => by rw [up_f (by omega), up_f (by omega)]; exact gF b r (by omega)))
                    | (exfalso; omega)
    · refine x_aload rfl ?_
      refine n_call [vR _] [] (by omega) (Nat.le_of_ble_eq_true rfl) rfl rfl (Nat.le_of_ble_eq_true rfl) ?_
      refine n_here (j := q + 1) (hRt.f (fun b r y => by first | rw [up_f (by omega), up_f (by omega), up_f (by omega), up_f (by omega)] | rw [up_f (by omega), up_f (by omega), up_f (by omega)] | rw [up_f (by omega), up_f (by omega)])) (by first | (rw [up_i (by decide), up_i (by decide), up_i (by decide), up_i (by decide)]; exact g14) | (rw [up_i (by decide), up_i (by decide), up_i (by decide)]; exact g14) | (rw [up_i (by decide), up_i (by decide)]; exact g14)) (by omega) ?_
      rw [show (((q + 1 : Nat)) : Int) = (q : Int) + 1 by omega]
      show wp PP _ _ _ [some (vR _), some (vI _)] [vI _] _ _
      refine x_ci ?_
      refine n_icmp_ne ⟨by omega, by omega⟩ ⟨by omega, by omega⟩ (fun c2 => ?_) (fun c2 => ?_)
      · refine x_iload rfl ?_
        refine x_ci ?_
        refine n_icmp_ne ⟨by omega, by omega⟩ ⟨by omega, by omega⟩ (fun c3 => ?_) (fun c3 => ?_)
        · refine x_iload rfl ?_
          refine x_ci ?_
          refine n_icmp_ne ⟨by omega, by omega⟩ ⟨by omega, by omega⟩ (fun c4 => ?_) (fun c4 => ?_)
          · refine x_aload rfl ?_
            refine h_getI 17 sc_94 rfl rfl ?_
            first | rw [up_e] | rw [up_i (by decide), up_e]
            refine x_ci ?_
            refine n_icmp_lt ⟨by omega, by omega⟩ ⟨by omega, by omega⟩ (fun c5 => ?_) (fun c5 => ?_)
            · refine x_ret ?_
              rcases hs with hs | hs
              · by_cases ff : x = 60 ∨ x = 62
                · exfalso
                  omega
                refine k1 _ ?_ ?_ (fun y => absurd hs.2.1 y) (fun b r y => ?_)
                · rw [hs.2.1, if_neg (by omega)]
                  first
                    | (exfalso; omega)
                    | (rw [up_i (by decide), up_i (by decide), g14] <;> omega)
                · rw [hs.2.1, if_pos rfl]
                  first
                    | (exfalso; omega)
                    | (rw [up_i (by decide), up_e]; exact hs.1)
                · first
                    | (exfalso; omega)
                    | (rw [up_f (by omega), up_f (by omega)]; exact gF b r (by omega))
              · rw [← hy] at *
                first
                  | (exfalso; omega)
                  | (have e : sgOf x y2 = 4 := by rw [show x = 60 by omega, sgOf_60, if_pos (by omega)]
                     exact k1 _ (by rw [e]; simp [up] <;> omega) (by rw [e]; simp [up] <;> omega) (fun _ => by rw [e]; simp [up] <;> rfl) (fun b r y => by rw [up_f (by omega), up_f (by omega), up_f (by omega), up_f (by omega)]; exact gF b r (by omega)))
                  | (have e : sgOf x y2 = 6 := by rw [show x = 60 by omega, sgOf_60, if_neg (by omega), if_pos (by omega)]
                     exact k1 _ (by rw [e]; simp [up] <;> omega) (by rw [e]; simp [up] <;> omega) (fun _ => by rw [e]; simp [up] <;> rfl) (fun b r y => by rw [up_f (by omega), up_f (by omega), up_f (by omega), up_f (by omega)]; exact gF b r (by omega)))
                  | (have e : sgOf x y2 = 7 := by rw [show x = 62 by omega, sgOf_62, if_pos (by omega)]
                     exact k1 _ (by rw [e]; simp [up] <;> omega) (by rw [e]; simp [up] <;> omega) (fun _ => by rw [e]; simp [up] <;> rfl) (fun b r y => by rw [up_f (by omega), up_f (by omega), up_f (by omega), up_f (by omega)]; exact gF b r (by omega)))
                  | (have e : sgOf x y2 = 3 := by rw [show x = 60 by omega, sgOf_60, if_neg (by omega), if_neg (by omega)]
                     exact k1 _ (by rw [e]; simp [up] <;> omega) (by rw [e]; simp [up] <;> omega) (fun _ => by rw [e, up_e, show x = 60 by omega]; rfl) (fun b r y => by rw [up_f (by omega), up_f (by omega)]; exact gF b r (by omega)))
                  | (have e : sgOf x y2 = 8 := by rw [show x = 62 by omega, sgOf_62, if_neg (by omega)]
                     exact k1 _ (by rw [e]; simp [up] <;> omega) (by rw [e]; simp [up] <;> omega) (fun _ => by rw [e, up_e, show x = 62 by omega]; rfl) (fun b r y => by rw [up_f (by omega), up_f (by omega)]; exact gF b r (by omega)))
                  | (have e := hs.2.2 (by omega) (by omega)
                     have e3 := hs.2.1
                     exact k1 _ (by rw [if_neg (show ¬ (sgOf x y2 = 4 ∨ sgOf x y2 = 6 ∨ sgOf x y2 = 7) by omega), up_i (by decide), up_i (by decide), g14] <;> omega) (by rw [if_neg e3, up_i (by decide), up_e]; exact hs.1) (fun _ => by rw [up_e]; exact e.1.symm) (fun b r y => by rw [up_f (by omega), up_f (by omega)]; exact gF b r (by omega)))
                  | (exfalso; omega)
            · refine x_aload rfl ?_
              refine x_dupR ?_
              refine h_getI 14 sc_94 rfl rfl ?_
              first | rw [up_i (by decide), up_i (by decide), up_i (by decide), up_i (by decide), up_i (by decide), g14] | rw [up_i (by decide), up_i (by decide), up_i (by decide), up_i (by decide), g14] | rw [up_i (by decide), up_i (by decide), up_i (by decide), g14] | rw [up_i (by decide), up_i (by decide), g14]
              refine x_ci ?_
              refine x_iadd ?_
              refine h_putI 14 sc_94 rfl rfl ?_
              refine x_fall ?_
              refine x_ret ?_
              rcases hs with hs | hs
              · by_cases ff : x = 60 ∨ x = 62
                · exfalso
                  omega
                refine k1 _ ?_ ?_ (fun y => absurd hs.2.1 y) (fun b r y => ?_)
                · rw [hs.2.1, if_neg (by omega)]
                  first
                    | (exfalso; omega)
                    | (rw [up_i (by decide), up_i (by decide), g14] <;> omega)
                · rw [hs.2.1, if_pos rfl]
                  first
                    | (exfalso; omega)
                    | (rw [up_i (by decide), up_e]; exact hs.1)
                · first
                    | (exfalso; omega)
                    | (rw [up_f (by omega), up_f (by omega)]; exact gF b r (by omega))
              · rw [← hy] at *
                first
                  | (exfalso; omega)
                  | (have e : sgOf x y2 = 4 := by rw [show x = 60 by omega, sgOf_60, if_pos (by omega)]
                     exact k1 _ (by rw [e]; simp [up] <;> omega) (by rw [e]; simp [up] <;> omega) (fun _ => by rw [e]; simp [up] <;> rfl) (fun b r y => by rw [up_f (by omega), up_f (by omega), up_f (by omega), up_f (by omega)]; exact gF b r (by omega)))
                  | (have e : sgOf x y2 = 6 := by rw [show x = 60 by omega, sgOf_60, if_neg (by omega), if_pos (by omega)]
                     exact k1 _ (by rw [e]; simp [up] <;> omega) (by rw [e]; simp [up] <;> omega) (fun _ => by rw [e]; simp [up] <;> rfl) (fun b r y => by rw [up_f (by omega), up_f (by omega), up_f (by omega), up_f (by omega)]; exact gF b r (by omega)))
                  | (have e : sgOf x y2 = 7 := by rw [show x = 62 by omega, sgOf_62, if_pos (by omega)]
                     exact k1 _ (by rw [e]; simp [up] <;> omega) (by rw [e]; simp [up] <;> omega) (fun _ => by rw [e]; simp [up] <;> rfl) (fun b r y => by rw [up_f (by omega), up_f (by omega), up_f (by omega), up_f (by omega)]; exact gF b r (by omega)))
                  | (have e : sgOf x y2 = 3 := by rw [show x = 60 by omega, sgOf_60, if_neg (by omega), if_neg (by omega)]
                     exact k1 _ (by rw [e]; simp [up] <;> omega) (by rw [e]; simp [up] <;> omega) (fun _ => by rw [e, up_e, show x = 60 by omega]; rfl) (fun b r y => by rw [up_f (by omega), up_f (by omega)]; exact gF b r (by omega)))
                  | (have e : sgOf x y2 = 8 := by rw [show x = 62 by omega, sgOf_62, if_neg (by omega)]
                     exact k1 _ (by rw [e]; simp [up] <;> omega) (by rw [e]; simp [up] <;> omega) (fun _ => by rw [e, up_e, show x = 62 by omega]; rfl) (fun b r y => by rw [up_f (by omega), up_f (by omega)]; exact gF b r (by omega)))
                  | (have e := hs.2.2 (by omega) (by omega)
                     have e3 := hs.2.1
                     exact k1 _ (by rw [if_neg (show ¬ (sgOf x y2 = 4 ∨ sgOf x y2 = 6 ∨ sgOf x y2 = 7) by omega), up_i (by decide), up_i (by decide), g14] <;> omega) (by rw [if_neg e3, up_i (by decide), up_e]; exact hs.1) (fun _ => by rw [up_e]; exact e.1.symm) (fun b r y => by rw [up_f (by omega), up_f (by omega)]; exact gF b r (by omega)))
                  | (exfalso; omega)
          · refine x_aload rfl ?_
            refine n_call [vR _] [] (by omega) (Nat.le_of_ble_eq_true rfl) rfl rfl (Nat.le_of_ble_eq_true rfl) ?_
            refine n_here (j := q + 1) (hRt.f (fun b r y => by first | rw [up_f (by omega), up_f (by omega), up_f (by omega), up_f (by omega)] | rw [up_f (by omega), up_f (by omega), up_f (by omega)] | rw [up_f (by omega), up_f (by omega)])) (by first | (rw [up_i (by decide), up_i (by decide), up_i (by decide), up_i (by decide)]; exact g14) | (rw [up_i (by decide), up_i (by decide), up_i (by decide)]; exact g14) | (rw [up_i (by decide), up_i (by decide)]; exact g14)) (by omega) ?_
            rw [show (((q + 1 : Nat)) : Int) = (q : Int) + 1 by omega]
            show wp PP _ _ _ [some (vR _), some (vI _)] [vI _] _ _
            refine x_ci ?_
            refine n_icmp_ne ⟨by omega, by omega⟩ ⟨by omega, by omega⟩ (fun c5 => ?_) (fun c5 => ?_)
            · refine x_aload rfl ?_
              refine h_getI 17 sc_94 rfl rfl ?_
              first | rw [up_e] | rw [up_i (by decide), up_e]
              refine x_ci ?_
              refine n_icmp_lt ⟨by omega, by omega⟩ ⟨by omega, by omega⟩ (fun c6 => ?_) (fun c6 => ?_)
              · refine x_ret ?_
                rcases hs with hs | hs
                · by_cases ff : x = 60 ∨ x = 62
                  · exfalso
                    omega
                  refine k1 _ ?_ ?_ (fun y => absurd hs.2.1 y) (fun b r y => ?_)
                  · rw [hs.2.1, if_neg (by omega)]
                    first
                      | (exfalso; omega)
                      | (rw [up_i (by decide), up_i (by decide), g14] <;> omega)
                  · rw [hs.2.1, if_pos rfl]
                    first
                      | (exfalso; omega)
                      | (rw [up_i (by decide), up_e]; exact hs.1)
                  · first
                      | (exfalso; omega)
                      | (rw [up_f (by omega), up_f (by omega)]; exact gF b r (by omega))
                · rw [← hy] at *
                  first
                    | (exfalso; omega)
                    | (have e : sgOf x y2 = 4 := by rw [show x = 60 by omega, sgOf_60, if_pos (by omega)]
                       exact k1 _ (by rw [e]; simp [up] <;> omega) (by rw [e]; simp [up] <;> omega) (fun _ => by rw [e]; simp [up] <;> rfl) (fun b r y => by rw [up_f (by omega), up_f (by omega), up_f (by omega), up_f (by omega)]; exact gF b r (by omega)))
                    | (have e : sgOf x y2 = 6 := by rw [show x = 60 by omega, sgOf_60, if_neg (by omega), if_pos (by omega)]
                       exact k1 _ (by rw [e]; simp [up] <;> omega) (by rw [e]; simp [up] <;> omega) (fun _ => by rw [e]; simp [up] <;> rfl) (fun b r y => by rw [up_f (by omega), up_f (by omega), up_f (by omega), up_f (by omega)]; exact gF b r (by omega)))
                    | (have e : sgOf x y2 = 7 := by rw [show x = 62 by omega, sgOf_62, if_pos (by omega)]
                       exact k1 _ (by rw [e]; simp [up] <;> omega) (by rw [e]; simp [up] <;> omega) (fun _ => by rw [e]; simp [up] <;> rfl) (fun b r y => by rw [up_f (by omega), up_f (by omega), up_f (by omega), up_f (by omega)]; exact gF b r (by omega)))
                    | (have e : sgOf x y2 = 3 := by rw [show x = 60 by omega, sgOf_60, if_neg (by omega), if_neg (by omega)]
                       exact k1 _ (by rw [e]; simp [up] <;> omega) (by rw [e]; simp [up] <;> omega) (fun _ => by rw [e, up_e, show x = 60 by omega]; rfl) (fun b r y => by rw [up_f (by omega), up_f (by omega)]; exact gF b r (by omega)))
                    | (have e : sgOf x y2 = 8 := by rw [show x = 62 by omega, sgOf_62, if_neg (by omega)]
                       exact k1 _ (by rw [e]; simp [up] <;> omega) (by rw [e]; simp [up] <;> omega) (fun _ => by rw [e, up_e, show x = 62 by omega]; rfl) (fun b r y => by rw [up_f (by omega), up_f (by omega)]; exact gF b r (by omega)))
                    | (have e := hs.2.2 (by omega) (by omega)
                       have e3 := hs.2.1
                       exact k1 _ (by rw [if_neg (show ¬ (sgOf x y2 = 4 ∨ sgOf x y2 = 6 ∨ sgOf x y2 = 7) by omega), up_i (by decide), up_i (by decide), g14] <;> omega) (by rw [if_neg e3, up_i (by decide), up_e]; exact hs.1) (fun _ => by rw [up_e]; exact e.1.symm) (fun b r y => by rw [up_f (by omega), up_f (by omega)]; exact gF b r (by omega)))
                    | (exfalso; omega)
              · refine x_aload rfl ?_
                refine x_dupR ?_
                refine h_getI 14 sc_94 rfl rfl ?_
                first | rw [up_i (by decide), up_i (by decide), up_i (by decide), up_i (by decide), up_i (by decide), g14] | rw [up_i (by decide), up_i (by decide), up_i (by decide), up_i (by decide), g14] | rw [up_i (by decide), up_i (by decide), up_i (by decide), g14] | rw [up_i (by decide), up_i (by decide), g14]
                refine x_ci ?_
                refine x_iadd ?_
                refine h_putI 14 sc_94 rfl rfl ?_
                refine x_fall ?_
                refine x_ret ?_
                rcases hs with hs | hs
                · by_cases ff : x = 60 ∨ x = 62
                  · exfalso
                    omega
                  refine k1 _ ?_ ?_ (fun y => absurd hs.2.1 y) (fun b r y => ?_)
                  · rw [hs.2.1, if_neg (by omega)]
                    first
                      | (exfalso; omega)
                      | (rw [up_i (by decide), up_i (by decide), g14] <;> omega)
                  · rw [hs.2.1, if_pos rfl]
                    first
                      | (exfalso; omega)
                      | (rw [up_i (by decide), up_e]; exact hs.1)
                  · first
                      | (exfalso; omega)
                      | (rw [up_f (by omega), up_f (by omega)]; exact gF b r (by omega))
                · rw [← hy] at *
                  first
                    | (exfalso; omega)
                    | (have e : sgOf x y2 = 4 := by rw [show x = 60 by omega, sgOf_60, if_pos (by omega)]
                       exact k1 _ (by rw [e]; simp [up] <;> omega) (by rw [e]; simp [up] <;> omega) (fun _ => by rw [e]; simp [up] <;> rfl) (fun b r y => by rw [up_f (by omega), up_f (by omega), up_f (by omega), up_f (by omega)]; exact gF b r (by omega)))
                    | (have e : sgOf x y2 = 6 := by rw [show x = 60 by omega, sgOf_60, if_neg (by omega), if_pos (by omega)]
                       exact k1 _ (by rw [e]; simp [up] <;> omega) (by rw [e]; simp [up] <;> omega) (fun _ => by rw [e]; simp [up] <;> rfl) (fun b r y => by rw [up_f (by omega), up_f (by omega), up_f (by omega), up_f (by omega)]; exact gF b r (by omega)))
                    | (have e : sgOf x y2 = 7 := by rw [show x = 62 by omega, sgOf_62, if_pos (by omega)]
                       exact k1 _ (by rw [e]; simp [up] <;> omega) (by rw [e]; simp [up] <;> omega) (fun _ => by rw [e]; simp [up] <;> rfl) (fun b r y => by rw [up_f (by omega), up_f (by omega), up_f (by omega), up_f (by omega)]; exact gF b r (by omega)))
                    | (have e : sgOf x y2 = 3 := by rw [show x = 60 by omega, sgOf_60, if_neg (by omega), if_neg (by omega)]
                       exact k1 _ (by rw [e]; simp [up] <;> omega) (by rw [e]; simp [up] <;> omega) (fun _ => by rw [e, up_e, show x = 60 by omega]; rfl) (fun b r y => by rw [up_f (by omega), up_f (by omega)]; exact gF b r (by omega)))
                    | (have e : sgOf x y2 = 8 := by rw [show x = 62 by omega, sgOf_62, if_neg (by omega)]
                       exact k1 _ (by rw [e]; simp [up] <;> omega) (by rw [e]; simp [up] <;> omega) (fun _ => by rw [e, up_e, show x = 62 by omega]; rfl) (fun b r y => by rw [up_f (by omega), up_f (by omega)]; exact gF b r (by omega)))
                    | (have e := hs.2.2 (by omega) (by omega)
                       have e3 := hs.2.1
                       exact k1 _ (by rw [if_neg (show ¬ (sgOf x y2 = 4 ∨ sgOf x y2 = 6 ∨ sgOf x y2 = 7) by omega), up_i (by decide), up_i (by decide), g14] <;> omega) (by rw [if_neg e3, up_i (by decide), up_e]; exact hs.1) (fun _ => by rw [up_e]; exact e.1.symm) (fun b r y => by rw [up_f (by omega), up_f (by omega)]; exact gF b r (by omega)))
                    | (exfalso; omega)
            · refine x_aload rfl ?_
              refine x_ci ?_
              refine h_putI 17 sc_94 rfl rfl ?_
              refine x_fall ?_
              refine x_aload rfl ?_
              refine h_getI 17 sc_94 rfl rfl ?_
              first | rw [up_e] | rw [up_i (by decide), up_e]
              refine x_ci ?_
              refine n_icmp_lt ⟨by omega, by omega⟩ ⟨by omega, by omega⟩ (fun c6 => ?_) (fun c6 => ?_)
              · refine x_ret ?_
                rcases hs with hs | hs
                · by_cases ff : x = 60 ∨ x = 62
                  · exfalso
                    omega
                  refine k1 _ ?_ ?_ (fun y => absurd hs.2.1 y) (fun b r y => ?_)
                  · rw [hs.2.1, if_neg (by omega)]
                    first
                      | (exfalso; omega)
                      | (rw [up_i (by decide), up_i (by decide), g14] <;> omega)
                  · rw [hs.2.1, if_pos rfl]
                    first
                      | (exfalso; omega)
                      | (rw [up_i (by decide), up_e]; exact hs.1)
                  · first
                      | (exfalso; omega)
                      | (rw [up_f (by omega), up_f (by omega)]; exact gF b r (by omega))
                · rw [← hy] at *
                  first
                    | (exfalso; omega)
                    | (have e : sgOf x y2 = 4 := by rw [show x = 60 by omega, sgOf_60, if_pos (by omega)]
                       exact k1 _ (by rw [e]; simp [up] <;> omega) (by rw [e]; simp [up] <;> omega) (fun _ => by rw [e]; simp [up] <;> rfl) (fun b r y => by rw [up_f (by omega), up_f (by omega), up_f (by omega), up_f (by omega)]; exact gF b r (by omega)))
                    | (have e : sgOf x y2 = 6 := by rw [show x = 60 by omega, sgOf_60, if_neg (by omega), if_pos (by omega)]
                       exact k1 _ (by rw [e]; simp [up] <;> omega) (by rw [e]; simp [up] <;> omega) (fun _ => by rw [e]; simp [up] <;> rfl) (fun b r y => by rw [up_f (by omega), up_f (by omega), up_f (by omega), up_f (by omega)]; exact gF b r (by omega)))
                    | (have e : sgOf x y2 = 7 := by rw [show x = 62 by omega, sgOf_62, if_pos (by omega)]
                       exact k1 _ (by rw [e]; simp [up] <;> omega) (by rw [e]; simp [up] <;> omega) (fun _ => by rw [e]; simp [up] <;> rfl) (fun b r y => by rw [up_f (by omega), up_f (by omega), up_f (by omega), up_f (by omega)]; exact gF b r (by omega)))
                    | (have e : sgOf x y2 = 3 := by rw [show x = 60 by omega, sgOf_60, if_neg (by omega), if_neg (by omega)]
                       exact k1 _ (by rw [e]; simp [up] <;> omega) (by rw [e]; simp [up] <;> omega) (fun _ => by rw [e, up_e, show x = 60 by omega]; rfl) (fun b r y => by rw [up_f (by omega), up_f (by omega)]; exact gF b r (by omega)))
                    | (have e : sgOf x y2 = 8 := by rw [show x = 62 by omega, sgOf_62, if_neg (by omega)]
                       exact k1 _ (by rw [e]; simp [up] <;> omega) (by rw [e]; simp [up] <;> omega) (fun _ => by rw [e, up_e, show x = 62 by omega]; rfl) (fun b r y => by rw [up_f (by omega), up_f (by omega)]; exact gF b r (by omega)))
                    | (have e := hs.2.2 (by omega) (by omega)
                       have e3 := hs.2.1
                       exact k1 _ (by rw [if_neg (show ¬ (sgOf x y2 = 4 ∨ sgOf x y2 = 6 ∨ sgOf x y2 = 7) by omega), up_i (by decide), up_i (by decide), g14] <;> omega) (by rw [if_neg e3, up_i (by decide), up_e]; exact hs.1) (fun _ => by rw [up_e]; exact e.1.symm) (fun b r y => by rw [up_f (by omega), up_f (by omega)]; exact gF b r (by omega)))
                    | (exfalso; omega)
              · refine x_aload rfl ?_
                refine x_dupR ?_
                refine h_getI 14 sc_94 rfl rfl ?_
                first | rw [up_i (by decide), up_i (by decide), up_i (by decide), up_i (by decide), up_i (by decide), g14] | rw [up_i (by decide), up_i (by decide), up_i (by decide), up_i (by decide), g14] | rw [up_i (by decide), up_i (by decide), up_i (by decide), g14] | rw [up_i (by decide), up_i (by decide), g14]
                refine x_ci ?_
                refine x_iadd ?_
                refine h_putI 14 sc_94 rfl rfl ?_
                refine x_fall ?_
                refine x_ret ?_
                rcases hs with hs | hs
                · by_cases ff : x = 60 ∨ x = 62
                  · exfalso
                    omega
                  refine k1 _ ?_ ?_ (fun y => absurd hs.2.1 y) (fun b r y => ?_)
                  · rw [hs.2.1, if_neg (by omega)]
                    first
                      | (exfalso; omega)
                      | (rw [up_i (by decide), up_i (by decide), g14] <;> omega)
                  · rw [hs.2.1, if_pos rfl]
                    first
                      | (exfalso; omega)
                      | (rw [up_i (by decide), up_e]; exact hs.1)
                  · first
                      | (exfalso; omega)
                      | (rw [up_f (by omega), up_f (by omega)]; exact gF b r (by omega))
                · rw [← hy] at *
                  first
                    | (exfalso; omega)
                    | (have e : sgOf x y2 = 4 := by rw [show x = 60 by omega, sgOf_60, if_pos (by omega)]
                       exact k1 _ (by rw [e]; simp [up] <;> omega) (by rw [e]; simp [up] <;> omega) (fun _ => by rw [e]; simp [up] <;> rfl) (fun b r y => by rw [up_f (by omega), up_f (by omega), up_f (by omega), up_f (by omega)]; exact gF b r (by omega)))
                    | (have e : sgOf x y2 = 6 := by rw [show x = 60 by omega, sgOf_60, if_neg (by omega), if_pos (by omega)]
                       exact k1 _ (by rw [e]; simp [up] <;> omega) (by rw [e]; simp [up] <;> omega) (fun _ => by rw [e]; simp [up] <;> rfl) (fun b r y => by rw [up_f (by omega), up_f (by omega), up_f (by omega), up_f (by omega)]; exact gF b r (by omega)))
                    | (have e : sgOf x y2 = 7 := by rw [show x = 62 by omega, sgOf_62, if_pos (by omega)]
                       exact k1 _ (by rw [e]; simp [up] <;> omega) (by rw [e]; simp [up] <;> omega) (fun _ => by rw [e]; simp [up] <;> rfl) (fun b r y => by rw [up_f (by omega), up_f (by omega), up_f (by omega), up_f (by omega)]; exact gF b r (by omega)))
                    | (have e : sgOf x y2 = 3 := by rw [show x = 60 by omega, sgOf_60, if_neg (by omega), if_neg (by omega)]
                       exact k1 _ (by rw [e]; simp [up] <;> omega) (by rw [e]; simp [up] <;> omega) (fun _ => by rw [e, up_e, show x = 60 by omega]; rfl) (fun b r y => by rw [up_f (by omega), up_f (by omega)]; exact gF b r (by omega)))
                    | (have e : sgOf x y2 = 8 := by rw [show x = 62 by omega, sgOf_62, if_neg (by omega)]
                       exact k1 _ (by rw [e]; simp [up] <;> omega) (by rw [e]; simp [up] <;> omega) (fun _ => by rw [e, up_e, show x = 62 by omega]; rfl) (fun b r y => by rw [up_f (by omega), up_f (by omega)]; exact gF b r (by omega)))
                    | (have e := hs.2.2 (by omega) (by omega)
                       have e3 := hs.2.1
                       exact k1 _ (by rw [if_neg (show ¬ (sgOf x y2 = 4 ∨ sgOf x y2 = 6 ∨ sgOf x y2 = 7) by omega), up_i (by decide), up_i (by decide), g14] <;> omega) (by rw [if_neg e3, up_i (by decide), up_e]; exact hs.1) (fun _ => by rw [up_e]; exact e.1.symm) (fun b r y => by rw [up_f (by omega), up_f (by omega)]; exact gF b r (by omega)))
                    | (exfalso; omega)
        · refine x_aload rfl ?_
          refine n_call [vR _] [] (by omega) (Nat.le_of_ble_eq_true rfl) rfl rfl (Nat.le_of_ble_eq_true rfl) ?_
          refine n_here (j := q + 1) (hRt.f (fun b r y => by first | rw [up_f (by omega), up_f (by omega), up_f (by omega), up_f (by omega)] | rw [up_f (by omega), up_f (by omega), up_f (by omega)] | rw [up_f (by omega), up_f (by omega)])) (by first | (rw [up_i (by decide), up_i (by decide), up_i (by decide), up_i (by decide)]; exact g14) | (rw [up_i (by decide), up_i (by decide), up_i (by decide)]; exact g14) | (rw [up_i (by decide), up_i (by decide)]; exact g14)) (by omega) ?_
          rw [show (((q + 1 : Nat)) : Int) = (q : Int) + 1 by omega]
          show wp PP _ _ _ [some (vR _), some (vI _)] [vI _] _ _
          refine x_ci ?_
          refine n_icmp_ne ⟨by omega, by omega⟩ ⟨by omega, by omega⟩ (fun c4 => ?_) (fun c4 => ?_)
          · refine x_iload rfl ?_
            refine x_ci ?_
            refine n_icmp_ne ⟨by omega, by omega⟩ ⟨by omega, by omega⟩ (fun c5 => ?_) (fun c5 => ?_)
            · refine x_aload rfl ?_
              refine h_getI 17 sc_94 rfl rfl ?_
              first | rw [up_e] | rw [up_i (by decide), up_e]
              refine x_ci ?_
              refine n_icmp_lt ⟨by omega, by omega⟩ ⟨by omega, by omega⟩ (fun c6 => ?_) (fun c6 => ?_)
              · refine x_ret ?_
                rcases hs with hs | hs
                · by_cases ff : x = 60 ∨ x = 62
                  · exfalso
                    omega
                  refine k1 _ ?_ ?_ (fun y => absurd hs.2.1 y) (fun b r y => ?_)
                  · rw [hs.2.1, if_neg (by omega)]
                    first
                      | (exfalso; omega)
                      | (rw [up_i (by decide), up_i (by decide), g14] <;> omega)
                  · rw [hs.2.1, if_pos rfl]
                    first
                      | (exfalso; omega)
                      | (rw [up_i (by decide), up_e]; exact hs.1)
                  · first
                      | (exfalso; omega)
                      | (rw [up_f (by omega), up_f (by omega)]; exact gF b r (by omega))
                · rw [← hy] at *
                  first
                    | (exfalso; omega)
                    | (have e : sgOf x y2 = 4 := by rw [show x = 60 by omega, sgOf_60, if_pos (by omega)]
                       exact k1 _ (by rw [e]; simp [up] <;> omega) (by rw [e]; simp [up] <;> omega) (fun _ => by rw [e]; simp [up] <;> rfl) (fun b r y => by rw [up_f (by omega), up_f (by omega), up_f (by omega), up_f (by omega)]; exact gF b r (by omega)))
                    | (have e : sgOf x y2 = 6 := by rw [show x = 60 by omega, sgOf_60, if_neg (by omega), if_pos (by omega)]
                       exact k1 _ (by rw [e]; simp [up] <;> omega) (by rw [e]; simp [up] <;> omega) (fun _ => by rw [e]; simp [up] <;> rfl) (fun b r y => by rw [up_f (by omega), up_f (by omega), up_f (by omega), up_f (by omega)]; exact gF b r (by omega)))
                    | (have e : sgOf x y2 = 7 := by rw [show x = 62 by omega, sgOf_62, if_pos (by omega)]
                       exact k1 _ (by rw [e]; simp [up] <;> omega) (by rw [e]; simp [up] <;> omega) (fun _ => by rw [e]; simp [up] <;> rfl) (fun b r y => by rw [up_f (by omega), up_f (by omega), up_f (by omega), up_f (by omega)]; exact gF b r (by omega)))
                    | (have e : sgOf x y2 = 3 := by rw [show x = 60 by omega, sgOf_60, if_neg (by omega), if_neg (by omega)]
                       exact k1 _ (by rw [e]; simp [up] <;> omega) (by rw [e]; simp [up] <;> omega) (fun _ => by rw [e, up_e, show x = 60 by omega]; rfl) (fun b r y => by rw [up_f (by omega), up_f (by omega)]; exact gF b r (by omega)))
                    | (have e : sgOf x y2 = 8 := by rw [show x = 62 by omega, sgOf_62, if_neg (by omega)]
                       exact k1 _ (by rw [e]; simp [up] <;> omega) (by rw [e]; simp [up] <;> omega) (fun _ => by rw [e, up_e, show x = 62 by omega]; rfl) (fun b r y => by rw [up_f (by omega), up_f (by omega)]; exact gF b r (by omega)))
                    | (have e := hs.2.2 (by omega) (by omega)
                       have e3 := hs.2.1
                       exact k1 _ (by rw [if_neg (show ¬ (sgOf x y2 = 4 ∨ sgOf x y2 = 6 ∨ sgOf x y2 = 7) by omega), up_i (by decide), up_i (by decide), g14] <;> omega) (by rw [if_neg e3, up_i (by decide), up_e]; exact hs.1) (fun _ => by rw [up_e]; exact e.1.symm) (fun b r y => by rw [up_f (by omega), up_f (by omega)]; exact gF b r (by omega)))
                    | (exfalso; omega)
              · refine x_aload rfl ?_
                refine x_dupR ?_
                refine h_getI 14 sc_94 rfl rfl ?_
                first | rw [up_i (by decide), up_i (by decide), up_i (by decide), up_i (by decide), up_i (by decide), g14] | rw [up_i (by decide), up_i (by decide), up_i (by decide), up_i (by decide), g14] | rw [up_i (by decide), up_i (by decide), up_i (by decide), g14] | rw [up_i (by decide), up_i (by decide), g14]
                refine x_ci ?_
                refine x_iadd ?_
                refine h_putI 14 sc_94 rfl rfl ?_
                refine x_fall ?_
                refine x_ret ?_
                rcases hs with hs | hs
                · by_cases ff : x = 60 ∨ x = 62
                  · exfalso
                    omega
                  refine k1 _ ?_ ?_ (fun y => absurd hs.2.1 y) (fun b r y => ?_)
                  · rw [hs.2.1, if_neg (by omega)]
                    first
                      | (exfalso; omega)
                      | (rw [up_i (by decide), up_i (by decide), g14] <;> omega)
                  · rw [hs.2.1, if_pos rfl]
                    first
                      | (exfalso; omega)
                      | (rw [up_i (by decide), up_e]; exact hs.1)
                  · first
                      | (exfalso; omega)
                      | (rw [up_f (by omega), up_f (by omega)]; exact gF b r (by omega))
                · rw [← hy] at *
                  first
                    | (exfalso; omega)
                    | (have e : sgOf x y2 = 4 := by rw [show x = 60 by omega, sgOf_60, if_pos (by omega)]
                       exact k1 _ (by rw [e]; simp [up] <;> omega) (by rw [e]; simp [up] <;> omega) (fun _ => by rw [e]; simp [up] <;> rfl) (fun b r y => by rw [up_f (by omega), up_f (by omega), up_f (by omega), up_f (by omega)]; exact gF b r (by omega)))
                    | (have e : sgOf x y2 = 6 := by rw [show x = 60 by omega, sgOf_60, if_neg (by omega), if_pos (by omega)]
                       exact k1 _ (by rw [e]; simp [up] <;> omega) (by rw [e]; simp [up] <;> omega) (fun _ => by rw [e]; simp [up] <;> rfl) (fun b r y => by rw [up_f (by omega), up_f (by omega), up_f (by omega), up_f (by omega)]; exact gF b r (by omega)))
                    | (have e : sgOf x y2 = 7 := by rw [show x = 62 by omega, sgOf_62, if_pos (by omega)]
                       exact k1 _ (by rw [e]; simp [up] <;> omega) (by rw [e]; simp [up] <;> omega) (fun _ => by rw [e]; simp [up] <;> rfl) (fun b r y => by rw [up_f (by omega), up_f (by omega), up_f (by omega), up_f (by omega)]; exact gF b r (by omega)))
                    | (have e : sgOf x y2 = 3 := by rw [show x = 60 by omega, sgOf_60, if_neg (by omega), if_neg (by omega)]
                       exact k1 _ (by rw [e]; simp [up] <;> omega) (by rw [e]; simp [up] <;> omega) (fun _ => by rw [e, up_e, show x = 60 by omega]; rfl) (fun b r y => by rw [up_f (by omega), up_f (by omega)]; exact gF b r (by omega)))
                    | (have e : sgOf x y2 = 8 := by rw [show x = 62 by omega, sgOf_62, if_neg (by omega)]
                       exact k1 _ (by rw [e]; simp [up] <;> omega) (by rw [e]; simp [up] <;> omega) (fun _ => by rw [e, up_e, show x = 62 by omega]; rfl) (fun b r y => by rw [up_f (by omega), up_f (by omega)]; exact gF b r (by omega)))
                    | (have e := hs.2.2 (by omega) (by omega)
                       have e3 := hs.2.1
                       exact k1 _ (by rw [if_neg (show ¬ (sgOf x y2 = 4 ∨ sgOf x y2 = 6 ∨ sgOf x y2 = 7) by omega), up_i (by decide), up_i (by decide), g14] <;> omega) (by rw [if_neg e3, up_i (by decide), up_e]; exact hs.1) (fun _ => by rw [up_e]; exact e.1.symm) (fun b r y => by rw [up_f (by omega), up_f (by omega)]; exact gF b r (by omega)))
                    | (exfalso; omega)
            · refine x_aload rfl ?_
              refine n_call [vR _] [] (by omega) (Nat.le_of_ble_eq_true rfl) rfl rfl (Nat.le_of_ble_eq_true rfl) ?_
              refine n_here (j := q + 1) (hRt.f (fun b r y => by first | rw [up_f (by omega), up_f (by omega), up_f (by omega), up_f (by omega)] | rw [up_f (by omega), up_f (by omega), up_f (by omega)] | rw [up_f (by omega), up_f (by omega)])) (by first | (rw [up_i (by decide), up_i (by decide), up_i (by decide), up_i (by decide)]; exact g14) | (rw [up_i (by decide), up_i (by decide), up_i (by decide)]; exact g14) | (rw [up_i (by decide), up_i (by decide)]; exact g14)) (by omega) ?_
              rw [show (((q + 1 : Nat)) : Int) = (q : Int) + 1 by omega]
              show wp PP _ _ _ [some (vR _), some (vI _)] [vI _] _ _
              refine x_ci ?_
              refine n_icmp_ne ⟨by omega, by omega⟩ ⟨by omega, by omega⟩ (fun c6 => ?_) (fun c6 => ?_)
              · refine x_aload rfl ?_
                refine h_getI 17 sc_94 rfl rfl ?_
                first | rw [up_e] | rw [up_i (by decide), up_e]
                refine x_ci ?_
                refine n_icmp_lt ⟨by omega, by omega⟩ ⟨by omega, by omega⟩ (fun c7 => ?_) (fun c7 => ?_)
                · refine x_ret ?_
                  rcases hs with hs | hs
                  · by_cases ff : x = 60 ∨ x = 62
                    · exfalso
                      omega
                    refine k1 _ ?_ ?_ (fun y => absurd hs.2.1 y) (fun b r y => ?_)
                    · rw [hs.2.1, if_neg (by omega)]
                      first
                        | (exfalso; omega)
                        | (rw [up_i (by decide), up_i (by decide), g14] <;> omega)
                    · rw [hs.2.1, if_pos rfl]
                      first
                        | (exfalso; omega)
                        | (rw [up_i (by decide), up_e]; exact hs.1)
                    · first
                        | (exfalso; omega)
                        | (rw [up_f (by omega), up_f (by omega)]; exact gF b r (by omega))
                  · rw [← hy] at *
                    first
                      | (exfalso; omega)
                      | (have e : sgOf x y2 = 4 := by rw [show x = 60 by omega, sgOf_60, if_pos (by omega)]
                         exact k1 _ (by rw [e]; simp [up] <;> omega) (by rw [e]; simp [up] <;> omega) (fun _ => by rw [e]; simp [up] <;> rfl) (fun b r y => by rw [up_f (by omega), up_f (by omega), up_f (by omega), up_f (by omega)]; exact gF b r (by omega)))
                      | (have e : sgOf x y2 = 6 := by rw [show x = 60 by omega, sgOf_60, if_neg (by omega), if_pos (by omega)]
                         exact k1 _ (by rw [e]; simp [up] <;> omega) (by rw [e]; simp [up] <;> omega) (fun _ => by rw [e]; simp [up] <;> rfl) (fun b r y => by rw [up_f (by omega), up_f (by omega), up_f (by omega), up_f (by omega)]; exact gF b r (by omega)))
                      | (have e : sgOf x y2 = 7 := by rw [show x = 62 by omega, sgOf_62, if_pos (by omega)]
                         exact k1 _ (by rw [e]; simp [up] <;> omega) (by rw [e]; simp [up] <;> omega) (fun _ => by rw [e]; simp [up] <;> rfl) (fun b r y => by rw [up_f (by omega), up_f (by omega), up_f (by omega), up_f (by omega)]; exact gF b r (by omega)))
                      | (have e : sgOf x y2 = 3 := by rw [show x = 60 by omega, sgOf_60, if_neg (by omega), if_neg (by omega)]
                         exact k1 _ (by rw [e]; simp [up] <;> omega) (by rw [e]; simp [up] <;> omega) (fun _ => by rw [e, up_e, show x = 60 by omega]; rfl) (fun b r y => by rw [up_f (by omega), up_f (by omega)]; exact gF b r (by omega)))
                      | (have e : sgOf x y2 = 8 := by rw [show x = 62 by omega, sgOf_62, if_neg (by omega)]
                         exact k1 _ (by rw [e]; simp [up] <;> omega) (by rw [e]; simp [up] <;> omega) (fun _ => by rw [e, up_e, show x = 62 by omega]; rfl) (fun b r y => by rw [up_f (by omega), up_f (by omega)]; exact gF b r (by omega)))
                      | (have e := hs.2.2 (by omega) (by omega)
                         have e3 := hs.2.1
                         exact k1 _ (by rw [if_neg (show ¬ (sgOf x y2 = 4 ∨ sgOf x y2 = 6 ∨ sgOf x y2 = 7) by omega), up_i (by decide), up_i (by decide), g14] <;> omega) (by rw [if_neg e3, up_i (by decide), up_e]; exact hs.1) (fun _ => by rw [up_e]; exact e.1.symm) (fun b r y => by rw [up_f (by omega), up_f (by omega)]; exact gF b r (by omega)))
                      | (exfalso; omega)
                · refine x_aload rfl ?_
                  refine x_dupR ?_
                  refine h_getI 14 sc_94 rfl rfl ?_
                  first | rw [up_i (by decide), up_i (by decide), up_i (by decide), up_i (by decide), up_i (by decide), g14] | rw [up_i (by decide), up_i (by decide), up_i (by decide), up_i (by decide), g14] | rw [up_i (by decide), up_i (by decide), up_i (by decide), g14] | rw [up_i (by decide), up_i (by decide), g14]
                  refine x_ci ?_
                  refine x_iadd ?_
                  refine h_putI 14 sc_94 rfl rfl ?_
                  refine x_fall ?_
                  refine x_ret ?_
                  rcases hs with hs | hs
                  · by_cases ff : x = 60 ∨ x = 62
                    · exfalso
                      omega
                    refine k1 _ ?_ ?_ (fun y => absurd hs.2.1 y) (fun b r y => ?_)
                    · rw [hs.2.1, if_neg (by omega)]
                      first
                        | (exfalso; omega)
                        | (rw [up_i (by decide), up_i (by decide), g14] <;> omega)
                    · rw [hs.2.1, if_pos rfl]
                      first
                        | (exfalso; omega)
                        | (rw [up_i (by decide), up_e]; exact hs.1)
                    · first
                        | (exfalso; omega)
                        | (rw [up_f (by omega), up_f (by omega)]; exact gF b r (by omega))
                  · rw [← hy] at *
                    first
                      | (exfalso; omega)
                      | (have e : sgOf x y2 = 4 := by rw [show x = 60 by omega, sgOf_60, if_pos (by omega)]
                         exact k1 _ (by rw [e]; simp [up] <;> omega) (by rw [e]; simp [up] <;> omega) (fun _ => by rw [e]; simp [up] <;> rfl) (fun b r y => by rw [up_f (by omega), up_f (by omega), up_f (by omega), up_f (by omega)]; exact gF b r (by omega)))
                      | (have e : sgOf x y2 = 6 := by rw [show x = 60 by omega, sgOf_60, if_neg (by omega), if_pos (by omega)]
                         exact k1 _ (by rw [e]; simp [up] <;> omega) (by rw [e]; simp [up] <;> omega) (fun _ => by rw [e]; simp [up] <;> rfl) (fun b r y => by rw [up_f (by omega), up_f (by omega), up_f (by omega), up_f (by omega)]; exact gF b r (by omega)))
                      | (have e : sgOf x y2 = 7 := by rw [show x = 62 by omega, sgOf_62, if_pos (by omega)]
                         exact k1 _ (by rw [e]; simp [up] <;> omega) (by rw [e]; simp [up] <;> omega) (fun _ => by rw [e]; simp [up] <;> rfl) (fun b r y => by rw [up_f (by omega), up_f (by omega), up_f (by omega), up_f (by omega)]; exact gF b r (by omega)))
                      | (have e : sgOf x y2 = 3 := by rw [show x = 60 by omega, sgOf_60, if_neg (by omega), if_neg (by omega)]
                         exact k1 _ (by rw [e]; simp [up] <;> omega) (by rw [e]; simp [up] <;> omega) (fun _ => by rw [e, up_e, show x = 60 by omega]; rfl) (fun b r y => by rw [up_f (by omega), up_f (by omega)]; exact gF b r (by omega)))
                      | (have e : sgOf x y2 = 8 := by rw [show x = 62 by omega, sgOf_62, if_neg (by omega)]
                         exact k1 _ (by rw [e]; simp [up] <;> omega) (by rw [e]; simp [up] <;> omega) (fun _ => by rw [e, up_e, show x = 62 by omega]; rfl) (fun b r y => by rw [up_f (by omega), up_f (by omega)]; exact gF b r (by omega)))
                      | (have e := hs.2.2 (by omega) (by omega)
                         have e3 := hs.2.1
                         exact k1 _ (by rw [if_neg (show ¬ (sgOf x y2 = 4 ∨ sgOf x y2 = 6 ∨ sgOf x y2 = 7) by omega), up_i (by decide), up_i (by decide), g14] <;> omega) (by rw [if_neg e3, up_i (by decide), up_e]; exact hs.1) (fun _ => by rw [up_e]; exact e.1.symm) (fun b r y => by rw [up_f (by omega), up_f (by omega)]; exact gF b r (by omega)))
                      | (exfalso; omega)
              · refine x_aload rfl ?_
                refine x_ci ?_
                refine h_putI 17 sc_94 rfl rfl ?_
                refine x_fall ?_
                refine x_aload rfl ?_
                refine h_getI 17 sc_94 rfl rfl ?_
                first | rw [up_e] | rw [up_i (by decide), up_e]
                refine x_ci ?_
                refine n_icmp_lt ⟨by omega, by omega⟩ ⟨by omega, by omega⟩ (fun c7 => ?_) (fun c7 => ?_)
                · refine x_ret ?_
                  rcases hs with hs | hs
                  · by_cases ff : x = 60 ∨ x = 62
                    · exfalso
                      omega
                    refine k1 _ ?_ ?_ (fun y => absurd hs.2.1 y) (fun b r y => ?_)
                    · rw [hs.2.1, if_neg (by omega)]
                      first
                        | (exfalso; omega)
                        | (rw [up_i (by decide), up_i (by decide), g14] <;> omega)
                    · rw [hs.2.1, if_pos rfl]
                      first
                        | (exfalso; omega)
                        | (rw [up_i (by decide), up_e]; exact hs.1)
                    · first
                        | (exfalso; omega)
                        | (rw [up_f (by omega), up_f (by omega)]; exact gF b r (by omega))
                  · rw [← hy] at *
                    first
                      | (exfalso; omega)
                      | (have e : sgOf x y2 = 4 := by rw [show x = 60 by omega, sgOf_60, if_pos (by omega)]
                         exact k1 _ (by rw [e]; simp [up] <;> omega) (by rw [e]; simp [up] <;> omega) (fun _ => by rw [e]; simp [up] <;> rfl) (fun b r y => by rw [up_f (by omega), up_f (by omega), up_f (by omega), up_f (by omega)]; exact gF b r (by omega)))
                      | (have e : sgOf x y2 = 6 := by rw [show x = 60 by omega, sgOf_60, if_neg (by omega), if_pos (by omega)]
                         exact k1 _ (by rw [e]; simp [up] <;> omega) (by rw [e]; simp [up] <;> omega) (fun _ => by rw [e]; simp [up] <;> rfl) (fun b r y => by rw [up_f (by omega), up_f (by omega), up_f (by omega), up_f (by omega)]; exact gF b r (by omega)))
                      | (have e : sgOf x y2 = 7 := by rw [show x = 62 by omega, sgOf_62, if_pos (by omega)]
                         exact k1 _ (by rw [e]; simp [up] <;> omega) (by rw [e]; simp [up] <;> omega) (fun _ => by rw [e]; simp [up] <;> rfl) (fun b r y => by rw [up_f (by omega), up_f (by omega), up_f (by omega), up_f (by omega)]; exact gF b r (by omega)))
                      | (have e : sgOf x y2 = 3 := by rw [show x = 60 by omega, sgOf_60, if_neg (by omega), if_neg (by omega)]
                         exact k1 _ (by rw [e]; simp [up] <;> omega) (by rw [e]; simp [up] <;> omega) (fun _ => by rw [e, up_e, show x = 60 by omega]; rfl) (fun b r y => by rw [up_f (by omega), up_f (by omega)]; exact gF b r (by omega)))
                      | (have e : sgOf x y2 = 8 := by rw [show x = 62 by omega, sgOf_62, if_neg (by omega)]
                         exact k1 _ (by rw [e]; simp [up] <;> omega) (by rw [e]; simp [up] <;> omega) (fun _ => by rw [e, up_e, show x = 62 by omega]; rfl) (fun b r y => by rw [up_f (by omega), up_f (by omega)]; exact gF b r (by omega)))
                      | (have e := hs.2.2 (by omega) (by omega)
                         have e3 := hs.2.1
                         exact k1 _ (by rw [if_neg (show ¬ (sgOf x y2 = 4 ∨ sgOf x y2 = 6 ∨ sgOf x y2 = 7) by omega), up_i (by decide), up_i (by decide), g14] <;> omega) (by rw [if_neg e3, up_i (by decide), up_e]; exact hs.1) (fun _ => by rw [up_e]; exact e.1.symm) (fun b r y => by rw [up_f (by omega), up_f (by omega)]; exact gF b r (by omega)))
                      | (exfalso; omega)
                · refine x_aload rfl ?_
                  refine x_dupR ?_
                  refine h_getI 14 sc_94 rfl rfl ?_
                  first | rw [up_i (by decide), up_i (by decide), up_i (by decide), up_i (by decide), up_i (by decide), g14] | rw [up_i (by decide), up_i (by decide), up_i (by decide), up_i (by decide), g14] | rw [up_i (by decide), up_i (by decide), up_i (by decide), g14] | rw [up_i (by decide), up_i (by decide), g14]
                  refine x_ci ?_
                  refine x_iadd ?_
                  refine h_putI 14 sc_94 rfl rfl ?_
                  refine x_fall ?_
                  refine x_ret ?_
                  rcases hs with hs | hs
                  · by_cases ff : x = 60 ∨ x = 62
                    · exfalso
                      omega
                    refine k1 _ ?_ ?_ (fun y => absurd hs.2.1 y) (fun b r y => ?_)
                    · rw [hs.2.1, if_neg (by omega)]
                      first
                        | (exfalso; omega)
                        | (rw [up_i (by decide), up_i (by decide), g14] <;> omega)
                    · rw [hs.2.1, if_pos rfl]
                      first
                        | (exfalso; omega)
                        | (rw [up_i (by decide), up_e]; exact hs.1)
                    · first
                        | (exfalso; omega)
                        | (rw [up_f (by omega), up_f (by omega)]; exact gF b r (by omega))
                  · rw [← hy] at *
                    first
                      | (exfalso; omega)
                      | (have e : sgOf x y2 = 4 := by rw [show x = 60 by omega, sgOf_60, if_pos (by omega)]
                         exact k1 _ (by rw [e]; simp [up] <;> omega) (by rw [e]; simp [up] <;> omega) (fun _ => by rw [e]; simp [up] <;> rfl) (fun b r y => by rw [up_f (by omega), up_f (by omega), up_f (by omega), up_f (by omega)]; exact gF b r (by omega)))
                      | (have e : sgOf x y2 = 6 := by rw [show x = 60 by omega, sgOf_60, if_neg (by omega), if_pos (by omega)]
                         exact k1 _ (by rw [e]; simp [up] <;> omega) (by rw [e]; simp [up] <;> omega) (fun _ => by rw [e]; simp [up] <;> rfl) (fun b r y => by rw [up_f (by omega), up_f (by omega), up_f (by omega), up_f (by omega)]; exact gF b r (by omega)))
                      | (have e : sgOf x y2 = 7 := by rw [show x = 62 by omega, sgOf_62, if_pos (by omega)]
                         exact k1 _ (by rw [e]; simp [up] <;> omega) (by rw [e]; simp [up] <;> omega) (fun _ => by rw [e]; simp [up] <;> rfl) (fun b r y => by rw [up_f (by omega), up_f (by omega), up_f (by omega), up_f (by omega)]; exact gF b r (by omega)))
                      | (have e : sgOf x y2 = 3 := by rw [show x = 60 by omega, sgOf_60, if_neg (by omega), if_neg (by omega)]
                         exact k1 _ (by rw [e]; simp [up] <;> omega) (by rw [e]; simp [up] <;> omega) (fun _ => by rw [e, up_e, show x = 60 by omega]; rfl) (fun b r y => by rw [up_f (by omega), up_f (by omega)]; exact gF b r (by omega)))
                      | (have e : sgOf x y2 = 8 := by rw [show x = 62 by omega, sgOf_62, if_neg (by omega)]
                         exact k1 _ (by rw [e]; simp [up] <;> omega) (by rw [e]; simp [up] <;> omega) (fun _ => by rw [e, up_e, show x = 62 by omega]; rfl) (fun b r y => by rw [up_f (by omega), up_f (by omega)]; exact gF b r (by omega)))
                      | (have e := hs.2.2 (by omega) (by omega)
                         have e3 := hs.2.1
                         exact k1 _ (by rw [if_neg (show ¬ (sgOf x y2 = 4 ∨ sgOf x y2 = 6 ∨ sgOf x y2 = 7) by omega), up_i (by decide), up_i (by decide), g14] <;> omega) (by rw [if_neg e3, up_i (by decide), up_e]; exact hs.1) (fun _ => by rw [up_e]; exact e.1.symm) (fun b r y => by rw [up_f (by omega), up_f (by omega)]; exact gF b r (by omega)))
                      | (exfalso; omega)
          · refine x_aload rfl ?_
            refine x_ci ?_
            refine h_putI 17 sc_94 rfl rfl ?_
            refine x_fall ?_
            refine x_iload rfl ?_
            refine x_ci ?_
            refine n_icmp_ne ⟨by omega, by omega⟩ ⟨by omega, by omega⟩ (fun c5 => ?_) (fun c5 => ?_)
            · refine x_aload rfl ?_
              refine h_getI 17 sc_94 rfl rfl ?_
              first | rw [up_e] | rw [up_i (by decide), up_e]
              refine x_ci ?_
              refine n_icmp_lt ⟨by omega, by omega⟩ ⟨by omega, by omega⟩ (fun c6 => ?_) (fun c6 => ?_)
              · refine x_ret ?_
                rcases hs with hs | hs
                · by_cases ff : x = 60 ∨ x = 62
                  · exfalso
                    omega
                  refine k1 _ ?_ ?_ (fun y => absurd hs.2.1 y) (fun b r y => ?_)
                  · rw [hs.2.1, if_neg (by omega)]
                    first
                      | (exfalso; omega)
                      | (rw [up_i (by decide), up_i (by decide), g14] <;> omega)
                  · rw [hs.2.1, if_pos rfl]
                    first
                      | (exfalso; omega)
                      | (rw [up_i (by decide), up_e]; exact hs.1)
                  · first
                      | (exfalso; omega)
                      | (rw [up_f (by omega), up_f (by omega)]; exact gF b r (by omega))
                · rw [← hy] at *
                  first
                    | (exfalso; omega)
                    | (have e : sgOf x y2 = 4 := by rw [show x = 60 by omega, sgOf_60, if_pos (by omega)]
                       exact k1 _ (by rw [e]; simp [up] <;> omega) (by rw [e]; simp [up] <;> omega) (fun _ => by rw [e]; simp [up] <;> rfl) (fun b r y => by rw [up_f (by omega), up_f (by omega), up_f (by omega), up_f (by omega)]; exact gF b r (by omega)))
                    | (have e : sgOf x y2 = 6 := by rw [show x = 60 by omega, sgOf_60, if_neg (by omega), if_pos (by omega)]
                       exact k1 _ (by rw [e]; simp [up] <;> omega) (by rw [e]; simp [up] <;> omega) (fun _ => by rw [e]; simp [up] <;> rfl) (fun b r y => by rw [up_f (by omega), up_f (by omega), up_f (by omega), up_f (by omega)]; exact gF b r (by omega)))
                    | (have e : sgOf x y2 = 7 := by rw [show x = 62 by omega, sgOf_62, if_pos (by omega)]
                       exact k1 _ (by rw [e]; simp [up] <;> omega) (by rw [e]; simp [up] <;> omega) (fun _ => by rw [e]; simp [up] <;> rfl) (fun b r y => by rw [up_f (by omega), up_f (by omega), up_f (by omega), up_f (by omega)]; exact gF b r (by omega)))
                    | (have e : sgOf x y2 = 3 := by rw [show x = 60 by omega, sgOf_60, if_neg (by omega), if_neg (by omega)]
                       exact k1 _ (by rw [e]; simp [up] <;> omega) (by rw [e]; simp [up] <;> omega) (fun _ => by rw [e, up_e, show x = 60 by omega]; rfl) (fun b r y => by rw [up_f (by omega), up_f (by omega)]; exact gF b r (by omega)))
                    | (have e : sgOf x y2 = 8 := by rw [show x = 62 by omega, sgOf_62, if_neg (by omega)]
                       exact k1 _ (by rw [e]; simp [up] <;> omega) (by rw [e]; simp [up] <;> omega) (fun _ => by rw [e, up_e, show x = 62 by omega]; rfl) (fun b r y => by rw [up_f (by omega), up_f (by omega)]; exact gF b r (by omega)))
                    | (have e := hs.2.2 (by omega) (by omega)
                       have e3 := hs.2.1
                       exact k1 _ (by rw [if_neg (show ¬ (sgOf x y2 = 4 ∨ sgOf x y2 = 6 ∨ sgOf x y2 = 7) by omega), up_i (by decide), up_i (by decide), g14] <;> omega) (by rw [if_neg e3, up_i (by decide), up_e]; exact hs.1) (fun _ => by rw [up_e]; exact e.1.symm) (fun b r y => by rw [up_f (by omega), up_f (by omega)]; exact gF b r (by omega)))
                    | (exfalso; omega)
              · refine x_aload rfl ?_
                refine x_dupR ?_
                refine h_getI 14 sc_94 rfl rfl ?_
                first | rw [up_i (by decide), up_i (by decide), up_i (by decide), up_i (by decide), up_i (by decide), g14] | rw [up_i (by decide), up_i (by decide), up_i (by decide), up_i (by decide), g14] | rw [up_i (by decide), up_i (by decide), up_i (by decide), g14] | rw [up_i (by decide), up_i (by decide), g14]
                refine x_ci ?_
                refine x_iadd ?_
                refine h_putI 14 sc_94 rfl rfl ?_
                refine x_fall ?_
                refine x_ret ?_
                rcases hs with hs | hs
                · by_cases ff : x = 60 ∨ x = 62
                  · exfalso
                    omega
                  refine k1 _ ?_ ?_ (fun y => absurd hs.2.1 y) (fun b r y => ?_)
                  · rw [hs.2.1, if_neg (by omega)]
                    first
                      | (exfalso; omega)
                      | (rw [up_i (by decide), up_i (by decide), g14] <;> omega)
                  · rw [hs.2.1, if_pos rfl]
                    first
                      | (exfalso; omega)
                      | (rw [up_i (by decide), up_e]; exact hs.1)
                  · first
                      | (exfalso; omega)
                      | (rw [up_f (by omega), up_f (by omega)]; exact gF b r (by omega))
                · rw [← hy] at *
                  first
                    | (exfalso; omega)
                    | (have e : sgOf x y2 = 4 := by rw [show x = 60 by omega, sgOf_60, if_pos (by omega)]
                       exact k1 _ (by rw [e]; simp [up] <;> omega) (by rw [e]; simp [up] <;> omega) (fun _ => by rw [e]; simp [up] <;> rfl) (fun b r y => by rw [up_f (by omega), up_f (by omega), up_f (by omega), up_f (by omega)]; exact gF b r (by omega)))
                    | (have e : sgOf x y2 = 6 := by rw [show x = 60 by omega, sgOf_60, if_neg (by omega), if_pos (by omega)]
                       exact k1 _ (by rw [e]; simp [up] <;> omega) (by rw [e]; simp [up] <;> omega) (fun _ => by rw [e]; simp [up] <;> rfl) (fun b r y => by rw [up_f (by omega), up_f (by omega), up_f (by omega), up_f (by omega)]; exact gF b r (by omega)))
                    | (have e : sgOf x y2 = 7 := by rw [show x = 62 by omega, sgOf_62, if_pos (by omega)]
                       exact k1 _ (by rw [e]; simp [up] <;> omega) (by rw [e]; simp [up] <;> omega) (fun _ => by rw [e]; simp [up] <;> rfl) (fun b r y => by rw [up_f (by omega), up_f (by omega), up_f (by omega), up_f (by omega)]; exact gF b r (by omega)))
                    | (have e : sgOf x y2 = 3 := by rw [show x = 60 by omega, sgOf_60, if_neg (by omega), if_neg (by omega)]
                       exact k1 _ (by rw [e]; simp [up] <;> omega) (by rw [e]; simp [up] <;> omega) (fun _ => by rw [e, up_e, show x = 60 by omega]; rfl) (fun b r y => by rw [up_f (by omega), up_f (by omega)]; exact gF b r (by omega)))
                    | (have e : sgOf x y2 = 8 := by rw [show x = 62 by omega, sgOf_62, if_neg (by omega)]
                       exact k1 _ (by rw [e]; simp [up] <;> omega) (by rw [e]; simp [up] <;> omega) (fun _ => by rw [e, up_e, show x = 62 by omega]; rfl) (fun b r y => by rw [up_f (by omega), up_f (by omega)]; exact gF b r (by omega)))
                    | (have e := hs.2.2 (by omega) (by omega)
                       have e3 := hs.2.1
                       exact k1 _ (by rw [if_neg (show ¬ (sgOf x y2 = 4 ∨ sgOf x y2 = 6 ∨ sgOf x y2 = 7) by omega), up_i (by decide), up_i (by decide), g14] <;> omega) (by rw [if_neg e3, up_i (by decide), up_e]; exact hs.1) (fun _ => by rw [up_e]; exact e.1.symm) (fun b r y => by rw [up_f (by omega), up_f (by omega)]; exact gF b r (by omega)))
                    | (exfalso; omega)
            · refine x_aload rfl ?_
              refine n_call [vR _] [] (by omega) (Nat.le_of_ble_eq_true rfl) rfl rfl (Nat.le_of_ble_eq_true rfl) ?_
              refine n_here (j := q + 1) (hRt.f (fun b r y => by first | rw [up_f (by omega), up_f (by omega), up_f (by omega), up_f (by omega)] | rw [up_f (by omega), up_f (by omega), up_f (by omega)] | rw [up_f (by omega), up_f (by omega)])) (by first | (rw [up_i (by decide), up_i (by decide), up_i (by decide), up_i (by decide)]; exact g14) | (rw [up_i (by decide), up_i (by decide), up_i (by decide)]; exact g14) | (rw [up_i (by decide), up_i (by decide)]; exact g14)) (by omega) ?_
              rw [show (((q + 1 : Nat)) : Int) = (q : Int) + 1 by omega]
              show wp PP _ _ _ [some (vR _), some (vI _)] [vI _] _ _
              refine x_ci ?_
              refine n_icmp_ne ⟨by omega, by omega⟩ ⟨by omega, by omega⟩ (fun c6 => ?_) (fun c6 => ?_)
              · refine x_aload rfl ?_
                refine h_getI 17 sc_94 rfl rfl ?_
                first | rw [up_e] | rw [up_i (by decide), up_e]
                refine x_ci ?_
                refine n_icmp_lt ⟨by omega, by omega⟩ ⟨by omega, by omega⟩ (fun c7 => ?_) (fun c7 => ?_)
                · refine x_ret ?_
                  rcases hs with hs | hs
                  · by_cases ff : x = 60 ∨ x = 62
                    · exfalso
                      omega
                    refine k1 _ ?_ ?_ (fun y => absurd hs.2.1 y) (fun b r y => ?_)
                    · rw [hs.2.1, if_neg (by omega)]
                      first
                        | (exfalso; omega)
                        | (rw [up_i (by decide), up_i (by decide), g14] <;> omega)
                    · rw [hs.2.1, if_pos rfl]
                      first
                        | (exfalso; omega)
                        | (rw [up_i (by decide), up_e]; exact hs.1)
                    · first
                        | (exfalso; omega)
                        | (rw [up_f (by omega), up_f (by omega)]; exact gF b r (by omega))
                  · rw [← hy] at *
                    first
                      | (exfalso; omega)
                      | (have e : sgOf x y2 = 4 := by rw [show x = 60 by omega, sgOf_60, if_pos (by omega)]
                         exact k1 _ (by rw [e]; simp [up] <;> omega) (by rw [e]; simp [up] <;> omega) (fun _ => by rw [e]; simp [up] <;> rfl) (fun b r y => by rw [up_f (by omega), up_f (by omega), up_f (by omega), up_f (by omega)]; exact gF b r (by omega)))
                      | (have e : sgOf x y2 = 6 := by rw [show x = 60 by omega, sgOf_60, if_neg (by omega), if_pos (by omega)]
                         exact k1 _ (by rw [e]; simp [up] <;> omega) (by rw [e]; simp [up] <;> omega) (fun _ => by rw [e]; simp [up] <;> rfl) (fun b r y => by rw [up_f (by omega), up_f (by omega), up_f (by omega), up_f (by omega)]; exact gF b r (by omega)))
                      | (have e : sgOf x y2 = 7 := by rw [show x = 62 by omega, sgOf_62, if_pos (by omega)]
                         exact k1 _ (by rw [e]; simp [up] <;> omega) (by rw [e]; simp [up] <;> omega) (fun _ => by rw [e]; simp [up] <;> rfl) (fun b r y => by rw [up_f (by omega), up_f (by omega), up_f (by omega), up_f (by omega)]; exact gF b r (by omega)))
                      | (have e : sgOf x y2 = 3 := by rw [show x = 60 by omega, sgOf_60, if_neg (by omega), if_neg (by omega)]
                         exact k1 _ (by rw [e]; simp [up] <;> omega) (by rw [e]; simp [up] <;> omega) (fun _ => by rw [e, up_e, show x = 60 by omega]; rfl) (fun b r y => by rw [up_f (by omega), up_f (by omega)]; exact gF b r (by omega)))
                      | (have e : sgOf x y2 = 8 := by rw [show x = 62 by omega, sgOf_62, if_neg (by omega)]
                         exact k1 _ (by rw [e]; simp [up] <;> omega) (by rw [e]; simp [up] <;> omega) (fun _ => by rw [e, up_e, show x = 62 by omega]; rfl) (fun b r y => by rw [up_f (by omega), up_f (by omega)]; exact gF b r (by omega)))
                      | (have e := hs.2.2 (by omega) (by omega)
                         have e3 := hs.2.1
                         exact k1 _ (by rw [if_neg (show ¬ (sgOf x y2 = 4 ∨ sgOf x y2 = 6 ∨ sgOf x y2 = 7) by omega), up_i (by decide), up_i (by decide), g14] <;> omega) (by rw [if_neg e3, up_i (by decide), up_e]; exact hs.1) (fun _ => by rw [up_e]; exact e.1.symm) (fun b r y => by rw [up_f (by omega), up_f (by omega)]; exact gF b r (by omega)))
                      | (exfalso; omega)
                · refine x_aload rfl ?_
                  refine x_dupR ?_
                  refine h_getI 14 sc_94 rfl rfl ?_
                  first | rw [up_i (by decide), up_i (by decide), up_i (by decide), up_i (by decide), up_i (by decide), g14] | rw [up_i (by decide), up_i (by decide), up_i (by decide), up_i (by decide), g14] | rw [up_i (by decide), up_i (by decide), up_i (by decide), g14] | rw [up_i (by decide), up_i (by decide), g14]
                  refine x_ci ?_
                  refine x_iadd ?_
                  refine h_putI 14 sc_94 rfl rfl ?_
                  refine x_fall ?_
                  refine x_ret ?_
                  rcases hs with hs | hs
                  · by_cases ff : x = 60 ∨ x = 62
                    · exfalso
                      omega
                    refine k1 _ ?_ ?_ (fun y => absurd hs.2.1 y) (fun b r y => ?_)
                    · rw [hs.2.1, if_neg (by omega)]
                      first
                        | (exfalso; omega)
                        | (rw [up_i (by decide), up_i (by decide), g14] <;> omega)
                    · rw [hs.2.1, if_pos rfl]
                      first
                        | (exfalso; omega)
                        | (rw [up_i (by decide), up_e]; exact hs.1)
                    · first
                        | (exfalso; omega)
                        | (rw [up_f (by omega), up_f (by omega)]; exact gF b r (by omega))
                  · rw [← hy] at *
                    first
                      | (exfalso; omega)
                      | (have e : sgOf x y2 = 4 := by rw [show x = 60 by omega, sgOf_60, if_pos (by omega)]
                         exact k1 _ (by rw [e]; simp [up] <;> omega) (by rw [e]; simp [up] <;> omega) (fun _ => by rw [e]; simp [up] <;> rfl) (fun b r y => by rw [up_f (by omega), up_f (by omega), up_f (by omega), up_f (by omega)]; exact gF b r (by omega)))
                      | (have e : sgOf x y2 = 6 := by rw [show x = 60 by omega, sgOf_60, if_neg (by omega), if_pos (by omega)]
                         exact k1 _ (by rw [e]; simp [up] <;> omega) (by rw [e]; simp [up] <;> omega) (fun _ => by rw [e]; simp [up] <;> rfl) (fun b r y => by rw [up_f (by omega), up_f (by omega), up_f (by omega), up_f (by omega)]; exact gF b r (by omega)))
                      | (have e : sgOf x y2 = 7 := by rw [show x = 62 by omega, sgOf_62, if_pos (by omega)]
                         exact k1 _ (by rw [e]; simp [up] <;> omega) (by rw [e]; simp [up] <;> omega) (fun _ => by rw [e]; simp [up] <;> rfl) (fun b r y => by rw [up_f (by omega), up_f (by omega), up_f (by omega), up_f (by omega)]; exact gF b r (by omega)))
                      | (have e : sgOf x y2 = 3 := by rw [show x = 60 by omega, sgOf_60, if_neg (by omega), if_neg (by omega)]
                         exact k1 _ (by rw [e]; simp [up] <;> omega) (by rw [e]; simp [up] <;> omega) (fun _ => by rw [e, up_e, show x = 60 by omega]; rfl) (fun b r y => by rw [up_f (by omega), up_f (by omega)]; exact gF b r (by omega)))
                      | (have e : sgOf x y2 = 8 := by rw [show x = 62 by omega, sgOf_62, if_neg (by omega)]
                         exact k1 _ (by rw [e]; simp [up] <;> omega) (by rw [e]; simp [up] <;> omega) (fun _ => by rw [e, up_e, show x = 62 by omega]; rfl) (fun b r y => by rw [up_f (by omega), up_f (by omega)]; exact gF b r (by omega)))
                      | (have e := hs.2.2 (by omega) (by omega)
                         have e3 := hs.2.1
                         exact k1 _ (by rw [if_neg (show ¬ (sgOf x y2 = 4 ∨ sgOf x y2 = 6 ∨ sgOf x y2 = 7) by omega), up_i (by decide), up_i (by decide), g14] <;> omega) (by rw [if_neg e3, up_i (by decide), up_e]; exact hs.1) (fun _ => by rw [up_e]; exact e.1.symm) (fun b r y => by rw [up_f (by omega), up_f (by omega)]; exact gF b r (by omega)))
                      | (exfalso; omega)
              · refine x_aload rfl ?_
                refine x_ci ?_
                refine h_putI 17 sc_94 rfl rfl ?_
                refine x_fall ?_
                refine x_aload rfl ?_
                refine h_getI 17 sc_94 rfl rfl ?_
                first | rw [up_e] | rw [up_i (by decide), up_e]
                refine x_ci ?_
                refine n_icmp_lt ⟨by omega, by omega⟩ ⟨by omega, by omega⟩ (fun c7 => ?_) (fun c7 => ?_)
                · refine x_ret ?_
                  rcases hs with hs | hs
                  · by_cases ff : x = 60 ∨ x = 62
                    · exfalso
                      omega
                    refine k1 _ ?_ ?_ (fun y => absurd hs.2.1 y) (fun b r y => ?_)
                    · rw [hs.2.1, if_neg (by omega)]
                      first
                        | (exfalso; omega)
                        | (rw [up_i (by decide), up_i (by decide), g14] <;> omega)
                    · rw [hs.2.1, if_pos rfl]
                      first
                        | (exfalso; omega)
                        | (rw [up_i (by decide), up_e]; exact hs.1)
                    · first
                        | (exfalso; omega)
                        | (rw [up_f (by omega), up_f (by omega)]; exact gF b r (by omega))
                  · rw [← hy] at *
                    first
                      | (exfalso; omega)
                      | (have e : sgOf x y2 = 4 := by rw [show x = 60 by omega, sgOf_60, if_pos (by omega)]
                         exact k1 _ (by rw [e]; simp [up] <;> omega) (by rw [e]; simp [up] <;> omega) (fun _ => by rw [e]; simp [up] <;> rfl) (fun b r y => by rw [up_f (by omega), up_f (by omega), up_f (by omega), up_f (by omega)]; exact gF b r (by omega)))
                      | (have e : sgOf x y2 = 6 := by rw [show x = 60 by omega, sgOf_60, if_neg (by omega), if_pos (by omega)]
                         exact k1 _ (by rw [e]; simp [up] <;> omega) (by rw [e]; simp [up] <;> omega) (fun _ => by rw [e]; simp [up] <;> rfl) (fun b r y => by rw [up_f (by omega), up_f (by omega), up_f (by omega), up_f (by omega)]; exact gF b r (by omega)))
                      | (have e : sgOf x y2 = 7 := by rw [show x = 62 by omega, sgOf_62, if_pos (by omega)]
                         exact k1 _ (by rw [e]; simp [up] <;> omega) (by rw [e]; simp [up] <;> omega) (fun _ => by rw [e]; simp [up] <;> rfl) (fun b r y => by rw [up_f (by omega), up_f (by omega), up_f (by omega), up_f (by omega)]; exact gF b r (by omega)))
                      | (have e : sgOf x y2 = 3 := by rw [show x = 60 by omega, sgOf_60, if_neg (by omega), if_neg (by omega)]
                         exact k1 _ (by rw [e]; simp [up] <;> omega) (by rw [e]; simp [up] <;> omega) (fun _ => by rw [e, up_e, show x = 60 by omega]; rfl) (fun b r y => by rw [up_f (by omega), up_f (by omega)]; exact gF b r (by omega)))
                      | (have e : sgOf x y2 = 8 := by rw [show x = 62 by omega, sgOf_62, if_neg (by omega)]
                         exact k1 _ (by rw [e]; simp [up] <;> omega) (by rw [e]; simp [up] <;> omega) (fun _ => by rw [e, up_e, show x = 62 by omega]; rfl) (fun b r y => by rw [up_f (by omega), up_f (by omega)]; exact gF b r (by omega)))
                      | (have e := hs.2.2 (by omega) (by omega)
                         have e3 := hs.2.1
                         exact k1 _ (by rw [if_neg (show ¬ (sgOf x y2 = 4 ∨ sgOf x y2 = 6 ∨ sgOf x y2 = 7) by omega), up_i (by decide), up_i (by decide), g14] <;> omega) (by rw [if_neg e3, up_i (by decide), up_e]; exact hs.1) (fun _ => by rw [up_e]; exact e.1.symm) (fun b r y => by rw [up_f (by omega), up_f (by omega)]; exact gF b r (by omega)))
                      | (exfalso; omega)
                · refine x_aload rfl ?_
                  refine x_dupR ?_
                  refine h_getI 14 sc_94 rfl rfl ?_
                  first | rw [up_i (by decide), up_i (by decide), up_i (by decide), up_i (by decide), up_i (by decide), g14] | rw [up_i (by decide), up_i (by decide), up_i (by decide), up_i (by decide), g14] | rw [up_i (by decide), up_i (by decide), up_i (by decide), g14] | rw [up_i (by decide), up_i (by decide), g14]
                  refine x_ci ?_
                  refine x_iadd ?_
                  refine h_putI 14 sc_94 rfl rfl ?_
                  refine x_fall ?_
                  refine x_ret ?_
                  rcases hs with hs | hs
                  · by_cases ff : x = 60 ∨ x = 62
                    · exfalso
                      omega
                    refine k1 _ ?_ ?_ (fun y => absurd hs.2.1 y) (fun b r y => ?_)
                    · rw [hs.2.1, if_neg (by omega)]
                      first
                        | (exfalso; omega)
                        | (rw [up_i (by decide), up_i (by decide), g14] <;> omega)
                    · rw [hs.2.1, if_pos rfl]
                      first
                        | (exfalso; omega)
                        | (rw [up_i (by decide), up_e]; exact hs.1)
                    · first
                        | (exfalso; omega)
                        | (rw [up_f (by omega), up_f (by omega)]; exact gF b r (by omega))
                  · rw [← hy] at *
                    first
                      | (exfalso; omega)
                      | (have e : sgOf x y2 = 4 := by rw [show x = 60 by omega, sgOf_60, if_pos (by omega)]
                         exact k1 _ (by rw [e]; simp [up] <;> omega) (by rw [e]; simp [up] <;> omega) (fun _ => by rw [e]; simp [up] <;> rfl) (fun b r y => by rw [up_f (by omega), up_f (by omega), up_f (by omega), up_f (by omega)]; exact gF b r (by omega)))
                      | (have e : sgOf x y2 = 6 := by rw [show x = 60 by omega, sgOf_60, if_neg (by omega), if_pos (by omega)]
                         exact k1 _ (by rw [e]; simp [up] <;> omega) (by rw [e]; simp [up] <;> omega) (fun _ => by rw [e]; simp [up] <;> rfl) (fun b r y => by rw [up_f (by omega), up_f (by omega), up_f (by omega), up_f (by omega)]; exact gF b r (by omega)))
                      | (have e : sgOf x y2 = 7 := by rw [show x = 62 by omega, sgOf_62, if_pos (by omega)]
                         exact k1 _ (by rw [e]; simp [up] <;> omega) (by rw [e]; simp [up] <;> omega) (fun _ => by rw [e]; simp [up] <;> rfl) (fun b r y => by rw [up_f (by omega), up_f (by omega), up_f (by omega), up_f (by omega)]; exact gF b r (by omega)))
                      | (have e : sgOf x y2 = 3 := by rw [show x = 60 by omega, sgOf_60, if_neg (by omega), if_neg (by omega)]
                         exact k1 _ (by rw [e]; simp [up] <;> omega) (by rw [e]; simp [up] <;> omega) (fun _ => by rw [e, up_e, show x = 60 by omega]; rfl) (fun b r y => by rw [up_f (by omega), up_f (by omega)]; exact gF b r (by omega)))
                      | (have e : sgOf x y2 = 8 := by rw [show x = 62 by omega, sgOf_62, if_neg (by omega)]
                         exact k1 _ (by rw [e]; simp [up] <;> omega) (by rw [e]; simp [up] <;> omega) (fun _ => by rw [e, up_e, show x = 62 by omega]; rfl) (fun b r y => by rw [up_f (by omega), up_f (by omega)]; exact gF b r (by omega)))
                      | (have e := hs.2.2 (by omega) (by omega)
                         have e3 := hs.2.1
                         exact k1 _ (by rw [if_neg (show ¬ (sgOf x y2 = 4 ∨ sgOf x y2 = 6 ∨ sgOf x y2 = 7) by omega), up_i (by decide), up_i (by decide), g14] <;> omega) (by rw [if_neg e3, up_i (by decide), up_e]; exact hs.1) (fun _ => by rw [up_e]; exact e.1.symm) (fun b r y => by rw [up_f (by omega), up_f (by omega)]; exact gF b r (by omega)))
                      | (exfalso; omega)
      · refine x_aload rfl ?_
        refine x_ci ?_
        refine h_putI 17 sc_94 rfl rfl ?_
        refine x_fall ?_
        refine x_iload rfl ?_
        refine x_ci ?_
        refine n_icmp_ne ⟨by omega, by omega⟩ ⟨by omega, by omega⟩ (fun c3 => ?_) (fun c3 => ?_)
        · refine x_iload rfl ?_
          refine x_ci ?_
          refine n_icmp_ne ⟨by omega, by omega⟩ ⟨by omega, by omega⟩ (fun c4 => ?_) (fun c4 => ?_)
          · refine x_aload rfl ?_
            refine h_getI 17 sc_94 rfl rfl ?_
            first | rw [up_e] | rw [up_i (by decide), up_e]
            refine x_ci ?_
            refine n_icmp_lt ⟨by omega, by omega⟩ ⟨by omega, by omega⟩ (fun c5 => ?_) (fun c5 => ?_)
            · refine x_ret ?_
              rcases hs with hs | hs
              · by_cases ff : x = 60 ∨ x = 62
                · exfalso
                  omega
                refine k1 _ ?_ ?_ (fun y => absurd hs.2.1 y) (fun b r y => ?_)
                · rw [hs.2.1, if_neg (by omega)]
                  first
                    | (exfalso; omega)
                    | (rw [up_i (by decide), up_i (by decide), g14] <;> omega)
                · rw [hs.2.1, if_pos rfl]
                  first
                    | (exfalso; omega)
                    | (rw [up_i (by decide), up_e]; exact hs.1)
                · first
                    | (exfalso; omega)
                    | (rw [up_f (by omega), up_f (by omega)]; exact gF b r (by omega))
              · rw [← hy] at *
                first
                  | (exfalso; omega)
                  | (have e : sgOf x y2 = 4 := by rw [show x = 60 by omega, sgOf_60, if_pos (by omega)]
                     exact k1 _ (by rw [e]; simp [up] <;> omega) (by rw [e]; simp [up] <;> omega) (fun _ => by rw [e]; simp [up] <;> rfl) (fun b r y => by rw [up_f (by omega), up_f (by omega), up_f (by omega), up_f (by omega)]; exact gF b r (by omega)))
                  | (have e : sgOf x y2 = 6 := by rw [show x = 60 by omega, sgOf_60, if_neg (by omega), if_pos (by omega)]
                     exact k1 _ (by rw [e]; simp [up] <;> omega) (by rw [e]; simp [up] <;> omega) (fun _ => by rw [e]; simp [up] <;> rfl) (fun b r y => by rw [up_f (by omega), up_f (by omega), up_f (by omega), up_f (by omega)]; exact gF b r (by omega)))
                  | (have e : sgOf x y2 = 7 := by rw [show x = 62 by omega, sgOf_62, if_pos (by omega)]
                     exact k1 _ (by rw [e]; simp [up] <;> omega) (by rw [e]; simp [up] <;> omega) (fun _ => by rw [e]; simp [up] <;> rfl) (fun b r y => by rw [up_f (by omega), up_f (by omega), up_f (by omega), up_f (by omega)]; exact gF b r (by omega)))
                  | (have e : sgOf x y2 = 3 := by rw [show x = 60 by omega, sgOf_60, if_neg (by omega), if_neg (by omega)]
                     exact k1 _ (by rw [e]; simp [up] <;> omega) (by rw [e]; simp [up] <;> omega) (fun _ => by rw [e, up_e, show x = 60 by omega]; rfl) (fun b r y => by rw [up_f (by omega), up_f (by omega)]; exact gF b r (by omega)))
                  | (have e : sgOf x y2 = 8 := by rw [show x = 62 by omega, sgOf_62, if_neg (by omega)]
                     exact k1 _ (by rw [e]; simp [up] <;> omega) (by rw [e]; simp [up] <;> omega) (fun _ => by rw [e, up_e, show x = 62 by omega]; rfl) (fun b r y => by rw [up_f (by omega), up_f (by omega)]; exact gF b r (by omega)))
                  | (have e := hs.2.2 (by omega) (by omega)
                     have e3 := hs.2.1
                     exact k1 _ (by rw [if_neg (show ¬ (sgOf x y2 = 4 ∨ sgOf x y2 = 6 ∨ sgOf x y2 = 7) by omega), up_i (by decide), up_i (by decide), g14] <;> omega) (by rw [if_neg e3, up_i (by decide), up_e]; exact hs.1) (fun _ => by rw [up_e]; exact e.1.symm) (fun b r y => by rw [up_f (by omega), up_f (by omega)]; exact gF b r (by omega)))
                  | (exfalso; omega)
            · refine x_aload rfl ?_
              refine x_dupR ?_
              refine h_getI 14 sc_94 rfl rfl ?_
              first | rw [up_i (by decide), up_i (by decide), up_i (by decide), up_i (by decide), up_i (by decide), g14] | rw [up_i (by decide), up_i (by decide), up_i (by decide), up_i (by decide), g14] | rw [up_i (by decide), up_i (by decide), up_i (by decide), g14] | rw [up_i (by decide), up_i (by decide), g14]
              refine x_ci ?_
              refine x_iadd ?_
              refine h_putI 14 sc_94 rfl rfl ?_
              refine x_fall ?_
              refine x_ret ?_
              rcases hs with hs | hs
              · by_cases ff : x = 60 ∨ x = 62
                · exfalso
                  omega
                refine k1 _ ?_ ?_ (fun y => absurd hs.2.1 y) (fun b r y => ?_)
                · rw [hs.2.1, if_neg (by omega)]
                  first
                    | (exfalso; omega)
                    | (rw [up_i (by decide), up_i (by decide), g14] <;> omega)
                · rw [hs.2.1, if_pos rfl]
                  first
                    | (exfalso; omega)
                    | (rw [up_i (by decide), up_e]; exact hs.1)
                · first
                    | (exfalso; omega)
                    | (rw [up_f (by omega), up_f (by omega)]; exact gF b r (by omega))
              · rw [← hy] at *
                first
                  | (exfalso; omega)
                  | (have e : sgOf x y2 = 4 := by rw [show x = 60 by omega, sgOf_60, if_pos (by omega)]
                     exact k1 _ (by rw [e]; simp [up] <;> omega) (by rw [e]; simp [up] <;> omega) (fun _ => by rw [e]; simp [up] <;> rfl) (fun b r y => by rw [up_f (by omega), up_f (by omega), up_f (by omega), up_f (by omega)]; exact gF b r (by omega)))
                  | (have e : sgOf x y2 = 6 := by rw [show x = 60 by omega, sgOf_60, if_neg (by omega), if_pos (by omega)]
                     exact k1 _ (by rw [e]; simp [up] <;> omega) (by rw [e]; simp [up] <;> omega) (fun _ => by rw [e]; simp [up] <;> rfl) (fun b r y => by rw [up_f (by omega), up_f (by omega), up_f (by omega), up_f (by omega)]; exact gF b r (by omega)))
                  | (have e : sgOf x y2 = 7 := by rw [show x = 62 by omega, sgOf_62, if_pos (by omega)]
                     exact k1 _ (by rw [e]; simp [up] <;> omega) (by rw [e]; simp [up] <;> omega) (fun _ => by rw [e]; simp [up] <;> rfl) (fun b r y => by rw [up_f (by omega), up_f (by omega), up_f (by omega), up_f (by omega)]; exact gF b r (by omega)))
                  | (have e : sgOf x y2 = 3 := by rw [show x = 60 by omega, sgOf_60, if_neg (by omega), if_neg (by omega)]
                     exact k1 _ (by rw [e]; simp [up] <;> omega) (by rw [e]; simp [up] <;> omega) (fun _ => by rw [e, up_e, show x = 60 by omega]; rfl) (fun b r y => by rw [up_f (by omega), up_f (by omega)]; exact gF b r (by omega)))
                  | (have e : sgOf x y2 = 8 := by rw [show x = 62 by omega, sgOf_62, if_neg (by omega)]
                     exact k1 _ (by rw [e]; simp [up] <;> omega) (by rw [e]; simp [up] <;> omega) (fun _ => by rw [e, up_e, show x = 62 by omega]; rfl) (fun b r y => by rw [up_f (by omega), up_f (by omega)]; exact gF b r (by omega)))
                  | (have e := hs.2.2 (by omega) (by omega)
                     have e3 := hs.2.1
                     exact k1 _ (by rw [if_neg (show ¬ (sgOf x y2 = 4 ∨ sgOf x y2 = 6 ∨ sgOf x y2 = 7) by omega), up_i (by decide), up_i (by decide), g14] <;> omega) (by rw [if_neg e3, up_i (by decide), up_e]; exact hs.1) (fun _ => by rw [up_e]; exact e.1.symm) (fun b r y => by rw [up_f (by omega), up_f (by omega)]; exact gF b r (by omega)))
                  | (exfalso; omega)
          · refine x_aload rfl ?_
            refine n_call [vR _] [] (by omega) (Nat.le_of_ble_eq_true rfl) rfl rfl (Nat.le_of_ble_eq_true rfl) ?_
            refine n_here (j := q + 1) (hRt.f (fun b r y => by first | rw [up_f (by omega), up_f (by omega), up_f (by omega), up_f (by omega)] | rw [up_f (by omega), up_f (by omega), up_f (by omega)] | rw [up_f (by omega), up_f (by omega)])) (by first | (rw [up_i (by decide), up_i (by decide), up_i (by decide), up_i (by decide)]; exact g14) | (rw [up_i (by decide), up_i (by decide), up_i (by decide)]; exact g14) | (rw [up_i (by decide), up_i (by decide)]; exact g14)) (by omega) ?_
            rw [show (((q + 1 : Nat)) : Int) = (q : Int) + 1 by omega]
            show wp PP _ _ _ [some (vR _), some (vI _)] [vI _] _ _
            refine x_ci ?_
            refine n_icmp_ne ⟨by omega, by omega⟩ ⟨by omega, by omega⟩ (fun c5 => ?_) (fun c5 => ?_)
            · refine x_aload rfl ?_
              refine h_getI 17 sc_94 rfl rfl ?_
              first | rw [up_e] | rw [up_i (by decide), up_e]
              refine x_ci ?_
              refine n_icmp_lt ⟨by omega, by omega⟩ ⟨by omega, by omega⟩ (fun c6 => ?_) (fun c6 => ?_)
              · refine x_ret ?_
                rcases hs with hs | hs
                · by_cases ff : x = 60 ∨ x = 62
                  · exfalso
                    omega
                  refine k1 _ ?_ ?_ (fun y => absurd hs.2.1 y) (fun b r y => ?_)
                  · rw [hs.2.1, if_neg (by omega)]
                    first
                      | (exfalso; omega)
                      | (rw [up_i (by decide), up_i (by decide), g14] <;> omega)
                  · rw [hs.2.1, if_pos rfl]
                    first
                      | (exfalso; omega)
                      | (rw [up_i (by decide), up_e]; exact hs.1)
                  · first
                      | (exfalso; omega)
                      | (rw [up_f (by omega), up_f (by omega)]; exact gF b r (by omega))
                · rw [← hy] at *
                  first
                    | (exfalso; omega)
                    | (have e : sgOf x y2 = 4 := by rw [show x = 60 by omega, sgOf_60, if_pos (by omega)]
                       exact k1 _ (by rw [e]; simp [up] <;> omega) (by rw [e]; simp [up] <;> omega) (fun _ => by rw [e]; simp [up] <;> rfl) (fun b r y => by rw [up_f (by omega), up_f (by omega), up_f (by omega), up_f (by omega)]; exact gF b r (by omega)))
                    | (have e : sgOf x y2 = 6 := by rw [show x = 60 by omega, sgOf_60, if_neg (by omega), if_pos (by omega)]
                       exact k1 _ (by rw [e]; simp [up] <;> omega) (by rw [e]; simp [up] <;> omega) (fun _ => by rw [e]; simp [up] <;> rfl) (fun b r y => by rw [up_f (by omega), up_f (by omega), up_f (by omega), up_f (by omega)]; exact gF b r (by omega)))
                    | (have e : sgOf x y2 = 7 := by rw [show x = 62 by omega, sgOf_62, if_pos (by omega)]
                       exact k1 _ (by rw [e]; simp [up] <;> omega) (by rw [e]; simp [up] <;> omega) (fun _ => by rw [e]; simp [up] <;> rfl) (fun b r y => by rw [up_f (by omega), up_f (by omega), up_f (by omega), up_f (by omega)]; exact gF b r (by omega)))
                    | (have e : sgOf x y2 = 3 := by rw [show x = 60 by omega, sgOf_60, if_neg (by omega), if_neg (by omega)]
                       exact k1 _ (by rw [e]; simp [up] <;> omega) (by rw [e]; simp [up] <;> omega) (fun _ => by rw [e, up_e, show x = 60 by omega]; rfl) (fun b r y => by rw [up_f (by omega), up_f (by omega)]; exact gF b r (by omega)))
                    | (have e : sgOf x y2 = 8 := by rw [show x = 62 by omega, sgOf_62, if_neg (by omega)]
                       exact k1 _ (by rw [e]; simp [up] <;> omega) (by rw [e]; simp [up] <;> omega) (fun _ => by rw [e, up_e, show x = 62 by omega]; rfl) (fun b r y => by rw [up_f (by omega), up_f (by omega)]; exact gF b r (by omega)))
                    | (have e := hs.2.2 (by omega) (by omega)
                       have e3 := hs.2.1
                       exact k1 _ (by rw [if_neg (show ¬ (sgOf x y2 = 4 ∨ sgOf x y2 = 6 ∨ sgOf x y2 = 7) by omega), up_i (by decide), up_i (by decide), g14] <;> omega) (by rw [if_neg e3, up_i (by decide), up_e]; exact hs.1) (fun _ => by rw [up_e]; exact e.1.symm) (fun b r y => by rw [up_f (by omega), up_f (by omega)]; exact gF b r (by omega)))
                    | (exfalso; omega)
              · refine x_aload rfl ?_
                refine x_dupR ?_
                refine h_getI 14 sc_94 rfl rfl ?_
                first | rw [up_i (by decide), up_i (by decide), up_i (by decide), up_i (by decide), up_i (by decide), g14] | rw [up_i (by decide), up_i (by decide), up_i (by decide), up_i (by decide), g14] | rw [up_i (by decide), up_i (by decide), up_i (by decide), g14] | rw [up_i (by decide), up_i (by decide), g14]
                refine x_ci ?_
                refine x_iadd ?_
                refine h_putI 14 sc_94 rfl rfl ?_
                refine x_fall ?_
                refine x_ret ?_
                rcases hs with hs | hs
                · by_cases ff : x = 60 ∨ x = 62
                  · exfalso
                    omega
                  refine k1 _ ?_ ?_ (fun y => absurd hs.2.1 y) (fun b r y => ?_)
                  · rw [hs.2.1, if_neg (by omega)]
                    first
                      | (exfalso; omega)
                      | (rw [up_i (by decide), up_i (by decide), g14] <;> omega)
                  · rw [hs.2.1, if_pos rfl]
                    first
                      | (exfalso; omega)
                      | (rw [up_i (by decide), up_e]; exact hs.1)
                  · first
                      | (exfalso; omega)
                      | (rw [up_f (by omega), up_f (by omega)]; exact gF b r (by omega))
                · rw [← hy] at *
                  first
                    | (exfalso; omega)
                    | (have e : sgOf x y2 = 4 := by rw [show x = 60 by omega, sgOf_60, if_pos (by omega)]
                       exact k1 _ (by rw [e]; simp [up] <;> omega) (by rw [e]; simp [up] <;> omega) (fun _ => by rw [e]; simp [up] <;> rfl) (fun b r y => by rw [up_f (by omega), up_f (by omega), up_f (by omega), up_f (by omega)]; exact gF b r (by omega)))
                    | (have e : sgOf x y2 = 6 := by rw [show x = 60 by omega, sgOf_60, if_neg (by omega), if_pos (by omega)]
                       exact k1 _ (by rw [e]; simp [up] <;> omega) (by rw [e]; simp [up] <;> omega) (fun _ => by rw [e]; simp [up] <;> rfl) (fun b r y => by rw [up_f (by omega), up_f (by omega), up_f (by omega), up_f (by omega)]; exact gF b r (by omega)))
                    | (have e : sgOf x y2 = 7 := by rw [show x = 62 by omega, sgOf_62, if_pos (by omega)]
                       exact k1 _ (by rw [e]; simp [up] <;> omega) (by rw [e]; simp [up] <;> omega) (fun _ => by rw [e]; simp [up] <;> rfl) (fun b r y => by rw [up_f (by omega), up_f (by omega), up_f (by omega), up_f (by omega)]; exact gF b r (by omega)))
                    | (have e : sgOf x y2 = 3 := by rw [show x = 60 by omega, sgOf_60, if_neg (by omega), if_neg (by omega)]
                       exact k1 _ (by rw [e]; simp [up] <;> omega) (by rw [e]; simp [up] <;> omega) (fun _ => by rw [e, up_e, show x = 60 by omega]; rfl) (fun b r y => by rw [up_f (by omega), up_f (by omega)]; exact gF b r (by omega)))
                    | (have e : sgOf x y2 = 8 := by rw [show x = 62 by omega, sgOf_62, if_neg (by omega)]
                       exact k1 _ (by rw [e]; simp [up] <;> omega) (by rw [e]; simp [up] <;> omega) (fun _ => by rw [e, up_e, show x = 62 by omega]; rfl) (fun b r y => by rw [up_f (by omega), up_f (by omega)]; exact gF b r (by omega)))
                    | (have e := hs.2.2 (by omega) (by omega)
                       have e3 := hs.2.1
                       exact k1 _ (by rw [if_neg (show ¬ (sgOf x y2 = 4 ∨ sgOf x y2 = 6 ∨ sgOf x y2 = 7) by omega), up_i (by decide), up_i (by decide), g14] <;> omega) (by rw [if_neg e3, up_i (by decide), up_e]; exact hs.1) (fun _ => by rw [up_e]; exact e.1.symm) (fun b r y => by rw [up_f (by omega), up_f (by omega)]; exact gF b r (by omega)))
                    | (exfalso; omega)
            · refine x_aload rfl ?_
              refine x_ci ?_
              refine h_putI 17 sc_94 rfl rfl ?_
              refine x_fall ?_
              refine x_aload rfl ?_
              refine h_getI 17 sc_94 rfl rfl ?_
              first | rw [up_e] | rw [up_i (by decide), up_e]
              refine x_ci ?_
              refine n_icmp_lt ⟨by omega, by omega⟩ ⟨by omega, by omega⟩ (fun c6 => ?_) (fun c6 => ?_)
              · refine x_ret ?_
                rcases hs with hs | hs
                · by_cases ff : x = 60 ∨ x = 62
                  · exfalso
                    omega
                  refine k1 _ ?_ ?_ (fun y => absurd hs.2.1 y) (fun b r y => ?_)
                  · rw [hs.2.1, if_neg (by omega)]
                    first
                      | (exfalso; omega)
                      | (rw [up_i (by decide), up_i (by decide), g14] <;> omega)
                  · rw [hs.2.1, if_pos rfl]
                    first
                      | (exfalso; omega)
                      | (rw [up_i (by decide), up_e]; exact hs.1)
                  · first
                      | (exfalso; omega)
                      | (rw [up_f (by omega), up_f (by omega)]; exact gF b r (by omega))
                · rw [← hy] at *
                  first
                    | (exfalso; omega)
                    | (have e : sgOf x y2 = 4 := by rw [show x = 60 by omega, sgOf_60, if_pos (by omega)]
                       exact k1 _ (by rw [e]; simp [up] <;> omega) (by rw [e]; simp [up] <;> omega) (fun _ => by rw [e]; simp [up] <;> rfl) (fun b r y => by rw [up_f (by omega), up_f (by omega), up_f (by omega), up_f (by omega)]; exact gF b r (by omega)))
                    | (have e : sgOf x y2 = 6 := by rw [show x = 60 by omega, sgOf_60, if_neg (by omega), if_pos (by omega)]
                       exact k1 _ (by rw [e]; simp [up] <;> omega) (by rw [e]; simp [up] <;> omega) (fun _ => by rw [e]; simp [up] <;> rfl) (fun b r y => by rw [up_f (by omega), up_f (by omega), up_f (by omega), up_f (by omega)]; exact gF b r (by omega)))
                    | (have e : sgOf x y2 = 7 := by rw [show x = 62 by omega, sgOf_62, if_pos (by omega)]
                       exact k1 _ (by rw [e]; simp [up] <;> omega) (by rw [e]; simp [up] <;> omega) (fun _ => by rw [e]; simp [up] <;> rfl) (fun b r y => by rw [up_f (by omega), up_f (by omega), up_f (by omega), up_f (by omega)]; exact gF b r (by omega)))
                    | (have e : sgOf x y2 = 3 := by rw [show x = 60 by omega, sgOf_60, if_neg (by omega), if_neg (by omega)]
                       exact k1 _ (by rw [e]; simp [up] <;> omega) (by rw [e]; simp [up] <;> omega) (fun _ => by rw [e, up_e, show x = 60 by omega]; rfl) (fun b r y => by rw [up_f (by omega), up_f (by omega)]; exact gF b r (by omega)))
                    | (have e : sgOf x y2 = 8 := by rw [show x = 62 by omega, sgOf_62, if_neg (by omega)]
                       exact k1 _ (by rw [e]; simp [up] <;> omega) (by rw [e]; simp [up] <;> omega) (fun _ => by rw [e, up_e, show x = 62 by omega]; rfl) (fun b r y => by rw [up_f (by omega), up_f (by omega)]; exact gF b r (by omega)))
                    | (have e := hs.2.2 (by omega) (by omega)
                       have e3 := hs.2.1
                       exact k1 _ (by rw [if_neg (show ¬ (sgOf x y2 = 4 ∨ sgOf x y2 = 6 ∨ sgOf x y2 = 7) by omega), up_i (by decide), up_i (by decide), g14] <;> omega) (by rw [if_neg e3, up_i (by decide), up_e]; exact hs.1) (fun _ => by rw [up_e]; exact e.1.symm) (fun b r y => by rw [up_f (by omega), up_f (by omega)]; exact gF b r (by omega)))
                    | (exfalso; omega)
              · refine x_aload rfl ?_
                refine x_dupR ?_
                refine h_getI 14 sc_94 rfl rfl ?_
                first | rw [up_i (by decide), up_i (by decide), up_i (by decide), up_i (by decide), up_i (by decide), g14] | rw [up_i (by decide), up_i (by decide), up_i (by decide), up_i (by decide), g14] | rw [up_i (by decide), up_i (by decide), up_i (by decide), g14] | rw [up_i (by decide), up_i (by decide), g14]
                refine x_ci ?_
                refine x_iadd ?_
                refine h_putI 14 sc_94 rfl rfl ?_
                refine x_fall ?_
                refine x_ret ?_
                rcases hs with hs | hs
                · by_cases ff : x = 60 ∨ x = 62
                  · exfalso
                    omega
                  refine k1 _ ?_ ?_ (fun y => absurd hs.2.1 y) (fun b r y => ?_)
                  · rw [hs.2.1, if_neg (by omega)]
                    first
                      | (exfalso; omega)
                      | (rw [up_i (by decide), up_i (by decide), g14] <;> omega)
                  · rw [hs.2.1, if_pos rfl]
                    first
                      | (exfalso; omega)
                      | (rw [up_i (by decide), up_e]; exact hs.1)
                  · first
                      | (exfalso; omega)
                      | (rw [up_f (by omega), up_f (by omega)]; exact gF b r (by omega))
                · rw [← hy] at *
                  first
                    | (exfalso; omega)
                    | (have e : sgOf x y2 = 4 := by rw [show x = 60 by omega, sgOf_60, if_pos (by omega)]
                       exact k1 _ (by rw [e]; simp [up] <;> omega) (by rw [e]; simp [up] <;> omega) (fun _ => by rw [e]; simp [up] <;> rfl) (fun b r y => by rw [up_f (by omega), up_f (by omega), up_f (by omega), up_f (by omega)]; exact gF b r (by omega)))
                    | (have e : sgOf x y2 = 6 := by rw [show x = 60 by omega, sgOf_60, if_neg (by omega), if_pos (by omega)]
                       exact k1 _ (by rw [e]; simp [up] <;> omega) (by rw [e]; simp [up] <;> omega) (fun _ => by rw [e]; simp [up] <;> rfl) (fun b r y => by rw [up_f (by omega), up_f (by omega), up_f (by omega), up_f (by omega)]; exact gF b r (by omega)))
                    | (have e : sgOf x y2 = 7 := by rw [show x = 62 by omega, sgOf_62, if_pos (by omega)]
                       exact k1 _ (by rw [e]; simp [up] <;> omega) (by rw [e]; simp [up] <;> omega) (fun _ => by rw [e]; simp [up] <;> rfl) (fun b r y => by rw [up_f (by omega), up_f (by omega), up_f (by omega), up_f (by omega)]; exact gF b r (by omega)))
                    | (have e : sgOf x y2 = 3 := by rw [show x = 60 by omega, sgOf_60, if_neg (by omega), if_neg (by omega)]
                       exact k1 _ (by rw [e]; simp [up] <;> omega) (by rw [e]; simp [up] <;> omega) (fun _ => by rw [e, up_e, show x = 60 by omega]; rfl) (fun b r y => by rw [up_f (by omega), up_f (by omega)]; exact gF b r (by omega)))
                    | (have e : sgOf x y2 = 8 := by rw [show x = 62 by omega, sgOf_62, if_neg (by omega)]
                       exact k1 _ (by rw [e]; simp [up] <;> omega) (by rw [e]; simp [up] <;> omega) (fun _ => by rw [e, up_e, show x = 62 by omega]; rfl) (fun b r y => by rw [up_f (by omega), up_f (by omega)]; exact gF b r (by omega)))
                    | (have e := hs.2.2 (by omega) (by omega)
                       have e3 := hs.2.1
                       exact k1 _ (by rw [if_neg (show ¬ (sgOf x y2 = 4 ∨ sgOf x y2 = 6 ∨ sgOf x y2 = 7) by omega), up_i (by decide), up_i (by decide), g14] <;> omega) (by rw [if_neg e3, up_i (by decide), up_e]; exact hs.1) (fun _ => by rw [up_e]; exact e.1.symm) (fun b r y => by rw [up_f (by omega), up_f (by omega)]; exact gF b r (by omega)))
                    | (exfalso; omega)
        · refine x_aload rfl ?_
          refine n_call [vR _] [] (by omega) (Nat.le_of_ble_eq_true rfl) rfl rfl (Nat.le_of_ble_eq_true rfl) ?_
          refine n_here (j := q + 1) (hRt.f (fun b r y => by first | rw [up_f (by omega), up_f (by omega), up_f (by omega), up_f (by omega)] | rw [up_f (by omega), up_f (by omega), up_f (by omega)] | rw [up_f (by omega), up_f (by omega)])) (by first | (rw [up_i (by decide), up_i (by decide), up_i (by decide), up_i (by decide)]; exact g14) | (rw [up_i (by decide), up_i (by decide), up_i (by decide)]; exact g14) | (rw [up_i (by decide), up_i (by decide)]; exact g14)) (by omega) ?_
          rw [show (((q + 1 : Nat)) : Int) = (q : Int) + 1 by omega]
          show wp PP _ _ _ [some (vR _), some (vI _)] [vI _] _ _
          refine x_ci ?_
          refine n_icmp_ne ⟨by omega, by omega⟩ ⟨by omega, by omega⟩ (fun c4 => ?_) (fun c4 => ?_)
          · refine x_iload rfl ?_
            refine x_ci ?_
            refine n_icmp_ne ⟨by omega, by omega⟩ ⟨by omega, by omega⟩ (fun c5 => ?_) (fun c5 => ?_)
            · refine x_aload rfl ?_
              refine h_getI 17 sc_94 rfl rfl ?_
              first | rw [up_e] | rw [up_i (by decide), up_e]
              refine x_ci ?_
              refine n_icmp_lt ⟨by omega, by omega⟩ ⟨by omega, by omega⟩ (fun c6 => ?_) (fun c6 => ?_)
              · refine x_ret ?_
                rcases hs with hs | hs
                · by_cases ff : x = 60 ∨ x = 62
                  · exfalso
                    omega
                  refine k1 _ ?_ ?_ (fun y => absurd hs.2.1 y) (fun b r y => ?_)
                  · rw [hs.2.1, if_neg (by omega)]
                    first
                      | (exfalso; omega)
                      | (rw [up_i (by decide), up_i (by decide), g14] <;> omega)
                  · rw [hs.2.1, if_pos rfl]
                    first
                      | (exfalso; omega)
                      | (rw [up_i (by decide), up_e]; exact hs.1)
                  · first
                      | (exfalso; omega)
                      | (rw [up_f (by omega), up_f (by omega)]; exact gF b r (by omega))
                · rw [← hy] at *
                  first
                    | (exfalso; omega)
                    | (have e : sgOf x y2 = 4 := by rw [show x = 60 by omega, sgOf_60, if_pos (by omega)]
                       exact k1 _ (by rw [e]; simp [up] <;> omega) (by rw [e]; simp [up] <;> omega) (fun _ => by rw [e]; simp [up] <;> rfl) (fun b r y => by rw [up_f (by omega), up_f (by omega), up_f (by omega), up_f (by omega)]; exact gF b r (by omega)))
                    | (have e : sgOf x y2 = 6 := by rw [show x = 60 by omega, sgOf_60, if_neg (by omega), if_pos (by omega)]
                       exact k1 _ (by rw [e]; simp [up] <;> omega) (by rw [e]; simp [up] <;> omega) (fun _ => by rw [e]; simp [up] <;> rfl) (fun b r y => by rw [up_f (by omega), up_f (by omega), up_f (by omega), up_f (by omega)]; exact gF b r (by omega)))
                    | (have e : sgOf x y2 = 7 := by rw [show x = 62 by omega, sgOf_62, if_pos (by omega)]
                       exact k1 _ (by rw [e]; simp [up] <;> omega) (by rw [e]; simp [up] <;> omega) (fun _ => by rw [e]; simp [up] <;> rfl) (fun b r y => by rw [up_f (by omega), up_f (by omega), up_f (by omega), up_f (by omega)]; exact gF b r (by omega)))
                    | (have e : sgOf x y2 = 3 := by rw [show x = 60 by omega, sgOf_60, if_neg (by omega), if_neg (by omega)]
                       exact k1 _ (by rw [e]; simp [up] <;> omega) (by rw [e]; simp [up] <;> omega) (fun _ => by rw [e, up_e, show x = 60 by omega]; rfl) (fun b r y => by rw [up_f (by omega), up_f (by omega)]; exact gF b r (by omega)))
                    | (have e : sgOf x y2 = 8 := by rw [show x = 62 by omega, sgOf_62, if_neg (by omega)]
                       exact k1 _ (by rw [e]; simp [up] <;> omega) (by rw [e]; simp [up] <;> omega) (fun _ => by rw [e, up_e, show x = 62 by omega]; rfl) (fun b r y => by rw [up_f (by omega), up_f (by omega)]; exact gF b r (by omega)))
                    | (have e := hs.2.2 (by omega) (by omega)
                       have e3 := hs.2.1
                       exact k1 _ (by rw [if_neg (show ¬ (sgOf x y2 = 4 ∨ sgOf x y2 = 6 ∨ sgOf x y2 = 7) by omega), up_i (by decide), up_i (by decide), g14] <;> omega) (by rw [if_neg e3, up_i (by decide), up_e]; exact hs.1) (fun _ => by rw [up_e]; exact e.1.symm) (fun b r y => by rw [up_f (by omega), up_f (by omega)]; exact gF b r (by omega)))
                    | (exfalso; omega)
              · refine x_aload rfl ?_
                refine x_dupR ?_
                refine h_getI 14 sc_94 rfl rfl ?_
                first | rw [up_i (by decide), up_i (by decide), up_i (by decide), up_i (by decide), up_i (by decide), g14] | rw [up_i (by decide), up_i (by decide), up_i (by decide), up_i (by decide), g14] | rw [up_i (by decide), up_i (by decide), up_i (by decide), g14] | rw [up_i (by decide), up_i (by decide), g14]
                refine x_ci ?_
                refine x_iadd ?_
                refine h_putI 14 sc_94 rfl rfl ?_
                refine x_fall ?_
                refine x_ret ?_
                rcases hs with hs | hs
                · by_cases ff : x = 60 ∨ x = 62
                  · exfalso
                    omega
                  refine k1 _ ?_ ?_ (fun y => absurd hs.2.1 y) (fun b r y => ?_)
                  · rw [hs.2.1, if_neg (by omega)]
                    first
                      | (exfalso; omega)
                      | (rw [up_i (by decide), up_i (by decide), g14] <;> omega)
                  · rw [hs.2.1, if_pos rfl]
                    first
                      | (exfalso; omega)
                      | (rw [up_i (by decide), up_e]; exact hs.1)
                  · first
                      | (exfalso; omega)
                      | (rw [up_f (by omega), up_f (by omega)]; exact gF b r (by omega))
                · rw [← hy] at *
                  first
                    | (exfalso; omega)
                    | (have e : sgOf x y2 = 4 := by rw [show x = 60 by omega, sgOf_60, if_pos (by omega)]
                       exact k1 _ (by rw [e]; simp [up] <;> omega) (by rw [e]; simp [up] <;> omega) (fun _ => by rw [e]; simp [up] <;> rfl) (fun b r y => by rw [up_f (by omega), up_f (by omega), up_f (by omega), up_f (by omega)]; exact gF b r (by omega)))
                    | (have e : sgOf x y2 = 6 := by rw [show x = 60 by omega, sgOf_60, if_neg (by omega), if_pos (by omega)]
                       exact k1 _ (by rw [e]; simp [up] <;> omega) (by rw [e]; simp [up] <;> omega) (fun _ => by rw [e]; simp [up] <;> rfl) (fun b r y => by rw [up_f (by omega), up_f (by omega), up_f (by omega), up_f (by omega)]; exact gF b r (by omega)))
                    | (have e : sgOf x y2 = 7 := by rw [show x = 62 by omega, sgOf_62, if_pos (by omega)]
                       exact k1 _ (by rw [e]; simp [up] <;> omega) (by rw [e]; simp [up] <;> omega) (fun _ => by rw [e]; simp [up] <;> rfl) (fun b r y => by rw [up_f (by omega), up_f (by omega), up_f (by omega), up_f (by omega)]; exact gF b r (by omega)))
                    | (have e : sgOf x y2 = 3 := by rw [show x = 60 by omega, sgOf_60, if_neg (by omega), if_neg (by omega)]
                       exact k1 _ (by rw [e]; simp [up] <;> omega) (by rw [e]; simp [up] <;> omega) (fun _ => by rw [e, up_e, show x = 60 by omega]; rfl) (fun b r y => by rw [up_f (by omega), up_f (by omega)]; exact gF b r (by omega)))
                    | (have e : sgOf x y2 = 8 := by rw [show x = 62 by omega, sgOf_62, if_neg (by omega)]
                       exact k1 _ (by rw [e]; simp [up] <;> omega) (by rw [e]; simp [up] <;> omega) (fun _ => by rw [e, up_e, show x = 62 by omega]; rfl) (fun b r y => by rw [up_f (by omega), up_f (by omega)]; exact gF b r (by omega)))
                    | (have e := hs.2.2 (by omega) (by omega)
                       have e3 := hs.2.1
                       exact k1 _ (by rw [if_neg (show ¬ (sgOf x y2 = 4 ∨ sgOf x y2 = 6 ∨ sgOf x y2 = 7) by omega), up_i (by decide), up_i (by decide), g14] <;> omega) (by rw [if_neg e3, up_i (by decide), up_e]; exact hs.1) (fun _ => by rw [up_e]; exact e.1.symm) (fun b r y => by rw [up_f (by omega), up_f (by omega)]; exact gF b r (by omega)))
                    | (exfalso; omega)
            · refine x_aload rfl ?_
              refine n_call [vR _] [] (by omega) (Nat.le_of_ble_eq_true rfl) rfl rfl (Nat.le_of_ble_eq_true rfl) ?_
              refine n_here (j := q + 1) (hRt.f (fun b r y => by first | rw [up_f (by omega), up_f (by omega), up_f (by omega), up_f (by omega)] | rw [up_f (by omega), up_f (by omega), up_f (by omega)] | rw [up_f (by omega), up_f (by omega)])) (by first | (rw [up_i (by decide), up_i (by decide), up_i (by decide), up_i (by decide)]; exact g14) | (rw [up_i (by decide), up_i (by decide), up_i (by decide)]; exact g14) | (rw [up_i (by decide), up_i (by decide)]; exact g14)) (by omega) ?_
              rw [show (((q + 1 : Nat)) : Int) = (q : Int) + 1 by omega]
              show wp PP _ _ _ [some (vR _), some (vI _)] [vI _] _ _
              refine x_ci ?_
              refine n_icmp_ne ⟨by omega, by omega⟩ ⟨by omega, by omega⟩ (fun c6 => ?_) (fun c6 => ?_)
              · refine x_aload rfl ?_
                refine h_getI 17 sc_94 rfl rfl ?_
                first | rw [up_e] | rw [up_i (by decide), up_e]
                refine x_ci ?_
                refine n_icmp_lt ⟨by omega, by omega⟩ ⟨by omega, by omega⟩ (fun c7 => ?_) (fun c7 => ?_)
                · refine x_ret ?_
                  rcases hs with hs | hs
                  · by_cases ff : x = 60 ∨ x = 62
                    · exfalso
                      omega
                    refine k1 _ ?_ ?_ (fun y => absurd hs.2.1 y) (fun b r y => ?_)
                    · rw [hs.2.1, if_neg (by omega)]
                      first
                        | (exfalso; omega)
                        | (rw [up_i (by decide), up_i (by decide), g14] <;> omega)
                    · rw [hs.2.1, if_pos rfl]
                      first
                        | (exfalso; omega)
                        | (rw [up_i (by decide), up_e]; exact hs.1)
                    · first
                        | (exfalso; omega)
                        | (rw [up_f (by omega), up_f (by omega)]; exact gF b r (by omega))
                  · rw [← hy] at *
                    first
                      | (exfalso; omega)
                      | (have e : sgOf x y2 = 4 := by rw [show x = 60 by omega, sgOf_60, if_pos (by omega)]
                         exact k1 _ (by rw [e]; simp [up] <;> omega) (by rw [e]; simp [up] <;> omega) (fun _ => by rw [e]; simp [up] <;> rfl) (fun b r y => by rw [up_f (by omega), up_f (by omega), up_f (by omega), up_f (by omega)]; exact gF b r (by omega)))
                      | (have e : sgOf x y2 = 6 := by rw [show x = 60 by omega, sgOf_60, if_neg (by omega), if_pos (by omega)]
                         exact k1 _ (by rw [e]; simp [up] <;> omega) (by rw [e]; simp [up] <;> omega) (fun _ => by rw [e]; simp [up] <;> rfl) (fun b r y => by rw [up_f (by omega), up_f (by omega), up_f (by omega), up_f (by omega)]; exact gF b r (by omega)))
                      | (have e : sgOf x y2 = 7 := by rw [show x = 62 by omega, sgOf_62, if_pos (by omega)]
                         exact k1 _ (by rw [e]; simp [up] <;> omega) (by rw [e]; simp [up] <;> omega) (fun _ => by rw [e]; simp [up] <;> rfl) (fun b r y => by rw [up_f (by omega), up_f (by omega), up_f (by omega), up_f (by omega)]; exact gF b r (by omega)))
                      | (have e : sgOf x y2 = 3 := by rw [show x = 60 by omega, sgOf_60, if_neg (by omega), if_neg (by omega)]
                         exact k1 _ (by rw [e]; simp [up] <;> omega) (by rw [e]; simp [up] <;> omega) (fun _ => by rw [e, up_e, show x = 60 by omega]; rfl) (fun b r y => by rw [up_f (by omega), up_f (by omega)]; exact gF b r (by omega)))
                      | (have e : sgOf x y2 = 8 := by rw [show x = 62 by omega, sgOf_62, if_neg (by omega)]
                         exact k1 _ (by rw [e]; simp [up] <;> omega) (by rw [e]; simp [up] <;> omega) (fun _ => by rw [e, up_e, show x = 62 by omega]; rfl) (fun b r y => by rw [up_f (by omega), up_f (by omega)]; exact gF b r (by omega)))
                      | (have e := hs.2.2 (by omega) (by omega)
                         have e3 := hs.2.1
                         exact k1 _ (by rw [if_neg (show ¬ (sgOf x y2 = 4 ∨ sgOf x y2 = 6 ∨ sgOf x y2 = 7) by omega), up_i (by decide), up_i (by decide), g14] <;> omega) (by rw [if_neg e3, up_i (by decide), up_e]; exact hs.1) (fun _ => by rw [up_e]; exact e.1.symm) (fun b r y => by rw [up_f (by omega), up_f (by omega)]; exact gF b r (by omega)))
                      | (exfalso; omega)
                · refine x_aload rfl ?_
                  refine x_dupR ?_
                  refine h_getI 14 sc_94 rfl rfl ?_
                  first | rw [up_i (by decide), up_i (by decide), up_i (by decide), up_i (by decide), up_i (by decide), g14] | rw [up_i (by decide), up_i (by decide), up_i (by decide), up_i (by decide), g14] | rw [up_i (by decide), up_i (by decide), up_i (by decide), g14] | rw [up_i (by decide), up_i (by decide), g14]
                  refine x_ci ?_
                  refine x_iadd ?_
                  refine h_putI 14 sc_94 rfl rfl ?_
                  refine x_fall ?_
                  refine x_ret ?_
                  rcases hs with hs | hs
                  · by_cases ff : x = 60 ∨ x = 62
                    · exfalso
                      omega
                    refine k1 _ ?_ ?_ (fun y => absurd hs.2.1 y) (fun b r y => ?_)
                    · rw [hs.2.1, if_neg (by omega)]
                      first
                        | (exfalso; omega)
                        | (rw [up_i (by decide), up_i (by decide), g14] <;> omega)
                    · rw [hs.2.1, if_pos rfl]
                      first
                        | (exfalso; omega)
                        | (rw [up_i (by decide), up_e]; exact hs.1)
                    · first
                        | (exfalso; omega)
                        | (rw [up_f (by omega), up_f (by omega)]; exact gF b r (by omega))
                  · rw [← hy] at *
                    first
                      | (exfalso; omega)
                      | (have e : sgOf x y2 = 4 := by rw [show x = 60 by omega, sgOf_60, if_pos (by omega)]
                         exact k1 _ (by rw [e]; simp [up] <;> omega) (by rw [e]; simp [up] <;> omega) (fun _ => by rw [e]; simp [up] <;> rfl) (fun b r y => by rw [up_f (by omega), up_f (by omega), up_f (by omega), up_f (by omega)]; exact gF b r (by omega)))
                      | (have e : sgOf x y2 = 6 := by rw [show x = 60 by omega, sgOf_60, if_neg (by omega), if_pos (by omega)]
                         exact k1 _ (by rw [e]; simp [up] <;> omega) (by rw [e]; simp [up] <;> omega) (fun _ => by rw [e]; simp [up] <;> rfl) (fun b r y => by rw [up_f (by omega), up_f (by omega), up_f (by omega), up_f (by omega)]; exact gF b r (by omega)))
                      | (have e : sgOf x y2 = 7 := by rw [show x = 62 by omega, sgOf_62, if_pos (by omega)]
                         exact k1 _ (by rw [e]; simp [up] <;> omega) (by rw [e]; simp [up] <;> omega) (fun _ => by rw [e]; simp [up] <;> rfl) (fun b r y => by rw [up_f (by omega), up_f (by omega), up_f (by omega), up_f (by omega)]; exact gF b r (by omega)))
                      | (have e : sgOf x y2 = 3 := by rw [show x = 60 by omega, sgOf_60, if_neg (by omega), if_neg (by omega)]
                         exact k1 _ (by rw [e]; simp [up] <;> omega) (by rw [e]; simp [up] <;> omega) (fun _ => by rw [e, up_e, show x = 60 by omega]; rfl) (fun b r y => by rw [up_f (by omega), up_f (by omega)]; exact gF b r (by omega)))
                      | (have e : sgOf x y2 = 8 := by rw [show x = 62 by omega, sgOf_62, if_neg (by omega)]
                         exact k1 _ (by rw [e]; simp [up] <;> omega) (by rw [e]; simp [up] <;> omega) (fun _ => by rw [e, up_e, show x = 62 by omega]; rfl) (fun b r y => by rw [up_f (by omega), up_f (by omega)]; exact gF b r (by omega)))
                      | (have e := hs.2.2 (by omega) (by omega)
                         have e3 := hs.2.1
                         exact k1 _ (by rw [if_neg (show ¬ (sgOf x y2 = 4 ∨ sgOf x y2 = 6 ∨ sgOf x y2 = 7) by omega), up_i (by decide), up_i (by decide), g14] <;> omega) (by rw [if_neg e3, up_i (by decide), up_e]; exact hs.1) (fun _ => by rw [up_e]; exact e.1.symm) (fun b r y => by rw [up_f (by omega), up_f (by omega)]; exact gF b r (by omega)))
                      | (exfalso; omega)
              · refine x_aload rfl ?_
                refine x_ci ?_
                refine h_putI 17 sc_94 rfl rfl ?_
                refine x_fall ?_
                refine x_aload rfl ?_
                refine h_getI 17 sc_94 rfl rfl ?_
                first | rw [up_e] | rw [up_i (by decide), up_e]
                refine x_ci ?_
                refine n_icmp_lt ⟨by omega, by omega⟩ ⟨by omega, by omega⟩ (fun c7 => ?_) (fun c7 => ?_)
                · refine x_ret ?_
                  rcases hs with hs | hs
                  · by_cases ff : x = 60 ∨ x = 62
                    · exfalso
                      omega
                    refine k1 _ ?_ ?_ (fun y => absurd hs.2.1 y) (fun b r y => ?_)
                    · rw [hs.2.1, if_neg (by omega)]
                      first
                        | (exfalso; omega)
                        | (rw [up_i (by decide), up_i (by decide), g14] <;> omega)
                    · rw [hs.2.1, if_pos rfl]
                      first
                        | (exfalso; omega)
                        | (rw [up_i (by decide), up_e]; exact hs.1)
                    · first
                        | (exfalso; omega)
                        | (rw [up_f (by omega), up_f (by omega)]; exact gF b r (by omega))
                  · rw [← hy] at *
                    first
                      | (exfalso; omega)
                      | (have e : sgOf x y2 = 4 := by rw [show x = 60 by omega, sgOf_60, if_pos (by omega)]
                         exact k1 _ (by rw [e]; simp [up] <;> omega) (by rw [e]; simp [up] <;> omega) (fun _ => by rw [e]; simp [up] <;> rfl) (fun b r y => by rw [up_f (by omega), up_f (by omega), up_f (by omega), up_f (by omega)]; exact gF b r (by omega)))
                      | (have e : sgOf x y2 = 6 := by rw [show x = 60 by omega, sgOf_60, if_neg (by omega), if_pos (by omega)]
                         exact k1 _ (by rw [e]; simp [up] <;> omega) (by rw [e]; simp [up] <;> omega) (fun _ => by rw [e]; simp [up] <;> rfl) (fun b r y => by rw [up_f (by omega), up_f (by omega), up_f (by omega), up_f (by omega)]; exact gF b r (by omega)))
                      | (have e : sgOf x y2 = 7 := by rw [show x = 62 by omega, sgOf_62, if_pos (by omega)]
                         exact k1 _ (by rw [e]; simp [up] <;> omega) (by rw [e]; simp [up] <;> omega) (fun _ => by rw [e]; simp [up] <;> rfl) (fun b r y => by rw [up_f (by omega), up_f (by omega), up_f (by omega), up_f (by omega)]; exact gF b r (by omega)))
                      | (have e : sgOf x y2 = 3 := by rw [show x = 60 by omega, sgOf_60, if_neg (by omega), if_neg (by omega)]
                         exact k1 _ (by rw [e]; simp [up] <;> omega) (by rw [e]; simp [up] <;> omega) (fun _ => by rw [e, up_e, show x = 60 by omega]; rfl) (fun b r y => by rw [up_f (by omega), up_f (by omega)]; exact gF b r (by omega)))
                      | (have e : sgOf x y2 = 8 := by rw [show x = 62 by omega, sgOf_62, if_neg (by omega)]
                         exact k1 _ (by rw [e]; simp [up] <;> omega) (by rw [e]; simp [up] <;> omega) (fun _ => by rw [e, up_e, show x = 62 by omega]; rfl) (fun b r y => by rw [up_f (by omega), up_f (by omega)]; exact gF b r (by omega)))
                      | (have e := hs.2.2 (by omega) (by omega)
                         have e3 := hs.2.1
                         exact k1 _ (by rw [if_neg (show ¬ (sgOf x y2 = 4 ∨ sgOf x y2 = 6 ∨ sgOf x y2 = 7) by omega), up_i (by decide), up_i (by decide), g14] <;> omega) (by rw [if_neg e3, up_i (by decide), up_e]; exact hs.1) (fun _ => by rw [up_e]; exact e.1.symm) (fun b r y => by rw [up_f (by omega), up_f (by omega)]; exact gF b r (by omega)))
                      | (exfalso; omega)
                · refine x_aload rfl ?_
                  refine x_dupR ?_
                  refine h_getI 14 sc_94 rfl rfl ?_
                  first | rw [up_i (by decide), up_i (by decide), up_i (by decide), up_i (by decide), up_i (by decide), g14] | rw [up_i (by decide), up_i (by decide), up_i (by decide), up_i (by decide), g14] | rw [up_i (by decide), up_i (by decide), up_i (by decide), g14] | rw [up_i (by decide), up_i (by decide), g14]
                  refine x_ci ?_
                  refine x_iadd ?_
                  refine h_putI 14 sc_94 rfl rfl ?_
                  refine x_fall ?_
                  refine x_ret ?_
                  rcases hs with hs | hs
                  · by_cases ff : x = 60 ∨ x = 62
                    · exfalso
                      omega
                    refine k1 _ ?_ ?_ (fun y => absurd hs.2.1 y) (fun b r y => ?_)
                    · rw [hs.2.1, if_neg (by omega)]
                      first
                        | (exfalso; omega)
                        | (rw [up_i (by decide), up_i (by decide), g14] <;> omega)
                    · rw [hs.2.1, if_pos rfl]
                      first
                        | (exfalso; omega)
                        | (rw [up_i (by decide), up_e]; exact hs.1)
                    · first
                        | (exfalso; omega)
                        | (rw [up_f (by omega), up_f (by omega)]; exact gF b r (by omega))
                  · rw [← hy] at *
                    first
                      | (exfalso; omega)
                      | (have e : sgOf x y2 = 4 := by rw [show x = 60 by omega, sgOf_60, if_pos (by omega)]
                         exact k1 _ (by rw [e]; simp [up] <;> omega) (by rw [e]; simp [up] <;> omega) (fun _ => by rw [e]; simp [up] <;> rfl) (fun b r y => by rw [up_f (by omega), up_f (by omega), up_f (by omega), up_f (by omega)]; exact gF b r (by omega)))
                      | (have e : sgOf x y2 = 6 := by rw [show x = 60 by omega, sgOf_60, if_neg (by omega), if_pos (by omega)]
                         exact k1 _ (by rw [e]; simp [up] <;> omega) (by rw [e]; simp [up] <;> omega) (fun _ => by rw [e]; simp [up] <;> rfl) (fun b r y => by rw [up_f (by omega), up_f (by omega), up_f (by omega), up_f (by omega)]; exact gF b r (by omega)))
                      | (have e : sgOf x y2 = 7 := by rw [show x = 62 by omega, sgOf_62, if_pos (by omega)]
                         exact k1 _ (by rw [e]; simp [up] <;> omega) (by rw [e]; simp [up] <;> omega) (fun _ => by rw [e]; simp [up] <;> rfl) (fun b r y => by rw [up_f (by omega), up_f (by omega), up_f (by omega), up_f (by omega)]; exact gF b r (by omega)))
                      | (have e : sgOf x y2 = 3 := by rw [show x = 60 by omega, sgOf_60, if_neg (by omega), if_neg (by omega)]
                         exact k1 _ (by rw [e]; simp [up] <;> omega) (by rw [e]; simp [up] <;> omega) (fun _ => by rw [e, up_e, show x = 60 by omega]; rfl) (fun b r y => by rw [up_f (by omega), up_f (by omega)]; exact gF b r (by omega)))
                      | (have e : sgOf x y2 = 8 := by rw [show x = 62 by omega, sgOf_62, if_neg (by omega)]
                         exact k1 _ (by rw [e]; simp [up] <;> omega) (by rw [e]; simp [up] <;> omega) (fun _ => by rw [e, up_e, show x = 62 by omega]; rfl) (fun b r y => by rw [up_f (by omega), up_f (by omega)]; exact gF b r (by omega)))
                      | (have e := hs.2.2 (by omega) (by omega)
                         have e3 := hs.2.1
                         exact k1 _ (by rw [if_neg (show ¬ (sgOf x y2 = 4 ∨ sgOf x y2 = 6 ∨ sgOf x y2 = 7) by omega), up_i (by decide), up_i (by decide), g14] <;> omega) (by rw [if_neg e3, up_i (by decide), up_e]; exact hs.1) (fun _ => by rw [up_e]; exact e.1.symm) (fun b r y => by rw [up_f (by omega), up_f (by omega)]; exact gF b r (by omega)))
                      | (exfalso; omega)
          · refine x_aload rfl ?_
            refine x_ci ?_
            refine h_putI 17 sc_94 rfl rfl ?_
            refine x_fall ?_
            refine x_iload rfl ?_
            refine x_ci ?_
            refine n_icmp_ne ⟨by omega, by omega⟩ ⟨by omega, by omega⟩ (fun c5 => ?_) (fun c5 => ?_)
            · refine x_aload rfl ?_
              refine h_getI 17 sc_94 rfl rfl ?_
              first | rw [up_e] | rw [up_i (by decide), up_e]
              refine x_ci ?_
              refine n_icmp_lt ⟨by omega, by omega⟩ ⟨by omega, by omega⟩ (fun c6 => ?_) (fun c6 => ?_)
              · refine x_ret ?_
                rcases hs with hs | hs
                · by_cases ff : x = 60 ∨ x = 62
                  · exfalso
                    omega
                  refine k1 _ ?_ ?_ (fun y => absurd hs.2.1 y) (fun b r y => ?_)
                  · rw [hs.2.1, if_neg (by omega)]
                    first
                      | (exfalso; omega)
                      | (rw [up_i (by decide), up_i (by decide), g14] <;> omega)
                  · rw [hs.2.1, if_pos rfl]
                    first
                      | (exfalso; omega)
                      | (rw [up_i (by decide), up_e]; exact hs.1)
                  · first
                      | (exfalso; omega)
                      | (rw [up_f (by omega), up_f (by omega)]; exact gF b r (by omega))
                · rw [← hy] at *
                  first
                    | (exfalso; omega)
                    | (have e : sgOf x y2 = 4 := by rw [show x = 60 by omega, sgOf_60, if_pos (by omega)]
                       exact k1 _ (by rw [e]; simp [up] <;> omega) (by rw [e]; simp [up] <;> omega) (fun _ => by rw [e]; simp [up] <;> rfl) (fun b r y => by rw [up_f (by omega), up_f (by omega), up_f (by omega), up_f (by omega)]; exact gF b r (by omega)))
                    | (have e : sgOf x y2 = 6 := by rw [show x = 60 by omega, sgOf_60, if_neg (by omega), if_pos (by omega)]
                       exact k1 _ (by rw [e]; simp [up] <;> omega) (by rw [e]; simp [up] <;> omega) (fun _ => by rw [e]; simp [up] <;> rfl) (fun b r y => by rw [up_f (by omega), up_f (by omega), up_f (by omega), up_f (by omega)]; exact gF b r (by omega)))
                    | (have e : sgOf x y2 = 7 := by rw [show x = 62 by omega, sgOf_62, if_pos (by omega)]
                       exact k1 _ (by rw [e]; simp [up] <;> omega) (by rw [e]; simp [up] <;> omega) (fun _ => by rw [e]; simp [up] <;> rfl) (fun b r y => by rw [up_f (by omega), up_f (by omega), up_f (by omega), up_f (by omega)]; exact gF b r (by omega)))
                    | (have e : sgOf x y2 = 3 := by rw [show x = 60 by omega, sgOf_60, if_neg (by omega), if_neg (by omega)]
                       exact k1 _ (by rw [e]; simp [up] <;> omega) (by rw [e]; simp [up] <;> omega) (fun _ => by rw [e, up_e, show x = 60 by omega]; rfl) (fun b r y => by rw [up_f (by omega), up_f (by omega)]; exact gF b r (by omega)))
                    | (have e : sgOf x y2 = 8 := by rw [show x = 62 by omega, sgOf_62, if_neg (by omega)]
                       exact k1 _ (by rw [e]; simp [up] <;> omega) (by rw [e]; simp [up] <;> omega) (fun _ => by rw [e, up_e, show x = 62 by omega]; rfl) (fun b r y => by rw [up_f (by omega), up_f (by omega)]; exact gF b r (by omega)))
                    | (have e := hs.2.2 (by omega) (by omega)
                       have e3 := hs.2.1
                       exact k1 _ (by rw [if_neg (show ¬ (sgOf x y2 = 4 ∨ sgOf x y2 = 6 ∨ sgOf x y2 = 7) by omega), up_i (by decide), up_i (by decide), g14] <;> omega) (by rw [if_neg e3, up_i (by decide), up_e]; exact hs.1) (fun _ => by rw [up_e]; exact e.1.symm) (fun b r y => by rw [up_f (by omega), up_f (by omega)]; exact gF b r (by omega)))
                    | (exfalso; omega)
              · refine x_aload rfl ?_
                refine x_dupR ?_
                refine h_getI 14 sc_94 rfl rfl ?_
                first | rw [up_i (by decide), up_i (by decide), up_i (by decide), up_i (by decide), up_i (by decide), g14] | rw [up_i (by decide), up_i (by decide), up_i (by decide), up_i (by decide), g14] | rw [up_i (by decide), up_i (by decide), up_i (by decide), g14] | rw [up_i (by decide), up_i (by decide), g14]
                refine x_ci ?_
                refine x_iadd ?_
                refine h_putI 14 sc_94 rfl rfl ?_
                refine x_fall ?_
                refine x_ret ?_
                rcases hs with hs | hs
                · by_cases ff : x = 60 ∨ x = 62
                  · exfalso
                    omega
                  refine k1 _ ?_ ?_ (fun y => absurd hs.2.1 y) (fun b r y => ?_)
                  · rw [hs.2.1, if_neg (by omega)]
                    first
                      | (exfalso; omega)
                      | (rw [up_i (by decide), up_i (by decide), g14] <;> omega)
                  · rw [hs.2.1, if_pos rfl]
                    first
                      | (exfalso; omega)
                      | (rw [up_i (by decide), up_e]; exact hs.1)
                  · first
                      | (exfalso; omega)
                      | (rw [up_f (by omega), up_f (by omega)]; exact gF b r (by omega))
                · rw [← hy] at *
                  first
                    | (exfalso; omega)
                    | (have e : sgOf x y2 = 4 := by rw [show x = 60 by omega, sgOf_60, if_pos (by omega)]
                       exact k1 _ (by rw [e]; simp [up] <;> omega) (by rw [e]; simp [up] <;> omega) (fun _ => by rw [e]; simp [up] <;> rfl) (fun b r y => by rw [up_f (by omega), up_f (by omega), up_f (by omega), up_f (by omega)]; exact gF b r (by omega)))
                    | (have e : sgOf x y2 = 6 := by rw [show x = 60 by omega, sgOf_60, if_neg (by omega), if_pos (by omega)]
                       exact k1 _ (by rw [e]; simp [up] <;> omega) (by rw [e]; simp [up] <;> omega) (fun _ => by rw [e]; simp [up] <;> rfl) (fun b r y => by rw [up_f (by omega), up_f (by omega), up_f (by omega), up_f (by omega)]; exact gF b r (by omega)))
                    | (have e : sgOf x y2 = 7 := by rw [show x = 62 by omega, sgOf_62, if_pos (by omega)]
                       exact k1 _ (by rw [e]; simp [up] <;> omega) (by rw [e]; simp [up] <;> omega) (fun _ => by rw [e]; simp [up] <;> rfl) (fun b r y => by rw [up_f (by omega), up_f (by omega), up_f (by omega), up_f (by omega)]; exact gF b r (by omega)))
                    | (have e : sgOf x y2 = 3 := by rw [show x = 60 by omega, sgOf_60, if_neg (by omega), if_neg (by omega)]
                       exact k1 _ (by rw [e]; simp [up] <;> omega) (by rw [e]; simp [up] <;> omega) (fun _ => by rw [e, up_e, show x = 60 by omega]; rfl) (fun b r y => by rw [up_f (by omega), up_f (by omega)]; exact gF b r (by omega)))
                    | (have e : sgOf x y2 = 8 := by rw [show x = 62 by omega, sgOf_62, if_neg (by omega)]
                       exact k1 _ (by rw [e]; simp [up] <;> omega) (by rw [e]; simp [up] <;> omega) (fun _ => by rw [e, up_e, show x = 62 by omega]; rfl) (fun b r y => by rw [up_f (by omega), up_f (by omega)]; exact gF b r (by omega)))
                    | (have e := hs.2.2 (by omega) (by omega)
                       have e3 := hs.2.1
                       exact k1 _ (by rw [if_neg (show ¬ (sgOf x y2 = 4 ∨ sgOf x y2 = 6 ∨ sgOf x y2 = 7) by omega), up_i (by decide), up_i (by decide), g14] <;> omega) (by rw [if_neg e3, up_i (by decide), up_e]; exact hs.1) (fun _ => by rw [up_e]; exact e.1.symm) (fun b r y => by rw [up_f (by omega), up_f (by omega)]; exact gF b r (by omega)))
                    | (exfalso; omega)
            · refine x_aload rfl ?_
              refine n_call [vR _] [] (by omega) (Nat.le_of_ble_eq_true rfl) rfl rfl (Nat.le_of_ble_eq_true rfl) ?_
              refine n_here (j := q + 1) (hRt.f (fun b r y => by first | rw [up_f (by omega), up_f (by omega), up_f (by omega), up_f (by omega)] | rw [up_f (by omega), up_f (by omega), up_f (by omega)] | rw [up_f (by omega), up_f (by omega)])) (by first | (rw [up_i (by decide), up_i (by decide), up_i (by decide), up_i (by decide)]; exact g14) | (rw [up_i (by decide), up_i (by decide), up_i (by decide)]; exact g14) | (rw [up_i (by decide), up_i (by decide)]; exact g14)) (by omega) ?_
              rw [show (((q + 1 : Nat)) : Int) = (q : Int) + 1 by omega]
              show wp PP _ _ _ [some (vR _), some (vI _)] [vI _] _ _
              refine x_ci ?_
              refine n_icmp_ne ⟨by omega, by omega⟩ ⟨by omega, by omega⟩ (fun c6 => ?_) (fun c6 => ?_)
              · refine x_aload rfl ?_
                refine h_getI 17 sc_94 rfl rfl ?_
                first | rw [up_e] | rw [up_i (by decide), up_e]
                refine x_ci ?_
                refine n_icmp_lt ⟨by omega, by omega⟩ ⟨by omega, by omega⟩ (fun c7 => ?_) (fun c7 => ?_)
                · refine x_ret ?_
                  rcases hs with hs | hs
                  · by_cases ff : x = 60 ∨ x = 62
                    · exfalso
                      omega
                    refine k1 _ ?_ ?_ (fun y => absurd hs.2.1 y) (fun b r y => ?_)
                    · rw [hs.2.1, if_neg (by omega)]
                      first
                        | (exfalso; omega)
                        | (rw [up_i (by decide), up_i (by decide), g14] <;> omega)
                    · rw [hs.2.1, if_pos rfl]
                      first
                        | (exfalso; omega)
                        | (rw [up_i (by decide), up_e]; exact hs.1)
                    · first
                        | (exfalso; omega)
                        | (rw [up_f (by omega), up_f (by omega)]; exact gF b r (by omega))
                  · rw [← hy] at *
                    first
                      | (exfalso; omega)
                      | (have e : sgOf x y2 = 4 := by rw [show x = 60 by omega, sgOf_60, if_pos (by omega)]
                         exact k1 _ (by rw [e]; simp [up] <;> omega) (by rw [e]; simp [up] <;> omega) (fun _ => by rw [e]; simp [up] <;> rfl) (fun b r y => by rw [up_f (by omega), up_f (by omega), up_f (by omega), up_f (by omega)]; exact gF b r (by omega)))
                      | (have e : sgOf x y2 = 6 := by rw [show x = 60 by omega, sgOf_60, if_neg (by omega), if_pos (by omega)]
                         exact k1 _ (by rw [e]; simp [up] <;> omega) (by rw [e]; simp [up] <;> omega) (fun _ => by rw [e]; simp [up] <;> rfl) (fun b r y => by rw [up_f (by omega), up_f (by omega), up_f (by omega), up_f (by omega)]; exact gF b r (by omega)))
                      | (have e : sgOf x y2 = 7 := by rw [show x = 62 by omega, sgOf_62, if_pos (by omega)]
                         exact k1 _ (by rw [e]; simp [up] <;> omega) (by rw [e]; simp [up] <;> omega) (fun _ => by rw [e]; simp [up] <;> rfl) (fun b r y => by rw [up_f (by omega), up_f (by omega), up_f (by omega), up_f (by omega)]; exact gF b r (by omega)))
                      | (have e : sgOf x y2 = 3 := by rw [show x = 60 by omega, sgOf_60, if_neg (by omega), if_neg (by omega)]
                         exact k1 _ (by rw [e]; simp [up] <;> omega) (by rw [e]; simp [up] <;> omega) (fun _ => by rw [e, up_e, show x = 60 by omega]; rfl) (fun b r y => by rw [up_f (by omega), up_f (by omega)]; exact gF b r (by omega)))
                      | (have e : sgOf x y2 = 8 := by rw [show x = 62 by omega, sgOf_62, if_neg (by omega)]
                         exact k1 _ (by rw [e]; simp [up] <;> omega) (by rw [e]; simp [up] <;> omega) (fun _ => by rw [e, up_e, show x = 62 by omega]; rfl) (fun b r y => by rw [up_f (by omega), up_f (by omega)]; exact gF b r (by omega)))
                      | (have e := hs.2.2 (by omega) (by omega)
                         have e3 := hs.2.1
                         exact k1 _ (by rw [if_neg (show ¬ (sgOf x y2 = 4 ∨ sgOf x y2 = 6 ∨ sgOf x y2 = 7) by omega), up_i (by decide), up_i (by decide), g14] <;> omega) (by rw [if_neg e3, up_i (by decide), up_e]; exact hs.1) (fun _ => by rw [up_e]; exact e.1.symm) (fun b r y => by rw [up_f (by omega), up_f (by omega)]; exact gF b r (by omega)))
                      | (exfalso; omega)
                · refine x_aload rfl ?_
                  refine x_dupR ?_
                  refine h_getI 14 sc_94 rfl rfl ?_
                  first | rw [up_i (by decide), up_i (by decide), up_i (by decide), up_i (by decide), up_i (by decide), g14] | rw [up_i (by decide), up_i (by decide), up_i (by decide), up_i (by decide), g14] | rw [up_i (by decide), up_i (by decide), up_i (by decide), g14] | rw [up_i (by decide), up_i (by decide), g14]
                  refine x_ci ?_
                  refine x_iadd ?_
                  refine h_putI 14 sc_94 rfl rfl ?_
                  refine x_fall ?_
                  refine x_ret ?_
                  rcases hs with hs | hs
                  · by_cases ff : x = 60 ∨ x = 62
                    · exfalso
                      omega
                    refine k1 _ ?_ ?_ (fun y => absurd hs.2.1 y) (fun b r y => ?_)
                    · rw [hs.2.1, if_neg (by omega)]
                      first
                        | (exfalso; omega)
                        | (rw [up_i (by decide), up_i (by decide), g14] <;> omega)
                    · rw [hs.2.1, if_pos rfl]
                      first
                        | (exfalso; omega)
                        | (rw [up_i (by decide), up_e]; exact hs.1)
                    · first
                        | (exfalso; omega)
                        | (rw [up_f (by omega), up_f (by omega)]; exact gF b r (by omega))
                  · rw [← hy] at *
                    first
                      | (exfalso; omega)
                      | (have e : sgOf x y2 = 4 := by rw [show x = 60 by omega, sgOf_60, if_pos (by omega)]
                         exact k1 _ (by rw [e]; simp [up] <;> omega) (by rw [e]; simp [up] <;> omega) (fun _ => by rw [e]; simp [up] <;> rfl) (fun b r y => by rw [up_f (by omega), up_f (by omega), up_f (by omega), up_f (by omega)]; exact gF b r (by omega)))
                      | (have e : sgOf x y2 = 6 := by rw [show x = 60 by omega, sgOf_60, if_neg (by omega), if_pos (by omega)]
                         exact k1 _ (by rw [e]; simp [up] <;> omega) (by rw [e]; simp [up] <;> omega) (fun _ => by rw [e]; simp [up] <;> rfl) (fun b r y => by rw [up_f (by omega), up_f (by omega), up_f (by omega), up_f (by omega)]; exact gF b r (by omega)))
                      | (have e : sgOf x y2 = 7 := by rw [show x = 62 by omega, sgOf_62, if_pos (by omega)]
                         exact k1 _ (by rw [e]; simp [up] <;> omega) (by rw [e]; simp [up] <;> omega) (fun _ => by rw [e]; simp [up] <;> rfl) (fun b r y => by rw [up_f (by omega), up_f (by omega), up_f (by omega), up_f (by omega)]; exact gF b r (by omega)))
                      | (have e : sgOf x y2 = 3 := by rw [show x = 60 by omega, sgOf_60, if_neg (by omega), if_neg (by omega)]
                         exact k1 _ (by rw [e]; simp [up] <;> omega) (by rw [e]; simp [up] <;> omega) (fun _ => by rw [e, up_e, show x = 60 by omega]; rfl) (fun b r y => by rw [up_f (by omega), up_f (by omega)]; exact gF b r (by omega)))
                      | (have e : sgOf x y2 = 8 := by rw [show x = 62 by omega, sgOf_62, if_neg (by omega)]
                         exact k1 _ (by rw [e]; simp [up] <;> omega) (by rw [e]; simp [up] <;> omega) (fun _ => by rw [e, up_e, show x = 62 by omega]; rfl) (fun b r y => by rw [up_f (by omega), up_f (by omega)]; exact gF b r (by omega)))
                      | (have e := hs.2.2 (by omega) (by omega)
                         have e3 := hs.2.1
                         exact k1 _ (by rw [if_neg (show ¬ (sgOf x y2 = 4 ∨ sgOf x y2 = 6 ∨ sgOf x y2 = 7) by omega), up_i (by decide), up_i (by decide), g14] <;> omega) (by rw [if_neg e3, up_i (by decide), up_e]; exact hs.1) (fun _ => by rw [up_e]; exact e.1.symm) (fun b r y => by rw [up_f (by omega), up_f (by omega)]; exact gF b r (by omega)))
                      | (exfalso; omega)
              · refine x_aload rfl ?_
                refine x_ci ?_
                refine h_putI 17 sc_94 rfl rfl ?_
                refine x_fall ?_
                refine x_aload rfl ?_
                refine h_getI 17 sc_94 rfl rfl ?_
                first | rw [up_e] | rw [up_i (by decide), up_e]
                refine x_ci ?_
                refine n_icmp_lt ⟨by omega, by omega⟩ ⟨by omega, by omega⟩ (fun c7 => ?_) (fun c7 => ?_)
                · refine x_ret ?_
                  rcases hs with hs | hs
                  · by_cases ff : x = 60 ∨ x = 62
                    · exfalso
                      omega
                    refine k1 _ ?_ ?_ (fun y => absurd hs.2.1 y) (fun b r y => ?_)
                    · rw [hs.2.1, if_neg (by omega)]
                      first
                        | (exfalso; omega)
                        | (rw [up_i (by decide), up_i (by decide), g14] <;> omega)
                    · rw [hs.2.1, if_pos rfl]
                      first
                        | (exfalso; omega)
                        | (rw [up_i (by decide), up_e]; exact hs.1)
                    · first
                        | (exfalso; omega)
                        | (rw [up_f (by omega), up_f (by omega)]; exact gF b r (by omega))
                  · rw [← hy] at *
                    first
                      | (exfalso; omega)
                      | (have e : sgOf x y2 = 4 := by rw [show x = 60 by omega, sgOf_60, if_pos (by omega)]
                         exact k1 _ (by rw [e]; simp [up] <;> omega) (by rw [e]; simp [up] <;> omega) (fun _ => by rw [e]; simp [up] <;> rfl) (fun b r y => by rw [up_f (by omega), up_f (by omega), up_f (by omega), up_f (by omega)]; exact gF b r (by omega)))
                      | (have e : sgOf x y2 = 6 := by rw [show x = 60 by omega, sgOf_60, if_neg (by omega), if_pos (by omega)]
                         exact k1 _ (by rw [e]; simp [up] <;> omega) (by rw [e]; simp [up] <;> omega) (fun _ => by rw [e]; simp [up] <;> rfl) (fun b r y => by rw [up_f (by omega), up_f (by omega), up_f (by omega), up_f (by omega)]; exact gF b r (by omega)))
                      | (have e : sgOf x y2 = 7 := by rw [show x = 62 by omega, sgOf_62, if_pos (by omega)]
                         exact k1 _ (by rw [e]; simp [up] <;> omega) (by rw [e]; simp [up] <;> omega) (fun _ => by rw [e]; simp [up] <;> rfl) (fun b r y => by rw [up_f (by omega), up_f (by omega), up_f (by omega), up_f (by omega)]; exact gF b r (by omega)))
                      | (have e : sgOf x y2 = 3 := by rw [show x = 60 by omega, sgOf_60, if_neg (by omega), if_neg (by omega)]
                         exact k1 _ (by rw [e]; simp [up] <;> omega) (by rw [e]; simp [up] <;> omega) (fun _ => by rw [e, up_e, show x = 60 by omega]; rfl) (fun b r y => by rw [up_f (by omega), up_f (by omega)]; exact gF b r (by omega)))
                      | (have e : sgOf x y2 = 8 := by rw [show x = 62 by omega, sgOf_62, if_neg (by omega)]
                         exact k1 _ (by rw [e]; simp [up] <;> omega) (by rw [e]; simp [up] <;> omega) (fun _ => by rw [e, up_e, show x = 62 by omega]; rfl) (fun b r y => by rw [up_f (by omega), up_f (by omega)]; exact gF b r (by omega)))
                      | (have e := hs.2.2 (by omega) (by omega)
                         have e3 := hs.2.1
                         exact k1 _ (by rw [if_neg (show ¬ (sgOf x y2 = 4 ∨ sgOf x y2 = 6 ∨ sgOf x y2 = 7) by omega), up_i (by decide), up_i (by decide), g14] <;> omega) (by rw [if_neg e3, up_i (by decide), up_e]; exact hs.1) (fun _ => by rw [up_e]; exact e.1.symm) (fun b r y => by rw [up_f (by omega), up_f (by omega)]; exact gF b r (by omega)))
                      | (exfalso; omega)
                · refine x_aload rfl ?_
                  refine x_dupR ?_
                  refine h_getI 14 sc_94 rfl rfl ?_
                  first | rw [up_i (by decide), up_i (by decide), up_i (by decide), up_i (by decide), up_i (by decide), g14] | rw [up_i (by decide), up_i (by decide), up_i (by decide), up_i (by decide), g14] | rw [up_i (by decide), up_i (by decide), up_i (by decide), g14] | rw [up_i (by decide), up_i (by decide), g14]
                  refine x_ci ?_
                  refine x_iadd ?_
                  refine h_putI 14 sc_94 rfl rfl ?_
                  refine x_fall ?_
                  refine x_ret ?_
                  rcases hs with hs | hs
                  · by_cases ff : x = 60 ∨ x = 62
                    · exfalso
                      omega
                    refine k1 _ ?_ ?_ (fun y => absurd hs.2.1 y) (fun b r y => ?_)
                    · rw [hs.2.1, if_neg (by omega)]
                      first
                        | (exfalso; omega)
                        | (rw [up_i (by decide), up_i (by decide), g14] <;> omega)
                    · rw [hs.2.1, if_pos rfl]
                      first
                        | (exfalso; omega)
                        | (rw [up_i (by decide), up_e]; exact hs.1)
                    · first
                        | (exfalso; omega)
                        | (rw [up_f (by omega), up_f (by omega)]; exact gF b r (by omega))
                  · rw [← hy] at *
                    first
                      | (exfalso; omega)
                      | (have e : sgOf x y2 = 4 := by rw [show x = 60 by omega, sgOf_60, if_pos (by omega)]
                         exact k1 _ (by rw [e]; simp [up] <;> omega) (by rw [e]; simp [up] <;> omega) (fun _ => by rw [e]; simp [up] <;> rfl) (fun b r y => by rw [up_f (by omega), up_f (by omega), up_f (by omega), up_f (by omega)]; exact gF b r (by omega)))
                      | (have e : sgOf x y2 = 6 := by rw [show x = 60 by omega, sgOf_60, if_neg (by omega), if_pos (by omega)]
                         exact k1 _ (by rw [e]; simp [up] <;> omega) (by rw [e]; simp [up] <;> omega) (fun _ => by rw [e]; simp [up] <;> rfl) (fun b r y => by rw [up_f (by omega), up_f (by omega), up_f (by omega), up_f (by omega)]; exact gF b r (by omega)))
                      | (have e : sgOf x y2 = 7 := by rw [show x = 62 by omega, sgOf_62, if_pos (by omega)]
                         exact k1 _ (by rw [e]; simp [up] <;> omega) (by rw [e]; simp [up] <;> omega) (fun _ => by rw [e]; simp [up] <;> rfl) (fun b r y => by rw [up_f (by omega), up_f (by omega), up_f (by omega), up_f (by omega)]; exact gF b r (by omega)))
                      | (have e : sgOf x y2 = 3 := by rw [show x = 60 by omega, sgOf_60, if_neg (by omega), if_neg (by omega)]
                         exact k1 _ (by rw [e]; simp [up] <;> omega) (by rw [e]; simp [up] <;> omega) (fun _ => by rw [e, up_e, show x = 60 by omega]; rfl) (fun b r y => by rw [up_f (by omega), up_f (by omega)]; exact gF b r (by omega)))
                      | (have e : sgOf x y2 = 8 := by rw [show x = 62 by omega, sgOf_62, if_neg (by omega)]
                         exact k1 _ (by rw [e]; simp [up] <;> omega) (by rw [e]; simp [up] <;> omega) (fun _ => by rw [e, up_e, show x = 62 by omega]; rfl) (fun b r y => by rw [up_f (by omega), up_f (by omega)]; exact gF b r (by omega)))
                      | (have e := hs.2.2 (by omega) (by omega)
                         have e3 := hs.2.1
                         exact k1 _ (by rw [if_neg (show ¬ (sgOf x y2 = 4 ∨ sgOf x y2 = 6 ∨ sgOf x y2 = 7) by omega), up_i (by decide), up_i (by decide), g14] <;> omega) (by rw [if_neg e3, up_i (by decide), up_e]; exact hs.1) (fun _ => by rw [up_e]; exact e.1.symm) (fun b r y => by rw [up_f (by omega), up_f (by omega)]; exact gF b r (by omega)))
                      | (exfalso; omega)
  refine n_at (m := 64) (q := mr64) (kn := (0, 2)) [some (vR _), some (vI _)] mb64 rfl rfl (h_rcv sc_94) (Nat.le_of_ble_eq_true rfl) rfl rfl ?_
  refine x_aload rfl ?_
  refine x_dupR ?_
  refine h_getI 14 sc_94 rfl rfl ?_
  rw [h14]
  refine x_ci ?_
  refine x_iadd ?_
  refine h_putI 14 sc_94 rfl rfl ?_
  refine x_aload rfl ?_
  refine x_iload rfl ?_
  refine x_ci ?_
  refine n_icmp_eq ⟨by omega, by omega⟩ ⟨by omega, by omega⟩ (fun c1 => ?_) (fun c1 => ?_)
  · refine x_ci ?_
    refine x_goto ?_
    refine L3 3 _ (Or.inr ⟨rfl, ?_⟩) (by rw [up_e]; omega) (hR.f (rtF_up rtF_rfl (by omega))) (fun b r y => up_f (by omega))
    first
      | (rw [show x = 59 by omega]; exact ⟨by show ¬ (15 : Int) = -1; omega, fun _ _ => ⟨rfl, by show (15 : Int) ≠ 4; omega, by show (15 : Int) ≠ 6; omega, by show (15 : Int) ≠ 7; omega⟩⟩)
      | (rw [show x = 40 by omega]; exact ⟨by show ¬ (13 : Int) = -1; omega, fun _ _ => ⟨rfl, by show (13 : Int) ≠ 4; omega, by show (13 : Int) ≠ 6; omega, by show (13 : Int) ≠ 7; omega⟩⟩)
      | (rw [show x = 41 by omega]; exact ⟨by show ¬ (14 : Int) = -1; omega, fun _ _ => ⟨rfl, by show (14 : Int) ≠ 4; omega, by show (14 : Int) ≠ 6; omega, by show (14 : Int) ≠ 7; omega⟩⟩)
      | (rw [show x = 43 by omega]; exact ⟨by show ¬ (9 : Int) = -1; omega, fun _ _ => ⟨rfl, by show (9 : Int) ≠ 4; omega, by show (9 : Int) ≠ 6; omega, by show (9 : Int) ≠ 7; omega⟩⟩)
      | (rw [show x = 45 by omega]; exact ⟨by show ¬ (10 : Int) = -1; omega, fun _ _ => ⟨rfl, by show (10 : Int) ≠ 4; omega, by show (10 : Int) ≠ 6; omega, by show (10 : Int) ≠ 7; omega⟩⟩)
      | (rw [show x = 42 by omega]; exact ⟨by show ¬ (11 : Int) = -1; omega, fun _ _ => ⟨rfl, by show (11 : Int) ≠ 4; omega, by show (11 : Int) ≠ 6; omega, by show (11 : Int) ≠ 7; omega⟩⟩)
      | (rw [show x = 47 by omega]; exact ⟨by show ¬ (12 : Int) = -1; omega, fun _ _ => ⟨rfl, by show (12 : Int) ≠ 4; omega, by show (12 : Int) ≠ 6; omega, by show (12 : Int) ≠ 7; omega⟩⟩)
      | (rw [show x = 61 by omega]; exact ⟨by show ¬ (5 : Int) = -1; omega, fun _ _ => ⟨rfl, by show (5 : Int) ≠ 4; omega, by show (5 : Int) ≠ 6; omega, by show (5 : Int) ≠ 7; omega⟩⟩)
      | (rw [show x = 60 by omega, sgOf_60]; exact ⟨by repeat' split; all_goals omega, fun y => absurd rfl y⟩)
      | (rw [show x = 62 by omega, sgOf_62]; exact ⟨by split; all_goals omega, fun _ y => absurd rfl y⟩)
  · refine x_iload rfl ?_
    refine x_ci ?_
    refine n_icmp_eq ⟨by omega, by omega⟩ ⟨by omega, by omega⟩ (fun c2 => ?_) (fun c2 => ?_)
    · refine x_ci ?_
      refine x_goto ?_
      refine L3 3 _ (Or.inr ⟨rfl, ?_⟩) (by rw [up_e]; omega) (hR.f (rtF_up rtF_rfl (by omega))) (fun b r y => up_f (by omega))
      first
        | (rw [show x = 59 by omega]; exact ⟨by show ¬ (15 : Int) = -1; omega, fun _ _ => ⟨rfl, by show (15 : Int) ≠ 4; omega, by show (15 : Int) ≠ 6; omega, by show (15 : Int) ≠ 7; omega⟩⟩)
        | (rw [show x = 40 by omega]; exact ⟨by show ¬ (13 : Int) = -1; omega, fun _ _ => ⟨rfl, by show (13 : Int) ≠ 4; omega, by show (13 : Int) ≠ 6; omega, by show (13 : Int) ≠ 7; omega⟩⟩)
        | (rw [show x = 41 by omega]; exact ⟨by show ¬ (14 : Int) = -1; omega, fun _ _ => ⟨rfl, by show (14 : Int) ≠ 4; omega, by show (14 : Int) ≠ 6; omega, by show (14 : Int) ≠ 7; omega⟩⟩)
        | (rw [show x = 43 by omega]; exact ⟨by show ¬ (9 : Int) = -1; omega, fun _ _ => ⟨rfl, by show (9 : Int) ≠ 4; omega, by show (9 : Int) ≠ 6; omega, by show (9 : Int) ≠ 7; omega⟩⟩)
        | (rw [show x = 45 by omega]; exact ⟨by show ¬ (10 : Int) = -1; omega, fun _ _ => ⟨rfl, by show (10 : Int) ≠ 4; omega, by show (10 : Int) ≠ 6; omega, by show (10 : Int) ≠ 7; omega⟩⟩)
        | (rw [show x = 42 by omega]; exact ⟨by show ¬ (11 : Int) = -1; omega, fun _ _ => ⟨rfl, by show (11 : Int) ≠ 4; omega, by show (11 : Int) ≠ 6; omega, by show (11 : Int) ≠ 7; omega⟩⟩)
        | (rw [show x = 47 by omega]; exact ⟨by show ¬ (12 : Int) = -1; omega, fun _ _ => ⟨rfl, by show (12 : Int) ≠ 4; omega, by show (12 : Int) ≠ 6; omega, by show (12 : Int) ≠ 7; omega⟩⟩)
        | (rw [show x = 61 by omega]; exact ⟨by show ¬ (5 : Int) = -1; omega, fun _ _ => ⟨rfl, by show (5 : Int) ≠ 4; omega, by show (5 : Int) ≠ 6; omega, by show (5 : Int) ≠ 7; omega⟩⟩)
        | (rw [show x = 60 by omega, sgOf_60]; exact ⟨by repeat' split; all_goals omega, fun y => absurd rfl y⟩)
        | (rw [show x = 62 by omega, sgOf_62]; exact ⟨by split; all_goals omega, fun _ y => absurd rfl y⟩)
    · refine x_iload rfl ?_
      refine x_ci ?_
      refine n_icmp_eq ⟨by omega, by omega⟩ ⟨by omega, by omega⟩ (fun c3 => ?_) (fun c3 => ?_)
      · refine x_ci ?_
        refine x_goto ?_
        refine L3 3 _ (Or.inr ⟨rfl, ?_⟩) (by rw [up_e]; omega) (hR.f (rtF_up rtF_rfl (by omega))) (fun b r y => up_f (by omega))
        first
          | (rw [show x = 59 by omega]; exact ⟨by show ¬ (15 : Int) = -1; omega, fun _ _ => ⟨rfl, by show (15 : Int) ≠ 4; omega, by show (15 : Int) ≠ 6; omega, by show (15 : Int) ≠ 7; omega⟩⟩)
          | (rw [show x = 40 by omega]; exact ⟨by show ¬ (13 : Int) = -1; omega, fun _ _ => ⟨rfl, by show (13 : Int) ≠ 4; omega, by show (13 : Int) ≠ 6; omega, by show (13 : Int) ≠ 7; omega⟩⟩)
          | (rw [show x = 41 by omega]; exact ⟨by show ¬ (14 : Int) = -1; omega, fun _ _ => ⟨rfl, by show (14 : Int) ≠ 4; omega, by show (14 : Int) ≠ 6; omega, by show (14 : Int) ≠ 7; omega⟩⟩)
          | (rw [show x = 43 by omega]; exact ⟨by show ¬ (9 : Int) = -1; omega, fun _ _ => ⟨rfl, by show (9 : Int) ≠ 4; omega, by show (9 : Int) ≠ 6; omega, by show (9 : Int) ≠ 7; omega⟩⟩)
          | (rw [show x = 45 by omega]; exact ⟨by show ¬ (10 : Int) = -1; omega, fun _ _ => ⟨rfl, by show (10 : Int) ≠ 4; omega, by show (10 : Int) ≠ 6; omega, by show (10 : Int) ≠ 7; omega⟩⟩)
          | (rw [show x = 42 by omega]; exact ⟨by show ¬ (11 : Int) = -1; omega, fun _ _ => ⟨rfl, by show (11 : Int) ≠ 4; omega, by show (11 : Int) ≠ 6; omega, by show (11 : Int) ≠ 7; omega⟩⟩)
          | (rw [show x = 47 by omega]; exact ⟨by show ¬ (12 : Int) = -1; omega, fun _ _ => ⟨rfl, by show (12 : Int) ≠ 4; omega, by show (12 : Int) ≠ 6; omega, by show (12 : Int) ≠ 7; omega⟩⟩)
          | (rw [show x = 61 by omega]; exact ⟨by show ¬ (5 : Int) = -1; omega, fun _ _ => ⟨rfl, by show (5 : Int) ≠ 4; omega, by show (5 : Int) ≠ 6; omega, by show (5 : Int) ≠ 7; omega⟩⟩)
          | (rw [show x = 60 by omega, sgOf_60]; exact ⟨by repeat' split; all_goals omega, fun y => absurd rfl y⟩)
          | (rw [show x = 62 by omega, sgOf_62]; exact ⟨by split; all_goals omega, fun _ y => absurd rfl y⟩)
      · refine x_iload rfl ?_
        refine x_ci ?_
        refine n_icmp_eq ⟨by omega, by omega⟩ ⟨by omega, by omega⟩ (fun c4 => ?_) (fun c4 => ?_)
        · refine x_ci ?_
          refine x_goto ?_
          refine L3 3 _ (Or.inr ⟨rfl, ?_⟩) (by rw [up_e]; omega) (hR.f (rtF_up rtF_rfl (by omega))) (fun b r y => up_f (by omega))
          first
            | (rw [show x = 59 by omega]; exact ⟨by show ¬ (15 : Int) = -1; omega, fun _ _ => ⟨rfl, by show (15 : Int) ≠ 4; omega, by show (15 : Int) ≠ 6; omega, by show (15 : Int) ≠ 7; omega⟩⟩)
            | (rw [show x = 40 by omega]; exact ⟨by show ¬ (13 : Int) = -1; omega, fun _ _ => ⟨rfl, by show (13 : Int) ≠ 4; omega, by show (13 : Int) ≠ 6; omega, by show (13 : Int) ≠ 7; omega⟩⟩)
            | (rw [show x = 41 by omega]; exact ⟨by show ¬ (14 : Int) = -1; omega, fun _ _ => ⟨rfl, by show (14 : Int) ≠ 4; omega, by show (14 : Int) ≠ 6; omega, by show (14 : Int) ≠ 7; omega⟩⟩)
            | (rw [show x = 43 by omega]; exact ⟨by show ¬ (9 : Int) = -1; omega, fun _ _ => ⟨rfl, by show (9 : Int) ≠ 4; omega, by show (9 : Int) ≠ 6; omega, by show (9 : Int) ≠ 7; omega⟩⟩)
            | (rw [show x = 45 by omega]; exact ⟨by show ¬ (10 : Int) = -1; omega, fun _ _ => ⟨rfl, by show (10 : Int) ≠ 4; omega, by show (10 : Int) ≠ 6; omega, by show (10 : Int) ≠ 7; omega⟩⟩)
            | (rw [show x = 42 by omega]; exact ⟨by show ¬ (11 : Int) = -1; omega, fun _ _ => ⟨rfl, by show (11 : Int) ≠ 4; omega, by show (11 : Int) ≠ 6; omega, by show (11 : Int) ≠ 7; omega⟩⟩)
            | (rw [show x = 47 by omega]; exact ⟨by show ¬ (12 : Int) = -1; omega, fun _ _ => ⟨rfl, by show (12 : Int) ≠ 4; omega, by show (12 : Int) ≠ 6; omega, by show (12 : Int) ≠ 7; omega⟩⟩)
            | (rw [show x = 61 by omega]; exact ⟨by show ¬ (5 : Int) = -1; omega, fun _ _ => ⟨rfl, by show (5 : Int) ≠ 4; omega, by show (5 : Int) ≠ 6; omega, by show (5 : Int) ≠ 7; omega⟩⟩)
            | (rw [show x = 60 by omega, sgOf_60]; exact ⟨by repeat' split; all_goals omega, fun y => absurd rfl y⟩)
            | (rw [show x = 62 by omega, sgOf_62]; exact ⟨by split; all_goals omega, fun _ y => absurd rfl y⟩)
        · refine x_iload rfl ?_
          refine x_ci ?_
          refine n_icmp_eq ⟨by omega, by omega⟩ ⟨by omega, by omega⟩ (fun c5 => ?_) (fun c5 => ?_)
          · refine x_ci ?_
            refine x_goto ?_
            refine L3 3 _ (Or.inr ⟨rfl, ?_⟩) (by rw [up_e]; omega) (hR.f (rtF_up rtF_rfl (by omega))) (fun b r y => up_f (by omega))
            first
              | (rw [show x = 59 by omega]; exact ⟨by show ¬ (15 : Int) = -1; omega, fun _ _ => ⟨rfl, by show (15 : Int) ≠ 4; omega, by show (15 : Int) ≠ 6; omega, by show (15 : Int) ≠ 7; omega⟩⟩)
              | (rw [show x = 40 by omega]; exact ⟨by show ¬ (13 : Int) = -1; omega, fun _ _ => ⟨rfl, by show (13 : Int) ≠ 4; omega, by show (13 : Int) ≠ 6; omega, by show (13 : Int) ≠ 7; omega⟩⟩)
              | (rw [show x = 41 by omega]; exact ⟨by show ¬ (14 : Int) = -1; omega, fun _ _ => ⟨rfl, by show (14 : Int) ≠ 4; omega, by show (14 : Int) ≠ 6; omega, by show (14 : Int) ≠ 7; omega⟩⟩)
              | (rw [show x = 43 by omega]; exact ⟨by show ¬ (9 : Int) = -1; omega, fun _ _ => ⟨rfl, by show (9 : Int) ≠ 4; omega, by show (9 : Int) ≠ 6; omega, by show (9 : Int) ≠ 7; omega⟩⟩)
              | (rw [show x = 45 by omega]; exact ⟨by show ¬ (10 : Int) = -1; omega, fun _ _ => ⟨rfl, by show (10 : Int) ≠ 4; omega, by show (10 : Int) ≠ 6; omega, by show (10 : Int) ≠ 7; omega⟩⟩)
              | (rw [show x = 42 by omega]; exact ⟨by show ¬ (11 : Int) = -1; omega, fun _ _ => ⟨rfl, by show (11 : Int) ≠ 4; omega, by show (11 : Int) ≠ 6; omega, by show (11 : Int) ≠ 7; omega⟩⟩)
              | (rw [show x = 47 by omega]; exact ⟨by show ¬ (12 : Int) = -1; omega, fun _ _ => ⟨rfl, by show (12 : Int) ≠ 4; omega, by show (12 : Int) ≠ 6; omega, by show (12 : Int) ≠ 7; omega⟩⟩)
              | (rw [show x = 61 by omega]; exact ⟨by show ¬ (5 : Int) = -1; omega, fun _ _ => ⟨rfl, by show (5 : Int) ≠ 4; omega, by show (5 : Int) ≠ 6; omega, by show (5 : Int) ≠ 7; omega⟩⟩)
              | (rw [show x = 60 by omega, sgOf_60]; exact ⟨by repeat' split; all_goals omega, fun y => absurd rfl y⟩)
              | (rw [show x = 62 by omega, sgOf_62]; exact ⟨by split; all_goals omega, fun _ y => absurd rfl y⟩)
          · refine x_iload rfl ?_
            refine x_ci ?_
            refine n_icmp_eq ⟨by omega, by omega⟩ ⟨by omega, by omega⟩ (fun c6 => ?_) (fun c6 => ?_)
            · refine x_ci ?_
              refine x_goto ?_
              refine L3 3 _ (Or.inr ⟨rfl, ?_⟩) (by rw [up_e]; omega) (hR.f (rtF_up rtF_rfl (by omega))) (fun b r y => up_f (by omega))
              first
                | (rw [show x = 59 by omega]; exact ⟨by show ¬ (15 : Int) = -1; omega, fun _ _ => ⟨rfl, by show (15 : Int) ≠ 4; omega, by show (15 : Int) ≠ 6; omega, by show (15 : Int) ≠ 7; omega⟩⟩)
                | (rw [show x = 40 by omega]; exact ⟨by show ¬ (13 : Int) = -1; omega, fun _ _ => ⟨rfl, by show (13 : Int) ≠ 4; omega, by show (13 : Int) ≠ 6; omega, by show (13 : Int) ≠ 7; omega⟩⟩)
                | (rw [show x = 41 by omega]; exact ⟨by show ¬ (14 : Int) = -1; omega, fun _ _ => ⟨rfl, by show (14 : Int) ≠ 4; omega, by show (14 : Int) ≠ 6; omega, by show (14 : Int) ≠ 7; omega⟩⟩)
                | (rw [show x = 43 by omega]; exact ⟨by show ¬ (9 : Int) = -1; omega, fun _ _ => ⟨rfl, by show (9 : Int) ≠ 4; omega, by show (9 : Int) ≠ 6; omega, by show (9 : Int) ≠ 7; omega⟩⟩)
                | (rw [show x = 45 by omega]; exact ⟨by show ¬ (10 : Int) = -1; omega, fun _ _ => ⟨rfl, by show (10 : Int) ≠ 4; omega, by show (10 : Int) ≠ 6; omega, by show (10 : Int) ≠ 7; omega⟩⟩)
                | (rw [show x = 42 by omega]; exact ⟨by show ¬ (11 : Int) = -1; omega, fun _ _ => ⟨rfl, by show (11 : Int) ≠ 4; omega, by show (11 : Int) ≠ 6; omega, by show (11 : Int) ≠ 7; omega⟩⟩)
                | (rw [show x = 47 by omega]; exact ⟨by show ¬ (12 : Int) = -1; omega, fun _ _ => ⟨rfl, by show (12 : Int) ≠ 4; omega, by show (12 : Int) ≠ 6; omega, by show (12 : Int) ≠ 7; omega⟩⟩)
                | (rw [show x = 61 by omega]; exact ⟨by show ¬ (5 : Int) = -1; omega, fun _ _ => ⟨rfl, by show (5 : Int) ≠ 4; omega, by show (5 : Int) ≠ 6; omega, by show (5 : Int) ≠ 7; omega⟩⟩)
                | (rw [show x = 60 by omega, sgOf_60]; exact ⟨by repeat' split; all_goals omega, fun y => absurd rfl y⟩)
                | (rw [show x = 62 by omega, sgOf_62]; exact ⟨by split; all_goals omega, fun _ y => absurd rfl y⟩)
            · refine x_iload rfl ?_
              refine x_ci ?_
              refine n_icmp_eq ⟨by omega, by omega⟩ ⟨by omega, by omega⟩ (fun c7 => ?_) (fun c7 => ?_)
              · refine x_ci ?_
                refine x_goto ?_
                refine L3 3 _ (Or.inr ⟨rfl, ?_⟩) (by rw [up_e]; omega) (hR.f (rtF_up rtF_rfl (by omega))) (fun b r y => up_f (by omega))
                first
                  | (rw [show x = 59 by omega]; exact ⟨by show ¬ (15 : Int) = -1; omega, fun _ _ => ⟨rfl, by show (15 : Int) ≠ 4; omega, by show (15 : Int) ≠ 6; omega, by show (15 : Int) ≠ 7; omega⟩⟩)
                  | (rw [show x = 40 by omega]; exact ⟨by show ¬ (13 : Int) = -1; omega, fun _ _ => ⟨rfl, by show (13 : Int) ≠ 4; omega, by show (13 : Int) ≠ 6; omega, by show (13 : Int) ≠ 7; omega⟩⟩)
                  | (rw [show x = 41 by omega]; exact ⟨by show ¬ (14 : Int) = -1; omega, fun _ _ => ⟨rfl, by show (14 : Int) ≠ 4; omega, by show (14 : Int) ≠ 6; omega, by show (14 : Int) ≠ 7; omega⟩⟩)
                  | (rw [show x = 43 by omega]; exact ⟨by show ¬ (9 : Int) = -1; omega, fun _ _ => ⟨rfl, by show (9 : Int) ≠ 4; omega, by show (9 : Int) ≠ 6; omega, by show (9 : Int) ≠ 7; omega⟩⟩)
                  | (rw [show x = 45 by omega]; exact ⟨by show ¬ (10 : Int) = -1; omega, fun _ _ => ⟨rfl, by show (10 : Int) ≠ 4; omega, by show (10 : Int) ≠ 6; omega, by show (10 : Int) ≠ 7; omega⟩⟩)
                  | (rw [show x = 42 by omega]; exact ⟨by show ¬ (11 : Int) = -1; omega, fun _ _ => ⟨rfl, by show (11 : Int) ≠ 4; omega, by show (11 : Int) ≠ 6; omega, by show (11 : Int) ≠ 7; omega⟩⟩)
                  | (rw [show x = 47 by omega]; exact ⟨by show ¬ (12 : Int) = -1; omega, fun _ _ => ⟨rfl, by show (12 : Int) ≠ 4; omega, by show (12 : Int) ≠ 6; omega, by show (12 : Int) ≠ 7; omega⟩⟩)
                  | (rw [show x = 61 by omega]; exact ⟨by show ¬ (5 : Int) = -1; omega, fun _ _ => ⟨rfl, by show (5 : Int) ≠ 4; omega, by show (5 : Int) ≠ 6; omega, by show (5 : Int) ≠ 7; omega⟩⟩)
                  | (rw [show x = 60 by omega, sgOf_60]; exact ⟨by repeat' split; all_goals omega, fun y => absurd rfl y⟩)
                  | (rw [show x = 62 by omega, sgOf_62]; exact ⟨by split; all_goals omega, fun _ y => absurd rfl y⟩)
              · refine x_iload rfl ?_
                refine x_ci ?_
                refine n_icmp_eq ⟨by omega, by omega⟩ ⟨by omega, by omega⟩ (fun c8 => ?_) (fun c8 => ?_)
                · refine x_ci ?_
                  refine x_goto ?_
                  refine L3 3 _ (Or.inr ⟨rfl, ?_⟩) (by rw [up_e]; omega) (hR.f (rtF_up rtF_rfl (by omega))) (fun b r y => up_f (by omega))
                  first
                    | (rw [show x = 59 by omega]; exact ⟨by show ¬ (15 : Int) = -1; omega, fun _ _ => ⟨rfl, by show (15 : Int) ≠ 4; omega, by show (15 : Int) ≠ 6; omega, by show (15 : Int) ≠ 7; omega⟩⟩)
                    | (rw [show x = 40 by omega]; exact ⟨by show ¬ (13 : Int) = -1; omega, fun _ _ => ⟨rfl, by show (13 : Int) ≠ 4; omega, by show (13 : Int) ≠ 6; omega, by show (13 : Int) ≠ 7; omega⟩⟩)
                    | (rw [show x = 41 by omega]; exact ⟨by show ¬ (14 : Int) = -1; omega, fun _ _ => ⟨rfl, by show (14 : Int) ≠ 4; omega, by show (14 : Int) ≠ 6; omega, by show (14 : Int) ≠ 7; omega⟩⟩)
                    | (rw [show x = 43 by omega]; exact ⟨by show ¬ (9 : Int) = -1; omega, fun _ _ => ⟨rfl, by show (9 : Int) ≠ 4; omega, by show (9 : Int) ≠ 6; omega, by show (9 : Int) ≠ 7; omega⟩⟩)
                    | (rw [show x = 45 by omega]; exact ⟨by show ¬ (10 : Int) = -1; omega, fun _ _ => ⟨rfl, by show (10 : Int) ≠ 4; omega, by show (10 : Int) ≠ 6; omega, by show (10 : Int) ≠ 7; omega⟩⟩)
                    | (rw [show x = 42 by omega]; exact ⟨by show ¬ (11 : Int) = -1; omega, fun _ _ => ⟨rfl, by show (11 : Int) ≠ 4; omega, by show (11 : Int) ≠ 6; omega, by show (11 : Int) ≠ 7; omega⟩⟩)
                    | (rw [show x = 47 by omega]; exact ⟨by show ¬ (12 : Int) = -1; omega, fun _ _ => ⟨rfl, by show (12 : Int) ≠ 4; omega, by show (12 : Int) ≠ 6; omega, by show (12 : Int) ≠ 7; omega⟩⟩)
                    | (rw [show x = 61 by omega]; exact ⟨by show ¬ (5 : Int) = -1; omega, fun _ _ => ⟨rfl, by show (5 : Int) ≠ 4; omega, by show (5 : Int) ≠ 6; omega, by show (5 : Int) ≠ 7; omega⟩⟩)
                    | (rw [show x = 60 by omega, sgOf_60]; exact ⟨by repeat' split; all_goals omega, fun y => absurd rfl y⟩)
                    | (rw [show x = 62 by omega, sgOf_62]; exact ⟨by split; all_goals omega, fun _ y => absurd rfl y⟩)
                · refine x_iload rfl ?_
                  refine x_ci ?_
                  refine n_icmp_eq ⟨by omega, by omega⟩ ⟨by omega, by omega⟩ (fun c9 => ?_) (fun c9 => ?_)
                  · refine x_ci ?_
                    refine x_goto ?_
                    refine L3 3 _ (Or.inr ⟨rfl, ?_⟩) (by rw [up_e]; omega) (hR.f (rtF_up rtF_rfl (by omega))) (fun b r y => up_f (by omega))
                    first
                      | (rw [show x = 59 by omega]; exact ⟨by show ¬ (15 : Int) = -1; omega, fun _ _ => ⟨rfl, by show (15 : Int) ≠ 4; omega, by show (15 : Int) ≠ 6; omega, by show (15 : Int) ≠ 7; omega⟩⟩)
                      | (rw [show x = 40 by omega]; exact ⟨by show ¬ (13 : Int) = -1; omega, fun _ _ => ⟨rfl, by show (13 : Int) ≠ 4; omega, by show (13 : Int) ≠ 6; omega, by show (13 : Int) ≠ 7; omega⟩⟩)
                      | (rw [show x = 41 by omega]; exact ⟨by show ¬ (14 : Int) = -1; omega, fun _ _ => ⟨rfl, by show (14 : Int) ≠ 4; omega, by show (14 : Int) ≠ 6; omega, by show (14 : Int) ≠ 7; omega⟩⟩)
                      | (rw [show x = 43 by omega]; exact ⟨by show ¬ (9 : Int) = -1; omega, fun _ _ => ⟨rfl, by show (9 : Int) ≠ 4; omega, by show (9 : Int) ≠ 6; omega, by show (9 : Int) ≠ 7; omega⟩⟩)
                      | (rw [show x = 45 by omega]; exact ⟨by show ¬ (10 : Int) = -1; omega, fun _ _ => ⟨rfl, by show (10 : Int) ≠ 4; omega, by show (10 : Int) ≠ 6; omega, by show (10 : Int) ≠ 7; omega⟩⟩)
                      | (rw [show x = 42 by omega]; exact ⟨by show ¬ (11 : Int) = -1; omega, fun _ _ => ⟨rfl, by show (11 : Int) ≠ 4; omega, by show (11 : Int) ≠ 6; omega, by show (11 : Int) ≠ 7; omega⟩⟩)
                      | (rw [show x = 47 by omega]; exact ⟨by show ¬ (12 : Int) = -1; omega, fun _ _ => ⟨rfl, by show (12 : Int) ≠ 4; omega, by show (12 : Int) ≠ 6; omega, by show (12 : Int) ≠ 7; omega⟩⟩)
                      | (rw [show x = 61 by omega]; exact ⟨by show ¬ (5 : Int) = -1; omega, fun _ _ => ⟨rfl, by show (5 : Int) ≠ 4; omega, by show (5 : Int) ≠ 6; omega, by show (5 : Int) ≠ 7; omega⟩⟩)
                      | (rw [show x = 60 by omega, sgOf_60]; exact ⟨by repeat' split; all_goals omega, fun y => absurd rfl y⟩)
                      | (rw [show x = 62 by omega, sgOf_62]; exact ⟨by split; all_goals omega, fun _ y => absurd rfl y⟩)
                  · refine x_iload rfl ?_
                    refine x_ci ?_
                    refine n_icmp_ne ⟨by omega, by omega⟩ ⟨by omega, by omega⟩ (fun c10 => ?_) (fun c10 => ?_)
                    · refine x_ci ?_
                      refine x_fall ?_
                      refine L3 5 _ (Or.inl ⟨rfl, sgOf_d (by omega), by omega, by omega⟩) (by rw [up_e]; omega) (hR.f (rtF_up rtF_rfl (by omega))) (fun b r y => up_f (by omega))
                    · refine x_fall ?_
                      refine x_ci ?_
                      refine x_goto ?_
                      refine L3 3 _ (Or.inr ⟨rfl, ?_⟩) (by rw [up_e]; omega) (hR.f (rtF_up rtF_rfl (by omega))) (fun b r y => up_f (by omega))
                      first
                        | (rw [show x = 59 by omega]; exact ⟨by show ¬ (15 : Int) = -1; omega, fun _ _ => ⟨rfl, by show (15 : Int) ≠ 4; omega, by show (15 : Int) ≠ 6; omega, by show (15 : Int) ≠ 7; omega⟩⟩)
                        | (rw [show x = 40 by omega]; exact ⟨by show ¬ (13 : Int) = -1; omega, fun _ _ => ⟨rfl, by show (13 : Int) ≠ 4; omega, by show (13 : Int) ≠ 6; omega, by show (13 : Int) ≠ 7; omega⟩⟩)
                        | (rw [show x = 41 by omega]; exact ⟨by show ¬ (14 : Int) = -1; omega, fun _ _ => ⟨rfl, by show (14 : Int) ≠ 4; omega, by show (14 : Int) ≠ 6; omega, by show (14 : Int) ≠ 7; omega⟩⟩)
                        | (rw [show x = 43 by omega]; exact ⟨by show ¬ (9 : Int) = -1; omega, fun _ _ => ⟨rfl, by show (9 : Int) ≠ 4; omega, by show (9 : Int) ≠ 6; omega, by show (9 : Int) ≠ 7; omega⟩⟩)
                        | (rw [show x = 45 by omega]; exact ⟨by show ¬ (10 : Int) = -1; omega, fun _ _ => ⟨rfl, by show (10 : Int) ≠ 4; omega, by show (10 : Int) ≠ 6; omega, by show (10 : Int) ≠ 7; omega⟩⟩)
                        | (rw [show x = 42 by omega]; exact ⟨by show ¬ (11 : Int) = -1; omega, fun _ _ => ⟨rfl, by show (11 : Int) ≠ 4; omega, by show (11 : Int) ≠ 6; omega, by show (11 : Int) ≠ 7; omega⟩⟩)
                        | (rw [show x = 47 by omega]; exact ⟨by show ¬ (12 : Int) = -1; omega, fun _ _ => ⟨rfl, by show (12 : Int) ≠ 4; omega, by show (12 : Int) ≠ 6; omega, by show (12 : Int) ≠ 7; omega⟩⟩)
                        | (rw [show x = 61 by omega]; exact ⟨by show ¬ (5 : Int) = -1; omega, fun _ _ => ⟨rfl, by show (5 : Int) ≠ 4; omega, by show (5 : Int) ≠ 6; omega, by show (5 : Int) ≠ 7; omega⟩⟩)
                        | (rw [show x = 60 by omega, sgOf_60]; exact ⟨by repeat' split; all_goals omega, fun y => absurd rfl y⟩)
                        | (rw [show x = 62 by omega, sgOf_62]; exact ⟨by split; all_goals omega, fun _ y => absurd rfl y⟩)
end TX6
