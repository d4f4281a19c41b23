/-! LETTING GO and the bonds; FREED -/
section PB8
variable {d tp : Nat} {h0 : pheap} {s : St} {Q : Option pv → pheap → Prop} {L : Int} {n z K N : Nat} {c c' : Int → Int}
def skP (P p : Int) : Int := if p < P then p else p + 1
theorem ord_clr_f : ∀ l : Fin 64, ∀ x p : Fin 6, bt ((l : Nat) : Int) ((x : Nat) : Int) = 1 → ((p : Nat) : Int) < cnt ((l : Nat) : Int) - 1 → ordN (clr ((l : Nat) : Int) ((x : Nat) : Int)) 6 ((p : Nat) : Int) = ordN ((l : Nat) : Int) 6 (if ((p : Nat) : Int) < cntN ((l : Nat) : Int) (x : Nat) then ((p : Nat) : Int) else ((p : Nat) : Int) + 1) := by decide +kernel
theorem ord_clr {x p : Int} (hL : 0 ≤ L ∧ L < 64) (hx : 0 ≤ x ∧ x < 6 ∧ bt L x = 1) (h0 : 0 ≤ p) (h1 : p < cnt L - 1) : ordN (clr L x) 6 p = ordN L 6 (skP (cntN L x.toNat) p) := by
  have hc := cnt_R L
  have := ord_clr_f ⟨L.toNat, by omega⟩ ⟨x.toNat, by omega⟩ ⟨p.toNat, by omega⟩
  simp only [Int.toNat_of_nonneg hL.1, Int.toNat_of_nonneg hx.1, Int.toNat_of_nonneg h0] at this
  exact this hx.2.2 h1
theorem lg_all {x : Int} (hL : 0 ≤ L ∧ L < 64) (hx : 0 ≤ x ∧ x < 6 ∧ bt L x = 1) : ∀ {i : Nat}, vC L c i → (∀ p : Int, 0 ≤ p → p < cnt L - 1 → wO (clr L x) (rc L c (cntN L x.toNat) i) (rk L c (cntN L x.toNat) i) p = wO L c i (skP (plN c i (cntN L x.toNat)) p)) ∧ ∀ a b : Int, 0 ≤ a ∧ a < 6 → 0 ≤ b ∧ b < 6 → wB (clr L x) (rc L c (cntN L x.toNat) i) (rk L c (cntN L x.toNat) i) (6 * a + b) = if a = x ∨ b = x then 0 else wB L c i (6 * a + b)
  | 0, _ => ⟨fun p p0 p1 => ord_clr hL hx p0 p1, fun a b _ _ => by
    show (0 : Int) = if a = x ∨ b = x then 0 else 0
    split <;> rfl⟩
  | i + 1, v => by
    have v' := vC_less v (Nat.le_succ i)
    obtain ⟨ihA, ihB⟩ := lg_all hL hx v'
    have hc := v i (by omega) (by omega)
    have oc := ord_cnt hL hx
    have cr := cntN_R L x.toNat
    have hP := plN_R v' (cntN L x.toNat) cr.1 oc.2
    have hat := wO_at (c := c) hL hx i
    have r1 := wO_R hL v' (c i / 2) (by omega) (by omega)
    have r2 := wO_R hL v' (c i / 2 + 1) (by omega) (by omega)
    obtain ⟨q, hq⟩ : ∃ q, cntN L x.toNat = q := ⟨_, rfl⟩
    rw [hq] at ihA ihB hP hat ⊢
    obtain ⟨P, eP⟩ : ∃ P, plN c i q = P := ⟨_, rfl⟩
    rw [eP] at ihA hP hat
    have w1 : ∀ z : Int, wO L c (i + 1) z = if z = c i / 2 then wO L c i (c i / 2 + 1) else if z = c i / 2 + 1 then wO L c i (c i / 2) else wO L c i z := fun z => rfl
    have ne1 : P ≠ c i / 2 → wO L c i (c i / 2) ≠ x := fun h e => h (wO_inj hL v' P (c i / 2) hP.1 hP.2 (by omega) (by omega) (hat.trans e.symm))
    have ne2 : P ≠ c i / 2 + 1 → wO L c i (c i / 2 + 1) ≠ x := fun h e => h (wO_inj hL v' P (c i / 2 + 1) hP.1 hP.2 (by omega) (by omega) (hat.trans e.symm))
    have w2 : ∀ j : Int, wB L c (i + 1) j = if j = 6 * wO L c i (c i / 2) + wO L c i (c i / 2 + 1) ∨ j = 6 * wO L c i (c i / 2 + 1) + wO L c i (c i / 2) then wB L c i j + sgn (c i) else wB L c i j := fun j => rfl
    by_cases e : P = c i / 2 ∨ P = c i / 2 + 1
    · have ek : rk L c q (i + 1) = rk L c q i := by
        simp only [rk]
        rw [eP, if_pos e]
      have ec : rc L c q (i + 1) = rc L c q i := by
        simp only [rc]
        rw [eP, if_pos e]
      rw [ek, ec]
      have eP2 : plN c (i + 1) q = plA P (c i / 2) := by
        show plA (plN c i q) (c i / 2) = _
        rw [eP]
      rw [eP2]
      constructor
      · intro p p0 p1
        rw [ihA p p0 p1, w1]
        have pa := plA_is P (c i / 2)
        generalize plA P (c i / 2) = P2 at pa
        rcases e with e | e
        · have e2 : P2 = c i / 2 + 1 := by omega
          by_cases z1 : p < c i / 2
          · have s1 : skP P2 p = p := if_pos (by omega)
            have s2 : skP P p = p := if_pos (by omega)
            rw [s1, s2, if_neg (by omega), if_neg (by omega)]
          · by_cases z2 : p = c i / 2
            · have s1 : skP P2 p = p := if_pos (by omega)
              have s2 : skP P p = p + 1 := if_neg (by omega)
              rw [s1, s2, if_pos z2, z2]
            · have s1 : skP P2 p = p + 1 := if_neg (by omega)
              have s2 : skP P p = p + 1 := if_neg (by omega)
              rw [s1, s2, if_neg (by omega), if_neg (by omega)]
        · have e2 : P2 = c i / 2 := by omega
          by_cases z1 : p < c i / 2
          · have s1 : skP P2 p = p := if_pos (by omega)
            have s2 : skP P p = p := if_pos (by omega)
            rw [s1, s2, if_neg (by omega), if_neg (by omega)]
          · by_cases z2 : p = c i / 2
            · have s1 : skP P2 p = p + 1 := if_neg (by omega)
              have s2 : skP P p = p := if_pos (by omega)
              rw [s1, s2, if_neg (by omega), if_pos (by omega), z2]
            · have s1 : skP P2 p = p + 1 := if_neg (by omega)
              have s2 : skP P p = p + 1 := if_neg (by omega)
              rw [s1, s2, if_neg (by omega), if_neg (by omega)]
      · intro a b ha hb
        rw [ihB a b ha hb, w2]
        by_cases z : a = x ∨ b = x
        · rw [if_pos z, if_pos z]
        · rw [if_neg z, if_neg z]
          rcases e with e | e
          · rw [e] at hat
            rw [if_neg (by omega)]
          · rw [e] at hat
            rw [if_neg (by omega)]
    · obtain ⟨m, em⟩ : ∃ m, rk L c q i = m := ⟨_, rfl⟩
      obtain ⟨y, ey⟩ : ∃ y, (if P < c i / 2 then c i - 2 else c i) = y := ⟨_, rfl⟩
      have hy : (P < c i / 2 ∧ y = c i - 2) ∨ (c i / 2 + 1 < P ∧ y = c i) := by
        rw [← ey]
        by_cases z : P < c i / 2
        · rw [if_pos z]
          exact Or.inl ⟨z, rfl⟩
        · rw [if_neg z]
          exact Or.inr ⟨by omega, rfl⟩
      have ek : rk L c q (i + 1) = m + 1 := by
        simp only [rk]
        rw [eP, if_neg e, em]
      have ec : rc L c q (i + 1) = fun j => if j = (m : Int) then y else rc L c q i j := by
        simp only [rc]
        rw [eP, if_neg e, em, ey]
      have eP2 : plN c (i + 1) q = P := by
        show plA (plN c i q) (c i / 2) = _
        rw [eP]
        have pa := plA_is P (c i / 2)
        omega
      rw [em] at ihA ihB
      obtain ⟨c2, ec2⟩ : ∃ c2, rc L c q (i + 1) = c2 := ⟨_, rfl⟩
      have ecm : c2 m = y := by
        rw [← ec2, ec]
        exact if_pos rfl
      have cg := w_cg (L := clr L x) (c := c2) (c' := rc L c q i) (n := m) (fun j j0 j1 => by
        rw [← ec2, ec]
        exact if_neg (by omega))
      rw [ek, ec2, eP2]
      have u1 : ∀ z : Int, wO (clr L x) c2 (m + 1) z = if z = y / 2 then wO (clr L x) (rc L c q i) m (y / 2 + 1) else if z = y / 2 + 1 then wO (clr L x) (rc L c q i) m (y / 2) else wO (clr L x) (rc L c q i) m z := fun z => by
        show (if z = c2 m / 2 then wO (clr L x) c2 m (c2 m / 2 + 1) else if z = c2 m / 2 + 1 then wO (clr L x) c2 m (c2 m / 2) else wO (clr L x) c2 m z) = _
        rw [ecm, cg.1]
      have u2 : ∀ j : Int, wB (clr L x) c2 (m + 1) j = if j = 6 * wO (clr L x) (rc L c q i) m (y / 2) + wO (clr L x) (rc L c q i) m (y / 2 + 1) ∨ j = 6 * wO (clr L x) (rc L c q i) m (y / 2 + 1) + wO (clr L x) (rc L c q i) m (y / 2) then wB (clr L x) (rc L c q i) m j + sgn y else wB (clr L x) (rc L c q i) m j := fun j => by
        show (if j = 6 * wO (clr L x) c2 m (c2 m / 2) + wO (clr L x) c2 m (c2 m / 2 + 1) ∨ j = 6 * wO (clr L x) c2 m (c2 m / 2 + 1) + wO (clr L x) c2 m (c2 m / 2) then wB (clr L x) c2 m j + sgn (c2 m) else wB (clr L x) c2 m j) = _
        rw [ecm, cg.1, cg.2.1]
      have k1 : wO (clr L x) (rc L c q i) m (y / 2) = wO L c i (c i / 2) := by
        rw [ihA _ (by omega) (by omega)]
        congr 1
        unfold skP
        split <;> omega
      have k2 : wO (clr L x) (rc L c q i) m (y / 2 + 1) = wO L c i (c i / 2 + 1) := by
        rw [ihA _ (by omega) (by omega)]
        congr 1
        unfold skP
        split <;> omega
      have sg : sgn y = sgn (c i) := by
        have : y % 2 = c i % 2 := by omega
        unfold sgn
        rw [this]
      constructor
      · intro p p0 p1
        rw [u1, k1, k2, w1, ihA p p0 p1]
        have sk : skP P p = if p < P then p else p + 1 := rfl
        by_cases z1 : p = y / 2
        · rw [if_pos z1, if_pos (by rw [sk]; split <;> omega)]
        · rw [if_neg z1, if_neg (show ¬ skP P p = c i / 2 by rw [sk]; split <;> omega)]
          by_cases z2 : p = y / 2 + 1
          · rw [if_pos z2, if_pos (by rw [sk]; split <;> omega)]
          · rw [if_neg z2, if_neg (show ¬ skP P p = c i / 2 + 1 by rw [sk]; split <;> omega)]
      · intro a b ha hb
        have n1 := ne1 (by omega)
        have n2 := ne2 (by omega)
        rw [u2, k1, k2, sg, w2, ihB a b ha hb]
        by_cases z : a = x ∨ b = x
        · rw [if_pos z, if_pos z, if_neg (by omega)]
        · rw [if_neg z, if_neg z]
end PB8
