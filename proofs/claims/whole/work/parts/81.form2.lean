/-! THE REFERENCE'S FORMS: settling -/
section FO2
variable {d : Nat} {h0 : pheap} {s t u : St} {Q : Option pv → pheap → Prop} {N : Nat} {f a : Int} {x : PM} {E : SQ} {e n : Nat} {h : Int}
/-- the factors of a form lie in its cells -/
def CL (s : St) (f : Int) (E : SQ) (e N : Nat) : Prop := ∀ k : Nat, k < e → CE s (6 * (100 * f + k)) (E k) N
/-- no more than one form is touched -/
def ffr (f : Int) (s t : St) : Prop := ∀ (c : Nat) (r : Int), ¬ (c = 120 ∧ 600 * f ≤ r ∧ r < 600 * f + 600) → ¬ (c = 118 ∧ r = f) → ¬ (c = 119 ∧ r = f) → t c r = s c r
theorem ffr_rfl : ffr f s s := fun _ _ _ _ _ => rfl
theorem ffr_tr (h1 : ffr f s t) (h2 : ffr f t u) : ffr f s u := fun c r q1 q2 q3 => (h2 c r q1 q2 q3).trans (h1 c r q1 q2 q3)
theorem efr.ff {j k : Nat} (g : efr (6 * (100 * f + j)) (6 * (100 * f + k)) s t) (hj : j < 100) (hk : k < 100) : ffr f s t := fun c r q1 _ _ => g c r (by omega)
def FM (N : Nat) (f : Int) (n : Nat) (h : Int) (E : SQ) (e : Nat) (s : St) : Prop := s 118 f = h ∧ s 119 f = e ∧ (-(n : Int) ≤ h ∧ h + e ≤ n ∧ e ≤ n) ∧ okF N (h, E, e) ∧ CL s f E e N
def STd (N : Nat) (E : SQ) (e : Nat) : Prop := Nm N E ∧ (0 < e → E 0 ≠ dP N) ∧ (0 < e → E (e - 1) ≠ idP)
def tgt (w : Int) (N i : Nat) : Nat := if w = 0 then i else N - 1 - i
theorem tgt_0 (hx : isPm N x) : (∀ i, i < N → x.1 i = tgt 0 N i) ↔ x = idP := by
  constructor
  · intro q
    refine pm_ext hx (isPm_id N) (fun i => ?_)
    by_cases z : i < N
    · exact q i z
    · exact hx.2.2 i (by omega)
  · intro q i _
    rw [q]
    rfl
theorem tgt_1 (hx : isPm N x) : (∀ i, i < N → x.1 i = tgt 1 N i) ↔ x = dP N := by
  constructor
  · intro q
    refine pm_ext hx (isPm_d N) (fun i => ?_)
    by_cases z : i < N
    · rw [q i z]
      exact (dl_lt z).symm
    · rw [hx.2.2 i (by omega)]
      exact (if_neg (by omega)).symm
  · intro q i z
    rw [q]
    exact dl_lt z
theorem r_isFactor (hd : 1 ≤ d) (hN : N ≤ 6) (h41 : s 94 41 = N) (hx : isPm N x) (ha : 0 ≤ a ∧ a + 6 ≤ 1200) (hc : CE s a x N) {w : Int} (hw : w = 0 ∨ w = 1) (kT : (∀ i, i < N → x.1 i = tgt w N i) → Q (some (vI 1)) (HP h0 s)) (kF : ¬ (∀ i, i < N → x.1 i = tgt w N i) → Q (some (vI 0)) (HP h0 s)) : wpM PP d 115 [vR 94, vI a, vI w] (HP h0 s) Q := by
  have hwR : 0 ≤ w ∧ w ≤ 1 := by omega
  have L1 : ∀ M : Nat, ∀ (k : Nat) (kk : Int), (kk = k) → (M = N - k ∧ k ≤ N) → (∀ i, i < k → x.1 i = tgt w N i) →  wp PP d mb115 (mb115.getD 1 []) [some (vR 94), some (vI a), some (vI w), some (vI kk)] [] (HP h0 s) Q := by
    refine s_ind (fun M ih => ?_)
    intro k kk hkk hn2 g1
    subst hkk
    refine x_iload rfl ?_
    refine x_aload rfl ?_
    refine h_getI 41 sc_94 rfl rfl ?_
    rw [h41]
    refine n_icmp_ge ⟨by omega, by omega⟩ ⟨by omega, by omega⟩ (fun c1 => ?_) (fun c1 => ?_)
    · refine x_ci ?_
      refine x_zret (by first | exact bI_01 _ | omega) ?_
      first
        | exact kT (fun i hi => g1 i (by omega))
        | (refine kF (fun z => ?_)
           have z := z k (by omega)
           unfold tgt at z
           first
             | (rw [if_neg (by omega)] at z
                omega)
             | (rw [if_pos (by omega)] at z
                omega))
    · refine x_aload rfl ?_
      refine h_getR sc_94 rfl (by omega) ?_
      refine x_iload rfl ?_
      refine x_iload rfl ?_
      refine x_iadd ?_
      refine h_iald sc_120 ⟨by omega, by omega⟩ (by decide) ?_
      rw [hc k (by omega)]
      have lk := hx.lt (i := k) (by omega)
      refine x_iload rfl ?_
      refine n_if_ne ⟨by omega, by omega⟩ (fun c2 => ?_) (fun c2 => ?_)
      · refine x_aload rfl ?_
        refine h_getI 41 sc_94 rfl rfl ?_
        rw [h41]
        refine x_ci ?_
        refine x_isub ?_
        refine x_iload rfl ?_
        refine x_isub ?_
        refine x_fall ?_
        refine n_icmp_eq ⟨by omega, by omega⟩ ⟨by omega, by omega⟩ (fun c3 => ?_) (fun c3 => ?_)
        · refine n_iinc [some (vR _), some (vI _), some (vI _), some (vI _)] rfl rfl ?_
          refine x_goto ?_
          refine ih (N - (k + 1)) (by omega) (k + 1) _ (by omega) (by omega) (fun i hi => ?_)
          by_cases q : i = k
          · subst q
            unfold tgt
            rw [if_neg (by omega)]
            omega
          · exact g1 i (by omega)
        · refine x_ci ?_
          refine x_zret (by first | exact bI_01 _ | omega) ?_
          first
            | exact kT (fun i hi => g1 i (by omega))
            | (refine kF (fun z => ?_)
               have z := z k (by omega)
               unfold tgt at z
               first
                 | (rw [if_neg (by omega)] at z
                    omega)
                 | (rw [if_pos (by omega)] at z
                    omega))
      · refine x_iload rfl ?_
        refine x_goto ?_
        refine n_icmp_eq ⟨by omega, by omega⟩ ⟨by omega, by omega⟩ (fun c3 => ?_) (fun c3 => ?_)
        · refine n_iinc [some (vR _), some (vI _), some (vI _), some (vI _)] rfl rfl ?_
          refine x_goto ?_
          refine ih (N - (k + 1)) (by omega) (k + 1) _ (by omega) (by omega) (fun i hi => ?_)
          by_cases q : i = k
          · subst q
            unfold tgt
            rw [if_pos (by omega)]
            omega
          · exact g1 i (by omega)
        · refine x_ci ?_
          refine x_zret (by first | exact bI_01 _ | omega) ?_
          first
            | exact kT (fun i hi => g1 i (by omega))
            | (refine kF (fun z => ?_)
               have z := z k (by omega)
               unfold tgt at z
               first
                 | (rw [if_neg (by omega)] at z
                    omega)
                 | (rw [if_pos (by omega)] at z
                    omega))
  refine n_at (m := 115) (q := mr115) (kn := (0, 3)) [some (vR _), some (vI _), some (vI _), none] mb115 rfl rfl (h_rcv sc_94) (Nat.le_of_ble_eq_true rfl) rfl rfl ?_
  refine x_ci ?_
  refine n_istore [some (vR _), some (vI _), some (vI _), some (vI _)] (Nat.le_of_ble_eq_true rfl) rfl ?_
  refine x_fall ?_
  exact L1 N 0 0 rfl (by omega) (fun i hi => by omega)
theorem qmk_halfs : ∀ (k : Nat) {h : Int} {E : SQ} {e : Nat} (o : okF N (h, E, e + k)) (_ : ∀ j, j < k → E j = dP N) (o' : okF N (h + k, fun j => E (j + k), e)), qmk N (h, E, e + k) o = qmk N (h + k, fun j => E (j + k), e) o'
  | 0, h, E, e, o, _, o' => qmk_cg (by
    show (h, E, e) = (h + ((0 : Nat) : Int), E, e)
    rw [show h + ((0 : Nat) : Int) = h by omega])
  | k + 1, h, E, e, o, g, o' => by
    have oE : okS N E := o.1
    have sE : su (e + k + 1) E := o.2
    have o1 : okF N (h + 1, fun j => E (j + 1), e + k) := ⟨fun j => oE (j + 1), su_dn sE⟩
    have a := qmk_half (N := N) (f := h) (F := E) (r := e + k) o (g 0 (by omega)) o1
    have b := qmk_halfs k (h := h + 1) (E := fun j => E (j + 1)) (e := e) o1 (fun j q => g (j + 1) (by omega)) (by
      rw [show h + 1 + (k : Int) = h + ((k + 1 : Nat) : Int) by omega]
      exact o')
    refine a.trans (b.trans (qmk_cg ?_))
    rw [show h + 1 + (k : Int) = h + ((k + 1 : Nat) : Int) by omega]
    rfl
theorem Nm_shift {k : Nat} (hE : Nm N E) : Nm N (fun j => E (j + k)) := fun j p a => hE (j + k) p ⟨a.1, by
  have := a.2.1
  rw [show j + k + 1 = j + 1 + k by omega]
  exact this, a.2.2⟩
theorem mvd_su {k p : Nat} {F : SQ} {r : Nat} (hs : su r F) (hk : r ≤ k + 1) : ¬ mvd N F k p := fun a => by
  have := su_mv hs a
  omega
theorem st_9 (hd : 2 ≤ d) (hf : 0 ≤ f ∧ f < 2) {t0 : St} {mo w : Int} (h119 : t0 119 f = e) (hw : 0 ≤ w ∧ w + e ≤ 99) (kL : ∀ t, (∀ (c : Nat) (r : Int), t c r = if c = 120 ∧ 600 * f ≤ r ∧ r < 600 * f + 6 * (e : Int) then t0 120 (r + 6 * w) else t0 c r) → Q none (HP h0 t)) : wp PP d mb116 (mb116.getD 9 []) [some (vR 94), some (vI f), some (vI mo), some (vI w), some (vI 0)] [] (HP h0 t0) Q := by
  have L9 : ∀ N : Nat, ∀ (k : Int) (t : St), (N = 6 * e - k.toNat) → (0 ≤ k ∧ k ≤ 6 * (e : Int)) → ((∀ (c : Nat) (r : Int), t c r = if c = 120 ∧ 600 * f ≤ r ∧ r < 600 * f + k then t0 120 (r + 6 * w) else t0 c r)) →  wp PP d mb116 (mb116.getD 9 []) [some (vR 94), some (vI f), some (vI mo), some (vI w), some (vI k)] [] (HP h0 t) Q := by
    refine s_ind (fun N ih => ?_)
    intro k t hn2 hk g1
    refine x_iload rfl ?_
    refine x_ci ?_
    refine x_aload rfl ?_
    refine h_getR sc_94 rfl (by omega) ?_
    refine x_iload rfl ?_
    refine h_iald sc_119 ⟨by omega, by omega⟩ (by decide) ?_
    rw [g1, if_neg (by omega), h119]
    refine x_imul ?_
    refine n_icmp_ge ⟨by omega, by omega⟩ ⟨by omega, by omega⟩ (fun c1 => ?_) (fun c1 => ?_)
    · refine x_ret ?_
      exact kL t (fun c r => by rw [g1, show k = 6 * (e : Int) by omega])
    · refine x_aload rfl ?_
      refine h_getR sc_94 rfl (by omega) ?_
      refine x_iload rfl ?_
      refine x_ci ?_
      refine n_call [vI _, vI _] [vR _] (by omega) (Nat.le_of_ble_eq_true rfl) rfl rfl (Nat.le_of_ble_eq_true rfl) ?_
      refine r_slot ?_
      show wp PP _ _ _ [some (vR _), some (vI _), some (vI _), some (vI _), some (vI _)] [vI _, vR _] _ _
      refine x_iload rfl ?_
      refine x_iadd ?_
      refine x_aload rfl ?_
      refine h_getR sc_94 rfl (by omega) ?_
      refine x_iload rfl ?_
      refine x_iload rfl ?_
      refine n_call [vI _, vI _] [vR _, vI _, vR _] (by omega) (Nat.le_of_ble_eq_true rfl) rfl rfl (Nat.le_of_ble_eq_true rfl) ?_
      refine r_slot ?_
      show wp PP _ _ _ [some (vR _), some (vI _), some (vI _), some (vI _), some (vI _)] [vI _, vR _, vI _, vR _] _ _
      refine x_iload rfl ?_
      refine x_iadd ?_
      refine h_iald sc_120 ⟨by omega, by omega⟩ (by decide) ?_
      refine h_iast sc_120 ⟨by omega, by omega⟩ (by decide) ?_
      refine n_iinc [some (vR _), some (vI _), some (vI _), some (vI _), some (vI _)] rfl rfl ?_
      refine x_goto ?_
      refine ih (6 * e - (k + 1).toNat) (by omega) (k + 1) _ (by omega) (by omega) (fun c r => ?_)
      by_cases q : c = 120 ∧ r = 600 * f + k
      · rw [q.1, q.2, if_pos (by omega), up_at, if_pos (by omega), g1, if_neg (by omega)]
        congr 1
        omega
      · rw [up_f (by omega), g1]
        by_cases q2 : c = 120 ∧ 600 * f ≤ r ∧ r < 600 * f + k
        · rw [if_pos q2, if_pos (by omega)]
        · rw [if_neg q2, if_neg (by omega)]
  refine L9 _ 0 t0 rfl (by omega) (fun c r => ?_)
  rw [if_neg (by omega)]
theorem st_6 (hd : 2 ≤ d) (hf : 0 ≤ f ∧ f < 2) (hN : N ≤ 6) (h41 : s 94 41 = N) (hn : n ≤ 98) (hF : FM N f n h E e s) (hS : Nm N E ∧ (0 < e → E (e - 1) ≠ idP)) {mo : Int} {ob : Option pv} (k9 : ∀ t h2 E2 e2, FM N f n h2 E2 e2 t → STd N E2 e2 → (∀ o o2, qmk N (h, E, e) o = qmk N (h2, E2, e2) o2) → ffr f s t → Q none (HP h0 t)) : wp PP d mb116 (mb116.getD 6 []) [some (vR 94), some (vI f), some (vI mo), some (vI 0), ob] [] (HP h0 s) Q := by
  have hb := hF.2.2.1
  have oE : okS N E := hF.2.2.2.1.1
  have sE : su e E := hF.2.2.2.1.2
  have out7 : ∀ (k : Nat) (ob : Option pv), k ≤ e → (g7 : ∀ j, j < k → E j = dP N) → (z7 : k < e → E k ≠ dP N) → wp PP d mb116 (mb116.getD 7 []) [some (vR 94), some (vI f), some (vI mo), some (vI (k : Int)), ob] [] (HP h0 s) Q := by
    intro k ob hke g7 z7
    refine x_iload rfl ?_
    refine n_if_ne ⟨by omega, by omega⟩ (fun c1 => ?_) (fun c1 => ?_)
    · refine x_aload rfl ?_
      refine h_getR sc_94 rfl (by omega) ?_
      refine x_iload rfl ?_
      refine x_dup2 ?_
      refine h_iald sc_118 ⟨by omega, by omega⟩ (by decide) ?_
      rw [hF.1]
      refine x_iload rfl ?_
      refine x_iadd ?_
      refine h_iast sc_118 ⟨by omega, by omega⟩ (by decide) ?_
      refine x_aload rfl ?_
      refine h_getR sc_94 rfl (by omega) ?_
      refine x_iload rfl ?_
      refine x_dup2 ?_
      refine h_iald sc_119 ⟨by omega, by omega⟩ (by decide) ?_
      rw [up_a (b := 119) (by decide), hF.2.1]
      refine x_iload rfl ?_
      refine x_isub ?_
      refine h_iast sc_119 ⟨by omega, by omega⟩ (by decide) ?_
      refine x_ci ?_
      refine n_istore [some (vR _), some (vI _), some (vI _), some (vI _), some (vI _)] (Nat.le_of_ble_eq_true rfl) rfl ?_
      refine x_fall ?_
      refine st_9 (e := e - k) (w := (k : Int)) (by omega) hf ?_ (by omega) (fun t gt_ => ?_)
      · rw [up_e]
        omega
      · have gt2 : ∀ (c : Nat) (r : Int), ¬ (c = 120 ∧ 600 * f ≤ r ∧ r < 600 * f + 600) → ¬ (c = 118 ∧ r = f) → ¬ (c = 119 ∧ r = f) → t c r = s c r := fun c r q1 q2 q3 => by
          rw [gt_, if_neg (by omega), up_f (by omega), up_f (by omega)]
        have oE2 : okF N (h + k, fun j => E (j + k), e - k) := ⟨fun j => oE (j + k), fun j hj => sE (j + k) (by have hj : e - k ≤ j := hj; omega)⟩
        refine k9 t (h + k) (fun j => E (j + k)) (e - k) ⟨?_, ?_, by omega, oE2, fun j hj i hi => ?_⟩ ⟨Nm_shift hS.1, fun q => ?_, fun q => ?_⟩ (fun o o2 => ?_) gt2
        · rw [gt_, if_neg (by omega), up_a (by decide), up_e]
        · rw [gt_, if_neg (by omega), up_e]
          omega
        · rw [gt_, if_pos (by omega), up_a (by decide), up_a (by decide)]
          have := hF.2.2.2.2 (j + k) (by omega) i hi
          rw [← this]
          congr 1
          omega
        · show E (0 + k) ≠ dP N
          rw [Nat.zero_add]
          exact z7 (by omega)
        · show E (e - k - 1 + k) ≠ idP
          rw [show e - k - 1 + k = e - 1 by omega]
          exact hS.2 (by omega)
        · have e1 : e - k + k = e := by omega
          have a := qmk_halfs k (h := h) (E := E) (e := e - k) (by rw [e1]; exact o) g7 oE2
          rw [← a]
          exact qmk_cg (by rw [e1])
    · refine x_ret ?_
      have e0 : k = 0 := by omega
      subst e0
      exact k9 s h E e hF ⟨hS.1, fun q => z7 (by omega), fun q => hS.2 q⟩ (fun o o2 => qmk_cg rfl) ffr_rfl
  have L6 : ∀ M : Nat, ∀ {o4 : Option pv} (k : Nat) (kk : Int), (kk = k) → (M = e - k ∧ k ≤ e) → (∀ j, j < k → E j = dP N) →  wp PP d mb116 (mb116.getD 6 []) [some (vR 94), some (vI f), some (vI mo), some (vI kk), o4] [] (HP h0 s) Q := by
    refine s_ind (fun M ih => ?_)
    intro o4 k kk hkk hn2 g1
    subst hkk
    refine x_iload rfl ?_
    refine x_aload rfl ?_
    refine h_getR sc_94 rfl (by omega) ?_
    refine x_iload rfl ?_
    refine h_iald sc_119 ⟨by omega, by omega⟩ (by decide) ?_
    rw [hF.2.1]
    refine n_icmp_ge ⟨by omega, by omega⟩ ⟨by omega, by omega⟩ (fun c1 => ?_) (fun c1 => ?_)
    · exact out7 k _ (by omega) g1 (fun q => absurd q (by omega))
    · refine x_aload rfl ?_
      refine x_iload rfl ?_
      refine x_iload rfl ?_
      refine n_call [vI _, vI _] [vR _] (by omega) (Nat.le_of_ble_eq_true rfl) rfl rfl (Nat.le_of_ble_eq_true rfl) ?_
      refine r_slot ?_
      show wp PP _ _ _ [some (vR _), some (vI _), some (vI _), some (vI _), _] [vI _, vR _] _ _
      refine x_ci ?_
      refine n_call [vR _, vI _, vI _] [] (by omega) (Nat.le_of_ble_eq_true rfl) rfl rfl (Nat.le_of_ble_eq_true rfl) ?_
      refine r_isFactor (by omega) hN h41 (oE k) ⟨by omega, by omega⟩ (hF.2.2.2.2 k (by omega)) (Or.inr rfl) (fun z => ?_) (fun z => ?_)
      · have z := (tgt_1 (oE k)).mp z
        show wp PP _ _ _ _ [vI _] _ _
        refine n_if_eq ⟨by omega, by omega⟩ (fun z => by omega) (fun _ => ?_)
        refine n_iinc [_, _, _, _, _] rfl rfl ?_
        refine x_goto ?_
        refine ih (e - (k + 1)) (by omega) (k + 1) _ (by omega) (by omega) (fun j hj => ?_)
        by_cases q : j = k
        · rw [q]
          exact z
        · exact g1 j (by omega)
      · have z := fun q => z ((tgt_1 (oE k)).mpr q)
        show wp PP _ _ _ _ [vI _] _ _
        refine n_if_eq ⟨by omega, by omega⟩ (fun _ => ?_) (fun z => absurd rfl z)
        exact out7 k _ (by omega) g1 (fun _ => z)
  exact L6 e 0 0 rfl (by omega) (fun j hj => by omega)
theorem st_4 (hd : 2 ≤ d) (hf : 0 ≤ f ∧ f < 2) (hN : N ≤ 6) (h41 : s 94 41 = N) (hn : n ≤ 98) (hF : FM N f n h E e s) (hNm : Nm N E) {mo : Int} {oa ob : Option pv} (k9 : ∀ t h2 E2 e2, FM N f n h2 E2 e2 t → STd N E2 e2 → (∀ o o2, qmk N (h, E, e) o = qmk N (h2, E2, e2) o2) → ffr f s t → Q none (HP h0 t)) : wp PP d mb116 (mb116.getD 4 []) [some (vR 94), some (vI f), some (vI mo), oa, ob] [] (HP h0 s) Q := by
  have L4 : ∀ M : Nat, ∀ {o3 o4 : Option pv} (e : Nat) (s : St), (M = e) → (e ≤ n) → (FM N f n h E e s) → (s 94 41 = N) → (∀ t h2 E2 e2, FM N f n h2 E2 e2 t → STd N E2 e2 → (∀ o o2, qmk N (h, E, e) o = qmk N (h2, E2, e2) o2) → ffr f s t → Q none (HP h0 t)) →  wp PP d mb116 (mb116.getD 4 []) [some (vR 94), some (vI f), some (vI mo), o3, o4] [] (HP h0 s) Q := by
    refine s_ind (fun M ih => ?_)
    intro o3 o4 e s hM hb hF h41 k9
    have hb2 := hF.2.2.1
    have oE : okS N E := hF.2.2.2.1.1
    have sE : su e E := hF.2.2.2.1.2
    refine x_aload rfl ?_
    refine h_getR sc_94 rfl (by omega) ?_
    refine x_iload rfl ?_
    refine h_iald sc_119 ⟨by omega, by omega⟩ (by decide) ?_
    rw [hF.2.1]
    refine n_if_le ⟨by omega, by omega⟩ (fun c1 => ?_) (fun c1 => ?_)
    · refine x_ci ?_
      refine n_istore [some (vR _), some (vI _), some (vI _), some (vI _), _] (Nat.le_of_ble_eq_true rfl) rfl ?_
      refine x_fall ?_
      exact st_6 hd hf hN h41 hn hF ⟨hNm, fun q => absurd q (by omega)⟩ k9
    · refine x_aload rfl ?_
      refine x_iload rfl ?_
      refine x_aload rfl ?_
      refine h_getR sc_94 rfl (by omega) ?_
      refine x_iload rfl ?_
      refine h_iald sc_119 ⟨by omega, by omega⟩ (by decide) ?_
      rw [hF.2.1]
      refine x_ci ?_
      refine x_isub ?_
      refine n_call [vI _, vI _] [vR _] (by omega) (Nat.le_of_ble_eq_true rfl) rfl rfl (Nat.le_of_ble_eq_true rfl) ?_
      refine r_slot ?_
      show wp PP _ _ _ [some (vR _), some (vI _), some (vI _), _, _] [vI _, vR _] _ _
      refine x_ci ?_
      obtain ⟨e1, rfl⟩ : ∃ e1, e = e1 + 1 := ⟨e - 1, by omega⟩
      refine n_call [vR _, vI _, vI _] [] (by omega) (Nat.le_of_ble_eq_true rfl) rfl rfl (Nat.le_of_ble_eq_true rfl) ?_
      refine r_isFactor (x := E e1) (by omega) hN h41 (oE e1) ⟨by omega, by omega⟩ (by rw [show (100 * f + (((e1 + 1 : Nat) : Int) - 1)) = 100 * f + (e1 : Int) by omega]; exact hF.2.2.2.2 e1 (by omega)) (Or.inl rfl) (fun z => ?_) (fun z => ?_)
      · have z := (tgt_0 (oE e1)).mp z
        show wp PP _ _ _ _ [vI _] _ _
        refine n_if_eq ⟨by omega, by omega⟩ (fun z => by omega) (fun _ => ?_)
        refine x_aload rfl ?_
        refine h_getR sc_94 rfl (by omega) ?_
        refine x_iload rfl ?_
        refine x_dup2 ?_
        refine h_iald sc_119 ⟨by omega, by omega⟩ (by decide) ?_
        rw [hF.2.1]
        refine x_ci ?_
        refine x_isub ?_
        refine h_iast sc_119 ⟨by omega, by omega⟩ (by decide) ?_
        refine x_goto ?_
        have sE1 : su e1 E := fun j hj => by
          by_cases q : j = e1
          · rw [q]
            exact z
          · exact sE j (by omega)
        have o1 : okF N (h, E, e1) := ⟨oE, sE1⟩
        refine ih e1 (by omega) e1 _ rfl (by omega) ⟨(up_a (by decide)).trans hF.1, ?_, by omega, o1, fun j hj i hi => ?_⟩ ((up_a (by decide)).trans h41) (fun t h2 E2 e2 k1 k2 k3 k4 => ?_)
        · rw [up_e]
          omega
        · rw [up_a (by decide)]
          exact hF.2.2.2.2 j (by omega) i hi
        · refine k9 t h2 E2 e2 k1 k2 (fun o o2 => ?_) (fun c r q1 q2 q3 => ?_)
          · rw [← k3 o1 o2]
            exact (qmk_pad o1 o).symm
          · rw [k4 c r q1 q2 q3, up_f (by omega)]
      · have z := fun q => z ((tgt_0 (oE e1)).mpr q)
        show wp PP _ _ _ _ [vI _] _ _
        refine n_if_eq ⟨by omega, by omega⟩ (fun _ => ?_) (fun z => absurd rfl z)
        refine x_ci ?_
        refine n_istore [_, _, _, some (vI _), _] (Nat.le_of_ble_eq_true rfl) rfl ?_
        refine x_fall ?_
        exact st_6 hd hf hN h41 hn hF ⟨hNm, fun _ => z⟩ k9
  exact L4 e e s rfl hF.2.2.1.2.2 hF h41 k9
theorem r_settles (hd : 4 ≤ d) (hf : 0 ≤ f ∧ f < 2) (hN : N ≤ 6) (h41 : s 94 41 = N) (hn : n ≤ 98) (hF : FM N f n h E e s) (k9 : ∀ t h2 E2 e2, FM N f n h2 E2 e2 t → STd N E2 e2 → (∀ o o2, qmk N (h, E, e) o = qmk N (h2, E2, e2) o2) → ffr f s t → Q none (HP h0 t)) : wpM PP d 116 [vR 94, vI f] (HP h0 s) Q := by
  have hb := hF.2.2.1
  have g41 : ∀ t, ffr f s t → t 94 41 = N := fun t g => (g 94 41 (by omega) (by omega) (by omega)).trans h41
  have L1 : ∀ M0 : Nat, ∀ {o3 o4 : Option pv} (w : Int) (G0 : SQ) (t : St), ((w = 0 ∧ M0 = 2 * me G0 e ∧ ∀ i q, ¬ mvd N G0 i q) ∨ (w = 1 ∧ M0 = 2 * me G0 e + 1)) → (FM N f n h G0 e t) → (∃ m1, Rd N m1 E G0) → (ffr f s t) →  wp PP d mb116 (mb116.getD 1 []) [some (vR 94), some (vI f), some (vI w), o3, o4] [] (HP h0 t) Q := by
    refine s_ind (fun M0 ih0 => ?_)
    intro o3 o4 w G0 t gm g1 g2 g3
    have hw01 : w = 0 ∨ w = 1 := by
      rcases gm with ⟨z, _⟩ | ⟨z, _⟩ <;> omega
    refine x_iload rfl ?_
    refine n_if_eq ⟨by omega, by omega⟩ (fun c1 => ?_) (fun c1 => ?_)
    · rcases gm with ⟨z1, z2, z3⟩ | ⟨z, _⟩
      · obtain ⟨m1, rr⟩ := g2
        refine st_4 (by omega) hf hN (g41 t g3) hn g1 (fun i q => z3 i q) (fun t2 h2 E2 e2 k1 k2 k3 k4 => ?_)
        refine k9 t2 h2 E2 e2 k1 k2 (fun o o2 => ?_) (ffr_tr g3 k4)
        rw [qmk_rd o rr g1.2.2.2.1]
        exact k3 _ _
      · exact absurd z (by omega)
    · refine x_ci ?_
      refine n_istore [some (vR _), some (vI _), some (vI _), _, _] (Nat.le_of_ble_eq_true rfl) rfl ?_
      refine x_aload rfl ?_
      refine h_getR sc_94 rfl (by omega) ?_
      refine x_iload rfl ?_
      refine h_iald sc_119 ⟨by omega, by omega⟩ (by decide) ?_
      rw [g1.2.1]
      refine x_ci ?_
      refine x_isub ?_
      refine n_istore [some (vR _), some (vI _), some (vI _), some (vI _), _] (Nat.le_of_ble_eq_true rfl) rfl ?_
      refine x_fall ?_
      have L2_pre : 2 * me G0 e + 1 = M0 := by
        rcases gm with ⟨z, _⟩ | ⟨_, z⟩
        · exact absurd z (by omega)
        · exact z.symm
      have L2 : ∀ M : Nat, ∀ {o4 : Option pv} (kk : Int) (w : Int) (G : SQ) (t : St), (M = (kk + 1).toNat) → (-1 ≤ kk ∧ kk < e ∨ (kk = -1 ∧ e = 0)) → (FM N f n h G e t) → (∃ m1, Rd N m1 E G) → (ffr f s t) → ((w = 0 ∧ G = G0 ∧ ∀ (i q : Nat), kk ≤ i → ¬ mvd N G i q) ∨ (w = 1 ∧ me G e < me G0 e)) →  wp PP d mb116 (mb116.getD 2 []) [some (vR 94), some (vI f), some (vI w), some (vI kk), o4] [] (HP h0 t) Q := by
        refine s_ind (fun M ih => ?_)
        intro o4 kk w G t hM hk g1 g2 g3 g4
        have hw01 : w = 0 ∨ w = 1 := by
          rcases g4 with ⟨z, _⟩ | ⟨z, _⟩ <;> omega
        refine x_iload rfl ?_
        refine n_if_le ⟨by omega, by omega⟩ (fun c1 => ?_) (fun c1 => ?_)
        · refine x_goto ?_
          rcases g4 with ⟨z1, z2, z3⟩ | ⟨z1, z2⟩
          · refine ih0 (2 * me G e) (by subst z2; omega) w G t (Or.inl ⟨z1, rfl, fun i q => z3 i q (by omega)⟩) g1 g2 g3
          · exact ih0 (2 * me G e + 1) (by omega) w G t (Or.inr ⟨z1, rfl⟩) g1 g2 g3
        · refine x_iload rfl ?_
          refine x_aload rfl ?_
          refine x_iload rfl ?_
          refine x_iload rfl ?_
          refine x_ci ?_
          refine x_isub ?_
          refine n_call [vI _, vI _] [vR _, vI _] (by omega) (Nat.le_of_ble_eq_true rfl) rfl rfl (Nat.le_of_ble_eq_true rfl) ?_
          refine r_slot ?_
          show wp PP _ _ _ [some (vR _), some (vI _), some (vI _), some (vI _), _] [vI _, vR _, vI _] _ _
          refine x_iload rfl ?_
          refine x_iload rfl ?_
          refine n_call [vI _, vI _] [vI _, vR _, vI _] (by omega) (Nat.le_of_ble_eq_true rfl) rfl rfl (Nat.le_of_ble_eq_true rfl) ?_
          refine r_slot ?_
          show wp PP _ _ _ [some (vR _), some (vI _), some (vI _), some (vI _), _] [vI _, vI _, vR _, vI _] _ _
          refine n_call [vR _, vI _, vI _] [vI _] (by omega) (Nat.le_of_ble_eq_true rfl) rfl rfl (Nat.le_of_ble_eq_true rfl) ?_
          obtain ⟨j, hj⟩ : ∃ j : Nat, kk = (j : Int) + 1 := ⟨kk.toNat - 1, by omega⟩
          subst hj
          refine r_weighs (F := G) (k := j) (by omega) hN (g41 t g3) ⟨by omega, by omega⟩ ⟨by omega, by omega⟩ (by omega) ⟨g1.2.2.2.1.1, by rw [show (100 * f + ((j : Int) + 1 - 1)) = 100 * f + (j : Int) by omega]; exact g1.2.2.2.2 j (by omega), by rw [show (100 * f + ((j : Int) + 1)) = 100 * f + ((j + 1 : Nat) : Int) by omega]; exact g1.2.2.2.2 (j + 1) (by omega)⟩ (fun t2 G2 m2 w2 r1 r2 r3 r4 r5 r6 => ?_)
          show wp PP _ _ _ _ [vI _, vI _] _ _
          refine x_ior ?_
          have oG : okS N G := g1.2.2.2.1.1
          have sG : su e G := g1.2.2.2.1.2
          have em := Rd_me (R := e) hN r1 oG sG
          have o2 : okF N (h, G2, e) := ⟨Rd_ok r1 oG, Rd_su r1 sG⟩
          have r5 : efr (6 * (100 * f + (j : Nat))) (6 * (100 * f + ((j + 1 : Nat) : Nat))) t t2 := by
            rw [show (100 * f + ((j : Int) + 1 - 1)) = 100 * f + (j : Int) by omega, show (100 * f + ((j : Int) + 1)) = 100 * f + ((j + 1 : Nat) : Int) by omega] at r5
            exact r5
          have r3 : W2 t2 (6 * (100 * f + (j : Nat))) (6 * (100 * f + ((j + 1 : Nat) : Nat))) N j G2 := by
            rw [show (100 * f + ((j : Int) + 1 - 1)) = 100 * f + (j : Int) by omega, show (100 * f + ((j : Int) + 1)) = 100 * f + ((j + 1 : Nat) : Int) by omega] at r3
            exact r3
          have F2 : FM N f n h G2 e t2 := by
            refine ⟨(r5 118 f (by omega)).trans g1.1, (r5 119 f (by omega)).trans g1.2.1, g1.2.2.1, o2, fun k hk => ?_⟩
            by_cases q : k = j
            · rw [q]
              exact r3.2.1
            · by_cases q2 : k = j + 1
              · rw [q2]
                exact r3.2.2
              · rw [r2 k q q2]
                exact (g1.2.2.2.2 k hk).out hN r5 (by omega) (by omega)
          have f2 := ffr_tr g3 (r5.ff (by omega) (by omega))
          obtain ⟨m1, rr⟩ := g2
          have rr2 := Rd_trans rr r1
          refine t_I (if w = 0 ∧ w2 = 0 then 0 else 1) (by
            rcases g4 with ⟨z, _⟩ | ⟨z, _⟩
            · rcases r6 with ⟨y, _⟩ | ⟨y, _⟩
              · rw [z, y]
                decide
              · rw [z, y]
                decide
            · rcases r6 with ⟨y, _⟩ | ⟨y, _⟩
              · rw [z, y]
                decide
              · rw [z, y]
                decide) ?_
          refine n_istore [_, _, _, _, _] (Nat.le_of_ble_eq_true rfl) rfl ?_
          refine n_iinc [_, _, _, _, _] rfl rfl ?_
          refine x_goto ?_
          refine ih (j + 1) (by omega) ((j : Int) + 1 + -1) _ G2 t2 (by omega) (by omega) F2 ⟨_, rr2⟩ f2 ?_
          rcases g4 with ⟨z1, z2, z3⟩ | ⟨z1, z2⟩
          · rcases r6 with ⟨y1, y2⟩ | ⟨y1, y2⟩
            · refine Or.inl ⟨if_pos ⟨z1, y1⟩, ?_, fun i q hi mv => ?_⟩
              · rw [← z2]
                subst y2
                exact r1.symm
              · by_cases q1 : i = j
                · subst q1
                  exact r4 q mv
                · subst y2
                  rw [← (show G = G2 from r1)] at mv
                  exact z3 i q (by omega) mv
            · refine Or.inr ⟨if_neg (by omega), ?_⟩
              rw [← z2]
              omega
          · refine Or.inr ⟨if_neg (by omega), by omega⟩
      refine L2 _ ((e : Int) - 1) 0 G0 t rfl (by omega) g1 g2 g3 (Or.inl ⟨rfl, rfl, fun i q hi => mvd_su g1.2.2.2.1.2 (show e ≤ i + 1 by omega)⟩)
  refine n_at (m := 116) (q := mr116) (kn := (0, 2)) [some (vR _), some (vI _), none, none, none] mb116 rfl rfl (h_rcv sc_94) (Nat.le_of_ble_eq_true rfl) rfl rfl ?_
  refine x_ci ?_
  refine n_istore [some (vR _), some (vI _), some (vI _), _, _] (Nat.le_of_ble_eq_true rfl) rfl ?_
  refine x_fall ?_
  exact L1 _ 1 E s (Or.inr ⟨rfl, rfl⟩) hF ⟨0, rfl⟩ ffr_rfl
end FO2
