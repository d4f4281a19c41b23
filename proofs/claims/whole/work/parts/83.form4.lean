/-! THE REFERENCE'S FORMS: a letter, a dance's form, none -/
section FO4
variable {d : Nat} {h0 : pheap} {s t u : St} {Q : Option pv → pheap → Prop} {N : Nat} {f g : Int} {E : SQ} {e n : Nat} {h L : Int} {c : Int → Int}
/-- a settled form, by what it is up to steps -/
def FQ (N : Nat) (f : Int) (n : Nat) (q : QF N) (s : St) : Prop := ∃ h E e, FM N f n h E e s ∧ STd N E e ∧ ∀ o, qmk N (h, E, e) o = q
theorem FQ.of {q : QF N} (hF : FQ N f n q s) (g : ∀ (b : Nat) (r : Int), b = 118 ∨ b = 119 ∨ b = 120 → t b r = s b r) : FQ N f n q t := by
  obtain ⟨h, E, e, a, b, o⟩ := hF
  exact ⟨h, E, e, a.of (E2 := E) g, b, o⟩
theorem FQ.out {q : QF N} {f2 : Int} (hF : FQ N f n q s) (hf : 0 ≤ f ∧ f < 2) (hn : n ≤ 99) (g : ffr f2 s t) (hf2 : 0 ≤ f2 ∧ f2 < 2) (hne : f ≠ f2) (hN : N ≤ 6) : FQ N f n q t := by
  obtain ⟨h, E, e, a, b, o⟩ := hF
  exact ⟨h, E, e, a.out hf hn g hf2 hne hN, b, o⟩
theorem FQ.less {q : QF N} {m : Nat} (hF : FQ N f n q s) (hm : n ≤ m) : FQ N f m q s := by
  obtain ⟨h, E, e, a, b, o⟩ := hF
  have := a.2.2.1
  exact ⟨h, E, e, ⟨a.1, a.2.1, by omega, a.2.2.2.1, a.2.2.2.2⟩, b, o⟩
/-- the word of some codes -/
def wl (c : Int → Int) : Nat → List Nat
  | 0 => []
  | n + 1 => wl c n ++ [(c n).toNat]
theorem wl_cg {c' : Int → Int} : ∀ {n : Nat}, (∀ i : Int, 0 ≤ i → i < n → c i = c' i) → wl c n = wl c' n
  | 0, _ => rfl
  | n + 1, h => by
    unfold wl
    rw [wl_cg (fun i i0 i1 => h i i0 (by omega)), h n (by omega) (by omega)]
theorem wl_vw : ∀ {n : Nat}, (∀ i : Int, 0 ≤ i → i < n → 0 ≤ c i ∧ c i < 2 * ((N : Int) - 1)) → vw 0 N (wl c n)
  | 0, _ => fun c h => by simp [wl] at h
  | n + 1, h => fun x hx => by
    rcases List.mem_append.mp hx with hx | hx
    · exact wl_vw (fun i i0 i1 => h i i0 (by omega)) x hx
    · have := h n (by omega) (by omega)
      have hx : x = (c n).toNat := by simpa using hx
      omega
theorem rn_wl {β : Type} (f : Nat → β → β) (b : β) (n : Nat) : rn f (wl c (n + 1)) b = f (c n).toNat (rn f (wl c n) b) := by
  show rn f (wl c n ++ [(c n).toNat]) b = _
  rw [rn_app]
  rfl
theorem FM.none (hF : FM N f n h E e s) (hS : STd N E e) (hN : N ≤ 6) (h2 : 2 ≤ N ∨ n = 0) (o : okF N (h, E, e)) : (h = 0 ∧ e = 0) ↔ qmk N (h, E, e) o = q0 N := by
  have hb := hF.2.2.1
  constructor
  · rintro ⟨rfl, rfl⟩
    have sE : su 0 E := o.2
    have : E = idS := funext (fun k => sE k (Nat.zero_le k))
    subst this
    rfl
  · intro q
    rcases h2 with h2 | h2
    · exact qmk_none hN h2 q hS.1 hS.2.1 hS.2.2
    · omega
theorem CE.pm {x y : PM} {a : Int} (hc : CE s a x N) (h : ∀ i : Nat, i < N → x.1 i = y.1 i) : CE s a y N := fun i hi => by
  rw [hc i hi, h i hi]
theorem r_isNone (hf : 0 ≤ f ∧ f < 2) (hn : n ≤ 99) (hF : FM N f n h E e s) (kT : h = 0 ∧ e = 0 → Q (some (vI 1)) (HP h0 s)) (kF : ¬ (h = 0 ∧ e = 0) → Q (some (vI 0)) (HP h0 s)) : wpM PP d 119 [vR 94, vI f] (HP h0 s) Q := by
  have hb := hF.2.2.1
  refine n_at (m := 119) (q := mr119) (kn := (0, 2)) [some (vR _), some (vI _)] mb119 rfl rfl (h_rcv sc_94) (Nat.le_of_ble_eq_true rfl) rfl rfl ?_
  refine x_aload rfl ?_
  refine h_getR sc_94 rfl (by omega) ?_
  refine x_iload rfl ?_
  refine h_iald sc_118 ⟨by omega, by omega⟩ (by decide) ?_
  rw [hF.1]
  refine n_if_ne ⟨by omega, by omega⟩ (fun c1 => ?_) (fun c1 => ?_)
  · refine x_ci ?_
    refine x_fall ?_
    refine x_zret (by first | exact bI_01 _ | omega) ?_
    first
      | exact kT (by omega)
      | exact kF (by omega)
  · refine x_aload rfl ?_
    refine h_getR sc_94 rfl (by omega) ?_
    refine x_iload rfl ?_
    refine h_iald sc_119 ⟨by omega, by omega⟩ (by decide) ?_
    rw [hF.2.1]
    refine n_if_ne ⟨by omega, by omega⟩ (fun c2 => ?_) (fun c2 => ?_)
    · refine x_ci ?_
      refine x_fall ?_
      refine x_zret (by first | exact bI_01 _ | omega) ?_
      first
        | exact kT (by omega)
        | exact kF (by omega)
    · refine x_ci ?_
      refine x_goto ?_
      refine x_zret (by first | exact bI_01 _ | omega) ?_
      first
        | exact kT (by omega)
        | exact kF (by omega)
theorem ap_4 (hd : 2 ≤ d) (hf : 0 ≤ f ∧ f < 2) (hN : N ≤ 6) (he : e ≤ 98) {t0 : St} (h410 : t0 94 41 = N) {y : PM} {p : Nat} {un cc : Int} (hp : p + 1 < N) (hu : ((un = 0 ∧ ∀ i, i < N → y.1 i = gt p i) ∨ (un = 1 ∧ ∀ i, i < N → y.1 i = gt p (N - 1 - i)))) {oo : Option pv} (kL : ∀ (t : St) (kk : Int) (tt : Option pv), CE t (6 * (100 * f + (e : Int))) y N → (∀ (c : Nat) (r : Int), ¬ (c = 120 ∧ 6 * (100 * f + (e : Int)) ≤ r ∧ r < 6 * (100 * f + (e : Int)) + 6) → t c r = t0 c r) → wp PP d mb118 (mb118.getD 10 []) [some (vR 94), some (vI f), some (vI cc), some (vI p), some (vI un), some (vI (6 * (100 * f + (e : Int)))), some (vI kk), tt] [] (HP h0 t) Q) : wp PP d mb118 (mb118.getD 4 []) [some (vR 94), some (vI f), some (vI cc), some (vI p), some (vI un), some (vI (6 * (100 * f + (e : Int)))), some (vI 0), oo] [] (HP h0 t0) Q := by
  have hun : un = 0 ∨ un = 1 := by omega
  have L4 : ∀ M : Nat, ∀ (k : Nat) (kk : Int) (tt : Option pv) (t : St), (kk = k) → (M = N - k ∧ k ≤ N) → ((∀ i : Nat, i < N → t 120 (6 * (100 * f + (e : Int)) + i) = if i < k then ((y.1 i : Nat) : Int) else t0 120 (6 * (100 * f + (e : Int)) + i))) → ((∀ (c : Nat) (r : Int), ¬ (c = 120 ∧ 6 * (100 * f + (e : Int)) ≤ r ∧ r < 6 * (100 * f + (e : Int)) + 6) → t c r = t0 c r)) →  wp PP d mb118 (mb118.getD 4 []) [some (vR 94), some (vI f), some (vI cc), some (vI p), some (vI un), some (vI (6 * (100 * f + (e : Int)))), some (vI kk), tt] [] (HP h0 t) Q := by
    refine s_ind (fun M ih => ?_)
    intro k kk tt t hkk hM g1 g2
    subst hkk
    refine x_iload rfl ?_
    refine x_aload rfl ?_
    refine h_getI 41 sc_94 rfl rfl ?_
    rw [(g2 94 41 (by omega)).trans h410]
    refine n_icmp_ge ⟨by omega, by omega⟩ ⟨by omega, by omega⟩ (fun c1 => ?_) (fun c1 => ?_)
    · exact kL t _ _ (fun i hi => by rw [g1 i hi, if_pos (by omega)]) g2
    · refine x_iload rfl ?_
      refine n_if_eq ⟨by omega, by omega⟩ (fun c2 => ?_) (fun c2 => ?_)
      · refine x_iload rfl ?_
        refine x_fall ?_
        refine n_istore [some (vR _), some (vI _), some (vI _), some (vI _), some (vI _), some (vI _), some (vI _), some (vI _)] (Nat.le_of_ble_eq_true rfl) rfl ?_
        refine x_aload rfl ?_
        refine h_getR sc_94 rfl (by omega) ?_
        refine x_iload rfl ?_
        refine x_iload rfl ?_
        refine x_iadd ?_
        refine x_iload rfl ?_
        refine x_iload rfl ?_
        refine n_icmp_ne ⟨by omega, by omega⟩ ⟨by omega, by omega⟩ (fun c3 => ?_) (fun c3 => ?_)
        · refine x_iload rfl ?_
          refine x_iload rfl ?_
          refine x_ci ?_
          refine x_iadd ?_
          refine n_icmp_ne ⟨by omega, by omega⟩ ⟨by omega, by omega⟩ (fun c4 => ?_) (fun c4 => ?_)
          · refine x_iload rfl ?_
            refine x_fall ?_
            refine h_iast sc_120 ⟨by omega, by omega⟩ (by decide) ?_
            refine n_iinc [some (vR _), some (vI _), some (vI _), some (vI _), some (vI _), some (vI _), some (vI _), some (vI _)] rfl rfl ?_
            refine x_goto ?_
            refine ih (N - (k + 1)) (by omega) (k + 1) _ _ _ (by omega) (by omega) (fun i hi => ?_) (fun c r q => ?_)
            · by_cases q : i = k
              · rw [q, up_e, if_pos (by omega)]
                rcases hu with ⟨hu1, z⟩ | ⟨hu1, z⟩
                · have z := z k (by omega)
                  unfold gt at z
                  first
                    | (rw [if_pos (by omega)] at z; omega)
                    | (rw [if_neg (by omega), if_pos (by omega)] at z; omega)
                    | (rw [if_neg (by omega), if_neg (by omega)] at z; omega)
                · have z := z k (by omega)
                  unfold gt at z
                  first
                    | (rw [if_pos (by omega)] at z; omega)
                    | (rw [if_neg (by omega), if_pos (by omega)] at z; omega)
                    | (rw [if_neg (by omega), if_neg (by omega)] at z; omega)
              · rw [up_i (by omega), g1 i hi]
                by_cases q2 : i < k
                · rw [if_pos q2, if_pos (by omega)]
                · rw [if_neg q2, if_neg (by omega)]
            · rw [up_f (by omega)]
              exact g2 c r q
          · refine x_iload rfl ?_
            refine x_goto ?_
            refine h_iast sc_120 ⟨by omega, by omega⟩ (by decide) ?_
            refine n_iinc [some (vR _), some (vI _), some (vI _), some (vI _), some (vI _), some (vI _), some (vI _), some (vI _)] rfl rfl ?_
            refine x_goto ?_
            refine ih (N - (k + 1)) (by omega) (k + 1) _ _ _ (by omega) (by omega) (fun i hi => ?_) (fun c r q => ?_)
            · by_cases q : i = k
              · rw [q, up_e, if_pos (by omega)]
                rcases hu with ⟨hu1, z⟩ | ⟨hu1, z⟩
                · have z := z k (by omega)
                  unfold gt at z
                  first
                    | (rw [if_pos (by omega)] at z; omega)
                    | (rw [if_neg (by omega), if_pos (by omega)] at z; omega)
                    | (rw [if_neg (by omega), if_neg (by omega)] at z; omega)
                · have z := z k (by omega)
                  unfold gt at z
                  first
                    | (rw [if_pos (by omega)] at z; omega)
                    | (rw [if_neg (by omega), if_pos (by omega)] at z; omega)
                    | (rw [if_neg (by omega), if_neg (by omega)] at z; omega)
              · rw [up_i (by omega), g1 i hi]
                by_cases q2 : i < k
                · rw [if_pos q2, if_pos (by omega)]
                · rw [if_neg q2, if_neg (by omega)]
            · rw [up_f (by omega)]
              exact g2 c r q
        · refine x_iload rfl ?_
          refine x_ci ?_
          refine x_iadd ?_
          refine x_goto ?_
          refine h_iast sc_120 ⟨by omega, by omega⟩ (by decide) ?_
          refine n_iinc [some (vR _), some (vI _), some (vI _), some (vI _), some (vI _), some (vI _), some (vI _), some (vI _)] rfl rfl ?_
          refine x_goto ?_
          refine ih (N - (k + 1)) (by omega) (k + 1) _ _ _ (by omega) (by omega) (fun i hi => ?_) (fun c r q => ?_)
          · by_cases q : i = k
            · rw [q, up_e, if_pos (by omega)]
              rcases hu with ⟨hu1, z⟩ | ⟨hu1, z⟩
              · have z := z k (by omega)
                unfold gt at z
                first
                  | (rw [if_pos (by omega)] at z; omega)
                  | (rw [if_neg (by omega), if_pos (by omega)] at z; omega)
                  | (rw [if_neg (by omega), if_neg (by omega)] at z; omega)
              · have z := z k (by omega)
                unfold gt at z
                first
                  | (rw [if_pos (by omega)] at z; omega)
                  | (rw [if_neg (by omega), if_pos (by omega)] at z; omega)
                  | (rw [if_neg (by omega), if_neg (by omega)] at z; omega)
            · rw [up_i (by omega), g1 i hi]
              by_cases q2 : i < k
              · rw [if_pos q2, if_pos (by omega)]
              · rw [if_neg q2, if_neg (by omega)]
          · rw [up_f (by omega)]
            exact g2 c r q
      · refine x_aload rfl ?_
        refine h_getI 41 sc_94 rfl rfl ?_
        rw [(g2 94 41 (by omega)).trans h410]
        refine x_ci ?_
        refine x_isub ?_
        refine x_iload rfl ?_
        refine x_isub ?_
        refine x_goto ?_
        refine n_istore [some (vR _), some (vI _), some (vI _), some (vI _), some (vI _), some (vI _), some (vI _), some (vI _)] (Nat.le_of_ble_eq_true rfl) rfl ?_
        refine x_aload rfl ?_
        refine h_getR sc_94 rfl (by omega) ?_
        refine x_iload rfl ?_
        refine x_iload rfl ?_
        refine x_iadd ?_
        refine x_iload rfl ?_
        refine x_iload rfl ?_
        refine n_icmp_ne ⟨by omega, by omega⟩ ⟨by omega, by omega⟩ (fun c3 => ?_) (fun c3 => ?_)
        · refine x_iload rfl ?_
          refine x_iload rfl ?_
          refine x_ci ?_
          refine x_iadd ?_
          refine n_icmp_ne ⟨by omega, by omega⟩ ⟨by omega, by omega⟩ (fun c4 => ?_) (fun c4 => ?_)
          · refine x_iload rfl ?_
            refine x_fall ?_
            refine h_iast sc_120 ⟨by omega, by omega⟩ (by decide) ?_
            refine n_iinc [some (vR _), some (vI _), some (vI _), some (vI _), some (vI _), some (vI _), some (vI _), some (vI _)] rfl rfl ?_
            refine x_goto ?_
            refine ih (N - (k + 1)) (by omega) (k + 1) _ _ _ (by omega) (by omega) (fun i hi => ?_) (fun c r q => ?_)
            · by_cases q : i = k
              · rw [q, up_e, if_pos (by omega)]
                rcases hu with ⟨hu1, z⟩ | ⟨hu1, z⟩
                · have z := z k (by omega)
                  unfold gt at z
                  first
                    | (rw [if_pos (by omega)] at z; omega)
                    | (rw [if_neg (by omega), if_pos (by omega)] at z; omega)
                    | (rw [if_neg (by omega), if_neg (by omega)] at z; omega)
                · have z := z k (by omega)
                  unfold gt at z
                  first
                    | (rw [if_pos (by omega)] at z; omega)
                    | (rw [if_neg (by omega), if_pos (by omega)] at z; omega)
                    | (rw [if_neg (by omega), if_neg (by omega)] at z; omega)
              · rw [up_i (by omega), g1 i hi]
                by_cases q2 : i < k
                · rw [if_pos q2, if_pos (by omega)]
                · rw [if_neg q2, if_neg (by omega)]
            · rw [up_f (by omega)]
              exact g2 c r q
          · refine x_iload rfl ?_
            refine x_goto ?_
            refine h_iast sc_120 ⟨by omega, by omega⟩ (by decide) ?_
            refine n_iinc [some (vR _), some (vI _), some (vI _), some (vI _), some (vI _), some (vI _), some (vI _), some (vI _)] rfl rfl ?_
            refine x_goto ?_
            refine ih (N - (k + 1)) (by omega) (k + 1) _ _ _ (by omega) (by omega) (fun i hi => ?_) (fun c r q => ?_)
            · by_cases q : i = k
              · rw [q, up_e, if_pos (by omega)]
                rcases hu with ⟨hu1, z⟩ | ⟨hu1, z⟩
                · have z := z k (by omega)
                  unfold gt at z
                  first
                    | (rw [if_pos (by omega)] at z; omega)
                    | (rw [if_neg (by omega), if_pos (by omega)] at z; omega)
                    | (rw [if_neg (by omega), if_neg (by omega)] at z; omega)
                · have z := z k (by omega)
                  unfold gt at z
                  first
                    | (rw [if_pos (by omega)] at z; omega)
                    | (rw [if_neg (by omega), if_pos (by omega)] at z; omega)
                    | (rw [if_neg (by omega), if_neg (by omega)] at z; omega)
              · rw [up_i (by omega), g1 i hi]
                by_cases q2 : i < k
                · rw [if_pos q2, if_pos (by omega)]
                · rw [if_neg q2, if_neg (by omega)]
            · rw [up_f (by omega)]
              exact g2 c r q
        · refine x_iload rfl ?_
          refine x_ci ?_
          refine x_iadd ?_
          refine x_goto ?_
          refine h_iast sc_120 ⟨by omega, by omega⟩ (by decide) ?_
          refine n_iinc [some (vR _), some (vI _), some (vI _), some (vI _), some (vI _), some (vI _), some (vI _), some (vI _)] rfl rfl ?_
          refine x_goto ?_
          refine ih (N - (k + 1)) (by omega) (k + 1) _ _ _ (by omega) (by omega) (fun i hi => ?_) (fun c r q => ?_)
          · by_cases q : i = k
            · rw [q, up_e, if_pos (by omega)]
              rcases hu with ⟨hu1, z⟩ | ⟨hu1, z⟩
              · have z := z k (by omega)
                unfold gt at z
                first
                  | (rw [if_pos (by omega)] at z; omega)
                  | (rw [if_neg (by omega), if_pos (by omega)] at z; omega)
                  | (rw [if_neg (by omega), if_neg (by omega)] at z; omega)
              · have z := z k (by omega)
                unfold gt at z
                first
                  | (rw [if_pos (by omega)] at z; omega)
                  | (rw [if_neg (by omega), if_pos (by omega)] at z; omega)
                  | (rw [if_neg (by omega), if_neg (by omega)] at z; omega)
            · rw [up_i (by omega), g1 i hi]
              by_cases q2 : i < k
              · rw [if_pos q2, if_pos (by omega)]
              · rw [if_neg q2, if_neg (by omega)]
          · rw [up_f (by omega)]
            exact g2 c r q
  exact L4 N 0 0 oo t0 rfl (by omega) (fun i hi => by rw [if_neg (by omega)]) (fun _ _ _ => rfl)
end FO4
