/-! WHAT A LAW IS WORTH: the class's walk through its knots -/
section LC
variable {d a : Nat} {h0 h : pheap} {s : St} {Q : Option pv → pheap → Prop}
/-- a stack that lies in a row, its bottom first -/
def SKl (f : Int → Int) : List Int → Prop
  | [] => True
  | x :: r => f r.length = x ∧ SKl f r
theorem SKl_cg {f g : Int → Int} : ∀ (l : List Int), (∀ i : Int, 0 ≤ i → i < l.length → g i = f i) → SKl f l → SKl g l
  | [], _, _ => trivial
  | x :: r, h, k => ⟨(h r.length (by omega) (by simp only [List.length_cons]; omega)).trans k.1, SKl_cg r (fun i i0 i1 => h i i0 (by simp only [List.length_cons]; omega)) k.2⟩
/-- one knot: below 10000 a number, below 20000 a name, else a sign; none: an error (or no such stack) -/
def evS (nv : Int → Int) (kn : Int) (st : List Int) : Option (List Int) :=
  if kn < 10000 then some (kn :: st) else if kn < 20000 then some (nv (kn - 10000) :: st)
  else if kn = 20002 then match st with
    | x :: r => some (bI (x = 0) :: r)
    | [] => none
  else match st with
    | y :: x :: r => if -1000000000000 ≤ jn (kn - 20000) x y ∧ jn (kn - 20000) x y ≤ 1000000000000 then some (jn (kn - 20000) x y :: r) else none
    | _ => none
def evN (nv kc : Int → Int) (b : Int) : Nat → Option (List Int)
  | 0 => some []
  | i + 1 => match evN nv kc b i with
    | some st => evS nv (kc (b + i)) st
    | none => none
/-- how high the stack stands: what a row of knots must keep -/
def dpS (kn : Int) (h : Nat) : Option Nat := if kn < 20000 then some (h + 1) else if kn = 20002 then (if 1 ≤ h then some h else none) else if 2 ≤ h then some (h - 1) else none
def dpN (kc : Int → Int) (b : Int) : Nat → Option Nat
  | 0 => some 0
  | i + 1 => match dpN kc b i with
    | some h => dpS (kc (b + i)) h
    | none => none
def kOk (kn : Int) : Prop := (0 ≤ kn ∧ kn < 10000) ∨ (10000 ≤ kn ∧ kn < 10007) ∨ (20000 ≤ kn ∧ kn ≤ 20012)
/-- a law's row of knots: from b to e, an E or nothing -/
def lwOk (kc : Int → Int) (b e : Int) : Prop := 0 ≤ b ∧ b ≤ e ∧ e ≤ 64 ∧ (∀ i : Int, b ≤ i → i < e → kOk (kc i)) ∧ (b < e → dpN kc b (e - b).toNat = some 1)
theorem dpN_some {kc : Int → Int} {b : Int} : ∀ {n m : Nat}, m ≤ n → ∀ h, dpN kc b n = some h → ∃ h', dpN kc b m = some h' ∧ h' ≤ m
  | 0, m, hm, h, e => by
    have : m = 0 := by omega
    subst this
    exact ⟨0, rfl, by omega⟩
  | n + 1, m, hm, h, e => by
    by_cases q : m = n + 1
    · subst q
      simp only [dpN] at e
      split at e
      · rename_i h2 e2
        obtain ⟨h3, e3, l3⟩ := dpN_some (Nat.le_refl n) h2 e2
        rw [e2] at e3
        cases e3
        refine ⟨h, by simp only [dpN, e2]; exact e, ?_⟩
        unfold dpS at e
        repeat' split at e
        all_goals first | (cases e; omega) | (cases e)
      · cases e
    · simp only [dpN] at e
      split at e
      · rename_i h2 e2
        exact dpN_some (by omega) h2 e2
      · cases e
theorem ev_dp {nv kc : Int → Int} {b : Int} : ∀ (n : Nat) (st : List Int) (h : Nat), evN nv kc b n = some st → dpN kc b n = some h → st.length = h
  | 0, st, h, e1, e2 => by
    cases e1
    cases e2
    rfl
  | n + 1, st, h, e1, e2 => by
    simp only [evN] at e1
    simp only [dpN] at e2
    split at e1
    · rename_i st2 q1
      split at e2
      · rename_i h2 q2
        have := ev_dp n st2 h2 q1 q2
        unfold evS at e1
        unfold dpS at e2
        by_cases c1 : kc (b + n) < 10000
        · rw [if_pos c1] at e1
          rw [if_pos (by omega)] at e2
          cases e1
          cases e2
          simp [this]
        · rw [if_neg c1] at e1
          by_cases c2 : kc (b + n) < 20000
          · rw [if_pos c2] at e1 e2
            cases e1
            cases e2
            simp [this]
          · rw [if_neg c2] at e1 e2
            by_cases c3 : kc (b + n) = 20002
            · rw [if_pos c3] at e1 e2
              split at e1
              · split at e2
                · cases e1
                  cases e2
                  simpa using this
                · cases e2
              · cases e1
            · rw [if_neg c3] at e1 e2
              split at e1
              · split at e1
                · split at e2
                  · cases e1
                    cases e2
                    simp only [List.length_cons] at this ⊢
                    omega
                  · cases e2
                · cases e1
              · cases e1
      · cases e2
    · cases e1
/-- all values on the stack are in their bounds -/
def inB (l : List Int) : Prop := ∀ x ∈ l, -1000000000000 ≤ x ∧ x ≤ 1000000000000
theorem ev_in {nv kc : Int → Int} {b : Int} (hn : ∀ i, -1000000000000 ≤ nv i ∧ nv i ≤ 1000000000000) {N : Nat} (hk : ∀ j : Nat, j < N → -1000000000000 ≤ kc (b + j) ∧ kc (b + j) ≤ 1000000000000) : ∀ (n : Nat) (st : List Int), n ≤ N → evN nv kc b n = some st → inB st
  | 0, st, _, e => by
    cases e
    intro x hx
    cases hx
  | n + 1, st, hN, e => by
    simp only [evN] at e
    split at e
    · rename_i st2 q1
      have ih := ev_in hn hk n st2 (by omega) q1
      unfold evS at e
      split at e
      · cases e
        intro x hx
        rcases List.mem_cons.mp hx with rfl | hx
        · exact hk _ (by omega)
        · exact ih x hx
      · split at e
        · cases e
          intro x hx
          rcases List.mem_cons.mp hx with rfl | hx
          · exact hn _
          · exact ih x hx
        · split at e
          · split at e
            · rename_i y r
              cases e
              intro x hx
              rcases List.mem_cons.mp hx with rfl | hx
              · have := bI_R (y = 0)
                omega
              · exact ih x (List.mem_cons_of_mem _ hx)
            · cases e
          · split at e
            · split at e
              · cases e
                intro x hx
                rcases List.mem_cons.mp hx with rfl | hx
                · assumption
                · exact ih x (List.mem_cons_of_mem _ (List.mem_cons_of_mem _ hx))
              · cases e
            · cases e
    · cases e
/-- a law's worth; MIN: an error, or no such law -/
def lawV (nv kc : Int → Int) (b e : Int) : Int := if b < e then (match evN nv kc b (e - b).toNat with | some (x :: _) => x | _ => -9223372036854775808) else -9223372036854775808
theorem m_push (hS : isSc a) {x : Int} {ht : Nat} (h1 : s a 15 = ht) (h2 : ht < 64) (k : Q none (HP h0 (up (up s (a + 7) ht x) a 15 (ht + 1)))) : wpM PP d 253 [vR a, vL x] (HP h0 s) Q := by
  have ha := hS.1.1
  refine n_at (m := 253) (q := mr253) (kn := (0, 2)) [some (vR _), some (vL _), none] mb253 rfl rfl (h_rcv hS.1) (Nat.le_of_ble_eq_true rfl) rfl rfl ?_
  refine x_aload rfl ?_
  refine h_getI 15 hS.1 rfl rfl ?_
  rw [h1]
  refine n_if_lt ⟨by omega, by omega⟩ (fun c1 => ?_) (fun c1 => ?_)
  · refine x_ret ?_
    first | exact k | (exfalso; omega)
  · refine x_aload rfl ?_
    refine h_getI 15 hS.1 rfl rfl ?_
    rw [h1]
    refine x_aload rfl ?_
    refine h_getR hS.1 rfl (by omega) ?_
    refine h_alen 64 hS.2.2.2.2.2.2.2 (by decide) rfl ?_
    refine n_icmp_ge ⟨by omega, by omega⟩ ⟨by omega, by omega⟩ (fun c2 => ?_) (fun c2 => ?_)
    · refine x_ret ?_
      first | exact k | (exfalso; omega)
    · refine x_aload rfl ?_
      refine h_getR hS.1 rfl (by omega) ?_
      refine x_aload rfl ?_
      refine h_getI 15 hS.1 rfl rfl ?_
      rw [h1]
      refine x_lload rfl ?_
      refine h_last hS.2.2.2.2.2.2.2 ⟨by omega, by omega⟩ (by decide) ?_
      refine x_aload rfl ?_
      refine x_dupR ?_
      refine h_getI 15 hS.1 rfl rfl ?_
      rw [up_a (b := a) (by omega), h1]
      refine x_ci ?_
      refine x_iadd ?_
      refine h_putI 15 hS.1 rfl rfl ?_
      refine x_fall ?_
      refine x_ret ?_
      first | exact k | (exfalso; omega)
theorem m_pop (hS : isSc a) {ht : Nat} (h1 : s a 15 = (ht : Int) + 1) (h2 : ht < 64) (k : Q (some (vL (s (a + 7) ht))) (HP h0 (up s a 15 ht))) : wpM PP d 254 [vR a] (HP h0 s) Q := by
  have ha := hS.1.1
  refine n_at (m := 254) (q := mr254) (kn := (0, 1)) [some (vR _)] mb254 rfl rfl (h_rcv hS.1) (Nat.le_of_ble_eq_true rfl) rfl rfl ?_
  refine x_aload rfl ?_
  refine h_getI 15 hS.1 rfl rfl ?_
  rw [h1]
  refine x_ci ?_
  refine n_icmp_lt ⟨by omega, by omega⟩ ⟨by omega, by omega⟩ (fun c1 => ?_) (fun c1 => ?_)
  · refine x_cl ?_
    refine x_lret ?_
    first | exact k | (exfalso; omega)
  · refine x_aload rfl ?_
    refine h_getI 15 hS.1 rfl rfl ?_
    rw [h1]
    refine x_aload rfl ?_
    refine h_getR hS.1 rfl (by omega) ?_
    refine h_alen 64 hS.2.2.2.2.2.2.2 (by decide) rfl ?_
    refine n_icmp_le ⟨by omega, by omega⟩ ⟨by omega, by omega⟩ (fun c2 => ?_) (fun c2 => ?_)
    · refine x_aload rfl ?_
      refine x_dupR ?_
      refine h_getI 15 hS.1 rfl rfl ?_
      rw [h1]
      refine x_ci ?_
      refine x_isub ?_
      refine t_I (ht : Int) (by omega) ?_
      refine h_putI 15 hS.1 rfl rfl ?_
      refine x_aload rfl ?_
      refine h_getR hS.1 rfl (by omega) ?_
      refine x_aload rfl ?_
      refine h_getI 15 hS.1 rfl rfl ?_
      rw [up_e]
      refine h_lald hS.2.2.2.2.2.2.2 ⟨by omega, by omega⟩ (by decide) ?_
      rw [up_a (b := a + 7) (by omega)]
      refine x_lret ?_
      first | exact k | (exfalso; omega)
    · refine x_fall ?_
      refine x_cl ?_
      refine x_lret ?_
      first | exact k | (exfalso; omega)
theorem m_hasLaw (hS : isSc a) {x : Int} (hx : 0 ≤ x ∧ x < 3) (h5 : 0 ≤ s (a + 5) x ∧ s (a + 5) x ≤ 64) (h6 : 0 ≤ s (a + 6) x ∧ s (a + 6) x ≤ 64) (k : Q (some (vI (bI (s (a + 5) x < s (a + 6) x)))) (HP h0 s)) : wpM PP d 249 [vR a, vI x] (HP h0 s) Q := by
  have ha := hS.1.1
  refine n_at (m := 249) (q := mr249) (kn := (0, 2)) [some (vR _), some (vI _)] mb249 rfl rfl (h_rcv hS.1) (Nat.le_of_ble_eq_true rfl) rfl rfl ?_
  refine x_iload rfl ?_
  refine n_if_lt ⟨by omega, by omega⟩ (fun c1 => ?_) (fun c1 => ?_)
  · refine x_ci ?_
    refine x_fall ?_
    refine x_zret (by first | exact bI_01 _ | omega) ?_
    exact cB0 k (by omega)
  · refine x_iload rfl ?_
    refine x_aload rfl ?_
    refine h_getR hS.1 rfl (by omega) ?_
    refine h_alen 3 hS.2.2.2.2.2.1 (by decide) rfl ?_
    refine n_icmp_ge ⟨by omega, by omega⟩ ⟨by omega, by omega⟩ (fun c2 => ?_) (fun c2 => ?_)
    · refine x_ci ?_
      refine x_fall ?_
      refine x_zret (by first | exact bI_01 _ | omega) ?_
      exact cB0 k (by omega)
    · refine x_iload rfl ?_
      refine x_aload rfl ?_
      refine h_getR hS.1 rfl (by omega) ?_
      refine h_alen 3 hS.2.2.2.2.2.2.1 (by decide) rfl ?_
      refine n_icmp_ge ⟨by omega, by omega⟩ ⟨by omega, by omega⟩ (fun c3 => ?_) (fun c3 => ?_)
      · refine x_ci ?_
        refine x_fall ?_
        refine x_zret (by first | exact bI_01 _ | omega) ?_
        exact cB0 k (by omega)
      · refine x_aload rfl ?_
        refine h_getR hS.1 rfl (by omega) ?_
        refine x_iload rfl ?_
        refine h_iald hS.2.2.2.2.2.1 ⟨by omega, by omega⟩ (by decide) ?_
        refine x_aload rfl ?_
        refine h_getR hS.1 rfl (by omega) ?_
        refine x_iload rfl ?_
        refine h_iald hS.2.2.2.2.2.2.1 ⟨by omega, by omega⟩ (by decide) ?_
        refine n_icmp_ge ⟨by omega, by omega⟩ ⟨by omega, by omega⟩ (fun c4 => ?_) (fun c4 => ?_)
        · refine x_ci ?_
          refine x_fall ?_
          refine x_zret (by first | exact bI_01 _ | omega) ?_
          exact cB0 k (by omega)
        · refine x_ci ?_
          refine x_goto ?_
          refine x_zret (by first | exact bI_01 _ | omega) ?_
          exact cB1 k (by omega)
theorem m_worth {nv kc : Int → Int} {x0 b e : Int} (hS : isSc a) (h69 : a + 8 < 69) (hd : 10 ≤ d) (hx0 : 0 ≤ x0 ∧ x0 < 3) (hb1 : s (a + 5) x0 = b) (he1 : s (a + 6) x0 = e) (hl : lwOk kc b e) (hkn : ∀ i : Int, b ≤ i → i < e → s (a + 4) i = kc i) (hnm : ∀ i : Int, 0 ≤ i → i < 7 → s 69 i = nv i) (hnv : ∀ i, -1000000000000 ≤ nv i ∧ nv i ≤ 1000000000000) (k : ∀ t, (∀ (b2 : Nat) (r2 : Int), ¬ b2 = a + 7 → ¬ (b2 = a ∧ r2 = 15) → t b2 r2 = s b2 r2) → Q (some (vL (lawV nv kc b e))) (HP h0 t)) : wpM PP d 252 [vR a, vI x0, vR 69] (HP h0 s) Q := by
  have ha := hS.1.1
  obtain ⟨hl0, hl1, hl2, hok, hdp0⟩ := hl
  refine n_at (m := 252) (q := mr252) (kn := (0, 3)) [some (vR _), some (vI _), some (vR _), none, none, none, none, none, none, none] mb252 rfl rfl (h_rcv hS.1) (Nat.le_of_ble_eq_true rfl) rfl rfl ?_
  refine x_aload rfl ?_
  refine x_iload rfl ?_
  refine n_call [vR _, vI _] [] (by omega) (Nat.le_of_ble_eq_true rfl) rfl rfl (Nat.le_of_ble_eq_true rfl) ?_
  refine m_hasLaw hS hx0 (by omega) (by omega) ?_
  rw [hb1, he1]
  show wp PP _ _ _ [some (vR _), some (vI _), some (vR _), _, _, _, _, _, _, _] [vI _] _ _
  refine z_if_ne (fun c1 => ?_) (fun c1 => ?_)
  · refine x_aload rfl ?_
    refine x_ci ?_
    refine h_putI 15 hS.1 rfl rfl ?_
    refine x_aload rfl ?_
    refine h_getR hS.1 rfl (by omega) ?_
    refine x_iload rfl ?_
    refine h_iald hS.2.2.2.2.2.2.1 ⟨by omega, by omega⟩ (by decide) ?_
    rw [up_a (b := a + 6) (by omega), he1]
    refine x_aload rfl ?_
    refine h_getR hS.1 rfl (by omega) ?_
    refine h_alen 64 hS.2.2.2.2.1 (by decide) rfl ?_
    refine n_imin ⟨by omega, by omega⟩ ⟨by omega, by omega⟩ (by omega) (Nat.le_of_ble_eq_true rfl) ?_
    refine t_I e (by omega) ?_
    refine n_istore [some (vR _), some (vI _), some (vR _), some (vI _), _, _, _, _, _, _] (Nat.le_of_ble_eq_true rfl) rfl ?_
    refine x_ci ?_
    refine x_aload rfl ?_
    refine h_getR hS.1 rfl (by omega) ?_
    refine x_iload rfl ?_
    refine h_iald hS.2.2.2.2.2.1 ⟨by omega, by omega⟩ (by decide) ?_
    rw [up_a (b := a + 5) (by omega), hb1]
    refine n_imax ⟨by omega, by omega⟩ ⟨by omega, by omega⟩ (by omega) (Nat.le_of_ble_eq_true rfl) ?_
    refine t_I b (by omega) ?_
    refine n_istore [some (vR _), some (vI _), some (vR _), some (vI _), some (vI _), _, _, _, _, _] (Nat.le_of_ble_eq_true rfl) rfl ?_
    refine x_fall ?_
    have hbe := c1
    have hdp := hdp0 c1
    have L1 : ∀ N : Nat, ∀ {o5 o6 o7 o8 o9 : Option pv} (j : Nat) (i : Int) (st : List Int) (t : St), (i = b + j) → (N = (e - b).toNat - j ∧ j ≤ (e - b).toNat) → (evN nv kc b j = some st) → (SKl (t (a + 7)) st) → (t a 15 = st.length) → (∀ (b2 : Nat) (r2 : Int), ¬ b2 = a + 7 → ¬ (b2 = a ∧ r2 = 15) → t b2 r2 = s b2 r2) →  wp PP d mb252 (mb252.getD 2 []) [some (vR a), some (vI x0), some (vR 69), some (vI e), some (vI i), o5, o6, o7, o8, o9] [] (HP h0 t) Q := by
      refine s_ind (fun N ih => ?_)
      intro o5 o6 o7 o8 o9 j i st t hi hn hev hsk hln hfr
      refine x_iload rfl ?_
      refine x_iload rfl ?_
      refine n_icmp_ge ⟨by omega, by omega⟩ ⟨by omega, by omega⟩ (fun c1 => ?_) (fun c1 => ?_)
      · have ej : j = (e - b).toNat := by omega
        have hl1 : st.length = 1 := ev_dp j st 1 hev (by rw [ej]; exact hdp)
        obtain ⟨x, hxr⟩ : ∃ x, st = [x] := List.length_eq_one_iff.mp hl1
        subst hxr
        have hx1 : t (a + 7) ((0 : Nat) : Int) = x := hsk.1
        have hlv : lawV nv kc b e = x := by
          unfold lawV
          rw [if_pos hbe, ← ej, hev]
        refine x_aload rfl ?_
        refine n_call [vR _] [] (by omega) (Nat.le_of_ble_eq_true rfl) rfl rfl (Nat.le_of_ble_eq_true rfl) ?_
        refine m_pop hS (ht := 0) (by rw [hln, hl1]; rfl) (by omega) ?_
        show wp PP _ _ _ [some (vR _), some (vI _), some (vR _), some (vI _), some (vI _), _, _, _, _, _] [vL _] _ _
        refine x_lret ?_
        refine cL (k _ (fun b2 r2 w1 w2 => ?_)) ?_
        · simp only [up]
          rw [if_neg (by omega)]
          exact hfr b2 r2 w1 w2
        · rw [hlv]
          exact hx1.symm
      · have jl : j < (e - b).toNat := by omega
        obtain ⟨h1, q1, l1⟩ := dpN_some (m := j) (by omega) 1 hdp
        obtain ⟨h2, q2, l2⟩ := dpN_some (m := j + 1) (by omega) 1 hdp
        have sl := ev_dp j st h1 hev q1
        simp only [dpN, q1] at q2
        have ei : b + (j : Int) = i := by omega
        rw [ei] at q2
        have ib := ev_in hnv (N := (e - b).toNat) (fun j hj => by
          have := hok (b + j) (by omega) (by omega)
          unfold kOk at this
          omega) j st (by omega) hev
        have ki := hok i (by omega) (by omega)
        unfold kOk at ki
        have kn1 : t (a + 4) i = kc i := (hfr (a + 4) i (by omega) (by omega)).trans (hkn i (by omega) (by omega))
        refine x_aload rfl ?_
        refine h_getR hS.1 rfl (by omega) ?_
        refine x_iload rfl ?_
        refine h_iald hS.2.2.2.2.1 ⟨by omega, by omega⟩ (by decide) ?_
        rw [kn1]
        refine n_istore [some (vR _), some (vI _), some (vR _), some (vI _), some (vI _), some (vI _), _, _, _, _] (Nat.le_of_ble_eq_true rfl) rfl ?_
        refine x_iload rfl ?_
        refine x_ci ?_
        refine n_icmp_ge ⟨by omega, by omega⟩ ⟨by omega, by omega⟩ (fun c2 => ?_) (fun c2 => ?_)
        · refine x_iload rfl ?_
          refine x_ci ?_
          refine n_icmp_ge ⟨by omega, by omega⟩ ⟨by omega, by omega⟩ (fun c3 => ?_) (fun c3 => ?_)
          · refine x_iload rfl ?_
            refine x_ci ?_
            refine n_icmp_ne ⟨by omega, by omega⟩ ⟨by omega, by omega⟩ (fun c4 => ?_) (fun c4 => ?_)
            · have hs1 : 2 ≤ st.length := by
                unfold dpS at q2
                rw [if_neg (by omega), if_neg (by omega)] at q2
                split at q2
                · omega
                · cases q2
              obtain ⟨y, x, r, hxr⟩ : ∃ y x r, st = y :: x :: r := by
                cases st with
                | nil => exact absurd hs1 (by decide)
                | cons y r =>
                  cases r with
                  | nil => exact absurd hs1 (by simp)
                  | cons x r => exact ⟨y, x, r, rfl⟩
              subst hxr
              have by_ := ib y List.mem_cons_self
              have bx := ib x (List.mem_cons_of_mem _ List.mem_cons_self)
              have sl2 : r.length + 1 + 1 = h1 := by simpa using sl
              have hsk2 := hsk.2.2
              have hy0 := hsk.1
              have hx0 := hsk.2.1
              simp only [List.length_cons] at hln hy0
              have jr := jn_R (g := kc i - 20000) bx by_
              refine x_aload rfl ?_
              refine n_call [vR _] [] (by omega) (Nat.le_of_ble_eq_true rfl) rfl rfl (Nat.le_of_ble_eq_true rfl) ?_
              refine m_pop hS (ht := r.length + 1) (by rw [hln]; omega) (by omega) ?_
              rw [show ((r.length + 1 : Nat) : Int) = (r.length : Int) + 1 from rfl, show (r.length : Int) + 1 = ((r.length + 1 : Nat) : Int) from rfl, hy0]
              show wp PP _ _ _ [some (vR _), some (vI _), some (vR _), some (vI _), some (vI _), some (vI _), _, _, _, _] [vL _] _ _
              refine n_lstore [some (vR _), some (vI _), some (vR _), some (vI _), some (vI _), some (vI _), some (vL _), _, _, _] (Nat.le_of_ble_eq_true rfl) rfl ?_
              refine x_iload rfl ?_
              refine x_ci ?_
              refine x_isub ?_
              refine x_aload rfl ?_
              refine n_call [vR _] [vI _] (by omega) (Nat.le_of_ble_eq_true rfl) rfl rfl (Nat.le_of_ble_eq_true rfl) ?_
              refine m_pop hS (ht := r.length) (by rw [up_e]; omega) (by omega) ?_
              rw [up_a (b := a + 7) (by omega), hx0]
              show wp PP _ _ _ [some (vR _), some (vI _), some (vR _), some (vI _), some (vI _), some (vI _), some (vL _), _, _, _] [vL _, vI _] _ _
              refine x_lload rfl ?_
              refine n_call [vI _, vL _, vL _] [] (by omega) (Nat.le_of_ble_eq_true rfl) rfl rfl (Nat.le_of_ble_eq_true rfl) ?_
              refine m_joined (by omega) (by omega) bx by_ ?_
              show wp PP _ _ _ [some (vR _), some (vI _), some (vR _), some (vI _), some (vI _), some (vI _), some (vL _), _, _, _] [vL _] _ _
              refine n_lstore [some (vR _), some (vI _), some (vR _), some (vI _), some (vI _), some (vI _), some (vL _), _, some (vL _), _] (Nat.le_of_ble_eq_true rfl) rfl ?_
              refine x_lload rfl ?_
              refine x_cl ?_
              refine n_lif_gt ⟨by omega, by omega⟩ ⟨by omega, by omega⟩ (fun c5 => ?_) (fun c5 => ?_)
              · have hev2 : evN nv kc b (j + 1) = none := by
                  simp only [evN, hev]
                  rw [ei]
                  unfold evS
                  rw [if_neg (by omega), if_neg (by omega), if_neg (by omega)]
                  dsimp only
                  rw [if_neg (by omega)]
                have hnone : ∀ n : Nat, j + 1 ≤ n → evN nv kc b n = none := fun n hn => by
                  induction n with
                  | zero => omega
                  | succ n ihn =>
                    by_cases qn : j + 1 ≤ n
                    · simp only [evN, ihn qn]
                    · have : n = j := by omega
                      subst this
                      exact hev2
                refine x_cl ?_
                refine x_lret ?_
                refine cL (k _ (fun b2 r2 w1 w2 => ?_)) ?_
                · simp only [up]
                  repeat rw [if_neg (by omega)]
                  exact hfr b2 r2 w1 w2
                · unfold lawV
                  rw [if_pos hbe, hnone _ (by omega)]
              · refine x_lload rfl ?_
                refine x_cl ?_
                refine n_lif_ge ⟨by omega, by omega⟩ ⟨by omega, by omega⟩ (fun c6 => ?_) (fun c6 => ?_)
                · obtain ⟨st2, hst2⟩ : ∃ l, l = (jn (kc i - 20000) x y :: r) := ⟨_, rfl⟩
                  have hev2 : evN nv kc b (j + 1) = some st2 := by
                    rw [hst2]
                    simp only [evN, hev]
                    rw [ei]
                    unfold evS
                    rw [if_neg (by omega), if_neg (by omega), if_neg (by omega)]
                    dsimp only
                    rw [if_pos (by omega)]
                  refine x_aload rfl ?_
                  refine x_lload rfl ?_
                  refine n_call [vR _, vL _] [] (by omega) (Nat.le_of_ble_eq_true rfl) rfl rfl (Nat.le_of_ble_eq_true rfl) ?_
                  refine m_push hS (ht := r.length) ?_ (by omega) ?_
                  · exact up_e
                  show wp PP _ _ _ [some (vR _), some (vI _), some (vR _), some (vI _), some (vI _), some (vI _), some (vL _), _, some (vL _), _] [] _ _
                  refine x_fall ?_
                  refine n_iinc [some (vR _), some (vI _), some (vR _), some (vI _), some (vI _), some (vI _), some (vL _), _, some (vL _), _] rfl rfl ?_
                  refine x_goto ?_
                  refine ih ((e - b).toNat - (j + 1)) (by omega) (j + 1) _ st2 _ (by omega) (by omega) hev2 ?_ ?_ (fun b2 r2 w1 w2 => ?_)
                  · rw [hst2]
                    refine ⟨by first | (simp [up]; done) | (simp [up]; first | exact (bI_f (by omega)).symm | exact (bI_t (by omega)).symm), SKl_cg _ (fun q q0 q1 => ?_) hsk2⟩
                    simp only [up]
                    repeat rw [if_neg (by omega)]
                  · rw [hst2, up_e]
                    simp
                  · simp only [up]
                    repeat rw [if_neg (by omega)]
                    exact hfr b2 r2 w1 w2
                · refine x_fall ?_
                  have hev2 : evN nv kc b (j + 1) = none := by
                    simp only [evN, hev]
                    rw [ei]
                    unfold evS
                    rw [if_neg (by omega), if_neg (by omega), if_neg (by omega)]
                    dsimp only
                    rw [if_neg (by omega)]
                  have hnone : ∀ n : Nat, j + 1 ≤ n → evN nv kc b n = none := fun n hn => by
                    induction n with
                    | zero => omega
                    | succ n ihn =>
                      by_cases qn : j + 1 ≤ n
                      · simp only [evN, ihn qn]
                      · have : n = j := by omega
                        subst this
                        exact hev2
                  refine x_cl ?_
                  refine x_lret ?_
                  refine cL (k _ (fun b2 r2 w1 w2 => ?_)) ?_
                  · simp only [up]
                    repeat rw [if_neg (by omega)]
                    exact hfr b2 r2 w1 w2
                  · unfold lawV
                    rw [if_pos hbe, hnone _ (by omega)]
            · have hs1 : 1 ≤ st.length := by
                unfold dpS at q2
                rw [if_neg (by omega), if_pos (by omega)] at q2
                split at q2
                · omega
                · cases q2
              obtain ⟨x, r, hxr⟩ : ∃ x r, st = x :: r := by
                cases st with
                | nil => exact absurd hs1 (by decide)
                | cons x r => exact ⟨x, r, rfl⟩
              subst hxr
              have bx := ib x List.mem_cons_self
              have sl2 : r.length + 1 = h1 := by simpa using sl
              obtain ⟨st2, hst2⟩ : ∃ l, l = (bI (x = 0) :: r) := ⟨_, rfl⟩
              have hev2 : evN nv kc b (j + 1) = some st2 := by
                rw [hst2]
                simp only [evN, hev]
                rw [ei]
                unfold evS
                rw [if_neg (by omega), if_neg (by omega), if_pos (by omega)]
              have hsk2 := hsk.2
              have hx0 := hsk.1
              simp only [List.length_cons] at hln
              refine x_aload rfl ?_
              refine x_aload rfl ?_
              refine n_call [vR _] [vR _] (by omega) (Nat.le_of_ble_eq_true rfl) rfl rfl (Nat.le_of_ble_eq_true rfl) ?_
              refine m_pop hS (ht := r.length) (by rw [hln]; omega) (by omega) ?_
              rw [hx0]
              show wp PP _ _ _ [some (vR _), some (vI _), some (vR _), some (vI _), some (vI _), some (vI _), _, _, _, _] [vL _, vR _] _ _
              refine x_cl ?_
              refine n_lif_ne ⟨by omega, by omega⟩ ⟨by omega, by omega⟩ (fun c5 => ?_) (fun c5 => ?_)
              · refine x_ci ?_
                refine x_fall ?_
                refine n_call [vI _] [vR _] (by omega) (Nat.le_of_ble_eq_true rfl) rfl rfl (Nat.le_of_ble_eq_true rfl) ?_
                refine m_bit (by first | exact bI_01 _ | omega) ?_
                show wp PP _ _ _ [some (vR _), some (vI _), some (vR _), some (vI _), some (vI _), some (vI _), _, _, _, _] [vI _, vR _] _ _
                refine n_i2l ⟨by omega, by omega⟩ ?_
                refine n_call [vR _, vL _] [] (by omega) (Nat.le_of_ble_eq_true rfl) rfl rfl (Nat.le_of_ble_eq_true rfl) ?_
                refine m_push hS (ht := r.length) ?_ (by omega) ?_
                · exact up_e
                show wp PP _ _ _ [some (vR _), some (vI _), some (vR _), some (vI _), some (vI _), some (vI _), _, _, _, _] [] _ _
                refine x_goto ?_
                refine n_iinc [some (vR _), some (vI _), some (vR _), some (vI _), some (vI _), some (vI _), _, _, _, _] rfl rfl ?_
                refine x_goto ?_
                refine ih ((e - b).toNat - (j + 1)) (by omega) (j + 1) _ st2 _ (by omega) (by omega) hev2 ?_ ?_ (fun b2 r2 w1 w2 => ?_)
                · rw [hst2]
                  refine ⟨by first | (simp [up]; done) | (simp [up]; first | exact (bI_f (by omega)).symm | exact (bI_t (by omega)).symm), SKl_cg _ (fun q q0 q1 => ?_) hsk2⟩
                  simp only [up]
                  repeat rw [if_neg (by omega)]
                · rw [hst2, up_e]
                  simp
                · simp only [up]
                  repeat rw [if_neg (by omega)]
                  exact hfr b2 r2 w1 w2
              · refine x_ci ?_
                refine x_goto ?_
                refine n_call [vI _] [vR _] (by omega) (Nat.le_of_ble_eq_true rfl) rfl rfl (Nat.le_of_ble_eq_true rfl) ?_
                refine m_bit (by first | exact bI_01 _ | omega) ?_
                show wp PP _ _ _ [some (vR _), some (vI _), some (vR _), some (vI _), some (vI _), some (vI _), _, _, _, _] [vI _, vR _] _ _
                refine n_i2l ⟨by omega, by omega⟩ ?_
                refine n_call [vR _, vL _] [] (by omega) (Nat.le_of_ble_eq_true rfl) rfl rfl (Nat.le_of_ble_eq_true rfl) ?_
                refine m_push hS (ht := r.length) ?_ (by omega) ?_
                · exact up_e
                show wp PP _ _ _ [some (vR _), some (vI _), some (vR _), some (vI _), some (vI _), some (vI _), _, _, _, _] [] _ _
                refine x_goto ?_
                refine n_iinc [some (vR _), some (vI _), some (vR _), some (vI _), some (vI _), some (vI _), _, _, _, _] rfl rfl ?_
                refine x_goto ?_
                refine ih ((e - b).toNat - (j + 1)) (by omega) (j + 1) _ st2 _ (by omega) (by omega) hev2 ?_ ?_ (fun b2 r2 w1 w2 => ?_)
                · rw [hst2]
                  refine ⟨by first | (simp [up]; done) | (simp [up]; first | exact (bI_f (by omega)).symm | exact (bI_t (by omega)).symm), SKl_cg _ (fun q q0 q1 => ?_) hsk2⟩
                  simp only [up]
                  repeat rw [if_neg (by omega)]
                · rw [hst2, up_e]
                  simp
                · simp only [up]
                  repeat rw [if_neg (by omega)]
                  exact hfr b2 r2 w1 w2
          · obtain ⟨st2, hst2⟩ : ∃ l, l = (nv (kc i - 10000) :: st) := ⟨_, rfl⟩
            have hev2 : evN nv kc b (j + 1) = some st2 := by
              rw [hst2]
              simp only [evN, hev]
              rw [ei]
              unfold evS
              rw [if_neg (by omega), if_pos (by omega)]
            have hsk2 := hsk
            refine x_iload rfl ?_
            refine x_ci ?_
            refine x_isub ?_
            refine n_istore [some (vR _), some (vI _), some (vR _), some (vI _), some (vI _), some (vI _), some (vI _), _, _, _] (Nat.le_of_ble_eq_true rfl) rfl ?_
            refine x_aload rfl ?_
            refine x_iload rfl ?_
            refine x_aload rfl ?_
            refine h_alen 7 sc_69 (by decide) rfl ?_
            refine n_icmp_ge ⟨by omega, by omega⟩ ⟨by omega, by omega⟩ (fun c4 => ?_) (fun c4 => ?_)
            · exfalso
              omega
            · refine x_aload rfl ?_
              refine x_iload rfl ?_
              refine h_lald sc_69 ⟨by omega, by omega⟩ (by decide) ?_
              rw [(hfr 69 _ (by omega) (by omega)).trans (hnm _ (by omega) (by omega))]
              have nb := hnv (kc i - 10000)
              refine x_goto ?_
              refine n_call [vR _, vL _] [] (by omega) (Nat.le_of_ble_eq_true rfl) rfl rfl (Nat.le_of_ble_eq_true rfl) ?_
              refine m_push hS (ht := st.length) ?_ (by omega) ?_
              · exact hln
              show wp PP _ _ _ [some (vR _), some (vI _), some (vR _), some (vI _), some (vI _), some (vI _), some (vI _), _, _, _] [] _ _
              refine x_goto ?_
              refine n_iinc [some (vR _), some (vI _), some (vR _), some (vI _), some (vI _), some (vI _), some (vI _), _, _, _] rfl rfl ?_
              refine x_goto ?_
              refine ih ((e - b).toNat - (j + 1)) (by omega) (j + 1) _ st2 _ (by omega) (by omega) hev2 ?_ ?_ (fun b2 r2 w1 w2 => ?_)
              · rw [hst2]
                refine ⟨by first | (simp [up]; done) | (simp [up]; first | exact (bI_f (by omega)).symm | exact (bI_t (by omega)).symm), SKl_cg _ (fun q q0 q1 => ?_) hsk2⟩
                simp only [up]
                repeat rw [if_neg (by omega)]
              · rw [hst2, up_e]
                simp
              · simp only [up]
                repeat rw [if_neg (by omega)]
                exact hfr b2 r2 w1 w2
        · obtain ⟨st2, hst2⟩ : ∃ l, l = (kc i :: st) := ⟨_, rfl⟩
          have hev2 : evN nv kc b (j + 1) = some st2 := by
            rw [hst2]
            simp only [evN, hev]
            rw [ei]
            unfold evS
            rw [if_pos c2]
          have hsk2 := hsk
          refine x_aload rfl ?_
          refine x_iload rfl ?_
          refine n_i2l ⟨by omega, by omega⟩ ?_
          refine n_call [vR _, vL _] [] (by omega) (Nat.le_of_ble_eq_true rfl) rfl rfl (Nat.le_of_ble_eq_true rfl) ?_
          refine m_push hS (ht := st.length) ?_ (by omega) ?_
          · exact hln
          show wp PP _ _ _ [some (vR _), some (vI _), some (vR _), some (vI _), some (vI _), some (vI _), _, _, _, _] [] _ _
          refine x_goto ?_
          refine n_iinc [some (vR _), some (vI _), some (vR _), some (vI _), some (vI _), some (vI _), _, _, _, _] rfl rfl ?_
          refine x_goto ?_
          refine ih ((e - b).toNat - (j + 1)) (by omega) (j + 1) _ st2 _ (by omega) (by omega) hev2 ?_ ?_ (fun b2 r2 w1 w2 => ?_)
          · rw [hst2]
            refine ⟨by first | (simp [up]; done) | (simp [up]; first | exact (bI_f (by omega)).symm | exact (bI_t (by omega)).symm), SKl_cg _ (fun q q0 q1 => ?_) hsk2⟩
            simp only [up]
            repeat rw [if_neg (by omega)]
          · rw [hst2, up_e]
            simp
          · simp only [up]
            repeat rw [if_neg (by omega)]
            exact hfr b2 r2 w1 w2
    refine L1 (e - b).toNat 0 b [] _ (by omega) (by omega) rfl trivial ?_ (fun b2 r2 w1 w2 => ?_)
    · rw [up_e]
      rfl
    · simp only [up]
      rw [if_neg (by omega)]
  · refine x_cl ?_
    refine x_lret ?_
    exact cL (k s (fun _ _ _ _ => rfl)) (by unfold lawV; exact if_neg c1)
end LC
