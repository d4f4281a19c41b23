/-! WHAT A LAW IS WORTH: the reference's walk, whole -/
section LE
variable {d a : Nat} {h0 h : pheap} {s : St} {Q : Option pv → pheap → Prop}
theorem r_worksK {nv : Int → Int} {kn : Int} {st : List Int} {h2 : Nat} (hd : 9 ≤ d) (hk : 20000 ≤ kn ∧ kn ≤ 20012) (hdp : dpS kn st.length = some h2) (hsk : SKl (s 105) st) (hln : s 94 26 = st.length) (hl : st.length ≤ 64) (hin : inB st)
    (k : ∀ t, wfr s t → (∀ st2, evS nv kn st = some st2 → SKl (t 105) st2 ∧ t 94 26 = st2.length) → Q (some (vI (bI (¬ evS nv kn st = none)))) (HP h0 t)) : wpM PP d 92 [vR 94, vI (chr (kn - 20000))] (HP h0 s) Q := by
  unfold dpS at hdp
  rw [if_neg (by omega)] at hdp
  by_cases c : kn = 20002
  · rw [if_pos c] at hdp
    subst c
    cases st with
    | nil => simp at hdp
    | cons x r =>
      have ev : evS nv 20002 (x :: r) = some (bI (x = 0) :: r) := rfl
      rw [ev] at k
      simp only [List.length_cons] at hln hl
      have bx := hin x List.mem_cons_self
      show wpM PP d 92 [vR 94, vI 260] (HP h0 s) Q
      refine r_worksN (x := x) (ht := r.length) (by omega) (by rw [hln]; omega) (by omega) hsk.1 bx ?_
      refine cB1 (k _ (fun b r q1 q2 => up_a q1) (fun st2 e => ?_)) |> fun z => z (by simp)
      cases e
      refine ⟨⟨up_e, SKl_cg r (fun i i0 i1 => up_i (by omega)) hsk.2⟩, ?_⟩
      rw [up_a (by decide), hln]
      simp
  · rw [if_neg c] at hdp
    cases st with
    | nil => simp at hdp
    | cons y r =>
      cases r with
      | nil => simp at hdp
      | cons x r =>
        have bx := hin x (List.mem_cons_of_mem _ List.mem_cons_self)
        have by_ := hin y List.mem_cons_self
        simp only [List.length_cons] at hln hl
        have ev : evS nv kn (y :: x :: r) = if -1000000000000 ≤ jn (kn - 20000) x y ∧ jn (kn - 20000) x y ≤ 1000000000000 then some (jn (kn - 20000) x y :: r) else none := by
          unfold evS
          rw [if_neg (by omega), if_neg (by omega), if_neg c]
        refine r_worksB (g := kn - 20000) (x := x) (y := y) (ht := r.length) hd (by omega) (by omega) (by rw [hln]; omega) (by omega) ?_ hsk.2.1 bx by_ (fun t t1 t3 t2 => ?_)
        · have := hsk.1
          simpa using this
        · by_cases q : -1000000000000 ≤ jn (kn - 20000) x y ∧ jn (kn - 20000) x y ≤ 1000000000000
          · rw [if_pos q] at ev
            rw [ev] at k
            rw [bI_t q]
            obtain ⟨u1, u2⟩ := t2 q
            refine cB1 (k t t1 (fun st2 e => ?_)) (by simp)
            cases e
            exact ⟨⟨u1, SKl_cg r (fun i i0 i1 => t3 i i1) hsk.2.2⟩, by rw [u2]; simp⟩
          · rw [if_neg q] at ev
            rw [ev] at k
            rw [bI_f q]
            exact cB0 (k t t1 (fun st2 e => by cases e)) (by simp)
/-- a knot, as the class and as the reference tell it -/
def kR (kn ks kv : Int) : Prop := (kn < 10000 ∧ ks = 0 ∧ kv = kn) ∨ (10000 ≤ kn ∧ kn < 10007 ∧ ks = 1 ∧ kv = kn - 10000) ∨ (20000 ≤ kn ∧ kn ≤ 20012 ∧ ks = 2 ∧ kv = chr (kn - 20000))
theorem evN_none {nv kc : Int → Int} {b : Int} {j : Nat} (h : evN nv kc b j = none) : ∀ n : Nat, j ≤ n → evN nv kc b n = none
  | 0, hn => by
    have : j = 0 := by omega
    subst this
    exact h
  | n + 1, hn => by
    by_cases q : j ≤ n
    · simp only [evN, evN_none h n q]
    · have : j = n + 1 := by omega
      subst this
      exact h
theorem lawV_some {nv kc : Int → Int} {b e : Int} {x : Int} {r : List Int} (hbe : b < e) (h : evN nv kc b (e - b).toNat = some (x :: r)) : lawV nv kc b e = x := by
  unfold lawV
  rw [if_pos hbe, h]
theorem lawV_none {nv kc : Int → Int} {b e : Int} (h : evN nv kc b (e - b).toNat = none) : lawV nv kc b e = -9223372036854775808 := by
  unfold lawV
  rw [h]
  split <;> rfl
theorem r_hasLaw {x : Int} (hx : 0 ≤ x ∧ x < 3) (h5 : 0 ≤ s 100 x ∧ s 100 x ≤ 64) (h6 : 0 ≤ s 101 x ∧ s 101 x ≤ 64) (k : Q (some (vI (bI (s 100 x < s 101 x)))) (HP h0 s)) : wpM PP d 94 [vR 94, vI x] (HP h0 s) Q := by
  refine n_at (m := 94) (q := mr94) (kn := (0, 2)) [some (vR _), some (vI _)] mb94 rfl rfl (h_rcv sc_94) (Nat.le_of_ble_eq_true rfl) rfl rfl ?_
  refine x_aload rfl ?_
  refine h_getR sc_94 rfl (by omega) ?_
  refine x_iload rfl ?_
  refine h_iald sc_101 ⟨by omega, by omega⟩ (by decide) ?_
  refine x_aload rfl ?_
  refine h_getR sc_94 rfl (by omega) ?_
  refine x_iload rfl ?_
  refine h_iald sc_100 ⟨by omega, by omega⟩ (by decide) ?_
  refine n_icmp_le ⟨by omega, by omega⟩ ⟨by omega, by omega⟩ (fun c1 => ?_) (fun c1 => ?_)
  · refine x_ci ?_
    refine x_fall ?_
    refine x_zret (by first | exact bI_01 _ | omega) ?_
    exact cB0 k (by omega)
  · refine x_ci ?_
    refine x_goto ?_
    refine x_zret (by first | exact bI_01 _ | omega) ?_
    exact cB1 k (by omega)
theorem r_goes {nv kc : Int → Int} {x0 b e : Int} (hd : 10 ≤ d) (hx0 : 0 ≤ x0 ∧ x0 < 3) (hb1 : s 100 x0 = b) (he1 : s 101 x0 = e) (hbe : b < e) (hl : lwOk kc b e) (hkn : ∀ i : Int, b ≤ i → i < e → kR (kc i) (s 102 i) (s 103 i)) (hnm : ∀ i : Int, 0 ≤ i → i < 7 → s 104 i = nv i) (hnv : ∀ i, -1000000000000 ≤ nv i ∧ nv i ≤ 1000000000000) (k : ∀ t, wfr s t → (¬ lawV nv kc b e = -9223372036854775808 → t 105 0 = lawV nv kc b e) → Q (some (vI (bI (¬ lawV nv kc b e = -9223372036854775808)))) (HP h0 t)) : wpM PP d 93 [vR 94, vI x0] (HP h0 s) Q := by
  obtain ⟨hl0, hl1, hl2, hok, hdp0⟩ := hl
  have hdp := hdp0 hbe
  have L1 : ∀ N : Nat, ∀ (j : Nat) (i : Int) (st : List Int) (t : St), (i = b + j) → (N = (e - b).toNat - j ∧ j ≤ (e - b).toNat) → (evN nv kc b j = some st) → (SKl (t 105) st) → (t 94 26 = st.length) → (wfr s t) →  wp PP d mb93 (mb93.getD 1 []) [some (vR 94), some (vI x0), some (vI i)] [] (HP h0 t) Q := by
    refine s_ind (fun N ih => ?_)
    intro j i st t hi hn hev hsk hln hfr
    refine x_iload rfl ?_
    refine x_aload rfl ?_
    refine h_getR sc_94 rfl (by omega) ?_
    refine x_iload rfl ?_
    refine h_iald sc_101 ⟨by omega, by omega⟩ (by decide) ?_
    rw [(hfr 101 _ (by decide) (by omega)).trans he1]
    refine n_icmp_ge ⟨by omega, by omega⟩ ⟨by omega, by omega⟩ (fun c1 => ?_) (fun c1 => ?_)
    · refine x_ci ?_
      refine x_zret (by first | exact bI_01 _ | omega) ?_
      have ej : j = (e - b).toNat := by omega
      have hl1 : st.length = 1 := ev_dp j st 1 hev (by rw [ej]; exact hdp)
      obtain ⟨x, hxr⟩ : ∃ x, st = [x] := List.length_eq_one_iff.mp hl1
      subst hxr
      have hlv : lawV nv kc b e = x := lawV_some hbe (by rw [← ej]; exact hev)
      have ib := ev_in hnv (N := (e - b).toNat) (fun j hj => by
        have := hok (b + j) (by omega) (by omega)
        unfold kOk at this
        omega) j [x] (by omega) hev
      have bx := ib x List.mem_cons_self
      have hx1 : t 105 ((0 : Nat) : Int) = x := hsk.1
      exact cB1 (k t hfr (fun _ => hx1.trans hlv.symm)) (by rw [hlv]; omega)
    · have jl : j < (e - b).toNat := by omega
      obtain ⟨h1, q1, l1⟩ := dpN_some (m := j) (by omega) 1 hdp
      obtain ⟨h2, q2, l2⟩ := dpN_some (m := j + 1) (by omega) 1 hdp
      have sl := ev_dp j st h1 hev q1
      simp only [dpN, q1] at q2
      have ei : b + (j : Int) = i := by omega
      rw [ei] at q2
      have ib := ev_in hnv (N := (e - b).toNat) (fun j hj => by
        have := hok (b + j) (by omega) (by omega)
        unfold kOk at this
        omega) j st (by omega) hev
      have ki := hok i (by omega) (by omega)
      unfold kOk at ki
      have kr := fun (_ : True) => hkn i (by omega) (by omega)
      have kr0 : 0 ≤ s 102 i ∧ s 102 i ≤ 2 := by
        have := kr trivial
        unfold kR at this
        omega
      have kn1 : t 102 i = s 102 i := hfr 102 i (by decide) (by omega)
      have kn2 : t 103 i = s 103 i := hfr 103 i (by decide) (by omega)
      refine x_aload rfl ?_
      refine h_getR sc_94 rfl (by omega) ?_
      refine x_iload rfl ?_
      refine h_iald sc_102 ⟨by omega, by omega⟩ (by decide) ?_
      rw [kn1]
      refine x_ci ?_
      refine n_icmp_ne ⟨by omega, by omega⟩ ⟨by omega, by omega⟩ (fun c2 => ?_) (fun c2 => ?_)
      · refine x_aload rfl ?_
        refine h_getR sc_94 rfl (by omega) ?_
        refine x_aload rfl ?_
        refine h_getI 26 sc_94 rfl rfl ?_
        rw [hln]
        refine x_aload rfl ?_
        refine h_getR sc_94 rfl (by omega) ?_
        refine x_iload rfl ?_
        refine h_iald sc_102 ⟨by omega, by omega⟩ (by decide) ?_
        rw [kn1]
        refine n_if_ne ⟨by omega, by omega⟩ (fun c3 => ?_) (fun c3 => ?_)
        · refine x_aload rfl ?_
          refine h_getR sc_94 rfl (by omega) ?_
          refine x_aload rfl ?_
          refine h_getR sc_94 rfl (by omega) ?_
          refine x_iload rfl ?_
          refine h_iald sc_103 ⟨by omega, by omega⟩ (by decide) ?_
          rw [kn2]
          have kv : s 103 i = kc i - 10000 ∧ 10000 ≤ kc i ∧ kc i < 10007 := by
            have := kr trivial
            unfold kR at this
            omega
          rw [kv.1]
          obtain ⟨st2, hst2⟩ : ∃ l, l = (nv (kc i - 10000) :: st) := ⟨_, rfl⟩
          have hev2 : evN nv kc b (j + 1) = some st2 := by
            rw [hst2]
            simp only [evN, hev]
            rw [ei]
            unfold evS
            rw [if_neg (by omega), if_pos (by omega)]
          refine h_lald sc_104 ⟨by omega, by omega⟩ (by decide) ?_
          rw [(hfr 104 _ (by decide) (by omega)).trans (hnm _ (by omega) (by omega))]
          refine x_fall ?_
          refine h_last sc_105 ⟨by omega, by omega⟩ (by decide) ?_
          refine x_aload rfl ?_
          refine x_dupR ?_
          refine h_getI 26 sc_94 rfl rfl ?_
          rw [up_a (b := 94) (by decide), hln]
          refine x_ci ?_
          refine x_iadd ?_
          refine h_putI 26 sc_94 rfl rfl ?_
          refine x_fall ?_
          refine n_iinc [some (vR _), some (vI _), some (vI _)] rfl rfl ?_
          refine x_goto ?_
          refine ih ((e - b).toNat - (j + 1)) (by omega) (j + 1) _ st2 _ (by omega) (by omega) hev2 ?_ ?_ (fun b2 r2 w1 w2 => ?_)
          · rw [hst2]
            refine ⟨by simp [up], SKl_cg _ (fun q q0 q1 => ?_) hsk⟩
            simp only [up]
            repeat rw [if_neg (by omega)]
          · rw [hst2, up_e]
            simp
          · simp only [up]
            repeat rw [if_neg (by omega)]
            exact hfr b2 r2 w1 w2
        · refine x_aload rfl ?_
          refine h_getR sc_94 rfl (by omega) ?_
          refine x_iload rfl ?_
          refine h_iald sc_103 ⟨by omega, by omega⟩ (by decide) ?_
          rw [kn2]
          have kv : s 103 i = kc i ∧ kc i < 10000 := by
            have := kr trivial
            unfold kR at this
            omega
          rw [kv.1]
          obtain ⟨st2, hst2⟩ : ∃ l, l = (kc i :: st) := ⟨_, rfl⟩
          have hev2 : evN nv kc b (j + 1) = some st2 := by
            rw [hst2]
            simp only [evN, hev]
            rw [ei]
            unfold evS
            rw [if_pos kv.2]
          refine n_i2l ⟨by omega, by omega⟩ ?_
          refine x_goto ?_
          refine h_last sc_105 ⟨by omega, by omega⟩ (by decide) ?_
          refine x_aload rfl ?_
          refine x_dupR ?_
          refine h_getI 26 sc_94 rfl rfl ?_
          rw [up_a (b := 94) (by decide), hln]
          refine x_ci ?_
          refine x_iadd ?_
          refine h_putI 26 sc_94 rfl rfl ?_
          refine x_fall ?_
          refine n_iinc [some (vR _), some (vI _), some (vI _)] rfl rfl ?_
          refine x_goto ?_
          refine ih ((e - b).toNat - (j + 1)) (by omega) (j + 1) _ st2 _ (by omega) (by omega) hev2 ?_ ?_ (fun b2 r2 w1 w2 => ?_)
          · rw [hst2]
            refine ⟨by simp [up], SKl_cg _ (fun q q0 q1 => ?_) hsk⟩
            simp only [up]
            repeat rw [if_neg (by omega)]
          · rw [hst2, up_e]
            simp
          · simp only [up]
            repeat rw [if_neg (by omega)]
            exact hfr b2 r2 w1 w2
      · refine x_aload rfl ?_
        refine x_aload rfl ?_
        refine h_getR sc_94 rfl (by omega) ?_
        refine x_iload rfl ?_
        refine h_iald sc_103 ⟨by omega, by omega⟩ (by decide) ?_
        rw [kn2]
        refine n_call [vR _, vI _] [] (by omega) (Nat.le_of_ble_eq_true rfl) rfl rfl (Nat.le_of_ble_eq_true rfl) ?_
        have kv : s 103 i = chr (kc i - 20000) ∧ 20000 ≤ kc i ∧ kc i ≤ 20012 := by
          have := kr trivial
          unfold kR at this
          omega
        rw [kv.1]
        refine r_worksK (nv := nv) (st := st) (by omega) kv.2 (by rw [sl]; exact q2) hsk hln (by omega) ib (fun u u1 u2 => ?_)
        show wp PP _ _ _ [some (vR _), some (vI _), some (vI _)] [vI _] _ _
        refine z_if_ne (fun c3 => ?_) (fun c3 => ?_)
        · refine n_iinc [some (vR _), some (vI _), some (vI _)] rfl rfl ?_
          refine x_goto ?_
          obtain ⟨st2, hst2⟩ : ∃ st2, evS nv (kc i) st = some st2 := by
            cases w : evS nv (kc i) st with
            | none => exact absurd w c3
            | some st2 => exact ⟨st2, rfl⟩
          have hev2 : evN nv kc b (j + 1) = some st2 := by
            simp only [evN, hev]
            rw [ei]
            exact hst2
          refine ih ((e - b).toNat - (j + 1)) (by omega) (j + 1) _ st2 _ (by omega) (by omega) hev2 (u2 st2 hst2).1 (u2 st2 hst2).2 (wfr_tr hfr u1)
        · refine x_ci ?_
          refine x_zret (by first | exact bI_01 _ | omega) ?_
          have hno : evN nv kc b (j + 1) = none := by
            simp only [evN, hev]
            rw [ei]
            cases w : evS nv (kc i) st with
            | none => rfl
            | some st2 => exact absurd (by simp) (fun (_ : True) => c3 (by rw [w]; simp))
          have hlv := lawV_none (nv := nv) (kc := kc) (b := b) (e := e) (evN_none hno (e - b).toNat (by omega))
          exact cB0 (k _ (wfr_tr hfr u1) (fun q => absurd hlv q)) (fun q => q hlv)
  refine n_at (m := 93) (q := mr93) (kn := (0, 2)) [some (vR _), some (vI _), none] mb93 rfl rfl (h_rcv sc_94) (Nat.le_of_ble_eq_true rfl) rfl rfl ?_
  refine x_aload rfl ?_
  refine x_ci ?_
  refine h_putI 26 sc_94 rfl rfl ?_
  refine x_aload rfl ?_
  refine h_getR sc_94 rfl (by omega) ?_
  refine x_iload rfl ?_
  refine h_iald sc_100 ⟨by omega, by omega⟩ (by decide) ?_
  rw [up_a (b := 100) (by decide), hb1]
  refine n_istore [some (vR _), some (vI _), some (vI _)] (Nat.le_of_ble_eq_true rfl) rfl ?_
  refine x_fall ?_
  refine L1 (e - b).toNat 0 b [] _ (by omega) (by omega) rfl trivial ?_ (fun b2 r2 w1 w2 => ?_)
  · rw [up_e]
    rfl
  · simp only [up]
    rw [if_neg (by omega)]
end LE
