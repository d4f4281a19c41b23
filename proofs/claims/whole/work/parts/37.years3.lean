/-! YEARS: a telling danced or refused; whether the last one slips -/
section YC
variable {d a tp : Nat} {h0 h : pheap} {s : St} {Q : Option pv → pheap → Prop} {L : Int} {n : Nat} {c c' : Int → Int}
/-- a code told, turned or not -/
def tuX (tu x : Int) : Int := if tu = 0 then x else x + 1 - 2 * (x % 2)
/-- whether a telling is danced -/
abbrev tlC (L : Int) (n : Nat) (c : Int → Int) (yr : Int) (kc lb le : Int → Int) (am x : Int) : Prop := (0 ≤ x ∧ x < 2 * (cnt L - 1) ∧ n < 48) ∧ (¬ am = 0 ∨ ¬ vNx L n c yr kc lb le x 0 = 0)
def tlV (L : Int) (n : Nat) (c : Int → Int) (yr : Int) (kc lb le : Int → Int) (am vw x : Int) : Int := if tlC L n c yr kc lb le am x then vwN vw (vNx L n c yr kc lb le x 1) else vw
def tlR (L : Int) (n : Nat) (c : Int → Int) (yr : Int) (kc lb le : Int → Int) (am rf x : Int) : Int := if tlC L n c yr kc lb le am x then rf else rf + 1
def tlL (L : Int) (n : Nat) (c : Int → Int) (yr : Int) (kc lb le : Int → Int) (am x : Int) : Nat := if tlC L n c yr kc lb le am x then n + 1 else n
def tlK (L : Int) (n : Nat) (c : Int → Int) (yr : Int) (kc lb le : Int → Int) (am x : Int) : Int → Int := if tlC L n c yr kc lb le am x then (fun i => if i = n then x else c i) else c
/-- all but a dance, the names and a script's stack -/
def zfr (a tp : Nat) (s t : St) : Prop := ∀ (b : Nat) (r : Int), (b < a ∨ a + 4 < b) → ¬ b = 69 → ¬ b = tp + 7 → ¬ (b = tp ∧ r = 15) → t b r = s b r
theorem zfr_tr {s t u : St} (h1 : zfr a tp s t) (h2 : zfr a tp t u) : zfr a tp s u := fun b r q0 q1 q2 q3 => (h2 b r q0 q1 q2 q3).trans (h1 b r q0 q1 q2 q3)
theorem zfr_rfl {s : St} : zfr a tp s s := fun _ _ _ _ _ _ => rfl
theorem yfr.z {t : St} (h : yfr tp s t) : zfr a tp s t := fun b r _ q1 q2 q3 => h b r q1 q2 q3
theorem LWC.z {t : St} {kc lb le : Int → Int} (h : LWC tp kc lb le s) (f : zfr a tp s t) (hta : a + 4 < tp ∨ tp + 7 < a) (h9 : tp + 8 < 69) : LWC tp kc lb le t := fun r r0 r1 => by
  obtain ⟨q1, q2, q3⟩ := h r r0 r1
  exact ⟨(f (tp + 5) r (by omega) (by omega) (by omega) (by omega)).trans q1, (f (tp + 6) r (by omega) (by omega) (by omega) (by omega)).trans q2, fun i i0 i1 => (f (tp + 4) i (by omega) (by omega) (by omega) (by omega)).trans (q3 i i0 i1)⟩
/-- the odds, whether it slips, what is drawn -/
def odN (V slp : Int) : Int := if V = -9223372036854775808 then slp else max 0 (min 100 V)
theorem odN_R {V slp : Int} (h : 0 ≤ slp ∧ slp ≤ 100) : 0 ≤ odN V slp ∧ odN V slp ≤ 100 := by
  unfold odN
  omega
abbrev slC (way od la : Int) : Prop := ¬ way = 2 ∧ ((¬ way = 0 ∧ 50 ≤ od) ∨ (way = 0 ∧ 100 ≤ od) ∨ (way = 0 ∧ 0 < od ∧ od < 100 ∧ nxN la / 65536 % 100 < od))
def slD (way od la : Int) : Int := if way = 0 ∧ 0 < od ∧ od < 100 then nxN la else la
theorem m_yearOf (hS : isSc tp) {x : Int} (h4 : 0 ≤ s tp 4 ∧ s tp 4 ≤ 24) (hx : 0 ≤ x ∧ x < s tp 4) (k : Q (some (vI (s (tp + 2) x))) (HP h0 s)) : wpM PP d 247 [vR tp, vI x] (HP h0 s) Q := by
  have ha := hS.1.1
  refine n_at (m := 247) (q := mr247) (kn := (0, 2)) [some (vR _), some (vI _)] mb247 rfl rfl (h_rcv hS.1) (Nat.le_of_ble_eq_true rfl) rfl rfl ?_
  refine x_iload rfl ?_
  refine n_if_lt ⟨by omega, by omega⟩ (fun c1 => ?_) (fun c1 => ?_)
  · refine x_ci ?_
    refine x_fall ?_
    refine x_iret ?_
    first | (exfalso; omega) | exact k
  · refine x_iload rfl ?_
    refine x_aload rfl ?_
    refine h_getI 4 hS.1 rfl rfl ?_
    refine n_icmp_ge ⟨by omega, by omega⟩ ⟨by omega, by omega⟩ (fun c2 => ?_) (fun c2 => ?_)
    · refine x_ci ?_
      refine x_fall ?_
      refine x_iret ?_
      first | (exfalso; omega) | exact k
    · refine x_iload rfl ?_
      refine x_aload rfl ?_
      refine h_getR hS.1 rfl (by omega) ?_
      refine h_alen 24 hS.2.2.1 (by decide) rfl ?_
      refine n_icmp_ge ⟨by omega, by omega⟩ ⟨by omega, by omega⟩ (fun c3 => ?_) (fun c3 => ?_)
      · refine x_ci ?_
        refine x_fall ?_
        refine x_iret ?_
        first | (exfalso; omega) | exact k
      · refine x_aload rfl ?_
        refine h_getR hS.1 rfl (by omega) ?_
        refine x_iload rfl ?_
        refine h_iald hS.2.2.1 ⟨by omega, by omega⟩ (by decide) ?_
        refine x_goto ?_
        refine x_iret ?_
        first | (exfalso; omega) | exact k
theorem m_codeOf2 (hS : isSc tp) {x : Int} (h4 : 0 ≤ s tp 4 ∧ s tp 4 ≤ 24) (hx : 0 ≤ x ∧ x < s tp 4) (k : Q (some (vI (s (tp + 3) x))) (HP h0 s)) : wpM PP d 248 [vR tp, vI x] (HP h0 s) Q := by
  have ha := hS.1.1
  refine n_at (m := 248) (q := mr248) (kn := (0, 2)) [some (vR _), some (vI _)] mb248 rfl rfl (h_rcv hS.1) (Nat.le_of_ble_eq_true rfl) rfl rfl ?_
  refine x_iload rfl ?_
  refine n_if_lt ⟨by omega, by omega⟩ (fun c1 => ?_) (fun c1 => ?_)
  · refine x_ci ?_
    refine x_fall ?_
    refine x_iret ?_
    first | (exfalso; omega) | exact k
  · refine x_iload rfl ?_
    refine x_aload rfl ?_
    refine h_getI 4 hS.1 rfl rfl ?_
    refine n_icmp_ge ⟨by omega, by omega⟩ ⟨by omega, by omega⟩ (fun c2 => ?_) (fun c2 => ?_)
    · refine x_ci ?_
      refine x_fall ?_
      refine x_iret ?_
      first | (exfalso; omega) | exact k
    · refine x_iload rfl ?_
      refine x_aload rfl ?_
      refine h_getR hS.1 rfl (by omega) ?_
      refine h_alen 24 hS.2.2.2.1 (by decide) rfl ?_
      refine n_icmp_ge ⟨by omega, by omega⟩ ⟨by omega, by omega⟩ (fun c3 => ?_) (fun c3 => ?_)
      · refine x_ci ?_
        refine x_fall ?_
        refine x_iret ?_
        first | (exfalso; omega) | exact k
      · refine x_aload rfl ?_
        refine h_getR hS.1 rfl (by omega) ?_
        refine x_iload rfl ?_
        refine h_iald hS.2.2.2.1 ⟨by omega, by omega⟩ (by decide) ?_
        refine x_goto ?_
        refine x_iret ?_
        first | (exfalso; omega) | exact k
theorem up_f {s : St} {a b : Nat} {i j x : Int} (h : ¬ (b = a ∧ j = i)) : up s a i x b j = s b j := if_neg h
theorem PLup0 {i x : Int} (h : PL (a + 1) L n c s) : PL (a + 1) L n c (up s a i x) := h.up (by omega)
theorem m_told (hP : isDa a) (hS : isSc tp) (hta : a + 4 < tp ∨ tp + 7 < a) (h69 : a + 4 < 69) (htp : tp + 8 < 69) (hd : 14 ≤ d) (hp : PL (a + 1) L n c s) {x0 yr vw rf am tu : Int} (hx0 : 0 ≤ x0 ∧ x0 < 10) (hy : s a 4 = yr) (hyr : 0 ≤ yr ∧ yr ≤ 100000) (hv : s a 1 = vw) (hvr : -9999 ≤ vw ∧ vw ≤ 9999) (hr : s a 2 = rf) (ham : s 68 2 = am) (ha01 : am = 0 ∨ am = 1) (htu : s 68 3 = tu) (ht01 : tu = 0 ∨ tu = 1) {kc lb le : Int → Int} (hw : LWC tp kc lb le s) (ho : okL kc lb le) (k : ∀ t, PL (a + 1) L (tlL L n c yr kc lb le am (tuX tu x0)) (tlK L n c yr kc lb le am (tuX tu x0)) t → t a 1 = tlV L n c yr kc lb le am vw (tuX tu x0) → t a 2 = tlR L n c yr kc lb le am rf (tuX tu x0) → (∀ (b : Nat) (r : Int), (b < a ∨ a + 4 < b ∨ (b = a ∧ ¬ r = 1 ∧ ¬ r = 2)) → ¬ b = 69 → ¬ b = tp + 7 → ¬ (b = tp ∧ r = 15) → t b r = s b r) → Q none (HP h0 t)) : wpM PP d 307 [vR 68, vR tp, vR a, vI x0] (HP h0 s) Q := by
  have ha := hP.1.1
  have hn := hp.hn
  have hct := cnt_R L
  obtain ⟨x, hx⟩ : ∃ x, x = tuX tu x0 := ⟨_, rfl⟩
  rw [← hx] at k
  have xr : 0 ≤ x ∧ x < 16 := by
    rw [hx]
    unfold tuX
    split <;> omega
  refine n_at (m := 307) (q := mr307) (kn := (0, 4)) [some (vR _), some (vR _), some (vR _), some (vI _), none] mb307 rfl rfl (h_rcv sc_68) (Nat.le_of_ble_eq_true rfl) rfl rfl ?_
  refine x_aload rfl ?_
  refine h_getZ 3 sc_68 rfl rfl ?_
  rw [htu]
  refine n_if_eq ⟨by omega, by omega⟩ (fun c1 => ?_) (fun c1 => ?_)
  · refine x_iload rfl ?_
    refine x_fall ?_
    refine t_I x ?_ ?_
    · rw [hx]
      unfold tuX
      first
        | rw [if_pos (by omega)]
        | (rw [if_neg (by omega), xor1 (by omega) (by omega)])
    refine n_istore [some (vR _), some (vR _), some (vR _), some (vI _), some (vI _)] (Nat.le_of_ble_eq_true rfl) rfl ?_
    refine x_aload rfl ?_
    refine x_iload rfl ?_
    refine n_call [vR _, vI _] [] (by omega) (Nat.le_of_ble_eq_true rfl) rfl rfl (Nat.le_of_ble_eq_true rfl) ?_
    refine m_hasRoom hP (by omega) hp ⟨by omega, by omega⟩ ?_
    show wp PP _ _ _ [some (vR _), some (vR _), some (vR _), some (vI _), some (vI _)] [vI _] _ _
    refine z_if_eq (fun c2 => ?_) (fun c2 => ?_)
    · refine x_aload rfl ?_
      refine x_dupR ?_
      refine h_getI 2 hP.1 rfl rfl ?_
      refine x_ci ?_
      refine x_iadd ?_
      refine h_putI 2 hP.1 rfl rfl ?_
      refine x_fall ?_
      refine x_ret ?_
      first
        | (have no : ¬ tlC L n c yr kc lb le am x := fun q => by
             first
               | exact c2 q.1
               | omega
           first
             | (refine k _ ?_ ?_ ?_ (fun b2 r2 w0 w1 w2 w3 => ?_)
                · unfold tlL tlK
                  rw [if_neg no, if_neg no]
                  exact PLup0 (hp.y t1 (by omega) (by omega))
                · unfold tlV
                  rw [if_neg no, up_i (by decide)]
                  exact (t1 a 1 (by omega) (by omega) (by omega)).trans hv
                · unfold tlR
                  rw [if_neg no, up_e, (t1 a 2 (by omega) (by omega) (by omega)), hr]
                · rw [up_f (by omega)]
                  exact t1 b2 r2 w1 w2 w3)
             | (refine k _ ?_ ?_ ?_ (fun b2 r2 w0 w1 w2 w3 => ?_)
                · unfold tlL tlK
                  rw [if_neg no, if_neg no]
                  exact PLup0 hp
                · unfold tlV
                  rw [if_neg no, up_i (by decide)]
                  exact hv
                · unfold tlR
                  rw [if_neg no, up_e, hr]
                · rw [up_f (by omega)]))
        | (have yes : tlC L n c yr kc lb le am x := ⟨c2, by omega⟩
           have vcg : vNx L n (fun i => if i = n then x else c i) yr kc lb le x 1 = vNx L n c yr kc lb le x 1 := by
             obtain ⟨w1, w2, w3⟩ := w_cg (L := L) (c := fun i => if i = n then x else c i) (c' := c) (n := n) (fun i i0 i1 => if_neg (by omega))
             unfold vNx
             rw [w1, w2]
           rw [vcg] at u2
           first
             | (refine k u ?_ ?_ ?_ (fun b2 r2 w0 w1 w2 w3 => (u3 b2 r2 (by omega) w1 w2 w3).trans (t1 b2 r2 w1 w2 w3))
                · unfold tlL tlK
                  rw [if_pos yes, if_pos yes]
                  exact u1
                · unfold tlV
                  rw [if_pos yes]
                  exact u2
                · unfold tlR
                  rw [if_pos yes]
                  exact ((u3 a 2 (by omega) (by omega) (by omega) (by omega)).trans (t1 a 2 (by omega) (by omega) (by omega))).trans hr)
             | (refine k u ?_ ?_ ?_ (fun b2 r2 w0 w1 w2 w3 => u3 b2 r2 (by omega) w1 w2 w3)
                · unfold tlL tlK
                  rw [if_pos yes, if_pos yes]
                  exact u1
                · unfold tlV
                  rw [if_pos yes]
                  exact u2
                · unfold tlR
                  rw [if_pos yes]
                  exact (u3 a 2 (by omega) (by omega) (by omega) (by omega)).trans hr))
    · refine x_aload rfl ?_
      refine h_getZ 2 sc_68 rfl rfl ?_
      rw [ham]
      refine n_if_ne ⟨by omega, by omega⟩ (fun c3 => ?_) (fun c3 => ?_)
      · refine x_aload rfl ?_
        refine x_aload rfl ?_
        refine x_aload rfl ?_
        refine x_iload rfl ?_
        refine n_call [vR _, vR _, vR _, vI _] [] (by omega) (Nat.le_of_ble_eq_true rfl) rfl rfl (Nat.le_of_ble_eq_true rfl) ?_
        refine m_dance (a := a) (tp := tp) (n := n) (c := fun i => if i = n then x else c i) (x := x) hP hS hta h69 htp (by omega) (hp.cg (fun i i0 i1 => (if_neg (by omega)).symm)) (by omega) (if_pos rfl) hy hyr hv hvr (by omega) hw ho (fun u u1 u2 u3 => ?_)
        show wp PP _ _ _ [some (vR _), some (vR _), some (vR _), some (vI _), some (vI _)] [] _ _
        refine x_goto ?_
        refine x_ret ?_
        first
          | (have no : ¬ tlC L n c yr kc lb le am x := fun q => by
               first
                 | exact c2 q.1
                 | omega
             first
               | (refine k _ ?_ ?_ ?_ (fun b2 r2 w0 w1 w2 w3 => ?_)
                  · unfold tlL tlK
                    rw [if_neg no, if_neg no]
                    exact PLup0 (hp.y t1 (by omega) (by omega))
                  · unfold tlV
                    rw [if_neg no, up_i (by decide)]
                    exact (t1 a 1 (by omega) (by omega) (by omega)).trans hv
                  · unfold tlR
                    rw [if_neg no, up_e, (t1 a 2 (by omega) (by omega) (by omega)), hr]
                  · rw [up_f (by omega)]
                    exact t1 b2 r2 w1 w2 w3)
               | (refine k _ ?_ ?_ ?_ (fun b2 r2 w0 w1 w2 w3 => ?_)
                  · unfold tlL tlK
                    rw [if_neg no, if_neg no]
                    exact PLup0 hp
                  · unfold tlV
                    rw [if_neg no, up_i (by decide)]
                    exact hv
                  · unfold tlR
                    rw [if_neg no, up_e, hr]
                  · rw [up_f (by omega)]))
          | (have yes : tlC L n c yr kc lb le am x := ⟨c2, by omega⟩
             have vcg : vNx L n (fun i => if i = n then x else c i) yr kc lb le x 1 = vNx L n c yr kc lb le x 1 := by
               obtain ⟨w1, w2, w3⟩ := w_cg (L := L) (c := fun i => if i = n then x else c i) (c' := c) (n := n) (fun i i0 i1 => if_neg (by omega))
               unfold vNx
               rw [w1, w2]
             rw [vcg] at u2
             first
               | (refine k u ?_ ?_ ?_ (fun b2 r2 w0 w1 w2 w3 => (u3 b2 r2 (by omega) w1 w2 w3).trans (t1 b2 r2 w1 w2 w3))
                  · unfold tlL tlK
                    rw [if_pos yes, if_pos yes]
                    exact u1
                  · unfold tlV
                    rw [if_pos yes]
                    exact u2
                  · unfold tlR
                    rw [if_pos yes]
                    exact ((u3 a 2 (by omega) (by omega) (by omega) (by omega)).trans (t1 a 2 (by omega) (by omega) (by omega))).trans hr)
               | (refine k u ?_ ?_ ?_ (fun b2 r2 w0 w1 w2 w3 => u3 b2 r2 (by omega) w1 w2 w3)
                  · unfold tlL tlK
                    rw [if_pos yes, if_pos yes]
                    exact u1
                  · unfold tlV
                    rw [if_pos yes]
                    exact u2
                  · unfold tlR
                    rw [if_pos yes]
                    exact (u3 a 2 (by omega) (by omega) (by omega) (by omega)).trans hr))
      · refine x_aload rfl ?_
        refine x_aload rfl ?_
        refine x_aload rfl ?_
        refine x_iload rfl ?_
        refine x_ci ?_
        refine n_call [vR _, vR _, vR _, vI _, vI _] [] (by omega) (Nat.le_of_ble_eq_true rfl) rfl rfl (Nat.le_of_ble_eq_true rfl) ?_
        have lv := evS_in (nv := nvE (wO L c n (x / 2)) (wO L c n (x / 2 + 1)) x (wB L c n (6 * wO L c n (x / 2) + wO L c n (x / 2 + 1))) n (cnt L) yr) (kc := kc) (b := lb 0) (e := le 0) (by
          have o1 := wO_R hp.hL hp.v (x / 2) (by omega) (by omega)
          have o2 := wO_R hp.hL hp.v (x / 2 + 1) (by omega) (by omega)
          have wr := wB_R (L := L) (c := c) n (6 * wO L c n (x / 2) + wO L c n (x / 2 + 1))
          exact nvE_R ⟨by omega, by omega⟩ ⟨by omega, by omega⟩ (by omega) (by omega) (by omega) (by omega) hyr) (ho 0 (by omega) (by omega))
        refine m_worthNext (r := 0) hP hS hta h69 htp (by omega) hp hy hyr (by omega) (by omega) hw ho (fun t t1 => ?_)
        rw [show lawV _ kc (lb 0) (le 0) = vNx L n c yr kc lb le x 0 from rfl] at *
        show wp PP _ _ _ [some (vR _), some (vR _), some (vR _), some (vI _), some (vI _)] [vL _] _ _
        refine x_cl ?_
        refine n_lif_eq ⟨by omega, by omega⟩ ⟨by omega, by omega⟩ (fun c4 => ?_) (fun c4 => ?_)
        · refine x_aload rfl ?_
          refine x_dupR ?_
          refine h_getI 2 hP.1 rfl rfl ?_
          refine x_ci ?_
          refine x_iadd ?_
          refine h_putI 2 hP.1 rfl rfl ?_
          refine x_fall ?_
          refine x_ret ?_
          first
            | (have no : ¬ tlC L n c yr kc lb le am x := fun q => by
                 first
                   | exact c2 q.1
                   | omega
               first
                 | (refine k _ ?_ ?_ ?_ (fun b2 r2 w0 w1 w2 w3 => ?_)
                    · unfold tlL tlK
                      rw [if_neg no, if_neg no]
                      exact PLup0 (hp.y t1 (by omega) (by omega))
                    · unfold tlV
                      rw [if_neg no, up_i (by decide)]
                      exact (t1 a 1 (by omega) (by omega) (by omega)).trans hv
                    · unfold tlR
                      rw [if_neg no, up_e, (t1 a 2 (by omega) (by omega) (by omega)), hr]
                    · rw [up_f (by omega)]
                      exact t1 b2 r2 w1 w2 w3)
                 | (refine k _ ?_ ?_ ?_ (fun b2 r2 w0 w1 w2 w3 => ?_)
                    · unfold tlL tlK
                      rw [if_neg no, if_neg no]
                      exact PLup0 hp
                    · unfold tlV
                      rw [if_neg no, up_i (by decide)]
                      exact hv
                    · unfold tlR
                      rw [if_neg no, up_e, hr]
                    · rw [up_f (by omega)]))
            | (have yes : tlC L n c yr kc lb le am x := ⟨c2, by omega⟩
               have vcg : vNx L n (fun i => if i = n then x else c i) yr kc lb le x 1 = vNx L n c yr kc lb le x 1 := by
                 obtain ⟨w1, w2, w3⟩ := w_cg (L := L) (c := fun i => if i = n then x else c i) (c' := c) (n := n) (fun i i0 i1 => if_neg (by omega))
                 unfold vNx
                 rw [w1, w2]
               rw [vcg] at u2
               first
                 | (refine k u ?_ ?_ ?_ (fun b2 r2 w0 w1 w2 w3 => (u3 b2 r2 (by omega) w1 w2 w3).trans (t1 b2 r2 w1 w2 w3))
                    · unfold tlL tlK
                      rw [if_pos yes, if_pos yes]
                      exact u1
                    · unfold tlV
                      rw [if_pos yes]
                      exact u2
                    · unfold tlR
                      rw [if_pos yes]
                      exact ((u3 a 2 (by omega) (by omega) (by omega) (by omega)).trans (t1 a 2 (by omega) (by omega) (by omega))).trans hr)
                 | (refine k u ?_ ?_ ?_ (fun b2 r2 w0 w1 w2 w3 => u3 b2 r2 (by omega) w1 w2 w3)
                    · unfold tlL tlK
                      rw [if_pos yes, if_pos yes]
                      exact u1
                    · unfold tlV
                      rw [if_pos yes]
                      exact u2
                    · unfold tlR
                      rw [if_pos yes]
                      exact (u3 a 2 (by omega) (by omega) (by omega) (by omega)).trans hr))
        · refine x_fall ?_
          refine x_aload rfl ?_
          refine x_aload rfl ?_
          refine x_aload rfl ?_
          refine x_iload rfl ?_
          refine n_call [vR _, vR _, vR _, vI _] [] (by omega) (Nat.le_of_ble_eq_true rfl) rfl rfl (Nat.le_of_ble_eq_true rfl) ?_
          refine m_dance (a := a) (tp := tp) (n := n) (c := fun i => if i = n then x else c i) (x := x) hP hS hta h69 htp (by omega) ((hp.y t1 (by omega) (by omega)).cg (fun i i0 i1 => (if_neg (by omega)).symm)) (by omega) (if_pos rfl) ((t1 a 4 (by omega) (by omega) (by omega)).trans hy) hyr ((t1 a 1 (by omega) (by omega) (by omega)).trans hv) hvr (by omega) (hw.y t1 htp) ho (fun u u1 u2 u3 => ?_)
          show wp PP _ _ _ [some (vR _), some (vR _), some (vR _), some (vI _), some (vI _)] [] _ _
          refine x_goto ?_
          refine x_ret ?_
          first
            | (have no : ¬ tlC L n c yr kc lb le am x := fun q => by
                 first
                   | exact c2 q.1
                   | omega
               first
                 | (refine k _ ?_ ?_ ?_ (fun b2 r2 w0 w1 w2 w3 => ?_)
                    · unfold tlL tlK
                      rw [if_neg no, if_neg no]
                      exact PLup0 (hp.y t1 (by omega) (by omega))
                    · unfold tlV
                      rw [if_neg no, up_i (by decide)]
                      exact (t1 a 1 (by omega) (by omega) (by omega)).trans hv
                    · unfold tlR
                      rw [if_neg no, up_e, (t1 a 2 (by omega) (by omega) (by omega)), hr]
                    · rw [up_f (by omega)]
                      exact t1 b2 r2 w1 w2 w3)
                 | (refine k _ ?_ ?_ ?_ (fun b2 r2 w0 w1 w2 w3 => ?_)
                    · unfold tlL tlK
                      rw [if_neg no, if_neg no]
                      exact PLup0 hp
                    · unfold tlV
                      rw [if_neg no, up_i (by decide)]
                      exact hv
                    · unfold tlR
                      rw [if_neg no, up_e, hr]
                    · rw [up_f (by omega)]))
            | (have yes : tlC L n c yr kc lb le am x := ⟨c2, by omega⟩
               have vcg : vNx L n (fun i => if i = n then x else c i) yr kc lb le x 1 = vNx L n c yr kc lb le x 1 := by
                 obtain ⟨w1, w2, w3⟩ := w_cg (L := L) (c := fun i => if i = n then x else c i) (c' := c) (n := n) (fun i i0 i1 => if_neg (by omega))
                 unfold vNx
                 rw [w1, w2]
               rw [vcg] at u2
               first
                 | (refine k u ?_ ?_ ?_ (fun b2 r2 w0 w1 w2 w3 => (u3 b2 r2 (by omega) w1 w2 w3).trans (t1 b2 r2 w1 w2 w3))
                    · unfold tlL tlK
                      rw [if_pos yes, if_pos yes]
                      exact u1
                    · unfold tlV
                      rw [if_pos yes]
                      exact u2
                    · unfold tlR
                      rw [if_pos yes]
                      exact ((u3 a 2 (by omega) (by omega) (by omega) (by omega)).trans (t1 a 2 (by omega) (by omega) (by omega))).trans hr)
                 | (refine k u ?_ ?_ ?_ (fun b2 r2 w0 w1 w2 w3 => u3 b2 r2 (by omega) w1 w2 w3)
                    · unfold tlL tlK
                      rw [if_pos yes, if_pos yes]
                      exact u1
                    · unfold tlV
                      rw [if_pos yes]
                      exact u2
                    · unfold tlR
                      rw [if_pos yes]
                      exact (u3 a 2 (by omega) (by omega) (by omega) (by omega)).trans hr))
  · skip
    refine x_iload rfl ?_
    refine x_ci ?_
    refine x_ixor ?_
    refine x_goto ?_
    refine t_I x ?_ ?_
    · rw [hx]
      unfold tuX
      first
        | rw [if_pos (by omega)]
        | (rw [if_neg (by omega), xor1 (by omega) (by omega)])
    refine n_istore [some (vR _), some (vR _), some (vR _), some (vI _), some (vI _)] (Nat.le_of_ble_eq_true rfl) rfl ?_
    refine x_aload rfl ?_
    refine x_iload rfl ?_
    refine n_call [vR _, vI _] [] (by omega) (Nat.le_of_ble_eq_true rfl) rfl rfl (Nat.le_of_ble_eq_true rfl) ?_
    refine m_hasRoom hP (by omega) hp ⟨by omega, by omega⟩ ?_
    show wp PP _ _ _ [some (vR _), some (vR _), some (vR _), some (vI _), some (vI _)] [vI _] _ _
    refine z_if_eq (fun c2 => ?_) (fun c2 => ?_)
    · refine x_aload rfl ?_
      refine x_dupR ?_
      refine h_getI 2 hP.1 rfl rfl ?_
      refine x_ci ?_
      refine x_iadd ?_
      refine h_putI 2 hP.1 rfl rfl ?_
      refine x_fall ?_
      refine x_ret ?_
      first
        | (have no : ¬ tlC L n c yr kc lb le am x := fun q => by
             first
               | exact c2 q.1
               | omega
           first
             | (refine k _ ?_ ?_ ?_ (fun b2 r2 w0 w1 w2 w3 => ?_)
                · unfold tlL tlK
                  rw [if_neg no, if_neg no]
                  exact PLup0 (hp.y t1 (by omega) (by omega))
                · unfold tlV
                  rw [if_neg no, up_i (by decide)]
                  exact (t1 a 1 (by omega) (by omega) (by omega)).trans hv
                · unfold tlR
                  rw [if_neg no, up_e, (t1 a 2 (by omega) (by omega) (by omega)), hr]
                · rw [up_f (by omega)]
                  exact t1 b2 r2 w1 w2 w3)
             | (refine k _ ?_ ?_ ?_ (fun b2 r2 w0 w1 w2 w3 => ?_)
                · unfold tlL tlK
                  rw [if_neg no, if_neg no]
                  exact PLup0 hp
                · unfold tlV
                  rw [if_neg no, up_i (by decide)]
                  exact hv
                · unfold tlR
                  rw [if_neg no, up_e, hr]
                · rw [up_f (by omega)]))
        | (have yes : tlC L n c yr kc lb le am x := ⟨c2, by omega⟩
           have vcg : vNx L n (fun i => if i = n then x else c i) yr kc lb le x 1 = vNx L n c yr kc lb le x 1 := by
             obtain ⟨w1, w2, w3⟩ := w_cg (L := L) (c := fun i => if i = n then x else c i) (c' := c) (n := n) (fun i i0 i1 => if_neg (by omega))
             unfold vNx
             rw [w1, w2]
           rw [vcg] at u2
           first
             | (refine k u ?_ ?_ ?_ (fun b2 r2 w0 w1 w2 w3 => (u3 b2 r2 (by omega) w1 w2 w3).trans (t1 b2 r2 w1 w2 w3))
                · unfold tlL tlK
                  rw [if_pos yes, if_pos yes]
                  exact u1
                · unfold tlV
                  rw [if_pos yes]
                  exact u2
                · unfold tlR
                  rw [if_pos yes]
                  exact ((u3 a 2 (by omega) (by omega) (by omega) (by omega)).trans (t1 a 2 (by omega) (by omega) (by omega))).trans hr)
             | (refine k u ?_ ?_ ?_ (fun b2 r2 w0 w1 w2 w3 => u3 b2 r2 (by omega) w1 w2 w3)
                · unfold tlL tlK
                  rw [if_pos yes, if_pos yes]
                  exact u1
                · unfold tlV
                  rw [if_pos yes]
                  exact u2
                · unfold tlR
                  rw [if_pos yes]
                  exact (u3 a 2 (by omega) (by omega) (by omega) (by omega)).trans hr))
    · refine x_aload rfl ?_
      refine h_getZ 2 sc_68 rfl rfl ?_
      rw [ham]
      refine n_if_ne ⟨by omega, by omega⟩ (fun c3 => ?_) (fun c3 => ?_)
      · refine x_aload rfl ?_
        refine x_aload rfl ?_
        refine x_aload rfl ?_
        refine x_iload rfl ?_
        refine n_call [vR _, vR _, vR _, vI _] [] (by omega) (Nat.le_of_ble_eq_true rfl) rfl rfl (Nat.le_of_ble_eq_true rfl) ?_
        refine m_dance (a := a) (tp := tp) (n := n) (c := fun i => if i = n then x else c i) (x := x) hP hS hta h69 htp (by omega) (hp.cg (fun i i0 i1 => (if_neg (by omega)).symm)) (by omega) (if_pos rfl) hy hyr hv hvr (by omega) hw ho (fun u u1 u2 u3 => ?_)
        show wp PP _ _ _ [some (vR _), some (vR _), some (vR _), some (vI _), some (vI _)] [] _ _
        refine x_goto ?_
        refine x_ret ?_
        first
          | (have no : ¬ tlC L n c yr kc lb le am x := fun q => by
               first
                 | exact c2 q.1
                 | omega
             first
               | (refine k _ ?_ ?_ ?_ (fun b2 r2 w0 w1 w2 w3 => ?_)
                  · unfold tlL tlK
                    rw [if_neg no, if_neg no]
                    exact PLup0 (hp.y t1 (by omega) (by omega))
                  · unfold tlV
                    rw [if_neg no, up_i (by decide)]
                    exact (t1 a 1 (by omega) (by omega) (by omega)).trans hv
                  · unfold tlR
                    rw [if_neg no, up_e, (t1 a 2 (by omega) (by omega) (by omega)), hr]
                  · rw [up_f (by omega)]
                    exact t1 b2 r2 w1 w2 w3)
               | (refine k _ ?_ ?_ ?_ (fun b2 r2 w0 w1 w2 w3 => ?_)
                  · unfold tlL tlK
                    rw [if_neg no, if_neg no]
                    exact PLup0 hp
                  · unfold tlV
                    rw [if_neg no, up_i (by decide)]
                    exact hv
                  · unfold tlR
                    rw [if_neg no, up_e, hr]
                  · rw [up_f (by omega)]))
          | (have yes : tlC L n c yr kc lb le am x := ⟨c2, by omega⟩
             have vcg : vNx L n (fun i => if i = n then x else c i) yr kc lb le x 1 = vNx L n c yr kc lb le x 1 := by
               obtain ⟨w1, w2, w3⟩ := w_cg (L := L) (c := fun i => if i = n then x else c i) (c' := c) (n := n) (fun i i0 i1 => if_neg (by omega))
               unfold vNx
               rw [w1, w2]
             rw [vcg] at u2
             first
               | (refine k u ?_ ?_ ?_ (fun b2 r2 w0 w1 w2 w3 => (u3 b2 r2 (by omega) w1 w2 w3).trans (t1 b2 r2 w1 w2 w3))
                  · unfold tlL tlK
                    rw [if_pos yes, if_pos yes]
                    exact u1
                  · unfold tlV
                    rw [if_pos yes]
                    exact u2
                  · unfold tlR
                    rw [if_pos yes]
                    exact ((u3 a 2 (by omega) (by omega) (by omega) (by omega)).trans (t1 a 2 (by omega) (by omega) (by omega))).trans hr)
               | (refine k u ?_ ?_ ?_ (fun b2 r2 w0 w1 w2 w3 => u3 b2 r2 (by omega) w1 w2 w3)
                  · unfold tlL tlK
                    rw [if_pos yes, if_pos yes]
                    exact u1
                  · unfold tlV
                    rw [if_pos yes]
                    exact u2
                  · unfold tlR
                    rw [if_pos yes]
                    exact (u3 a 2 (by omega) (by omega) (by omega) (by omega)).trans hr))
      · refine x_aload rfl ?_
        refine x_aload rfl ?_
        refine x_aload rfl ?_
        refine x_iload rfl ?_
        refine x_ci ?_
        refine n_call [vR _, vR _, vR _, vI _, vI _] [] (by omega) (Nat.le_of_ble_eq_true rfl) rfl rfl (Nat.le_of_ble_eq_true rfl) ?_
        have lv := evS_in (nv := nvE (wO L c n (x / 2)) (wO L c n (x / 2 + 1)) x (wB L c n (6 * wO L c n (x / 2) + wO L c n (x / 2 + 1))) n (cnt L) yr) (kc := kc) (b := lb 0) (e := le 0) (by
          have o1 := wO_R hp.hL hp.v (x / 2) (by omega) (by omega)
          have o2 := wO_R hp.hL hp.v (x / 2 + 1) (by omega) (by omega)
          have wr := wB_R (L := L) (c := c) n (6 * wO L c n (x / 2) + wO L c n (x / 2 + 1))
          exact nvE_R ⟨by omega, by omega⟩ ⟨by omega, by omega⟩ (by omega) (by omega) (by omega) (by omega) hyr) (ho 0 (by omega) (by omega))
        refine m_worthNext (r := 0) hP hS hta h69 htp (by omega) hp hy hyr (by omega) (by omega) hw ho (fun t t1 => ?_)
        rw [show lawV _ kc (lb 0) (le 0) = vNx L n c yr kc lb le x 0 from rfl] at *
        show wp PP _ _ _ [some (vR _), some (vR _), some (vR _), some (vI _), some (vI _)] [vL _] _ _
        refine x_cl ?_
        refine n_lif_eq ⟨by omega, by omega⟩ ⟨by omega, by omega⟩ (fun c4 => ?_) (fun c4 => ?_)
        · refine x_aload rfl ?_
          refine x_dupR ?_
          refine h_getI 2 hP.1 rfl rfl ?_
          refine x_ci ?_
          refine x_iadd ?_
          refine h_putI 2 hP.1 rfl rfl ?_
          refine x_fall ?_
          refine x_ret ?_
          first
            | (have no : ¬ tlC L n c yr kc lb le am x := fun q => by
                 first
                   | exact c2 q.1
                   | omega
               first
                 | (refine k _ ?_ ?_ ?_ (fun b2 r2 w0 w1 w2 w3 => ?_)
                    · unfold tlL tlK
                      rw [if_neg no, if_neg no]
                      exact PLup0 (hp.y t1 (by omega) (by omega))
                    · unfold tlV
                      rw [if_neg no, up_i (by decide)]
                      exact (t1 a 1 (by omega) (by omega) (by omega)).trans hv
                    · unfold tlR
                      rw [if_neg no, up_e, (t1 a 2 (by omega) (by omega) (by omega)), hr]
                    · rw [up_f (by omega)]
                      exact t1 b2 r2 w1 w2 w3)
                 | (refine k _ ?_ ?_ ?_ (fun b2 r2 w0 w1 w2 w3 => ?_)
                    · unfold tlL tlK
                      rw [if_neg no, if_neg no]
                      exact PLup0 hp
                    · unfold tlV
                      rw [if_neg no, up_i (by decide)]
                      exact hv
                    · unfold tlR
                      rw [if_neg no, up_e, hr]
                    · rw [up_f (by omega)]))
            | (have yes : tlC L n c yr kc lb le am x := ⟨c2, by omega⟩
               have vcg : vNx L n (fun i => if i = n then x else c i) yr kc lb le x 1 = vNx L n c yr kc lb le x 1 := by
                 obtain ⟨w1, w2, w3⟩ := w_cg (L := L) (c := fun i => if i = n then x else c i) (c' := c) (n := n) (fun i i0 i1 => if_neg (by omega))
                 unfold vNx
                 rw [w1, w2]
               rw [vcg] at u2
               first
                 | (refine k u ?_ ?_ ?_ (fun b2 r2 w0 w1 w2 w3 => (u3 b2 r2 (by omega) w1 w2 w3).trans (t1 b2 r2 w1 w2 w3))
                    · unfold tlL tlK
                      rw [if_pos yes, if_pos yes]
                      exact u1
                    · unfold tlV
                      rw [if_pos yes]
                      exact u2
                    · unfold tlR
                      rw [if_pos yes]
                      exact ((u3 a 2 (by omega) (by omega) (by omega) (by omega)).trans (t1 a 2 (by omega) (by omega) (by omega))).trans hr)
                 | (refine k u ?_ ?_ ?_ (fun b2 r2 w0 w1 w2 w3 => u3 b2 r2 (by omega) w1 w2 w3)
                    · unfold tlL tlK
                      rw [if_pos yes, if_pos yes]
                      exact u1
                    · unfold tlV
                      rw [if_pos yes]
                      exact u2
                    · unfold tlR
                      rw [if_pos yes]
                      exact (u3 a 2 (by omega) (by omega) (by omega) (by omega)).trans hr))
        · refine x_fall ?_
          refine x_aload rfl ?_
          refine x_aload rfl ?_
          refine x_aload rfl ?_
          refine x_iload rfl ?_
          refine n_call [vR _, vR _, vR _, vI _] [] (by omega) (Nat.le_of_ble_eq_true rfl) rfl rfl (Nat.le_of_ble_eq_true rfl) ?_
          refine m_dance (a := a) (tp := tp) (n := n) (c := fun i => if i = n then x else c i) (x := x) hP hS hta h69 htp (by omega) ((hp.y t1 (by omega) (by omega)).cg (fun i i0 i1 => (if_neg (by omega)).symm)) (by omega) (if_pos rfl) ((t1 a 4 (by omega) (by omega) (by omega)).trans hy) hyr ((t1 a 1 (by omega) (by omega) (by omega)).trans hv) hvr (by omega) (hw.y t1 htp) ho (fun u u1 u2 u3 => ?_)
          show wp PP _ _ _ [some (vR _), some (vR _), some (vR _), some (vI _), some (vI _)] [] _ _
          refine x_goto ?_
          refine x_ret ?_
          first
            | (have no : ¬ tlC L n c yr kc lb le am x := fun q => by
                 first
                   | exact c2 q.1
                   | omega
               first
                 | (refine k _ ?_ ?_ ?_ (fun b2 r2 w0 w1 w2 w3 => ?_)
                    · unfold tlL tlK
                      rw [if_neg no, if_neg no]
                      exact PLup0 (hp.y t1 (by omega) (by omega))
                    · unfold tlV
                      rw [if_neg no, up_i (by decide)]
                      exact (t1 a 1 (by omega) (by omega) (by omega)).trans hv
                    · unfold tlR
                      rw [if_neg no, up_e, (t1 a 2 (by omega) (by omega) (by omega)), hr]
                    · rw [up_f (by omega)]
                      exact t1 b2 r2 w1 w2 w3)
                 | (refine k _ ?_ ?_ ?_ (fun b2 r2 w0 w1 w2 w3 => ?_)
                    · unfold tlL tlK
                      rw [if_neg no, if_neg no]
                      exact PLup0 hp
                    · unfold tlV
                      rw [if_neg no, up_i (by decide)]
                      exact hv
                    · unfold tlR
                      rw [if_neg no, up_e, hr]
                    · rw [up_f (by omega)]))
            | (have yes : tlC L n c yr kc lb le am x := ⟨c2, by omega⟩
               have vcg : vNx L n (fun i => if i = n then x else c i) yr kc lb le x 1 = vNx L n c yr kc lb le x 1 := by
                 obtain ⟨w1, w2, w3⟩ := w_cg (L := L) (c := fun i => if i = n then x else c i) (c' := c) (n := n) (fun i i0 i1 => if_neg (by omega))
                 unfold vNx
                 rw [w1, w2]
               rw [vcg] at u2
               first
                 | (refine k u ?_ ?_ ?_ (fun b2 r2 w0 w1 w2 w3 => (u3 b2 r2 (by omega) w1 w2 w3).trans (t1 b2 r2 w1 w2 w3))
                    · unfold tlL tlK
                      rw [if_pos yes, if_pos yes]
                      exact u1
                    · unfold tlV
                      rw [if_pos yes]
                      exact u2
                    · unfold tlR
                      rw [if_pos yes]
                      exact ((u3 a 2 (by omega) (by omega) (by omega) (by omega)).trans (t1 a 2 (by omega) (by omega) (by omega))).trans hr)
                 | (refine k u ?_ ?_ ?_ (fun b2 r2 w0 w1 w2 w3 => u3 b2 r2 (by omega) w1 w2 w3)
                    · unfold tlL tlK
                      rw [if_pos yes, if_pos yes]
                      exact u1
                    · unfold tlV
                      rw [if_pos yes]
                      exact u2
                    · unfold tlR
                      rw [if_pos yes]
                      exact (u3 a 2 (by omega) (by omega) (by omega) (by omega)).trans hr))
end YC
