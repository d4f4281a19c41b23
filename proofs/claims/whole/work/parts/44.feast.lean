/-! YEARS AHEAD; FEASTS -/
section FE
variable {d a : Nat} {h0 h : pheap} {s : St} {Q : Option pv → pheap → Prop} {L f : Int} {n : Nat} {c c' : Int → Int}
theorem LWRg {kc lb le : Int → Int} {t : St} (h : LWR kc lb le s) (g : gfr f s t) : LWR kc lb le t := h.g g
theorem TLN.g {K : Nat} {ty tc : Int → Int} {t : St} (h : TLN K ty tc s) (g : gfr f s t) : TLN K ty tc t := ⟨(g 96 1 (by omega) (by omega) (by omega) (by omega) (by omega) (by omega)).trans h.1, h.2.1, fun i i0 i1 => by
  rw [g 98 i (by omega) (by omega) (by omega) (by omega) (by omega) (by omega), g 99 i (by omega) (by omega) (by omega) (by omega) (by omega) (by omega)]
  exact h.2.2 i i0 i1⟩
theorem r_goesOn {m : Nat} (hd : 14 ≤ d) (hm : m ≤ 1000) {K : Nat} {Y0 : YS} {am tu way slp tw : Int} {kc lb le ty tc : Int → Int} (hps : RS 1 L Y0 s) (hok : okY Y0) (hyr : 0 ≤ Y0.2.2.1 ∧ Y0.2.2.1 ≤ 90000) (htl : TLN K ty tc s) (htw : s 94 45 = tw) (htr : 0 ≤ tw ∧ tw ≤ 4) (ham : (tw = 3 ∧ am = 1) ∨ (¬ tw = 3 ∧ am = 0)) (htu : (tw = 4 ∧ tu = 1) ∨ (¬ tw = 4 ∧ tu = 0)) (hway : (tw = 1 ∧ way = 2) ∨ (¬ tw = 1 ∧ way = 1)) (hsl : s 96 2 = slp) (hsr : 0 ≤ slp ∧ slp ≤ 100) (hw : LWR kc lb le s) (ho : okL kc lb le) (k : ∀ t, RS 1 L (yrN L kc lb le am tu way slp K ty tc Y0 m) t → gfr 1 s t → Q none (HP h0 t)) : wpM PP d 129 [vR 94, vI m] (HP h0 s) Q := by
  have L1 : ∀ N : Nat, ∀ (j : Nat) (i : Int) (t : St), (i = j) → (N = m - j ∧ j ≤ m) → (RS 1 L (yrN L kc lb le am tu way slp K ty tc Y0 j) t) → (gfr 1 s t) →  wp PP d mb129 (mb129.getD 1 []) [some (vR 94), some (vI m), some (vI i)] [] (HP h0 t) Q := by
    refine s_ind (fun N ih => ?_)
    intro j i t hj hn2 p0 z1
    refine x_iload rfl ?_
    refine x_iload rfl ?_
    refine n_icmp_ge ⟨by omega, by omega⟩ ⟨by omega, by omega⟩ (fun c1 => ?_) (fun c1 => ?_)
    · refine x_ret ?_
      have e : j = m := by omega
      rw [e] at p0
      exact k t p0 z1
    · refine x_aload rfl ?_
      refine x_ci ?_
      refine x_ci ?_
      refine n_call [vR _, vI _, vI _] [] (by omega) (Nat.le_of_ble_eq_true rfl) rfl rfl (Nat.le_of_ble_eq_true rfl) ?_
      have ok := yrN_ok (L := L) (kc := kc) (lb := lb) (le := le) (am := am) (tu := tu) (way := way) (slp := slp) (ty := ty) (tc := tc) (K := K) hok j
      refine r_passes (am := am) (tu := tu) (way := way) (slp := slp) (tw := tw) (by0 := 0) (f := 1) (by omega) (by omega) p0 ok.1 (by omega) (htl.g z1) ((z1 94 45 (by omega) (by omega) (by omega) (by omega) (by omega) (by omega)).trans htw) htr ham htu (Or.inl rfl) (by omega) ((z1 96 2 (by omega) (by omega) (by omega) (by omega) (by omega) (by omega)).trans hsl) hsr (hw.g z1) ho (fun u u1 u2 => ?_)
      show wp PP _ _ _ [some (vR _), some (vI _), some (vI _)] [] _ _
      refine n_iinc [some (vR _), some (vI _), some (vI _)] rfl rfl ?_
      refine x_goto ?_
      refine ih (m - (j + 1)) (by omega) (j + 1) _ _ (by omega) (by omega) u1 (gfr_tr z1 u2)
  refine n_at (m := 129) (q := mr129) (kn := (0, 2)) [some (vR _), some (vI _), none] mb129 rfl rfl (h_rcv sc_94) (Nat.le_of_ble_eq_true rfl) rfl rfl ?_
  refine x_ci ?_
  refine n_istore [some (vR _), some (vI _), some (vI _)] (Nat.le_of_ble_eq_true rfl) rfl ?_
  refine x_fall ?_
  exact L1 m 0 0 s rfl (by omega) hps gfr_rfl
/-- a feast's numbers, its codes, its codes behind the n that lie -/
def fsN (x : Int) : Nat → Int
  | 0 => x
  | i + 1 => nxN (fsN x i)
def fsC (L x : Int) (i : Nat) : Int := fsN x (i + 1) / 65536 % (2 * cnt L - 2)
def fsK (L x : Int) (n : Nat) (c : Int → Int) : Int → Int := fun i => if i < n then c i else fsC L x (i - n).toNat
theorem fsN_R {x : Int} (h : 0 ≤ x ∧ x < 2147483648) : ∀ i : Nat, 0 ≤ fsN x i ∧ fsN x i < 2147483648
  | 0 => h
  | i + 1 => nxN_R (fsN x i)
theorem fsC_R {x : Int} (hc : 2 ≤ cnt L) (i : Nat) : 0 ≤ fsC L x i ∧ fsC L x i < 2 * (cnt L - 1) := by
  unfold fsC
  have h1 := Int.emod_nonneg (fsN x (i + 1) / 65536) (show 2 * cnt L - 2 ≠ 0 by omega)
  have h2 := Int.emod_lt_of_pos (fsN x (i + 1) / 65536) (show 0 < 2 * cnt L - 2 by omega)
  omega
theorem m_danceFeast (hP : isPl a) (hd : 12 ≤ d) (hp : PL a L n c s) {x : Int} {m : Nat} (hx : 0 ≤ x ∧ x < 2147483648) (hm : n + m ≤ 52) (hct2 : 2 ≤ cnt L) (k : ∀ t, PL a L (n + m) (fsK L x n c) t → fr a s t → Q (some (vL (fsN x m))) (HP h0 t)) : wpM PP d 55 [vR a, vL x, vI m] (HP h0 s) Q := by
  have ha := hP.1.1
  have hc := cnt_R L
  have hn := hp.hn
  have q3 := hp.left
  have q4 := hp.count
  have q5 := hp.size
  have hL := hp.hL
  have L1 : ∀ N : Nat, ∀ (j : Nat) (i : Int) (v : Int) (t : St), (i = j) → (N = m - j ∧ j ≤ m) → (v = fsN x j) → (PL a L (n + j) (fsK L x n c) t) → (fr a s t) →  wp PP d mb55 (mb55.getD 1 []) [some (vR a), some (vL x), none, some (vI m), some (vI (2 * cnt L - 2)), some (vL v), none, some (vI i)] [] (HP h0 t) Q := by
    refine s_ind (fun N ih => ?_)
    intro j i v t hj hn2 hv p0 z1
    refine x_iload rfl ?_
    refine x_iload rfl ?_
    refine n_icmp_ge ⟨by omega, by omega⟩ ⟨by omega, by omega⟩ (fun c1 => ?_) (fun c1 => ?_)
    · refine x_lload rfl ?_
      refine x_lret ?_
      first
        | (exfalso; omega)
        | (have e : j = m := by omega
           subst e
           rw [hv]
           exact k t p0 z1)
    · refine x_iload rfl ?_
      refine n_if_le ⟨by omega, by omega⟩ (fun c2 => ?_) (fun c2 => ?_)
      · refine x_lload rfl ?_
        refine x_lret ?_
        first
          | (exfalso; omega)
          | (have e : j = m := by omega
             subst e
             rw [hv]
             exact k t p0 z1)
      · refine x_lload rfl ?_
        refine n_call [vL _] [] (by omega) (Nat.le_of_ble_eq_true rfl) rfl rfl (Nat.le_of_ble_eq_true rfl) ?_
        have fr_ := fsN_R hx j
        refine m_next (by omega) ?_
        rw [show nxN v = fsN x (j + 1) from by rw [hv]; rfl]
        have fr2 := fsN_R hx (j + 1)
        show wp PP _ _ _ [some (vR _), some (vL _), _, some (vI _), some (vI _), some (vL _), _, some (vI _)] [vL _] _ _
        refine n_lstore [some (vR _), some (vL _), _, some (vI _), some (vI _), some (vL _), _, some (vI _)] (Nat.le_of_ble_eq_true rfl) rfl ?_
        refine x_aload rfl ?_
        refine x_lload rfl ?_
        refine n_call [vL _] [vR _] (by omega) (Nat.le_of_ble_eq_true rfl) rfl rfl (Nat.le_of_ble_eq_true rfl) ?_
        refine m_shown (by omega) ?_
        have sh : 0 ≤ fsN x (j + 1) / 65536 ∧ fsN x (j + 1) / 65536 < 2147483648 := by omega
        show wp PP _ _ _ [some (vR _), some (vL _), _, some (vI _), some (vI _), some (vL _), _, some (vI _)] [vI _, vR _] _ _
        refine x_iload rfl ?_
        refine n_irem ⟨by omega, by omega⟩ ⟨by omega, by omega⟩ ?_
        refine n_call [vR _, vI _] [] (by omega) (Nat.le_of_ble_eq_true rfl) rfl rfl (Nat.le_of_ble_eq_true rfl) ?_
        have fc := fsC_R (L := L) (x := x) hct2 j
        refine m_add (c := fsK L x n c) (x := fsC L x j) hP (by omega) p0 (by omega) ?_ fc (fun u u1 u2 u3 => ?_)
        · unfold fsK
          rw [if_neg (by omega)]
          congr 1
          omega
        show wp PP _ _ _ [some (vR _), some (vL _), _, some (vI _), some (vI _), some (vL _), _, some (vI _)] [] _ _
        refine n_iinc [some (vR _), some (vL _), _, some (vI _), some (vI _), some (vL _), _, some (vI _)] rfl rfl ?_
        refine x_goto ?_
        refine ih (m - (j + 1)) (by omega) (j + 1) _ _ _ (by omega) (by omega) rfl u1 (fr_tr z1 u2)
  refine n_at (m := 55) (q := mr55) (kn := (1, 3)) [some (vR _), some (vL _), none, some (vI _), none, none, none, none] mb55 rfl rfl rfl (Nat.le_of_ble_eq_true rfl) rfl rfl ?_
  refine x_aload rfl ?_
  refine n_call [vR _] [] (by omega) (Nat.le_of_ble_eq_true rfl) rfl rfl (Nat.le_of_ble_eq_true rfl) ?_
  refine m_codeCount hP (by omega) (by omega) ?_
  show wp PP _ _ _ [some (vR _), some (vL _), _, some (vI _), _, _, _, _] [vI _] _ _
  refine t_I (2 * cnt L - 2) (by omega) ?_
  refine n_istore [some (vR _), some (vL _), _, some (vI _), some (vI _), _, _, _] (Nat.le_of_ble_eq_true rfl) rfl ?_
  refine x_lload rfl ?_
  refine n_lstore [some (vR _), some (vL _), _, some (vI _), some (vI _), some (vL _), _, _] (Nat.le_of_ble_eq_true rfl) rfl ?_
  refine x_ci ?_
  refine n_istore [some (vR _), some (vL _), _, some (vI _), some (vI _), some (vL _), _, some (vI _)] (Nat.le_of_ble_eq_true rfl) rfl ?_
  refine x_fall ?_
  refine L1 m 0 0 x s rfl (by omega) rfl (hp.cg (fun i i0 i1 => ?_)) fr_rfl
  unfold fsK
  exact (if_pos i1).symm
theorem r_feastCode (hf : 0 ≤ f ∧ f < 23) (hd : 10 ≤ d) (hL : 0 ≤ L ∧ L < 64) (hct2 : 2 ≤ cnt L) (h111 : s 111 f = L) {v : Int} (hl : s 94 47 = v) (k : Q (some (vI (nxN v / 65536 % (2 * cnt L - 2)))) (HP h0 (up s 94 47 (nxN v)))) : wpM PP d 148 [vR 94, vI f] (HP h0 s) Q := by
  have hct := cnt_R L
  have nr := nxN_R v
  refine n_at (m := 148) (q := mr148) (kn := (0, 2)) [some (vR _), some (vI _)] mb148 rfl rfl (h_rcv sc_94) (Nat.le_of_ble_eq_true rfl) rfl rfl ?_
  refine x_aload rfl ?_
  refine x_aload rfl ?_
  refine h_getI 47 sc_94 rfl rfl ?_
  rw [hl]
  refine x_ci ?_
  refine x_imul ?_
  refine x_ci ?_
  refine x_iadd ?_
  refine x_ci ?_
  refine x_iand ?_
  rw [iand_nat, show (v * 1103515245 + 12345) % 2147483648 = nxN v from rfl]
  refine h_putI 47 sc_94 rfl rfl ?_
  refine x_aload rfl ?_
  refine h_getI 47 sc_94 rfl rfl ?_
  rw [up_e]
  refine x_ci ?_
  refine x_ishr ?_
  rw [ishr16 nr]
  refine x_aload rfl ?_
  refine x_iload rfl ?_
  refine n_call [vR _, vI _] [vI _] (by omega) (Nat.le_of_ble_eq_true rfl) rfl rfl (Nat.le_of_ble_eq_true rfl) ?_
  refine r_codesOf (by omega) hf (by rw [up_a (by decide), h111]; exact hL) ?_
  rw [up_a (b := 111) (by decide), h111, show max 0 (2 * cnt L - 2) = 2 * cnt L - 2 by omega]
  show wp PP _ _ _ [some (vR _), some (vI _)] [vI _, vI _] _ _
  refine n_irem ⟨by omega, by omega⟩ ⟨by omega, by omega⟩ ?_
  refine x_iret ?_
  exact k
end FE
