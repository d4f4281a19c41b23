/-! YEARS THAT PASS -/
section YE
variable {d a tp : Nat} {h0 h : pheap} {s : St} {Q : Option pv → pheap → Prop} {L : Int} {n : Nat} {c c' : Int → Int}
/-- vows, refused, how many codes, which; with it: slipped, year, last number -/
abbrev TLS : Type := Int × Int × Nat × (Int → Int)
abbrev YS : Type := TLS × Int × Int × Int
def tlStep (L yr : Int) (kc lb le : Int → Int) (am x : Int) (D : TLS) : TLS := (tlV L D.2.2.1 D.2.2.2 yr kc lb le am D.1 x, tlR L D.2.2.1 D.2.2.2 yr kc lb le am D.2.1 x, tlL L D.2.2.1 D.2.2.2 yr kc lb le am x, tlK L D.2.2.1 D.2.2.2 yr kc lb le am x)
def tlF (L yr : Int) (kc lb le : Int → Int) (am tu : Int) (ty tc : Int → Int) (D : TLS) : Nat → TLS
  | 0 => D
  | i + 1 => if ty i = yr then tlStep L yr kc lb le am (tuX tu (tc i)) (tlF L yr kc lb le am tu ty tc D i) else tlF L yr kc lb le am tu ty tc D i
def yrS (L : Int) (kc lb le : Int → Int) (am tu way slp : Int) (K : Nat) (ty tc : Int → Int) (Y : YS) : YS :=
  match (tlF L Y.2.2.1 kc lb le am tu ty tc Y.1 K).2.2.1 with
  | 0 => (tlF L Y.2.2.1 kc lb le am tu ty tc Y.1 K, Y.2.1, Y.2.2.1 + 1, Y.2.2.2)
  | m + 1 =>
    if slC way (odN (vLs L m (tlF L Y.2.2.1 kc lb le am tu ty tc Y.1 K).2.2.2 Y.2.2.1 kc lb le) slp) Y.2.2.2 then
      (((tlF L Y.2.2.1 kc lb le am tu ty tc Y.1 K).1, (tlF L Y.2.2.1 kc lb le am tu ty tc Y.1 K).2.1, m, (tlF L Y.2.2.1 kc lb le am tu ty tc Y.1 K).2.2.2), Y.2.1 + 1, Y.2.2.1 + 1, if way = 2 then Y.2.2.2 else slD way (odN (vLs L m (tlF L Y.2.2.1 kc lb le am tu ty tc Y.1 K).2.2.2 Y.2.2.1 kc lb le) slp) Y.2.2.2)
    else (tlF L Y.2.2.1 kc lb le am tu ty tc Y.1 K, Y.2.1, Y.2.2.1 + 1, if way = 2 then Y.2.2.2 else slD way (odN (vLs L m (tlF L Y.2.2.1 kc lb le am tu ty tc Y.1 K).2.2.2 Y.2.2.1 kc lb le) slp) Y.2.2.2)
def yrN (L : Int) (kc lb le : Int → Int) (am tu way slp : Int) (K : Nat) (ty tc : Int → Int) (Y : YS) : Nat → YS
  | 0 => Y
  | i + 1 => yrS L kc lb le am tu way slp K ty tc (yrN L kc lb le am tu way slp K ty tc Y i)
/-- a dance, as it is told to the years -/
def PS (a : Nat) (L : Int) (Y : YS) (t : St) : Prop := PL (a + 1) L Y.1.2.2.1 Y.1.2.2.2 t ∧ t a 1 = Y.1.1 ∧ t a 2 = Y.1.2.1 ∧ t a 3 = Y.2.1 ∧ t a 4 = Y.2.2.1 ∧ t a 5 = Y.2.2.2
def okY (Y : YS) : Prop := -9999 ≤ Y.1.1 ∧ Y.1.1 ≤ 9999 ∧ Y.1.2.2.1 ≤ 48 ∧ 0 ≤ Y.2.2.2 ∧ Y.2.2.2 < 2147483648
theorem tl_ok {yr : Int} {kc lb le : Int → Int} {am x : Int} {D : TLS} (h : -9999 ≤ D.1 ∧ D.1 ≤ 9999 ∧ D.2.2.1 ≤ 48) : -9999 ≤ (tlStep L yr kc lb le am x D).1 ∧ (tlStep L yr kc lb le am x D).1 ≤ 9999 ∧ (tlStep L yr kc lb le am x D).2.2.1 ≤ 48 := by
  unfold tlStep tlV tlL
  dsimp only
  have := vwN_R D.1 (vNx L D.2.2.1 D.2.2.2 yr kc lb le x 1)
  by_cases q : tlC L D.2.2.1 D.2.2.2 yr kc lb le am x
  · rw [if_pos q, if_pos q]
    have := q.1.2.2
    omega
  · rw [if_neg q, if_neg q]
    exact h
theorem tlF_ok {yr : Int} {kc lb le ty tc : Int → Int} {am tu : Int} {D : TLS} (h : -9999 ≤ D.1 ∧ D.1 ≤ 9999 ∧ D.2.2.1 ≤ 48) : ∀ i : Nat, -9999 ≤ (tlF L yr kc lb le am tu ty tc D i).1 ∧ (tlF L yr kc lb le am tu ty tc D i).1 ≤ 9999 ∧ (tlF L yr kc lb le am tu ty tc D i).2.2.1 ≤ 48
  | 0 => h
  | i + 1 => by
    simp only [tlF]
    split
    · exact tl_ok (tlF_ok h i)
    · exact tlF_ok h i
theorem yrS_ok {kc lb le ty tc : Int → Int} {am tu way slp : Int} {K : Nat} {Y : YS} (h : okY Y) : okY (yrS L kc lb le am tu way slp K ty tc Y) ∧ (yrS L kc lb le am tu way slp K ty tc Y).2.2.1 = Y.2.2.1 + 1 := by
  obtain ⟨h1, h2, h3, h4, h5⟩ := h
  have t := tlF_ok (L := L) (yr := Y.2.2.1) (kc := kc) (lb := lb) (le := le) (ty := ty) (tc := tc) (am := am) (tu := tu) (D := Y.1) ⟨h1, h2, h3⟩ K
  have sd : ∀ od, 0 ≤ (if way = 2 then Y.2.2.2 else slD way od Y.2.2.2) ∧ (if way = 2 then Y.2.2.2 else slD way od Y.2.2.2) < 2147483648 := fun od => by
    have := nxN_R Y.2.2.2
    unfold slD
    split
    · exact ⟨h4, h5⟩
    · split <;> omega
  unfold yrS
  split
  · exact ⟨⟨t.1, t.2.1, t.2.2, h4, h5⟩, rfl⟩
  · rename_i m e
    split
    · exact ⟨⟨t.1, t.2.1, by dsimp only; omega, (sd _).1, (sd _).2⟩, rfl⟩
    · exact ⟨⟨t.1, t.2.1, t.2.2, (sd _).1, (sd _).2⟩, rfl⟩
theorem yrN_ok {kc lb le ty tc : Int → Int} {am tu way slp : Int} {K : Nat} {Y : YS} (h : okY Y) : ∀ i : Nat, okY (yrN L kc lb le am tu way slp K ty tc Y i) ∧ (yrN L kc lb le am tu way slp K ty tc Y i).2.2.1 = Y.2.2.1 + i
  | 0 => ⟨h, by simp [yrN]⟩
  | i + 1 => by
    have ih := yrN_ok (kc := kc) (lb := lb) (le := le) (ty := ty) (tc := tc) (am := am) (tu := tu) (way := way) (slp := slp) (K := K) h i
    have := yrS_ok (L := L) (kc := kc) (lb := lb) (le := le) (ty := ty) (tc := tc) (am := am) (tu := tu) (way := way) (slp := slp) (K := K) ih.1
    simp only [yrN]
    refine ⟨this.1, ?_⟩
    rw [this.2, ih.2]
    omega
/-- the told crossings of a script -/
def TLC (tp : Nat) (K : Nat) (ty tc : Int → Int) (s : St) : Prop := s tp 4 = K ∧ K ≤ 24 ∧ ∀ i : Int, 0 ≤ i → i < K → s (tp + 2) i = ty i ∧ s (tp + 3) i = tc i ∧ 0 ≤ tc i ∧ tc i < 10 ∧ 0 ≤ ty i ∧ ty i ≤ 99
theorem yrS_0 {kc lb le ty tc : Int → Int} {am tu way slp : Int} {K : Nat} {Y : YS} {F : TLS} (hF : tlF L Y.2.2.1 kc lb le am tu ty tc Y.1 K = F) (e : F.2.2.1 = 0) : yrS L kc lb le am tu way slp K ty tc Y = (F, Y.2.1, Y.2.2.1 + 1, Y.2.2.2) := by
  unfold yrS
  rw [hF]
  split
  · rfl
  · rename_i m q
    omega
theorem yrS_y {kc lb le ty tc : Int → Int} {am tu way slp : Int} {K m : Nat} {Y : YS} {F : TLS} (hF : tlF L Y.2.2.1 kc lb le am tu ty tc Y.1 K = F) (e : F.2.2.1 = m + 1) (q : slC way (odN (vLs L m F.2.2.2 Y.2.2.1 kc lb le) slp) Y.2.2.2) : yrS L kc lb le am tu way slp K ty tc Y = ((F.1, F.2.1, m, F.2.2.2), Y.2.1 + 1, Y.2.2.1 + 1, if way = 2 then Y.2.2.2 else slD way (odN (vLs L m F.2.2.2 Y.2.2.1 kc lb le) slp) Y.2.2.2) := by
  unfold yrS
  rw [hF]
  split
  · omega
  · rename_i m2 e2
    have : m2 = m := by omega
    subst this
    exact if_pos q
theorem yrS_n {kc lb le ty tc : Int → Int} {am tu way slp : Int} {K m : Nat} {Y : YS} {F : TLS} (hF : tlF L Y.2.2.1 kc lb le am tu ty tc Y.1 K = F) (e : F.2.2.1 = m + 1) (q : ¬ slC way (odN (vLs L m F.2.2.2 Y.2.2.1 kc lb le) slp) Y.2.2.2) : yrS L kc lb le am tu way slp K ty tc Y = (F, Y.2.1, Y.2.2.1 + 1, if way = 2 then Y.2.2.2 else slD way (odN (vLs L m F.2.2.2 Y.2.2.1 kc lb le) slp) Y.2.2.2) := by
  unfold yrS
  rw [hF]
  split
  · omega
  · rename_i m2 e2
    have : m2 = m := by omega
    subst this
    exact if_neg q
theorem m_pass (hP : isDa a) (hS : isSc tp) (hta : a + 4 < tp ∨ tp + 7 < a) (h69 : a + 4 < 69) (htp : tp + 8 < 69) (h68 : a + 4 < 68) (hd : 15 ≤ d) {hm K : Nat} {Y0 : YS} {am tu way slp : Int} {kc lb le ty tc : Int → Int} (hps0 : PS a L Y0 s) (hok0 : okY Y0) (hm99 : hm ≤ 1000) (hy0 : 0 ≤ Y0.2.2.1 ∧ Y0.2.2.1 ≤ 90000) (htl : TLC tp K ty tc s) (ham : s 68 2 = am) (ha01 : am = 0 ∨ am = 1) (htu : s 68 3 = tu) (ht01 : tu = 0 ∨ tu = 1) (hway : s 68 1 = way) (hwr : 0 ≤ way ∧ way ≤ 2) (hsl : s tp 5 = slp) (hsr : 0 ≤ slp ∧ slp ≤ 100) (hw : LWC tp kc lb le s) (ho : okL kc lb le) (k : ∀ t, PS a L (yrN L kc lb le am tu way slp K ty tc Y0 hm) t → zfr a tp s t → Q none (HP h0 t)) : wpM PP d 306 [vR 68, vR tp, vR a, vI hm] (HP h0 s) Q := by
  have ha := hP.1.1
  have hta0 := hS.1.1
  have L1 : ∀ N : Nat, ∀ {o5 : Option pv} (q : Nat) (qi : Int) (t0 : St), (qi = q) → (N = hm - q ∧ q ≤ hm) → (PS a L (yrN L kc lb le am tu way slp K ty tc Y0 q) t0) → (zfr a tp s t0) →  wp PP d mb306 (mb306.getD 1 []) [some (vR 68), some (vR tp), some (vR a), some (vI hm), some (vI qi), o5] [] (HP h0 t0) Q := by
    refine s_ind (fun N ih => ?_)
    intro o5 q qi t0 hq hn2 hps z0
    obtain ⟨Y, hY⟩ : ∃ Y, Y = yrN L kc lb le am tu way slp K ty tc Y0 q := ⟨_, rfl⟩
    have hok := yrN_ok (L := L) (kc := kc) (lb := lb) (le := le) (am := am) (tu := tu) (way := way) (slp := slp) (ty := ty) (tc := tc) (K := K) hok0 q
    rw [← hY] at hps hok
    obtain ⟨D0, sl, yr, la⟩ := Y
    obtain ⟨hok, hyq⟩ := hok
    unfold okY at hok
    dsimp only at hok hyq
    unfold PS at hps
    dsimp only at hps
    have hyr : 0 ≤ yr ∧ yr ≤ 100000 := by omega
    have hK := htl.2.1
    refine x_iload rfl ?_
    refine x_iload rfl ?_
    refine n_icmp_ge ⟨by omega, by omega⟩ ⟨by omega, by omega⟩ (fun c1 => ?_) (fun c1 => ?_)
    · refine x_ret ?_
      have eq : q = hm := by omega
      have hps2 : PS a L (D0, sl, yr, la) t0 := hps
      rw [hY, eq] at hps2
      exact k t0 hps2 z0
    · refine x_ci ?_
      refine n_istore [some (vR _), some (vR _), some (vR _), some (vI _), some (vI _), some (vI _)] (Nat.le_of_ble_eq_true rfl) rfl ?_
      refine x_fall ?_
      have L2 : ∀ M : Nat, ∀ (j : Nat) (i : Int) (t : St), (i = j) → (M = K - j ∧ j ≤ K) → (PL (a + 1) L (tlF L yr kc lb le am tu ty tc D0 j).2.2.1 (tlF L yr kc lb le am tu ty tc D0 j).2.2.2 t) → (t a 1 = (tlF L yr kc lb le am tu ty tc D0 j).1) → (t a 2 = (tlF L yr kc lb le am tu ty tc D0 j).2.1) → (t a 3 = sl) → (t a 4 = yr) → (t a 5 = la) → (zfr a tp t0 t) →  wp PP d mb306 (mb306.getD 2 []) [some (vR 68), some (vR tp), some (vR a), some (vI hm), some (vI qi), some (vI i)] [] (HP h0 t) Q := by
        refine s_ind (fun M ih2 => ?_)
        intro j i t hj hM p0 p1 p2 p3 p4 p5 z1
        refine x_iload rfl ?_
        refine x_aload rfl ?_
        refine h_getI 4 hS.1 rfl rfl ?_
        refine t_I (K : Int) (((zfr_tr z0 z1) tp 4 (by omega) (by omega) (by omega) (by omega)).trans htl.1) ?_
        refine n_icmp_ge ⟨by omega, by omega⟩ ⟨by omega, by omega⟩ (fun c1 => ?_) (fun c1 => ?_)
        · have ej : j = K := by omega
          rw [ej] at p0 p1 p2
          have pn := p0.hn
          refine x_aload rfl ?_
          refine h_getR hP.1 rfl (by omega) ?_
          refine h_getI 5 hP.2.1 rfl rfl ?_
          rw [p0.size]
          refine n_if_le ⟨by omega, by omega⟩ (fun c2 => ?_) (fun c2 => ?_)
          · refine x_aload rfl ?_
            refine x_dupR ?_
            refine h_getI 4 hP.1 rfl rfl ?_
            refine x_ci ?_
            refine x_iadd ?_
            refine h_putI 4 hP.1 rfl rfl ?_
            refine n_iinc [some (vR _), some (vR _), some (vR _), some (vI _), some (vI _), some (vI _)] rfl rfl ?_
            refine x_goto ?_
            have eY : yrN L kc lb le am tu way slp K ty tc Y0 (q + 1) = yrS L kc lb le am tu way slp K ty tc (D0, sl, yr, la) := by
              simp only [yrN]
              rw [← hY]
            have hF := yrS_0 (way := way) (slp := slp) (Y := (D0, sl, yr, la)) (L := L) (kc := kc) (lb := lb) (le := le) (am := am) (tu := tu) (ty := ty) (tc := tc) (K := K) rfl (by dsimp only; omega)
            refine ih (hm - (q + 1)) (by omega) (q + 1) _ _ (by omega) (by omega) ?_ ?_
            · rw [eY, hF]
              refine ⟨PLup0 p0, ?_, ?_, ?_, ?_, ?_⟩
              · rw [up_i (by decide)]
                exact p1
              · rw [up_i (by decide)]
                exact p2
              · rw [up_i (by decide)]
                exact p3
              · rw [up_e, p4]
              · rw [up_i (by decide)]
                exact p5
            · exact zfr_tr (zfr_tr z0 z1) (fun b2 r2 w0 w1 w2 w3 => up_a (by omega))
          · refine x_aload rfl ?_
            refine x_aload rfl ?_
            refine x_aload rfl ?_
            refine n_call [vR _, vR _, vR _] [] (by omega) (Nat.le_of_ble_eq_true rfl) rfl rfl (Nat.le_of_ble_eq_true rfl) ?_
            obtain ⟨mm, hmm⟩ : ∃ mm, (tlF L yr kc lb le am tu ty tc D0 K).2.2.1 = mm + 1 := ⟨(tlF L yr kc lb le am tu ty tc D0 K).2.2.1 - 1, by omega⟩
            rw [hmm] at p0
            have zz := zfr_tr z0 z1
            refine m_doesSlip (od := odN (vLs L mm (tlF L yr kc lb le am tu ty tc D0 K).2.2.2 yr kc lb le) slp) (way := way) hP hS hta h69 htp (by omega) p0 p4 (by omega) p5 ⟨hok.2.2.2.1, hok.2.2.2.2⟩ ((zz 68 1 (by omega) (by omega) (by omega) (by omega)).trans hway) hwr ((zz tp 5 (by omega) (by omega) (by omega) (by omega)).trans hsl) hsr (hw.z zz hta htp) ho rfl (fun u u1 u2 u3 => ?_)
            show wp PP _ _ _ [some (vR _), some (vR _), some (vR _), some (vI _), some (vI _), some (vI _)] [vI _] _ _
            refine z_if_eq (fun c3 => ?_) (fun c3 => ?_)
            · refine x_aload rfl ?_
              refine x_dupR ?_
              refine h_getI 4 hP.1 rfl rfl ?_
              refine x_ci ?_
              refine x_iadd ?_
              refine h_putI 4 hP.1 rfl rfl ?_
              refine n_iinc [some (vR _), some (vR _), some (vR _), some (vI _), some (vI _), some (vI _)] rfl rfl ?_
              refine x_goto ?_
              have eY : yrN L kc lb le am tu way slp K ty tc Y0 (q + 1) = yrS L kc lb le am tu way slp K ty tc (D0, sl, yr, la) := by
                simp only [yrN]
                rw [← hY]
              have hF := yrS_n (way := way) (slp := slp) (Y := (D0, sl, yr, la)) (L := L) (kc := kc) (lb := lb) (le := le) (am := am) (tu := tu) (ty := ty) (tc := tc) (K := K) (m := mm) rfl hmm c3
              refine ih (hm - (q + 1)) (by omega) (q + 1) _ _ (by omega) (by omega) ?_ ?_
              · rw [eY, hF]
                refine ⟨?_, ?_, ?_, ?_, ?_, ?_⟩
                · dsimp only
                  rw [hmm]
                  exact PLup0 u1
                · rw [up_i (by decide), u3 a 1 (by omega) (by omega) (by omega) (by omega)]
                  exact p1
                · rw [up_i (by decide), u3 a 2 (by omega) (by omega) (by omega) (by omega)]
                  exact p2
                · rw [up_i (by decide), u3 a 3 (by omega) (by omega) (by omega) (by omega)]
                  exact p3
                · rw [up_e, u3 a 4 (by omega) (by omega) (by omega) (by omega), p4]
                · rw [up_i (by decide)]
                  exact u2
              · exact zfr_tr zz (fun b2 r2 w0 w1 w2 w3 => (up_a (by omega)).trans (u3 b2 r2 (by omega) w1 w2 w3))
            · refine x_aload rfl ?_
              refine h_getR hP.1 rfl (by omega) ?_
              refine n_call [vR _] [] (by omega) (Nat.le_of_ble_eq_true rfl) rfl rfl (Nat.le_of_ble_eq_true rfl) ?_
              refine m_dropLast hP.2 (by omega) u1 (fun v v1 v2 v3 => ?_)
              show wp PP _ _ _ [some (vR _), some (vR _), some (vR _), some (vI _), some (vI _), some (vI _)] [] _ _
              refine x_aload rfl ?_
              refine x_dupR ?_
              refine h_getI 3 hP.1 rfl rfl ?_
              refine x_ci ?_
              refine x_iadd ?_
              refine h_putI 3 hP.1 rfl rfl ?_
              refine x_fall ?_
              refine x_aload rfl ?_
              refine x_dupR ?_
              refine h_getI 4 hP.1 rfl rfl ?_
              refine x_ci ?_
              refine x_iadd ?_
              refine h_putI 4 hP.1 rfl rfl ?_
              refine n_iinc [some (vR _), some (vR _), some (vR _), some (vI _), some (vI _), some (vI _)] rfl rfl ?_
              refine x_goto ?_
              have eY : yrN L kc lb le am tu way slp K ty tc Y0 (q + 1) = yrS L kc lb le am tu way slp K ty tc (D0, sl, yr, la) := by
                simp only [yrN]
                rw [← hY]
              have hF := yrS_y (way := way) (slp := slp) (Y := (D0, sl, yr, la)) (L := L) (kc := kc) (lb := lb) (le := le) (am := am) (tu := tu) (ty := ty) (tc := tc) (K := K) (m := mm) rfl hmm c3
              have va := v2 a (by omega)
              refine ih (hm - (q + 1)) (by omega) (q + 1) _ _ (by omega) (by omega) ?_ ?_
              · rw [eY, hF]
                refine ⟨PLup0 (PLup0 v1), ?_, ?_, ?_, ?_, ?_⟩
                · rw [up_i (by decide), up_i (by decide), va, u3 a 1 (by omega) (by omega) (by omega) (by omega)]
                  exact p1
                · rw [up_i (by decide), up_i (by decide), va, u3 a 2 (by omega) (by omega) (by omega) (by omega)]
                  exact p2
                · rw [up_i (by decide), up_e, va, u3 a 3 (by omega) (by omega) (by omega) (by omega), p3]
                · rw [up_e, up_i (by decide), va, u3 a 4 (by omega) (by omega) (by omega) (by omega), p4]
                · rw [up_i (by decide), up_i (by decide), va]
                  exact u2
              · exact zfr_tr zz (fun b2 r2 w0 w1 w2 w3 => (up_a (by omega)).trans ((up_a (by omega)).trans ((v2 b2 (by omega) r2).trans (u3 b2 r2 (by omega) w1 w2 w3))))
        · refine x_aload rfl ?_
          refine x_iload rfl ?_
          refine n_call [vR _, vI _] [] (by omega) (Nat.le_of_ble_eq_true rfl) rfl rfl (Nat.le_of_ble_eq_true rfl) ?_
          have tl := htl.2.2 i (by omega) (by omega)
          have zz := zfr_tr z0 z1
          refine m_yearOf hS (x := i) ?_ ?_ ?_
          · rw [(zz tp 4 (by omega) (by omega) (by omega) (by omega)).trans htl.1]
            omega
          · rw [(zz tp 4 (by omega) (by omega) (by omega) (by omega)).trans htl.1]
            omega
          rw [(zz (tp + 2) i (by omega) (by omega) (by omega) (by omega)).trans tl.1]
          show wp PP _ _ _ [some (vR _), some (vR _), some (vR _), some (vI _), some (vI _), some (vI _)] [vI _] _ _
          refine x_aload rfl ?_
          refine h_getI 4 hP.1 rfl rfl ?_
          rw [p4]
          refine n_icmp_ne ⟨by omega, by omega⟩ ⟨by omega, by omega⟩ (fun c2 => ?_) (fun c2 => ?_)
          · refine n_iinc [some (vR _), some (vR _), some (vR _), some (vI _), some (vI _), some (vI _)] rfl rfl ?_
            refine x_goto ?_
            have e : tlF L yr kc lb le am tu ty tc D0 (j + 1) = tlF L yr kc lb le am tu ty tc D0 j := by
              simp only [tlF]
              rw [if_neg (by rw [← hj]; exact c2)]
            refine ih2 (K - (j + 1)) (by omega) (j + 1) _ _ (by omega) (by omega) ?_ ?_ ?_ p3 p4 p5 z1
            · rw [e]
              exact p0
            · rw [e]
              exact p1
            · rw [e]
              exact p2
          · refine x_aload rfl ?_
            refine x_aload rfl ?_
            refine x_aload rfl ?_
            refine x_aload rfl ?_
            refine x_iload rfl ?_
            refine n_call [vR _, vI _] [vR _, vR _, vR _] (by omega) (Nat.le_of_ble_eq_true rfl) rfl rfl (Nat.le_of_ble_eq_true rfl) ?_
            refine m_codeOf2 hS (x := i) ?_ ?_ ?_
            · rw [(zz tp 4 (by omega) (by omega) (by omega) (by omega)).trans htl.1]
              omega
            · rw [(zz tp 4 (by omega) (by omega) (by omega) (by omega)).trans htl.1]
              omega
            rw [(zz (tp + 3) i (by omega) (by omega) (by omega) (by omega)).trans tl.2.1]
            show wp PP _ _ _ [some (vR _), some (vR _), some (vR _), some (vI _), some (vI _), some (vI _)] [vI _, vR _, vR _, vR _] _ _
            refine n_call [vR _, vR _, vR _, vI _] [] (by omega) (Nat.le_of_ble_eq_true rfl) rfl rfl (Nat.le_of_ble_eq_true rfl) ?_
            have tk := tlF_ok (L := L) (yr := yr) (kc := kc) (lb := lb) (le := le) (ty := ty) (tc := tc) (am := am) (tu := tu) (D := D0) ⟨hok.1, hok.2.1, hok.2.2.1⟩ j
            refine m_told (am := am) (tu := tu) hP hS hta h69 htp (by omega) p0 (x0 := tc i) ⟨tl.2.2.1, tl.2.2.2.1⟩ p4 (by omega) p1 ⟨tk.1, tk.2.1⟩ p2 ((zz 68 2 (by omega) (by omega) (by omega) (by omega)).trans ham) ha01 ((zz 68 3 (by omega) (by omega) (by omega) (by omega)).trans htu) ht01 (hw.z zz hta htp) ho (fun u u1 u2 u3 u4 => ?_)
            show wp PP _ _ _ [some (vR _), some (vR _), some (vR _), some (vI _), some (vI _), some (vI _)] [] _ _
            refine x_fall ?_
            refine n_iinc [some (vR _), some (vR _), some (vR _), some (vI _), some (vI _), some (vI _)] rfl rfl ?_
            refine x_goto ?_
            have e : tlF L yr kc lb le am tu ty tc D0 (j + 1) = tlStep L yr kc lb le am (tuX tu (tc j)) (tlF L yr kc lb le am tu ty tc D0 j) := by
              simp only [tlF]
              rw [if_pos (by rw [← hj]; exact c2)]
            rw [hj] at u1 u2 u3
            refine ih2 (K - (j + 1)) (by omega) (j + 1) _ _ (by omega) (by omega) ?_ ?_ ?_ ((u4 a 3 (by omega) (by omega) (by omega) (by omega)).trans p3) ((u4 a 4 (by omega) (by omega) (by omega) (by omega)).trans p4) ((u4 a 5 (by omega) (by omega) (by omega) (by omega)).trans p5) (zfr_tr z1 (fun b2 r2 w0 w1 w2 w3 => u4 b2 r2 (by omega) w1 w2 w3))
            · rw [e]
              exact u1
            · rw [e]
              exact u2
            · rw [e]
              exact u3
      exact L2 K 0 0 t0 rfl (by omega) hps.1 hps.2.1 hps.2.2.1 hps.2.2.2.1 hps.2.2.2.2.1 hps.2.2.2.2.2 zfr_rfl
  refine n_at (m := 306) (q := mr306) (kn := (0, 4)) [some (vR _), some (vR _), some (vR _), some (vI _), none, none] mb306 rfl rfl (h_rcv sc_68) (Nat.le_of_ble_eq_true rfl) rfl rfl ?_
  refine x_ci ?_
  refine n_istore [some (vR _), some (vR _), some (vR _), some (vI _), some (vI _), _] (Nat.le_of_ble_eq_true rfl) rfl ?_
  refine x_fall ?_
  exact L1 hm 0 0 s rfl (by omega) hps0 zfr_rfl
end YE
