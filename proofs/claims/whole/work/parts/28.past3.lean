/-! THE REFERENCE'S PAST: keepNow -/
section PC
variable {d a : Nat} {h0 h : pheap} {s : St} {Q : Option pv → pheap → Prop} {L f : Int} {n : Nat} {c c' : Int → Int}
/-- the reference's dance f, whole -/
def DR (f vw rf sl yr la L : Int) (n : Nat) (c : Int → Int) (s : St) : Prop := s 110 f = vw ∧ s 108 f = rf ∧ s 109 f = sl ∧ s 106 f = yr ∧ s 107 f = la ∧ RD f L n c s
theorem cpd.dr {to as vw rf sl yr la : Int} {t : St} (g : cpd to as n s t) (hr : DR as vw rf sl yr la L n c s) : DR to vw rf sl yr la L n c t := by
  obtain ⟨r1, r2, r3, r4, r5, r6⟩ := hr
  exact ⟨(g.2.1 110 (by decide) (by decide)).trans r1, (g.2.1 108 (by decide) (by decide)).trans r2, (g.2.1 109 (by decide) (by decide)).trans r3, (g.2.1 106 (by decide) (by decide)).trans r4, (g.2.1 107 (by decide) (by decide)).trans r5, g.rd r6⟩
theorem cpd.drfar {to as e vw rf sl yr la : Int} {t : St} {m : Nat} (g : cpd to as m s t) (hm : m ≤ 48) (he : e ≠ to) (hr : DR e vw rf sl yr la L n c s) : DR e vw rf sl yr la L n c t := by
  obtain ⟨r1, r2, r3, r4, r5, r6⟩ := hr
  exact ⟨(g.1 110 e (by omega) (by omega)).trans r1, (g.1 108 e (by omega) (by omega)).trans r2, (g.1 109 e (by omega) (by omega)).trans r3, (g.1 106 e (by omega) (by omega)).trans r4, (g.1 107 e (by omega) (by omega)).trans r5, g.far hm he r6⟩
theorem dfr.dr {e vw rf sl yr la : Int} {t : St} (g : dfr f s t) (he : e ≠ f) (hr : DR e vw rf sl yr la L n c s) : DR e vw rf sl yr la L n c t := by
  obtain ⟨r1, r2, r3, r4, r5, r6⟩ := hr
  exact ⟨(g 110 e (by omega) (by omega) (by omega)).trans r1, (g 108 e (by omega) (by omega) (by omega)).trans r2, (g 109 e (by omega) (by omega) (by omega)).trans r3, (g 106 e (by omega) (by omega) (by omega)).trans r4, (g 107 e (by omega) (by omega) (by omega)).trans r5, g.far he r6⟩
theorem RD.up {b : Nat} {i x : Int} (hr : RD f L n c s) (hb : b ≠ 111 ∧ b ≠ 112 ∧ b ≠ 113) : RD f L n c (up s b i x) := by
  obtain ⟨hL, hn, hv, r1, r2, r3⟩ := hr
  refine ⟨hL, hn, hv, ?_, ?_, fun j j0 j1 => ?_⟩
  · rw [up_a (by omega)]; exact r1
  · rw [up_a (by omega)]; exact r2
  · rw [up_a (by omega)]; exact r3 j j0 j1
theorem DR.up {b : Nat} {i x vw rf sl yr la : Int} (hr : DR f vw rf sl yr la L n c s) (hb : b < 106 ∨ 113 < b) : DR f vw rf sl yr la L n c (up s b i x) := by
  obtain ⟨r1, r2, r3, r4, r5, r6⟩ := hr
  refine ⟨?_, ?_, ?_, ?_, ?_, r6.up (by omega)⟩
  · rw [up_a (by omega)]; exact r1
  · rw [up_a (by omega)]; exact r2
  · rw [up_a (by omega)]; exact r3
  · rw [up_a (by omega)]; exact r4
  · rw [up_a (by omega)]; exact r5
/-- the reference's past -/
def PUs (z : Nat) (H : Hst) (rf sl yr la : Int) (s : St) : Prop := z ≤ 20 ∧ s 94 36 = z ∧ ∀ i : Nat, i < z → DR (2 + z - i) (H i).1 rf sl yr la (H i).2.1 (H i).2.2.1 (H i).2.2.2 s
/-- all but the dances from 3 on, and how many they are -/
def pfr (s t : St) : Prop := ∀ (b : Nat) (j : Int), ¬ (b = 94 ∧ j = 36) → ¬ (106 ≤ b ∧ b ≤ 112 ∧ 3 ≤ j ∧ j < 23) → ¬ (b = 113 ∧ 144 ≤ j ∧ j < 1104) → t b j = s b j
theorem pfr_tr {s t u : St} (h1 : pfr s t) (h2 : pfr t u) : pfr s u := fun b j q1 q2 q3 => (h2 b j q1 q2 q3).trans (h1 b j q1 q2 q3)
theorem cpd.pf {to as : Int} {t : St} {m : Nat} (g : cpd to as m s t) (hm : m ≤ 48) (h1 : 3 ≤ to ∧ to < 23) : pfr s t := fun b j _ h2 h3 => g.1 b j (by omega) (by omega)
theorem pfr.dr {e vw rf sl yr la : Int} {t : St} (g : pfr s t) (he : 0 ≤ e ∧ e < 3) (hr : DR e vw rf sl yr la L n c s) : DR e vw rf sl yr la L n c t := by
  obtain ⟨r1, r2, r3, r4, r5, hL, hn, hv, q1, q2, q3⟩ := hr
  exact ⟨(g 110 e (by omega) (by omega) (by omega)).trans r1, (g 108 e (by omega) (by omega) (by omega)).trans r2, (g 109 e (by omega) (by omega) (by omega)).trans r3, (g 106 e (by omega) (by omega) (by omega)).trans r4, (g 107 e (by omega) (by omega) (by omega)).trans r5, hL, hn, hv, (g 111 e (by omega) (by omega) (by omega)).trans q1, (g 112 e (by omega) (by omega) (by omega)).trans q2, fun i i0 i1 => (g 113 _ (by omega) (by omega) (by omega)).trans (q3 i i0 i1)⟩
/-- all but the dances from 3 on -/
def pfr0 (s t : St) : Prop := ∀ (b : Nat) (j : Int), ¬ (106 ≤ b ∧ b ≤ 112 ∧ 3 ≤ j ∧ j < 23) → ¬ (b = 113 ∧ 144 ≤ j ∧ j < 1104) → t b j = s b j
theorem pfr0.pf {t : St} (h : pfr0 s t) : pfr s t := fun b j _ h2 h3 => h b j h2 h3
theorem cpd.pf0 {to as : Int} {t : St} {m : Nat} (g : cpd to as m s t) (hm : m ≤ 48) (h1 : 3 ≤ to ∧ to < 23) : pfr0 s t := fun b j h2 h3 => g.1 b j (by omega) (by omega)
theorem pfr0_tr {s t u : St} (h1 : pfr0 s t) (h2 : pfr0 t u) : pfr0 s u := fun b j q2 q3 => (h2 b j q2 q3).trans (h1 b j q2 q3)
theorem r_keepNow {z : Nat} {Hs : Hst} {vw rf sl yr la : Int} (hd : 1 ≤ d) (hu0 : PUs z Hs rf sl yr la s) (hok : hOk z Hs) (hn : DR 0 vw rf sl yr la L n c s) (k : ∀ t, PUs (min 20 (z + 1)) (hput1 vw L n c Hs) rf sl yr la t → DR 0 vw rf sl yr la L n c t → pfr s t → Q none (HP h0 t)) : wpM PP d 142 [vR 94] (HP h0 s) Q := by
  obtain ⟨hz, hz4, hu⟩ := hu0
  refine n_at (m := 142) (q := mr142) (kn := (0, 1)) [some (vR _), none] mb142 rfl rfl (h_rcv sc_94) (Nat.le_of_ble_eq_true rfl) rfl rfl ?_
  refine x_aload rfl ?_
  refine h_getI 36 sc_94 rfl rfl ?_
  rw [hz4]
  refine x_ci ?_
  refine n_icmp_ne ⟨by omega, by omega⟩ ⟨by omega, by omega⟩ (fun c1 => ?_) (fun c1 => ?_)
  · refine x_aload rfl ?_
    refine x_ci ?_
    refine x_aload rfl ?_
    refine h_getI 36 sc_94 rfl rfl ?_
    rw [hz4]
    refine x_iadd ?_
    refine x_ci ?_
    refine n_call [vR _, vI _, vI _] [] (by omega) (Nat.le_of_ble_eq_true rfl) rfl rfl (Nat.le_of_ble_eq_true rfl) ?_
    have hd0 : DR 0 vw rf sl yr la L n c s := hn
    refine r_copies (to := (3 + (z : Int))) (as := 0) (n := n) (by omega) (by omega) (by omega) hd0.2.2.2.2.2.2.2.2.2.1 hd0.2.2.2.2.2.2.1 (fun u g => ?_)
    have q36 : u 94 36 = (3 + (z : Int)) - 3 := (g.1 94 36 (by omega) (by omega)).trans (by rw [hz4]; omega)
    show wp PP _ _ _ [some (vR _), _] [] _ _
    refine x_aload rfl ?_
    refine x_dupR ?_
    refine h_getI 36 sc_94 rfl rfl ?_
    rw [q36]
    refine x_ci ?_
    refine x_iadd ?_
    refine h_putI 36 sc_94 rfl rfl ?_
    refine x_ret ?_
    have hn0 : n ≤ 48 := hd0.2.2.2.2.2.2.1
    refine k _ ⟨by omega, ?_, fun i hi => ?_⟩ ((g.drfar hn0 (by omega) hd0).up (by omega)) ?_
    · rw [up_e]
      omega
    · have ez : min 20 (z + 1) = z + 1 := by omega
      rw [ez]
      cases i with
      | zero =>
        have e : (2 : Int) + ((z + 1 : Nat) : Int) - ((0 : Nat) : Int) = 3 + (z : Int) := by omega
        rw [e]
        exact (g.dr hd0).up (by omega)
      | succ i =>
        have := hu i (by omega)
        have e : (2 : Int) + ((z + 1 : Nat) : Int) - ((i + 1 : Nat) : Int) = 2 + (z : Int) - (i : Int) := by omega
        rw [e]
        exact (g.drfar hn0 (by omega) this).up (by omega)
    · intro b j q1 q2 q3
      simp only [up]
      rw [if_neg (by omega), g.1 b j (by omega) (by omega)]
  · refine x_ci ?_
    refine n_istore [some (vR _), some (vI _)] (Nat.le_of_ble_eq_true rfl) rfl ?_
    refine x_fall ?_
    have z20 : z = 20 := by omega
    subst z20
    have L1 : ∀ N : Nat, ∀ (j : Nat) (i : Int) (t : St), (i = j) → (N = 20 - j ∧ 1 ≤ j ∧ j ≤ 20) → (∀ f : Nat, 3 ≤ f → f < 2 + j → DR f (Hs (21 - f)).1 rf sl yr la (Hs (21 - f)).2.1 (Hs (21 - f)).2.2.1 (Hs (21 - f)).2.2.2 t) → (∀ f : Nat, 2 + j ≤ f → f < 23 → DR f (Hs (22 - f)).1 rf sl yr la (Hs (22 - f)).2.1 (Hs (22 - f)).2.2.1 (Hs (22 - f)).2.2.2 t) → (pfr0 s t) →  wp PP d mb142 (mb142.getD 1 []) [some (vR 94), some (vI i)] [] (HP h0 t) Q := by
      refine s_ind (fun N ih => ?_)
      intro j i t hj hn2 g1 g2 g3
      refine x_iload rfl ?_
      refine x_ci ?_
      refine n_icmp_ge ⟨by omega, by omega⟩ ⟨by omega, by omega⟩ (fun c1 => ?_) (fun c1 => ?_)
      · refine x_aload rfl ?_
        refine x_dupR ?_
        refine h_getI 36 sc_94 rfl rfl ?_
        have g36 : t 94 36 = 20 := (g3 94 36 (by omega) (by omega)).trans hz4
        rw [g36]
        refine x_ci ?_
        refine x_isub ?_
        refine t_I 19 (by omega) ?_
        refine h_putI 36 sc_94 rfl rfl ?_
        refine x_fall ?_
        refine x_aload rfl ?_
        refine x_ci ?_
        refine x_aload rfl ?_
        refine h_getI 36 sc_94 rfl rfl ?_
        refine x_iadd ?_
        refine t_I (3 + 19) (by rw [up_e]) ?_
        refine x_ci ?_
        refine n_call [vR _, vI _, vI _] [] (by omega) (Nat.le_of_ble_eq_true rfl) rfl rfl (Nat.le_of_ble_eq_true rfl) ?_
        have hd0 : DR 0 vw rf sl yr la L n c (up t 94 36 19) := ((pfr0.pf g3).dr (e := 0) (by decide) hn).up (by decide)
        refine r_copies (to := (3 + 19)) (as := 0) (n := n) (by omega) (by omega) (by omega) hd0.2.2.2.2.2.2.2.2.2.1 hd0.2.2.2.2.2.2.1 (fun u g => ?_)
        have q36 : u 94 36 = (3 + 19) - 3 := (g.1 94 36 (by omega) (by omega)).trans (by rw [up_e]; rfl)
        show wp PP _ _ _ [some (vR _), some (vI _)] [] _ _
        refine x_aload rfl ?_
        refine x_dupR ?_
        refine h_getI 36 sc_94 rfl rfl ?_
        rw [q36]
        refine x_ci ?_
        refine x_iadd ?_
        refine h_putI 36 sc_94 rfl rfl ?_
        refine x_ret ?_
        have hn0 : n ≤ 48 := hd0.2.2.2.2.2.2.1
        refine k _ ⟨by omega, ?_, fun i hi => ?_⟩ ((g.drfar hn0 (by omega) hd0).up (by omega)) ?_
        · rw [up_e]
          omega
        · have e20 : min 20 (20 + 1) = 20 := rfl
          rw [e20]
          cases i with
          | zero => exact (g.dr hd0).up (by omega)
          | succ i =>
            have := g1 (21 - i) (by omega) (by omega)
            rw [show 21 - (21 - i) = i by omega] at this
            have e : (2 : Int) + ((20 : Nat) : Int) - ((i + 1 : Nat) : Int) = ((21 - i : Nat) : Int) := by omega
            rw [e]
            exact (g.drfar hn0 (by omega) (this.up (by omega))).up (by omega)
        · intro b j q1 q2 q3
          simp only [up]
          rw [if_neg (by omega), g.1 b j (by omega) (by omega)]
          simp only [up]
          rw [if_neg (by omega)]
          exact g3 b j q2 q3
      · refine x_aload rfl ?_
        refine x_ci ?_
        refine x_iload rfl ?_
        refine x_iadd ?_
        refine x_ci ?_
        refine x_isub ?_
        refine x_ci ?_
        refine x_iload rfl ?_
        refine x_iadd ?_
        refine n_call [vR _, vI _, vI _] [] (by omega) (Nat.le_of_ble_eq_true rfl) rfl rfl (Nat.le_of_ble_eq_true rfl) ?_
        have w := g2 (2 + j + 1) (by omega) (by omega)
        have e2 : 22 - (2 + j + 1) = 20 - (j + 1) := by omega
        have e3 : (3 : Int) + i = ((2 + j + 1 : Nat) : Int) := by omega
        rw [e2, ← e3] at w
        refine r_copies (to := 3 + i - 1) (as := 3 + i) (n := (Hs (20 - (j + 1))).2.2.1) (by omega) (by omega) (by omega) w.2.2.2.2.2.2.2.2.2.1 (hok _ (by omega)).2.2.2.2.1 (fun u g => ?_)
        show wp PP _ _ _ [some (vR _), some (vI _)] [] _ _
        refine n_iinc [some (vR _), some (vI _)] rfl rfl ?_
        refine x_goto ?_
        have e4 : (3 : Int) + i - 1 = ((2 + j : Nat) : Int) := by omega
        rw [e4] at g
        have hn2 : (Hs (20 - (j + 1))).2.2.1 ≤ 48 := (hok _ (by omega)).2.2.2.2.1
        refine ih (20 - (j + 1)) (by omega) (j + 1) _ _ (by omega) (by omega) (fun f f0 f1 => ?_) (fun f f0 f1 => g.drfar hn2 (by omega) (g2 f (by omega) f1)) (pfr0_tr g3 (g.pf0 hn2 (by omega)))
        by_cases e : f = 2 + j
        · subst e
          rw [show 21 - (2 + j) = 20 - (j + 1) by omega]
          exact g.dr w
        · exact g.drfar hn2 (by omega) (g1 f f0 (by omega))
    refine L1 19 1 1 _ rfl (by omega) (fun f f0 f1 => by omega) (fun f f0 f1 => ?_) (fun _ _ _ _ => rfl)
    have := hu (22 - f) (by omega)
    rw [show (2 : Int) + ((20 : Nat) : Int) - ((22 - f : Nat) : Int) = (f : Int) by omega] at this
    exact this
end PC
