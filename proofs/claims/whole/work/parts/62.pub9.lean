/-! FEAST, the class -/
section PR9
variable {d tp : Nat} {h0 h : pheap} {s : St} {Q : Option pv → pheap → Prop} {L : Int} {n z : Nat} {c : Int → Int} {Hs : Hst} {vw rf sl yr la : Int}
theorem PLout {a : Nat} {t : St} (hp : PL a L n c s) (f : ∀ b : Nat, a ≤ b → b ≤ a + 3 → ∀ r, t b r = s b r) : PL a L n c t := ⟨hp.hL, hp.hn, hp.v, (f a (by omega) (by omega) 3).trans hp.left, (f a (by omega) (by omega) 4).trans hp.count, (f a (by omega) (by omega) 5).trans hp.size, (f a (by omega) (by omega) 6).trans hp.bound, fun i p q => (f (a + 1) (by omega) (by omega) i).trans (hp.code p q), fun i p q => (f (a + 2) (by omega) (by omega) i).trans (hp.order p q), fun i p q => (f (a + 3) (by omega) (by omega) i).trans (hp.bond p q)⟩
theorem m_feast (hd : 14 ≤ d) (hD : DA 53 vw rf sl yr la L n c s) (ha : PAs z Hs s) (hok : hOk z Hs) (hn48 : n ≤ 48) {x m : Int} (hx : iR x) (hm : iR m) (kY : (0 ≤ x ∧ 1 ≤ m ∧ m ≤ 20 ∧ 2 ≤ cnt L ∧ n + m ≤ 48) → ∀ t, PL 54 L (n + m.toNat) (fsK L x n c) t → (t 53 1 = vw ∧ t 53 2 = rf ∧ t 53 3 = sl ∧ t 53 4 = yr ∧ t 53 5 = la) → PAs (min 20 (z + 1)) (hput1 vw L n c Hs) t → cfr s t → Q (some (vI (n + m))) (HP h0 t)) (kN : ¬ (0 ≤ x ∧ 1 ≤ m ∧ m ≤ 20 ∧ 2 ≤ cnt L ∧ n + m ≤ 48) → Q (some (vI (-1))) (HP h0 s)) : wpM PP d 23 [vR 32, vI x, vI m] (HP h0 s) Q := by
  obtain ⟨v1, v2, v3, v4, v5, hp⟩ := hD
  have hct := cnt_R L
  refine n_at (m := 23) (q := mr23) (kn := (0, 3)) [some (vR _), some (vI _), some (vI _)] mb23 rfl rfl (h_rcv sc_32) (Nat.le_of_ble_eq_true rfl) rfl rfl ?_
  refine x_iload rfl ?_
  refine n_if_lt ⟨by omega, by omega⟩ (fun c1 => ?_) (fun c1 => ?_)
  · refine x_ci ?_
    refine x_iret ?_
    first
      | exact kN (fun q => by omega)
      | (refine cI (kY ⟨by omega, by omega, by omega, by omega, by omega⟩ u (by simpa using u1) ⟨(u2 53 (by omega) 1).trans ((t2 53 (by omega) 1).trans v1), (u2 53 (by omega) 2).trans ((t2 53 (by omega) 2).trans v2), (u2 53 (by omega) 3).trans ((t2 53 (by omega) 3).trans v3), (u2 53 (by omega) 4).trans ((t2 53 (by omega) 4).trans v4), (u2 53 (by omega) 5).trans ((t2 53 (by omega) 5).trans v5)⟩ (t1.out (fun b h1 h2 r => u2 b (by omega) r)) (fun b hb r => (u2 b (by omega) r).trans (t2 b (by omega) r))) ?_
         omega)
  · refine x_iload rfl ?_
    refine x_ci ?_
    refine n_icmp_lt ⟨by omega, by omega⟩ ⟨by omega, by omega⟩ (fun c2 => ?_) (fun c2 => ?_)
    · refine x_ci ?_
      refine x_iret ?_
      first
        | exact kN (fun q => by omega)
        | (refine cI (kY ⟨by omega, by omega, by omega, by omega, by omega⟩ u (by simpa using u1) ⟨(u2 53 (by omega) 1).trans ((t2 53 (by omega) 1).trans v1), (u2 53 (by omega) 2).trans ((t2 53 (by omega) 2).trans v2), (u2 53 (by omega) 3).trans ((t2 53 (by omega) 3).trans v3), (u2 53 (by omega) 4).trans ((t2 53 (by omega) 4).trans v4), (u2 53 (by omega) 5).trans ((t2 53 (by omega) 5).trans v5)⟩ (t1.out (fun b h1 h2 r => u2 b (by omega) r)) (fun b hb r => (u2 b (by omega) r).trans (t2 b (by omega) r))) ?_
           omega)
    · refine x_iload rfl ?_
      refine x_ci ?_
      refine n_icmp_gt ⟨by omega, by omega⟩ ⟨by omega, by omega⟩ (fun c3 => ?_) (fun c3 => ?_)
      · refine x_ci ?_
        refine x_iret ?_
        first
          | exact kN (fun q => by omega)
          | (refine cI (kY ⟨by omega, by omega, by omega, by omega, by omega⟩ u (by simpa using u1) ⟨(u2 53 (by omega) 1).trans ((t2 53 (by omega) 1).trans v1), (u2 53 (by omega) 2).trans ((t2 53 (by omega) 2).trans v2), (u2 53 (by omega) 3).trans ((t2 53 (by omega) 3).trans v3), (u2 53 (by omega) 4).trans ((t2 53 (by omega) 4).trans v4), (u2 53 (by omega) 5).trans ((t2 53 (by omega) 5).trans v5)⟩ (t1.out (fun b h1 h2 r => u2 b (by omega) r)) (fun b hb r => (u2 b (by omega) r).trans (t2 b (by omega) r))) ?_
             omega)
      · refine x_aload rfl ?_
        refine h_getR sc_32 rfl (by omega) ?_
        refine h_getR sc_53 rfl (by omega) ?_
        refine h_getI 4 sc_54 rfl rfl ?_
        rw [hp.count]
        refine x_ci ?_
        refine n_icmp_lt ⟨by omega, by omega⟩ ⟨by omega, by omega⟩ (fun c4 => ?_) (fun c4 => ?_)
        · refine x_ci ?_
          refine x_iret ?_
          first
            | exact kN (fun q => by omega)
            | (refine cI (kY ⟨by omega, by omega, by omega, by omega, by omega⟩ u (by simpa using u1) ⟨(u2 53 (by omega) 1).trans ((t2 53 (by omega) 1).trans v1), (u2 53 (by omega) 2).trans ((t2 53 (by omega) 2).trans v2), (u2 53 (by omega) 3).trans ((t2 53 (by omega) 3).trans v3), (u2 53 (by omega) 4).trans ((t2 53 (by omega) 4).trans v4), (u2 53 (by omega) 5).trans ((t2 53 (by omega) 5).trans v5)⟩ (t1.out (fun b h1 h2 r => u2 b (by omega) r)) (fun b hb r => (u2 b (by omega) r).trans (t2 b (by omega) r))) ?_
               omega)
        · refine x_aload rfl ?_
          refine h_getR sc_32 rfl (by omega) ?_
          refine h_getR sc_53 rfl (by omega) ?_
          refine h_getI 5 sc_54 rfl rfl ?_
          first
            | rw [hp.size]
            | rw [u1.size]
          refine x_iload rfl ?_
          refine x_iadd ?_
          refine x_ci ?_
          refine n_icmp_le ⟨by omega, by omega⟩ ⟨by omega, by omega⟩ (fun c5 => ?_) (fun c5 => ?_)
          · refine x_aload rfl ?_
            refine h_getR sc_32 rfl (by omega) ?_
            refine x_aload rfl ?_
            refine h_getR sc_32 rfl (by omega) ?_
            refine n_call [vR _, vR _] [] (by omega) (Nat.le_of_ble_eq_true rfl) rfl rfl (Nat.le_of_ble_eq_true rfl) ?_
            refine m_put (by omega) ha hok v1 hp hn48 (fun t t1 t2 => ?_)
            show wp PP _ _ _ [some (vR _), some (vI _), some (vI _)] [] _ _
            refine x_aload rfl ?_
            refine h_getR sc_32 rfl (by omega) ?_
            refine h_getR sc_53 rfl (by omega) ?_
            refine x_iload rfl ?_
            refine n_i2l ⟨by omega, by omega⟩ ?_
            refine x_iload rfl ?_
            refine n_call [vR _, vL _, vI _] [] (by omega) (Nat.le_of_ble_eq_true rfl) rfl rfl (Nat.le_of_ble_eq_true rfl) ?_
            obtain ⟨mm, hmm⟩ : ∃ mm : Nat, m = mm := ⟨m.toNat, by omega⟩
            subst hmm
            refine m_danceFeast pl_54 (by omega) (PLout hp (fun b h1 h2 r => t2 b (by omega) r)) (x := x) (m := mm) (by omega) (by omega) (by omega) (fun u u1 u2 => ?_)
            show wp PP _ _ _ [some (vR _), some (vI _), some (vI _)] [vL _] _ _
            refine x_pop2 ?_
            refine x_aload rfl ?_
            refine h_getR sc_32 rfl (by omega) ?_
            refine h_getR sc_53 rfl (by omega) ?_
            refine h_getI 5 sc_54 rfl rfl ?_
            first
              | rw [hp.size]
              | rw [u1.size]
            refine x_iret ?_
            first
              | exact kN (fun q => by omega)
              | (refine cI (kY ⟨by omega, by omega, by omega, by omega, by omega⟩ u (by simpa using u1) ⟨(u2 53 (by omega) 1).trans ((t2 53 (by omega) 1).trans v1), (u2 53 (by omega) 2).trans ((t2 53 (by omega) 2).trans v2), (u2 53 (by omega) 3).trans ((t2 53 (by omega) 3).trans v3), (u2 53 (by omega) 4).trans ((t2 53 (by omega) 4).trans v4), (u2 53 (by omega) 5).trans ((t2 53 (by omega) 5).trans v5)⟩ (t1.out (fun b h1 h2 r => u2 b (by omega) r)) (fun b hb r => (u2 b (by omega) r).trans (t2 b (by omega) r))) ?_
                 omega)
          · refine x_fall ?_
            refine x_ci ?_
            refine x_iret ?_
            first
              | exact kN (fun q => by omega)
              | (refine cI (kY ⟨by omega, by omega, by omega, by omega, by omega⟩ u (by simpa using u1) ⟨(u2 53 (by omega) 1).trans ((t2 53 (by omega) 1).trans v1), (u2 53 (by omega) 2).trans ((t2 53 (by omega) 2).trans v2), (u2 53 (by omega) 3).trans ((t2 53 (by omega) 3).trans v3), (u2 53 (by omega) 4).trans ((t2 53 (by omega) 4).trans v4), (u2 53 (by omega) 5).trans ((t2 53 (by omega) 5).trans v5)⟩ (t1.out (fun b h1 h2 r => u2 b (by omega) r)) (fun b hb r => (u2 b (by omega) r).trans (t2 b (by omega) r))) ?_
                 omega)
end PR9
