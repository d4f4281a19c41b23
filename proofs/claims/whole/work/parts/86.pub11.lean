/-! SWAP, SLIDE, CANCEL -/
section PA2
variable {d tp : Nat} {h0 h : pheap} {s : St} {Q : Option pv → pheap → Prop} {L : Int} {n z_ : Nat} {c : Int → Int} {Hs : Hst} {vw rf sl yr la : Int}
def swC (c : Int → Int) (x : Int) : Int → Int := fun i => if i = x then c (x + 1) else if i = x + 1 then c x else c i
def sdC (c : Int → Int) (x : Int) : Int → Int := fun i => if i = x then c (x + 1) else if i = x + 1 then c x else if i = x + 2 then c (x + 1) else c i
def cnC (c : Int → Int) (x : Int) : Int → Int := fun i => if i < x then c i else c (i + 2)
abbrev swP (n : Nat) (c : Int → Int) (x : Int) : Prop := 0 ≤ x ∧ x + 1 < n ∧ (2 ≤ c x / 2 - c (x + 1) / 2 ∨ 2 ≤ c (x + 1) / 2 - c x / 2)
abbrev cnP (n : Nat) (c : Int → Int) (x : Int) : Prop := 0 ≤ x ∧ x + 1 < n ∧ c x = c (x + 1) + 1 - 2 * (c (x + 1) % 2)
abbrev sdP (n : Nat) (c : Int → Int) (x : Int) : Prop := 0 ≤ x ∧ x + 2 < n ∧ c x = c (x + 2) ∧ (c x = c (x + 1) + 2 ∨ c (x + 1) = c x + 2)
theorem swC_v {x : Int} (v_ : vC L c n) (h0 : 0 ≤ x) (h1 : x + 1 < n) : vC L (swC c x) n := fun i i0 i1 => by
  unfold swC
  split
  · exact v_ _ (by omega) (by omega)
  · split
    · exact v_ _ (by omega) (by omega)
    · exact v_ i i0 i1
theorem sdC_v {x : Int} (v_ : vC L c n) (h0 : 0 ≤ x) (h1 : x + 2 < n) : vC L (sdC c x) n := fun i i0 i1 => by
  unfold sdC
  split
  · exact v_ _ (by omega) (by omega)
  · split
    · exact v_ _ (by omega) (by omega)
    · split
      · exact v_ _ (by omega) (by omega)
      · exact v_ i i0 i1
theorem m_swap (hd : 14 ≤ d) (hD : DA 53 vw rf sl yr la L n c s) (ha : PAs z_ Hs s) (hok : hOk z_ Hs) (hn48 : n ≤ 48) {x : Int} (hx : iR x) (kY : swP n c x → ∀ t_, DA 53 vw rf sl yr la L (n) (swC c x) t_ → PAs (min 20 (z_ + 1)) (hput1 vw L n c Hs) t_ → cfr s t_ → Q (some (vI 1)) (HP h0 t_)) (kN : ¬ swP n c x → Q (some (vI 0)) (HP h0 s)) : wpM PP d 20 [vR 32, vI x] (HP h0 s) Q := by
  obtain ⟨v1_, v2_, v3_, v4_, v5_, hp⟩ := hD
  have hct := cnt_R L
  refine n_at (m := 20) (q := mr20) (kn := (0, 2)) [some (vR _), some (vI _), none, none, none] mb20 rfl rfl (h_rcv sc_32) (Nat.le_of_ble_eq_true rfl) rfl rfl ?_
  refine x_aload rfl ?_
  refine h_getR sc_32 rfl (by omega) ?_
  refine h_getR sc_53 rfl (by omega) ?_
  refine n_astore [some (vR _), some (vI _), some (vR _), _, _] (Nat.le_of_ble_eq_true rfl) rfl ?_
  refine x_aload rfl ?_
  refine x_iload rfl ?_
  refine n_call [vR _, vI _] [] (by omega) (Nat.le_of_ble_eq_true rfl) rfl rfl (Nat.le_of_ble_eq_true rfl) ?_
  refine m_isCrossing hp ⟨by omega, by omega⟩ ?_
  show wp PP _ _ _ [some (vR _), some (vI _), some (vR _), _, _] [vI _] _ _
  refine z_if_eq (fun c1 => ?_) (fun c1 => ?_)
  · refine x_ci ?_
    refine x_zret (by first | exact bI_01 _ | omega) ?_
    first
      | exact kN (fun q => by unfold swP at q; omega)
      | exact kY (by unfold swP; omega) u_ ⟨(u3_ 53 (by omega) 1).trans ((t2_ 53 (by omega) 1).trans v1_), (u3_ 53 (by omega) 2).trans ((t2_ 53 (by omega) 2).trans v2_), (u3_ 53 (by omega) 3).trans ((t2_ 53 (by omega) 3).trans v3_), (u3_ 53 (by omega) 4).trans ((t2_ 53 (by omega) 4).trans v4_), (u3_ 53 (by omega) 5).trans ((t2_ 53 (by omega) 5).trans v5_), u1_⟩ (t1_.out (fun b h1 h2 r => u3_ b (by omega) r)) (fun b hb r => (u3_ b (by omega) r).trans (t2_ b (by omega) r))
  · refine x_aload rfl ?_
    refine x_iload rfl ?_
    refine x_ci ?_
    refine x_iadd ?_
    refine n_call [vR _, vI _] [] (by omega) (Nat.le_of_ble_eq_true rfl) rfl rfl (Nat.le_of_ble_eq_true rfl) ?_
    refine m_isCrossing hp ⟨by omega, by omega⟩ ?_
    show wp PP _ _ _ [some (vR _), some (vI _), some (vR _), _, _] [vI _] _ _
    refine z_if_ne (fun c2 => ?_) (fun c2 => ?_)
    · refine x_aload rfl ?_
      refine x_iload rfl ?_
      refine n_call [vR _, vI _] [] (by omega) (Nat.le_of_ble_eq_true rfl) rfl rfl (Nat.le_of_ble_eq_true rfl) ?_
      refine m_codeAt pl_54 (by omega) ?_
      rw [hp.code (by omega) (by omega)]
      show wp PP _ _ _ [some (vR _), some (vI _), some (vR _), _, _] [vI _] _ _
      refine n_istore [some (vR _), some (vI _), some (vR _), some (vI _), _] (Nat.le_of_ble_eq_true rfl) rfl ?_
      refine x_aload rfl ?_
      refine x_iload rfl ?_
      refine x_ci ?_
      refine x_iadd ?_
      refine n_call [vR _, vI _] [] (by omega) (Nat.le_of_ble_eq_true rfl) rfl rfl (Nat.le_of_ble_eq_true rfl) ?_
      refine m_codeAt pl_54 (by omega) ?_
      rw [hp.code (by omega) (by omega)]
      show wp PP _ _ _ [some (vR _), some (vI _), some (vR _), some (vI _), _] [vI _] _ _
      refine n_istore [some (vR _), some (vI _), some (vR _), some (vI _), some (vI _)] (Nat.le_of_ble_eq_true rfl) rfl ?_
      refine x_iload rfl ?_
      refine x_iload rfl ?_
      refine n_call [vI _, vI _] [] (by omega) (Nat.le_of_ble_eq_true rfl) rfl rfl (Nat.le_of_ble_eq_true rfl) ?_
      have vx := hp.v x (by omega) (by omega)
      have vy := hp.v (x + 1) (by omega) (by omega)
      refine m_apart (by omega) ⟨by omega, by omega⟩ ⟨by omega, by omega⟩ ?_
      show wp PP _ _ _ [some (vR _), some (vI _), some (vR _), some (vI _), some (vI _)] [vI _] _ _
      refine x_ci ?_
      refine n_icmp_ge ⟨by omega, by omega⟩ ⟨by omega, by omega⟩ (fun c3 => ?_) (fun c3 => ?_)
      · refine x_aload rfl ?_
        refine h_getR sc_32 rfl (by omega) ?_
        refine x_aload rfl ?_
        refine h_getR sc_32 rfl (by omega) ?_
        refine n_call [vR _, vR _] [] (by omega) (Nat.le_of_ble_eq_true rfl) rfl rfl (Nat.le_of_ble_eq_true rfl) ?_
        refine m_put (by omega) ha hok v1_ hp hn48 (fun t_ t1_ t2_ => ?_)
        have hp2 : PL 54 L n c t_ := PLout hp (fun b h1 h2 r => t2_ b (by omega) r)
        show wp PP _ _ _ [some (vR _), some (vI _), some (vR _), some (vI _), some (vI _)] [] _ _
        refine x_aload rfl ?_
        refine x_iload rfl ?_
        refine x_iload rfl ?_
        refine n_call [vR _, vI _, vI _] [] (by omega) (Nat.le_of_ble_eq_true rfl) rfl rfl (Nat.le_of_ble_eq_true rfl) ?_
        refine m_setCode pl_54 (by first | (rw [hp2.size]; omega) | (rw [up_a (by decide), hp2.size]; omega) | (rw [up_a (by decide), up_a (by decide), hp2.size]; omega)) (by first | (rw [hp2.size]; omega) | (rw [up_a (by decide), hp2.size]; omega) | (rw [up_a (by decide), up_a (by decide), hp2.size]; omega)) ?_
        show wp PP _ _ _ [some (vR _), some (vI _), some (vR _), some (vI _), some (vI _)] [] _ _
        refine x_aload rfl ?_
        refine x_iload rfl ?_
        refine x_ci ?_
        refine x_iadd ?_
        refine x_iload rfl ?_
        refine n_call [vR _, vI _, vI _] [] (by omega) (Nat.le_of_ble_eq_true rfl) rfl rfl (Nat.le_of_ble_eq_true rfl) ?_
        refine m_setCode pl_54 (by first | (rw [hp2.size]; omega) | (rw [up_a (by decide), hp2.size]; omega) | (rw [up_a (by decide), up_a (by decide), hp2.size]; omega)) (by first | (rw [hp2.size]; omega) | (rw [up_a (by decide), hp2.size]; omega) | (rw [up_a (by decide), up_a (by decide), hp2.size]; omega)) ?_
        show wp PP _ _ _ [some (vR _), some (vI _), some (vR _), some (vI _), some (vI _)] [] _ _
        refine x_aload rfl ?_
        refine n_call [vR _] [] (by omega) (Nat.le_of_ble_eq_true rfl) rfl rfl (Nat.le_of_ble_eq_true rfl) ?_
        refine m_walk (L := L) (n := n) (c := swC c x) pl_54 (by omega) (by rw [up_a (by decide), up_a (by decide)]; exact hp2.left) hp.hL (by rw [up_a (by decide), up_a (by decide)]; exact hp2.size) (by omega) (swC_v hp.v (by omega) (by omega)) (fun q q0 q1 => ?_) (fun u_ u1_ u2_ => ?_)
        · unfold swC
          simp only [up, true_and]
          have hq := hp2.code q0 q1
          repeat' split
          all_goals first
            | (exfalso; omega)
            | exact hq
            | (congr 1; omega)
            | rfl
        have u3_ : ∀ b : Nat, ¬ (54 ≤ b ∧ b ≤ 57) → ∀ r, u_ b r = t_ b r := fun b hb r => by
          rw [u2_ b (by omega) r, up_a (by omega), up_a (by omega)]
        show wp PP _ _ _ [some (vR _), some (vI _), some (vR _), some (vI _), some (vI _)] [] _ _
        refine x_ci ?_
        refine x_zret (by first | exact bI_01 _ | omega) ?_
        first
          | exact kN (fun q => by unfold swP at q; omega)
          | exact kY (by unfold swP; omega) u_ ⟨(u3_ 53 (by omega) 1).trans ((t2_ 53 (by omega) 1).trans v1_), (u3_ 53 (by omega) 2).trans ((t2_ 53 (by omega) 2).trans v2_), (u3_ 53 (by omega) 3).trans ((t2_ 53 (by omega) 3).trans v3_), (u3_ 53 (by omega) 4).trans ((t2_ 53 (by omega) 4).trans v4_), (u3_ 53 (by omega) 5).trans ((t2_ 53 (by omega) 5).trans v5_), u1_⟩ (t1_.out (fun b h1 h2 r => u3_ b (by omega) r)) (fun b hb r => (u3_ b (by omega) r).trans (t2_ b (by omega) r))
      · refine x_ci ?_
        refine x_zret (by first | exact bI_01 _ | omega) ?_
        first
          | exact kN (fun q => by unfold swP at q; omega)
          | exact kY (by unfold swP; omega) u_ ⟨(u3_ 53 (by omega) 1).trans ((t2_ 53 (by omega) 1).trans v1_), (u3_ 53 (by omega) 2).trans ((t2_ 53 (by omega) 2).trans v2_), (u3_ 53 (by omega) 3).trans ((t2_ 53 (by omega) 3).trans v3_), (u3_ 53 (by omega) 4).trans ((t2_ 53 (by omega) 4).trans v4_), (u3_ 53 (by omega) 5).trans ((t2_ 53 (by omega) 5).trans v5_), u1_⟩ (t1_.out (fun b h1 h2 r => u3_ b (by omega) r)) (fun b hb r => (u3_ b (by omega) r).trans (t2_ b (by omega) r))
    · refine x_fall ?_
      refine x_ci ?_
      refine x_zret (by first | exact bI_01 _ | omega) ?_
      first
        | exact kN (fun q => by unfold swP at q; omega)
        | exact kY (by unfold swP; omega) u_ ⟨(u3_ 53 (by omega) 1).trans ((t2_ 53 (by omega) 1).trans v1_), (u3_ 53 (by omega) 2).trans ((t2_ 53 (by omega) 2).trans v2_), (u3_ 53 (by omega) 3).trans ((t2_ 53 (by omega) 3).trans v3_), (u3_ 53 (by omega) 4).trans ((t2_ 53 (by omega) 4).trans v4_), (u3_ 53 (by omega) 5).trans ((t2_ 53 (by omega) 5).trans v5_), u1_⟩ (t1_.out (fun b h1 h2 r => u3_ b (by omega) r)) (fun b hb r => (u3_ b (by omega) r).trans (t2_ b (by omega) r))
theorem m_slide (hd : 14 ≤ d) (hD : DA 53 vw rf sl yr la L n c s) (ha : PAs z_ Hs s) (hok : hOk z_ Hs) (hn48 : n ≤ 48) {x : Int} (hx : iR x) (kY : sdP n c x → ∀ t_, DA 53 vw rf sl yr la L (n) (sdC c x) t_ → PAs (min 20 (z_ + 1)) (hput1 vw L n c Hs) t_ → cfr s t_ → Q (some (vI 1)) (HP h0 t_)) (kN : ¬ sdP n c x → Q (some (vI 0)) (HP h0 s)) : wpM PP d 22 [vR 32, vI x] (HP h0 s) Q := by
  obtain ⟨v1_, v2_, v3_, v4_, v5_, hp⟩ := hD
  have hct := cnt_R L
  refine n_at (m := 22) (q := mr22) (kn := (0, 2)) [some (vR _), some (vI _), none, none, none] mb22 rfl rfl (h_rcv sc_32) (Nat.le_of_ble_eq_true rfl) rfl rfl ?_
  refine x_aload rfl ?_
  refine h_getR sc_32 rfl (by omega) ?_
  refine h_getR sc_53 rfl (by omega) ?_
  refine n_astore [some (vR _), some (vI _), some (vR _), _, _] (Nat.le_of_ble_eq_true rfl) rfl ?_
  refine x_aload rfl ?_
  refine x_iload rfl ?_
  refine n_call [vR _, vI _] [] (by omega) (Nat.le_of_ble_eq_true rfl) rfl rfl (Nat.le_of_ble_eq_true rfl) ?_
  refine m_isCrossing hp ⟨by omega, by omega⟩ ?_
  show wp PP _ _ _ [some (vR _), some (vI _), some (vR _), _, _] [vI _] _ _
  refine z_if_eq (fun c1 => ?_) (fun c1 => ?_)
  · refine x_ci ?_
    refine x_zret (by first | exact bI_01 _ | omega) ?_
    first
      | exact kN (fun q => by unfold sdP at q; omega)
      | exact kY (by unfold sdP; omega) u_ ⟨(u3_ 53 (by omega) 1).trans ((t2_ 53 (by omega) 1).trans v1_), (u3_ 53 (by omega) 2).trans ((t2_ 53 (by omega) 2).trans v2_), (u3_ 53 (by omega) 3).trans ((t2_ 53 (by omega) 3).trans v3_), (u3_ 53 (by omega) 4).trans ((t2_ 53 (by omega) 4).trans v4_), (u3_ 53 (by omega) 5).trans ((t2_ 53 (by omega) 5).trans v5_), u1_⟩ (t1_.out (fun b h1 h2 r => u3_ b (by omega) r)) (fun b hb r => (u3_ b (by omega) r).trans (t2_ b (by omega) r))
  · refine x_aload rfl ?_
    refine x_iload rfl ?_
    refine x_ci ?_
    refine x_iadd ?_
    refine n_call [vR _, vI _] [] (by omega) (Nat.le_of_ble_eq_true rfl) rfl rfl (Nat.le_of_ble_eq_true rfl) ?_
    refine m_isCrossing hp ⟨by omega, by omega⟩ ?_
    show wp PP _ _ _ [some (vR _), some (vI _), some (vR _), _, _] [vI _] _ _
    refine z_if_eq (fun c2 => ?_) (fun c2 => ?_)
    · refine x_ci ?_
      refine x_zret (by first | exact bI_01 _ | omega) ?_
      first
        | exact kN (fun q => by unfold sdP at q; omega)
        | exact kY (by unfold sdP; omega) u_ ⟨(u3_ 53 (by omega) 1).trans ((t2_ 53 (by omega) 1).trans v1_), (u3_ 53 (by omega) 2).trans ((t2_ 53 (by omega) 2).trans v2_), (u3_ 53 (by omega) 3).trans ((t2_ 53 (by omega) 3).trans v3_), (u3_ 53 (by omega) 4).trans ((t2_ 53 (by omega) 4).trans v4_), (u3_ 53 (by omega) 5).trans ((t2_ 53 (by omega) 5).trans v5_), u1_⟩ (t1_.out (fun b h1 h2 r => u3_ b (by omega) r)) (fun b hb r => (u3_ b (by omega) r).trans (t2_ b (by omega) r))
    · refine x_aload rfl ?_
      refine x_iload rfl ?_
      refine x_ci ?_
      refine x_iadd ?_
      refine n_call [vR _, vI _] [] (by omega) (Nat.le_of_ble_eq_true rfl) rfl rfl (Nat.le_of_ble_eq_true rfl) ?_
      refine m_isCrossing hp ⟨by omega, by omega⟩ ?_
      show wp PP _ _ _ [some (vR _), some (vI _), some (vR _), _, _] [vI _] _ _
      refine z_if_ne (fun c3 => ?_) (fun c3 => ?_)
      · refine x_aload rfl ?_
        refine x_iload rfl ?_
        refine n_call [vR _, vI _] [] (by omega) (Nat.le_of_ble_eq_true rfl) rfl rfl (Nat.le_of_ble_eq_true rfl) ?_
        refine m_codeAt pl_54 (by omega) ?_
        rw [hp.code (by omega) (by omega)]
        show wp PP _ _ _ [some (vR _), some (vI _), some (vR _), _, _] [vI _] _ _
        refine n_istore [some (vR _), some (vI _), some (vR _), some (vI _), _] (Nat.le_of_ble_eq_true rfl) rfl ?_
        refine x_aload rfl ?_
        refine x_iload rfl ?_
        refine x_ci ?_
        refine x_iadd ?_
        refine n_call [vR _, vI _] [] (by omega) (Nat.le_of_ble_eq_true rfl) rfl rfl (Nat.le_of_ble_eq_true rfl) ?_
        refine m_codeAt pl_54 (by omega) ?_
        rw [hp.code (by omega) (by omega)]
        show wp PP _ _ _ [some (vR _), some (vI _), some (vR _), some (vI _), _] [vI _] _ _
        refine n_istore [some (vR _), some (vI _), some (vR _), some (vI _), some (vI _)] (Nat.le_of_ble_eq_true rfl) rfl ?_
        refine x_aload rfl ?_
        refine x_iload rfl ?_
        refine x_ci ?_
        refine x_iadd ?_
        refine n_call [vR _, vI _] [] (by omega) (Nat.le_of_ble_eq_true rfl) rfl rfl (Nat.le_of_ble_eq_true rfl) ?_
        refine m_codeAt pl_54 (by omega) ?_
        rw [hp.code (by omega) (by omega)]
        show wp PP _ _ _ [some (vR _), some (vI _), some (vR _), some (vI _), some (vI _)] [vI _] _ _
        refine x_iload rfl ?_
        have vx := hp.v x (by omega) (by omega)
        have vy := hp.v (x + 1) (by omega) (by omega)
        have vz := hp.v (x + 2) (by omega) (by omega)
        refine n_icmp_ne ⟨by omega, by omega⟩ ⟨by omega, by omega⟩ (fun c4 => ?_) (fun c4 => ?_)
        · refine x_ci ?_
          refine x_zret (by first | exact bI_01 _ | omega) ?_
          first
            | exact kN (fun q => by unfold sdP at q; omega)
            | exact kY (by unfold sdP; omega) u_ ⟨(u3_ 53 (by omega) 1).trans ((t2_ 53 (by omega) 1).trans v1_), (u3_ 53 (by omega) 2).trans ((t2_ 53 (by omega) 2).trans v2_), (u3_ 53 (by omega) 3).trans ((t2_ 53 (by omega) 3).trans v3_), (u3_ 53 (by omega) 4).trans ((t2_ 53 (by omega) 4).trans v4_), (u3_ 53 (by omega) 5).trans ((t2_ 53 (by omega) 5).trans v5_), u1_⟩ (t1_.out (fun b h1 h2 r => u3_ b (by omega) r)) (fun b hb r => (u3_ b (by omega) r).trans (t2_ b (by omega) r))
        · refine x_iload rfl ?_
          refine x_iload rfl ?_
          refine n_call [vI _, vI _] [] (by omega) (Nat.le_of_ble_eq_true rfl) rfl rfl (Nat.le_of_ble_eq_true rfl) ?_
          have vx := hp.v x (by omega) (by omega)
          have vy := hp.v (x + 1) (by omega) (by omega)
          refine m_apart (by omega) ⟨by omega, by omega⟩ ⟨by omega, by omega⟩ ?_
          show wp PP _ _ _ [some (vR _), some (vI _), some (vR _), some (vI _), some (vI _)] [vI _] _ _
          refine x_ci ?_
          refine n_icmp_ne ⟨by omega, by omega⟩ ⟨by omega, by omega⟩ (fun c5 => ?_) (fun c5 => ?_)
          · refine x_ci ?_
            refine x_zret (by first | exact bI_01 _ | omega) ?_
            first
              | exact kN (fun q => by unfold sdP at q; omega)
              | exact kY (by unfold sdP; omega) u_ ⟨(u3_ 53 (by omega) 1).trans ((t2_ 53 (by omega) 1).trans v1_), (u3_ 53 (by omega) 2).trans ((t2_ 53 (by omega) 2).trans v2_), (u3_ 53 (by omega) 3).trans ((t2_ 53 (by omega) 3).trans v3_), (u3_ 53 (by omega) 4).trans ((t2_ 53 (by omega) 4).trans v4_), (u3_ 53 (by omega) 5).trans ((t2_ 53 (by omega) 5).trans v5_), u1_⟩ (t1_.out (fun b h1 h2 r => u3_ b (by omega) r)) (fun b hb r => (u3_ b (by omega) r).trans (t2_ b (by omega) r))
          · refine x_iload rfl ?_
            refine n_call [vI _] [] (by omega) (Nat.le_of_ble_eq_true rfl) rfl rfl (Nat.le_of_ble_eq_true rfl) ?_
            refine m_isOver ⟨by omega, by omega⟩ ?_
            show wp PP _ _ _ [some (vR _), some (vI _), some (vR _), some (vI _), some (vI _)] [vI _] _ _
            refine x_iload rfl ?_
            refine n_call [vI _] [vI _] (by omega) (Nat.le_of_ble_eq_true rfl) rfl rfl (Nat.le_of_ble_eq_true rfl) ?_
            refine m_isOver ⟨by omega, by omega⟩ ?_
            show wp PP _ _ _ [some (vR _), some (vI _), some (vR _), some (vI _), some (vI _)] [vI _, vI _] _ _
            have w1_ := bI_or (c x % 2 = 0)
            have w2_ := bI_or (c (x + 1) % 2 = 0)
            refine n_icmp_eq ⟨by omega, by omega⟩ ⟨by omega, by omega⟩ (fun c6 => ?_) (fun c6 => ?_)
            · refine x_aload rfl ?_
              refine h_getR sc_32 rfl (by omega) ?_
              refine x_aload rfl ?_
              refine h_getR sc_32 rfl (by omega) ?_
              refine n_call [vR _, vR _] [] (by omega) (Nat.le_of_ble_eq_true rfl) rfl rfl (Nat.le_of_ble_eq_true rfl) ?_
              refine m_put (by omega) ha hok v1_ hp hn48 (fun t_ t1_ t2_ => ?_)
              have hp2 : PL 54 L n c t_ := PLout hp (fun b h1 h2 r => t2_ b (by omega) r)
              show wp PP _ _ _ [some (vR _), some (vI _), some (vR _), some (vI _), some (vI _)] [] _ _
              refine x_aload rfl ?_
              refine x_iload rfl ?_
              refine x_iload rfl ?_
              refine n_call [vR _, vI _, vI _] [] (by omega) (Nat.le_of_ble_eq_true rfl) rfl rfl (Nat.le_of_ble_eq_true rfl) ?_
              refine m_setCode pl_54 (by first | (rw [hp2.size]; omega) | (rw [up_a (by decide), hp2.size]; omega) | (rw [up_a (by decide), up_a (by decide), hp2.size]; omega)) (by first | (rw [hp2.size]; omega) | (rw [up_a (by decide), hp2.size]; omega) | (rw [up_a (by decide), up_a (by decide), hp2.size]; omega)) ?_
              show wp PP _ _ _ [some (vR _), some (vI _), some (vR _), some (vI _), some (vI _)] [] _ _
              refine x_aload rfl ?_
              refine x_iload rfl ?_
              refine x_ci ?_
              refine x_iadd ?_
              refine x_iload rfl ?_
              refine n_call [vR _, vI _, vI _] [] (by omega) (Nat.le_of_ble_eq_true rfl) rfl rfl (Nat.le_of_ble_eq_true rfl) ?_
              refine m_setCode pl_54 (by first | (rw [hp2.size]; omega) | (rw [up_a (by decide), hp2.size]; omega) | (rw [up_a (by decide), up_a (by decide), hp2.size]; omega)) (by first | (rw [hp2.size]; omega) | (rw [up_a (by decide), hp2.size]; omega) | (rw [up_a (by decide), up_a (by decide), hp2.size]; omega)) ?_
              show wp PP _ _ _ [some (vR _), some (vI _), some (vR _), some (vI _), some (vI _)] [] _ _
              refine x_aload rfl ?_
              refine x_iload rfl ?_
              refine x_ci ?_
              refine x_iadd ?_
              refine x_iload rfl ?_
              refine n_call [vR _, vI _, vI _] [] (by omega) (Nat.le_of_ble_eq_true rfl) rfl rfl (Nat.le_of_ble_eq_true rfl) ?_
              refine m_setCode pl_54 (by first | (rw [hp2.size]; omega) | (rw [up_a (by decide), hp2.size]; omega) | (rw [up_a (by decide), up_a (by decide), hp2.size]; omega)) (by first | (rw [hp2.size]; omega) | (rw [up_a (by decide), hp2.size]; omega) | (rw [up_a (by decide), up_a (by decide), hp2.size]; omega)) ?_
              show wp PP _ _ _ [some (vR _), some (vI _), some (vR _), some (vI _), some (vI _)] [] _ _
              refine x_aload rfl ?_
              refine n_call [vR _] [] (by omega) (Nat.le_of_ble_eq_true rfl) rfl rfl (Nat.le_of_ble_eq_true rfl) ?_
              refine m_walk (L := L) (n := n) (c := sdC c x) pl_54 (by omega) (by rw [up_a (by decide), up_a (by decide), up_a (by decide)]; exact hp2.left) hp.hL (by rw [up_a (by decide), up_a (by decide), up_a (by decide)]; exact hp2.size) (by omega) (sdC_v hp.v (by omega) (by omega)) (fun q q0 q1 => ?_) (fun u_ u1_ u2_ => ?_)
              · unfold sdC
                simp only [up, true_and]
                have hq := hp2.code q0 q1
                repeat' split
                all_goals first
                  | (exfalso; omega)
                  | exact hq
                  | (congr 1; omega)
                  | rfl
              have u3_ : ∀ b : Nat, ¬ (54 ≤ b ∧ b ≤ 57) → ∀ r, u_ b r = t_ b r := fun b hb r => by
                rw [u2_ b (by omega) r, up_a (by omega), up_a (by omega), up_a (by omega)]
              show wp PP _ _ _ [some (vR _), some (vI _), some (vR _), some (vI _), some (vI _)] [] _ _
              refine x_ci ?_
              refine x_zret (by first | exact bI_01 _ | omega) ?_
              first
                | exact kN (fun q => by unfold sdP at q; omega)
                | exact kY (by unfold sdP; omega) u_ ⟨(u3_ 53 (by omega) 1).trans ((t2_ 53 (by omega) 1).trans v1_), (u3_ 53 (by omega) 2).trans ((t2_ 53 (by omega) 2).trans v2_), (u3_ 53 (by omega) 3).trans ((t2_ 53 (by omega) 3).trans v3_), (u3_ 53 (by omega) 4).trans ((t2_ 53 (by omega) 4).trans v4_), (u3_ 53 (by omega) 5).trans ((t2_ 53 (by omega) 5).trans v5_), u1_⟩ (t1_.out (fun b h1 h2 r => u3_ b (by omega) r)) (fun b hb r => (u3_ b (by omega) r).trans (t2_ b (by omega) r))
            · refine x_fall ?_
              refine x_ci ?_
              refine x_zret (by first | exact bI_01 _ | omega) ?_
              first
                | exact kN (fun q => by unfold sdP at q; omega)
                | exact kY (by unfold sdP; omega) u_ ⟨(u3_ 53 (by omega) 1).trans ((t2_ 53 (by omega) 1).trans v1_), (u3_ 53 (by omega) 2).trans ((t2_ 53 (by omega) 2).trans v2_), (u3_ 53 (by omega) 3).trans ((t2_ 53 (by omega) 3).trans v3_), (u3_ 53 (by omega) 4).trans ((t2_ 53 (by omega) 4).trans v4_), (u3_ 53 (by omega) 5).trans ((t2_ 53 (by omega) 5).trans v5_), u1_⟩ (t1_.out (fun b h1 h2 r => u3_ b (by omega) r)) (fun b hb r => (u3_ b (by omega) r).trans (t2_ b (by omega) r))
      · refine x_fall ?_
        refine x_ci ?_
        refine x_zret (by first | exact bI_01 _ | omega) ?_
        first
          | exact kN (fun q => by unfold sdP at q; omega)
          | exact kY (by unfold sdP; omega) u_ ⟨(u3_ 53 (by omega) 1).trans ((t2_ 53 (by omega) 1).trans v1_), (u3_ 53 (by omega) 2).trans ((t2_ 53 (by omega) 2).trans v2_), (u3_ 53 (by omega) 3).trans ((t2_ 53 (by omega) 3).trans v3_), (u3_ 53 (by omega) 4).trans ((t2_ 53 (by omega) 4).trans v4_), (u3_ 53 (by omega) 5).trans ((t2_ 53 (by omega) 5).trans v5_), u1_⟩ (t1_.out (fun b h1 h2 r => u3_ b (by omega) r)) (fun b hb r => (u3_ b (by omega) r).trans (t2_ b (by omega) r))
theorem m_cancel (hd : 15 ≤ d) (hD : DA 53 vw rf sl yr la L n c s) (ha : PAs z_ Hs s) (hok : hOk z_ Hs) (hn48 : n ≤ 48) {x : Int} (hx : iR x) (kY : cnP n c x → ∀ t_, DA 53 vw rf sl yr la L (n - 2) (cnC c x) t_ → PAs (min 20 (z_ + 1)) (hput1 vw L n c Hs) t_ → cfr s t_ → Q (some (vI 1)) (HP h0 t_)) (kN : ¬ cnP n c x → Q (some (vI 0)) (HP h0 s)) : wpM PP d 21 [vR 32, vI x] (HP h0 s) Q := by
  obtain ⟨v1_, v2_, v3_, v4_, v5_, hp⟩ := hD
  have hct := cnt_R L
  refine n_at (m := 21) (q := mr21) (kn := (0, 2)) [some (vR _), some (vI _), none] mb21 rfl rfl (h_rcv sc_32) (Nat.le_of_ble_eq_true rfl) rfl rfl ?_
  refine x_aload rfl ?_
  refine h_getR sc_32 rfl (by omega) ?_
  refine h_getR sc_53 rfl (by omega) ?_
  refine n_astore [some (vR _), some (vI _), some (vR _)] (Nat.le_of_ble_eq_true rfl) rfl ?_
  refine x_aload rfl ?_
  refine x_iload rfl ?_
  refine n_call [vR _, vI _] [] (by omega) (Nat.le_of_ble_eq_true rfl) rfl rfl (Nat.le_of_ble_eq_true rfl) ?_
  refine m_isCrossing hp ⟨by omega, by omega⟩ ?_
  show wp PP _ _ _ [some (vR _), some (vI _), some (vR _)] [vI _] _ _
  refine z_if_eq (fun c1 => ?_) (fun c1 => ?_)
  · refine x_ci ?_
    refine x_zret (by first | exact bI_01 _ | omega) ?_
    first
      | exact kN (fun q => by unfold cnP at q; omega)
      | exact kY (by unfold cnP; omega) u_ ⟨(u3_ 53 (by omega) 1).trans ((t2_ 53 (by omega) 1).trans v1_), (u3_ 53 (by omega) 2).trans ((t2_ 53 (by omega) 2).trans v2_), (u3_ 53 (by omega) 3).trans ((t2_ 53 (by omega) 3).trans v3_), (u3_ 53 (by omega) 4).trans ((t2_ 53 (by omega) 4).trans v4_), (u3_ 53 (by omega) 5).trans ((t2_ 53 (by omega) 5).trans v5_), u1_⟩ (t1_.out (fun b h1 h2 r => u3_ b (by omega) r)) (fun b hb r => (u3_ b (by omega) r).trans (t2_ b (by omega) r))
  · refine x_aload rfl ?_
    refine x_iload rfl ?_
    refine x_ci ?_
    refine x_iadd ?_
    refine n_call [vR _, vI _] [] (by omega) (Nat.le_of_ble_eq_true rfl) rfl rfl (Nat.le_of_ble_eq_true rfl) ?_
    refine m_isCrossing hp ⟨by omega, by omega⟩ ?_
    show wp PP _ _ _ [some (vR _), some (vI _), some (vR _)] [vI _] _ _
    refine z_if_eq (fun c2 => ?_) (fun c2 => ?_)
    · refine x_ci ?_
      refine x_zret (by first | exact bI_01 _ | omega) ?_
      first
        | exact kN (fun q => by unfold cnP at q; omega)
        | exact kY (by unfold cnP; omega) u_ ⟨(u3_ 53 (by omega) 1).trans ((t2_ 53 (by omega) 1).trans v1_), (u3_ 53 (by omega) 2).trans ((t2_ 53 (by omega) 2).trans v2_), (u3_ 53 (by omega) 3).trans ((t2_ 53 (by omega) 3).trans v3_), (u3_ 53 (by omega) 4).trans ((t2_ 53 (by omega) 4).trans v4_), (u3_ 53 (by omega) 5).trans ((t2_ 53 (by omega) 5).trans v5_), u1_⟩ (t1_.out (fun b h1 h2 r => u3_ b (by omega) r)) (fun b hb r => (u3_ b (by omega) r).trans (t2_ b (by omega) r))
    · refine x_aload rfl ?_
      refine x_iload rfl ?_
      refine n_call [vR _, vI _] [] (by omega) (Nat.le_of_ble_eq_true rfl) rfl rfl (Nat.le_of_ble_eq_true rfl) ?_
      refine m_codeAt pl_54 (by omega) ?_
      rw [hp.code (by omega) (by omega)]
      show wp PP _ _ _ [some (vR _), some (vI _), some (vR _)] [vI _] _ _
      refine x_aload rfl ?_
      refine x_iload rfl ?_
      refine x_ci ?_
      refine x_iadd ?_
      refine n_call [vR _, vI _] [vI _] (by omega) (Nat.le_of_ble_eq_true rfl) rfl rfl (Nat.le_of_ble_eq_true rfl) ?_
      refine m_codeAt pl_54 (by omega) ?_
      rw [hp.code (by omega) (by omega)]
      show wp PP _ _ _ [some (vR _), some (vI _), some (vR _)] [vI _, vI _] _ _
      refine n_call [vI _, vI _] [] (by omega) (Nat.le_of_ble_eq_true rfl) rfl rfl (Nat.le_of_ble_eq_true rfl) ?_
      have vx := hp.v x (by omega) (by omega)
      have vy := hp.v (x + 1) (by omega) (by omega)
      refine m_undo ⟨by omega, by omega⟩ ⟨by omega, by omega⟩ ?_
      show wp PP _ _ _ [some (vR _), some (vI _), some (vR _)] [vI _] _ _
      refine z_if_ne (fun c3 => ?_) (fun c3 => ?_)
      · refine x_aload rfl ?_
        refine h_getR sc_32 rfl (by omega) ?_
        refine x_aload rfl ?_
        refine h_getR sc_32 rfl (by omega) ?_
        refine n_call [vR _, vR _] [] (by omega) (Nat.le_of_ble_eq_true rfl) rfl rfl (Nat.le_of_ble_eq_true rfl) ?_
        refine m_put (by omega) ha hok v1_ hp hn48 (fun t_ t1_ t2_ => ?_)
        have hp2 : PL 54 L n c t_ := PLout hp (fun b h1 h2 r => t2_ b (by omega) r)
        show wp PP _ _ _ [some (vR _), some (vI _), some (vR _)] [] _ _
        refine x_aload rfl ?_
        refine x_iload rfl ?_
        refine n_call [vR _, vI _] [] (by omega) (Nat.le_of_ble_eq_true rfl) rfl rfl (Nat.le_of_ble_eq_true rfl) ?_
        refine m_takeOutTwo pl_54 (by omega) hp2 ⟨by omega, by omega⟩ (fun u_ u1_ u2_ => ?_)
        have u3_ : ∀ b : Nat, ¬ (54 ≤ b ∧ b ≤ 57) → ∀ r, u_ b r = t_ b r := fun b hb r => u2_ b (by omega) r
        show wp PP _ _ _ [some (vR _), some (vI _), some (vR _)] [] _ _
        refine x_ci ?_
        refine x_zret (by first | exact bI_01 _ | omega) ?_
        first
          | exact kN (fun q => by unfold cnP at q; omega)
          | exact kY (by unfold cnP; omega) u_ ⟨(u3_ 53 (by omega) 1).trans ((t2_ 53 (by omega) 1).trans v1_), (u3_ 53 (by omega) 2).trans ((t2_ 53 (by omega) 2).trans v2_), (u3_ 53 (by omega) 3).trans ((t2_ 53 (by omega) 3).trans v3_), (u3_ 53 (by omega) 4).trans ((t2_ 53 (by omega) 4).trans v4_), (u3_ 53 (by omega) 5).trans ((t2_ 53 (by omega) 5).trans v5_), u1_⟩ (t1_.out (fun b h1 h2 r => u3_ b (by omega) r)) (fun b hb r => (u3_ b (by omega) r).trans (t2_ b (by omega) r))
      · refine x_fall ?_
        refine x_ci ?_
        refine x_zret (by first | exact bI_01 _ | omega) ?_
        first
          | exact kN (fun q => by unfold cnP at q; omega)
          | exact kY (by unfold cnP; omega) u_ ⟨(u3_ 53 (by omega) 1).trans ((t2_ 53 (by omega) 1).trans v1_), (u3_ 53 (by omega) 2).trans ((t2_ 53 (by omega) 2).trans v2_), (u3_ 53 (by omega) 3).trans ((t2_ 53 (by omega) 3).trans v3_), (u3_ 53 (by omega) 4).trans ((t2_ 53 (by omega) 4).trans v4_), (u3_ 53 (by omega) 5).trans ((t2_ 53 (by omega) 5).trans v5_), u1_⟩ (t1_.out (fun b h1 h2 r => u3_ b (by omega) r)) (fun b hb r => (u3_ b (by omega) r).trans (t2_ b (by omega) r))
theorem DRset {f : Int} {t_ : St} {c' : Int → Int} {m : Nat} (h : DR f vw rf sl yr la L n c s) (g : ∀ (b : Nat) (r : Int), 106 ≤ b ∧ b ≤ 111 → r = f → t_ b r = s b r) (hm : m ≤ 48) (h2 : t_ 112 f = m) (v_ : vC L c' m) (e : ∀ i : Int, 0 ≤ i → i < m → t_ 113 (48 * f + i) = c' i) : DR f vw rf sl yr la L m c' t_ := by
  obtain ⟨a1, a2, a3, a4, a5, b1, b2, b3, b4, b5, b6⟩ := h
  exact ⟨(g 110 f (by decide) rfl).trans a1, (g 108 f (by decide) rfl).trans a2, (g 109 f (by decide) rfl).trans a3, (g 106 f (by decide) rfl).trans a4, (g 107 f (by decide) rfl).trans a5, b1, hm, v_, (g 111 f (by decide) rfl).trans b4, h2, e⟩
theorem PUs.out {t_ : St} (h : PUs z_ Hs rf sl yr la s) (g : ∀ (b : Nat) (r : Int), 106 ≤ b ∧ b ≤ 112 → 3 ≤ r → r < 23 → t_ b r = s b r) (g2 : ∀ r : Int, 144 ≤ r → r < 1104 → t_ 113 r = s 113 r) (g3 : t_ 94 36 = s 94 36) : PUs z_ Hs rf sl yr la t_ := by
  have hz := h.1
  exact ⟨h.1, g3.trans h.2.1, fun i hi => DRof (h.2.2 i hi) (by omega) (fun b r q1 q2 => g b r q1 (by omega) (by omega)) (fun r q1 q2 => g2 r (by omega) (by omega))⟩
theorem r_swap (hd : 10 ≤ d) (hu : PUs z_ Hs rf sl yr la s) (hok : hOk z_ Hs) (hD : DR 0 vw rf sl yr la L n c s) {x : Int} (hx : iR x) (kY : swP n c x → ∀ t_, DR 0 vw rf sl yr la L (n) (swC c x) t_ → PUs (min 20 (z_ + 1)) (hput1 vw L n c Hs) rf sl yr la t_ → nwN s t_ → Q (some (vI 1)) (HP h0 t_)) (kN : ¬ swP n c x → Q (some (vI 0)) (HP h0 (up s 94 0 0))) : wpM PP d 145 [vR 94, vI x] (HP h0 s) Q := by
  obtain ⟨w1_, w2_, w3_, w4_, w5_, hr0⟩ := hD
  have hD0 : DR 0 vw rf sl yr la L n c s := ⟨w1_, w2_, w3_, w4_, w5_, hr0⟩
  obtain ⟨hL, hn, hv, r1, r2, r3⟩ := hr0
  obtain ⟨p1, p2, p3⟩ := hu
  have hu0 : PUs z_ Hs rf sl yr la (up s 94 0 0) := ⟨p1, (up_i (by decide)).trans p2, fun i hi => (p3 i hi).up (by decide)⟩
  have hct := cnt_R L
  have rd : ∀ q : Int, 0 ≤ q → q < n → s 113 q = c q := fun q q0 q1 => by
    have := r3 q q0 q1
    rwa [show 48 * (0 : Int) + q = q by omega] at this
  refine n_at (m := 145) (q := mr145) (kn := (0, 2)) [some (vR _), some (vI _), none] mb145 rfl rfl (h_rcv sc_94) (Nat.le_of_ble_eq_true rfl) rfl rfl ?_
  refine x_aload rfl ?_
  refine x_ci ?_
  refine h_putI 0 sc_94 rfl rfl ?_
  refine x_aload rfl ?_
  refine x_iload rfl ?_
  refine n_call [vR _, vI _] [] (by omega) (Nat.le_of_ble_eq_true rfl) rfl rfl (Nat.le_of_ble_eq_true rfl) ?_
  refine r_isCrossing (by rw [up_a (by decide), r2]; omega) ⟨by omega, by omega⟩ ?_
  rw [up_a (b := 112) (by decide), r2]
  show wp PP _ _ _ [some (vR _), some (vI _), _] [vI _] _ _
  refine z_if_eq (fun c1 => ?_) (fun c1 => ?_)
  · refine x_ci ?_
    refine x_zret (by first | exact bI_01 _ | omega) ?_
    first
      | exact kN (fun q => by unfold swP at q; omega)
      | (refine kY (by unfold swP; omega) _ (DRset t2_ (fun b r q1 q2 => ?_) (by omega) ?_ (swC_v hv (by omega) (by omega)) (fun i i0 i1 => ?_)) (t1_.out (fun b r q1 q2 q3 => ?_) (fun r q1 q2 => ?_) ?_) (fun b r q1 q2 q3 q4 q5 q6 q7 => ?_)
         · rw [up_f (by omega), up_f (by omega)]
         · rw [up_a (by decide), up_a (by decide)]
           exact t2_.2.2.2.2.2.2.2.2.2.1
         · have hq := rt i i0 i1
           unfold swC
           rw [show 48 * (0 : Int) + i = i by omega]
           simp only [up, true_and]
           repeat' split
           all_goals first
             | (exfalso; omega)
             | exact hq
             | (congr 1; omega)
             | rfl
         · rw [up_f (by omega), up_f (by omega)]
         · rw [up_f (by omega), up_f (by omega)]
         · rw [up_a (by decide), up_a (by decide)]
         · rw [up_f (by omega), up_f (by omega), t3_ b r (by omega) (by omega) (by omega), up_f (by omega)])
  · refine x_aload rfl ?_
    refine x_iload rfl ?_
    refine x_ci ?_
    refine x_iadd ?_
    refine n_call [vR _, vI _] [] (by omega) (Nat.le_of_ble_eq_true rfl) rfl rfl (Nat.le_of_ble_eq_true rfl) ?_
    refine r_isCrossing (by rw [up_a (by decide), r2]; omega) ⟨by omega, by omega⟩ ?_
    rw [up_a (b := 112) (by decide), r2]
    show wp PP _ _ _ [some (vR _), some (vI _), _] [vI _] _ _
    refine z_if_eq (fun c2 => ?_) (fun c2 => ?_)
    · refine x_ci ?_
      refine x_zret (by first | exact bI_01 _ | omega) ?_
      first
        | exact kN (fun q => by unfold swP at q; omega)
        | (refine kY (by unfold swP; omega) _ (DRset t2_ (fun b r q1 q2 => ?_) (by omega) ?_ (swC_v hv (by omega) (by omega)) (fun i i0 i1 => ?_)) (t1_.out (fun b r q1 q2 q3 => ?_) (fun r q1 q2 => ?_) ?_) (fun b r q1 q2 q3 q4 q5 q6 q7 => ?_)
           · rw [up_f (by omega), up_f (by omega)]
           · rw [up_a (by decide), up_a (by decide)]
             exact t2_.2.2.2.2.2.2.2.2.2.1
           · have hq := rt i i0 i1
             unfold swC
             rw [show 48 * (0 : Int) + i = i by omega]
             simp only [up, true_and]
             repeat' split
             all_goals first
               | (exfalso; omega)
               | exact hq
               | (congr 1; omega)
               | rfl
           · rw [up_f (by omega), up_f (by omega)]
           · rw [up_f (by omega), up_f (by omega)]
           · rw [up_a (by decide), up_a (by decide)]
           · rw [up_f (by omega), up_f (by omega), t3_ b r (by omega) (by omega) (by omega), up_f (by omega)])
    · refine x_aload rfl ?_
      refine h_getR sc_94 rfl (by omega) ?_
      refine x_iload rfl ?_
      refine h_iald sc_113 ⟨by omega, by omega⟩ (by decide) ?_
      first
        | rw [up_a (b := 113) (by decide), rd _ (by omega) (by omega)]
        | rw [rd _ (by omega) (by omega)]
      refine x_ci ?_
      have vx := hv x (by omega) (by omega)
      have vy := hv (x + 1) (by omega) (by omega)
      refine n_idiv ⟨by omega, by omega⟩ ⟨by omega, by omega⟩ ?_
      refine x_aload rfl ?_
      refine h_getR sc_94 rfl (by omega) ?_
      refine x_iload rfl ?_
      refine x_ci ?_
      refine x_iadd ?_
      refine h_iald sc_113 ⟨by omega, by omega⟩ (by decide) ?_
      first
        | rw [up_a (b := 113) (by decide), rd _ (by omega) (by omega)]
        | rw [rd _ (by omega) (by omega)]
      refine x_ci ?_
      refine n_idiv ⟨by omega, by omega⟩ ⟨by omega, by omega⟩ ?_
      refine x_isub ?_
      refine n_iabs ⟨by omega, by omega⟩ (by omega) (Nat.le_of_ble_eq_true rfl) ?_
      refine x_ci ?_
      refine n_icmp_ge ⟨by omega, by omega⟩ ⟨by omega, by omega⟩ (fun c3 => ?_) (fun c3 => ?_)
      · refine x_aload rfl ?_
        refine n_call [vR _] [] (by omega) (Nat.le_of_ble_eq_true rfl) rfl rfl (Nat.le_of_ble_eq_true rfl) ?_
        refine r_keepNow (by omega) hu0 hok (hD0.up (by decide)) (fun t_ t1_ t2_ t3_ => ?_)
        have rt : ∀ q : Int, 0 ≤ q → q < n → t_ 113 q = c q := fun q q0 q1 => by
          have := t2_.2.2.2.2.2.2.2.2.2.2 q q0 q1
          rwa [show 48 * (0 : Int) + q = q by omega] at this
        show wp PP _ _ _ [some (vR _), some (vI _), _] [] _ _
        refine x_aload rfl ?_
        refine h_getR sc_94 rfl (by omega) ?_
        refine x_iload rfl ?_
        refine h_iald sc_113 ⟨by omega, by omega⟩ (by decide) ?_
        rw [rt _ (by omega) (by omega)]
        refine n_istore [some (vR _), some (vI _), some (vI _)] (Nat.le_of_ble_eq_true rfl) rfl ?_
        refine x_aload rfl ?_
        refine h_getR sc_94 rfl (by omega) ?_
        refine x_iload rfl ?_
        refine x_aload rfl ?_
        refine h_getR sc_94 rfl (by omega) ?_
        refine x_iload rfl ?_
        refine x_ci ?_
        refine x_iadd ?_
        refine h_iald sc_113 ⟨by omega, by omega⟩ (by decide) ?_
        rw [rt _ (by omega) (by omega)]
        refine h_iast sc_113 ⟨by omega, by omega⟩ (by decide) ?_
        refine x_aload rfl ?_
        refine h_getR sc_94 rfl (by omega) ?_
        refine x_iload rfl ?_
        refine x_ci ?_
        refine x_iadd ?_
        refine x_iload rfl ?_
        refine h_iast sc_113 ⟨by omega, by omega⟩ (by decide) ?_
        refine x_ci ?_
        refine x_zret (by first | exact bI_01 _ | omega) ?_
        first
          | exact kN (fun q => by unfold swP at q; omega)
          | (refine kY (by unfold swP; omega) _ (DRset t2_ (fun b r q1 q2 => ?_) (by omega) ?_ (swC_v hv (by omega) (by omega)) (fun i i0 i1 => ?_)) (t1_.out (fun b r q1 q2 q3 => ?_) (fun r q1 q2 => ?_) ?_) (fun b r q1 q2 q3 q4 q5 q6 q7 => ?_)
             · rw [up_f (by omega), up_f (by omega)]
             · rw [up_a (by decide), up_a (by decide)]
               exact t2_.2.2.2.2.2.2.2.2.2.1
             · have hq := rt i i0 i1
               unfold swC
               rw [show 48 * (0 : Int) + i = i by omega]
               simp only [up, true_and]
               repeat' split
               all_goals first
                 | (exfalso; omega)
                 | exact hq
                 | (congr 1; omega)
                 | rfl
             · rw [up_f (by omega), up_f (by omega)]
             · rw [up_f (by omega), up_f (by omega)]
             · rw [up_a (by decide), up_a (by decide)]
             · rw [up_f (by omega), up_f (by omega), t3_ b r (by omega) (by omega) (by omega), up_f (by omega)])
      · refine x_fall ?_
        refine x_ci ?_
        refine x_zret (by first | exact bI_01 _ | omega) ?_
        first
          | exact kN (fun q => by unfold swP at q; omega)
          | (refine kY (by unfold swP; omega) _ (DRset t2_ (fun b r q1 q2 => ?_) (by omega) ?_ (swC_v hv (by omega) (by omega)) (fun i i0 i1 => ?_)) (t1_.out (fun b r q1 q2 q3 => ?_) (fun r q1 q2 => ?_) ?_) (fun b r q1 q2 q3 q4 q5 q6 q7 => ?_)
             · rw [up_f (by omega), up_f (by omega)]
             · rw [up_a (by decide), up_a (by decide)]
               exact t2_.2.2.2.2.2.2.2.2.2.1
             · have hq := rt i i0 i1
               unfold swC
               rw [show 48 * (0 : Int) + i = i by omega]
               simp only [up, true_and]
               repeat' split
               all_goals first
                 | (exfalso; omega)
                 | exact hq
                 | (congr 1; omega)
                 | rfl
             · rw [up_f (by omega), up_f (by omega)]
             · rw [up_f (by omega), up_f (by omega)]
             · rw [up_a (by decide), up_a (by decide)]
             · rw [up_f (by omega), up_f (by omega), t3_ b r (by omega) (by omega) (by omega), up_f (by omega)])
theorem r_slide (hd : 10 ≤ d) (hu : PUs z_ Hs rf sl yr la s) (hok : hOk z_ Hs) (hD : DR 0 vw rf sl yr la L n c s) {x : Int} (hx : iR x) (kY : sdP n c x → ∀ t_, DR 0 vw rf sl yr la L (n) (sdC c x) t_ → PUs (min 20 (z_ + 1)) (hput1 vw L n c Hs) rf sl yr la t_ → nwN s t_ → Q (some (vI 1)) (HP h0 t_)) (kN : ¬ sdP n c x → Q (some (vI 0)) (HP h0 (up s 94 0 0))) : wpM PP d 147 [vR 94, vI x] (HP h0 s) Q := by
  obtain ⟨w1_, w2_, w3_, w4_, w5_, hr0⟩ := hD
  have hD0 : DR 0 vw rf sl yr la L n c s := ⟨w1_, w2_, w3_, w4_, w5_, hr0⟩
  obtain ⟨hL, hn, hv, r1, r2, r3⟩ := hr0
  obtain ⟨p1, p2, p3⟩ := hu
  have hu0 : PUs z_ Hs rf sl yr la (up s 94 0 0) := ⟨p1, (up_i (by decide)).trans p2, fun i hi => (p3 i hi).up (by decide)⟩
  have hct := cnt_R L
  have rd : ∀ q : Int, 0 ≤ q → q < n → s 113 q = c q := fun q q0 q1 => by
    have := r3 q q0 q1
    rwa [show 48 * (0 : Int) + q = q by omega] at this
  refine n_at (m := 147) (q := mr147) (kn := (0, 2)) [some (vR _), some (vI _), none, none] mb147 rfl rfl (h_rcv sc_94) (Nat.le_of_ble_eq_true rfl) rfl rfl ?_
  refine x_aload rfl ?_
  refine x_ci ?_
  refine h_putI 0 sc_94 rfl rfl ?_
  refine x_aload rfl ?_
  refine x_iload rfl ?_
  refine n_call [vR _, vI _] [] (by omega) (Nat.le_of_ble_eq_true rfl) rfl rfl (Nat.le_of_ble_eq_true rfl) ?_
  refine r_isCrossing (by rw [up_a (by decide), r2]; omega) ⟨by omega, by omega⟩ ?_
  rw [up_a (b := 112) (by decide), r2]
  show wp PP _ _ _ [some (vR _), some (vI _), _, _] [vI _] _ _
  refine z_if_eq (fun c1 => ?_) (fun c1 => ?_)
  · refine x_ci ?_
    refine x_zret (by first | exact bI_01 _ | omega) ?_
    first
      | exact kN (fun q => by unfold sdP at q; omega)
      | (refine kY (by unfold sdP; omega) _ (DRset t2_ (fun b r q1 q2 => ?_) (by omega) ?_ (sdC_v hv (by omega) (by omega)) (fun i i0 i1 => ?_)) (t1_.out (fun b r q1 q2 q3 => ?_) (fun r q1 q2 => ?_) ?_) (fun b r q1 q2 q3 q4 q5 q6 q7 => ?_)
         · rw [up_f (by omega), up_f (by omega), up_f (by omega)]
         · rw [up_a (by decide), up_a (by decide), up_a (by decide)]
           exact t2_.2.2.2.2.2.2.2.2.2.1
         · have hq := rt i i0 i1
           unfold sdC
           rw [show 48 * (0 : Int) + i = i by omega]
           simp only [up, true_and]
           repeat' split
           all_goals first
             | (exfalso; omega)
             | exact hq
             | (congr 1; omega)
             | rfl
         · rw [up_f (by omega), up_f (by omega), up_f (by omega)]
         · rw [up_f (by omega), up_f (by omega), up_f (by omega)]
         · rw [up_a (by decide), up_a (by decide), up_a (by decide)]
         · rw [up_f (by omega), up_f (by omega), up_f (by omega), t3_ b r (by omega) (by omega) (by omega), up_f (by omega)])
  · refine x_aload rfl ?_
    refine x_iload rfl ?_
    refine x_ci ?_
    refine x_iadd ?_
    refine n_call [vR _, vI _] [] (by omega) (Nat.le_of_ble_eq_true rfl) rfl rfl (Nat.le_of_ble_eq_true rfl) ?_
    refine r_isCrossing (by rw [up_a (by decide), r2]; omega) ⟨by omega, by omega⟩ ?_
    rw [up_a (b := 112) (by decide), r2]
    show wp PP _ _ _ [some (vR _), some (vI _), _, _] [vI _] _ _
    refine z_if_eq (fun c2 => ?_) (fun c2 => ?_)
    · refine x_ci ?_
      refine x_zret (by first | exact bI_01 _ | omega) ?_
      first
        | exact kN (fun q => by unfold sdP at q; omega)
        | (refine kY (by unfold sdP; omega) _ (DRset t2_ (fun b r q1 q2 => ?_) (by omega) ?_ (sdC_v hv (by omega) (by omega)) (fun i i0 i1 => ?_)) (t1_.out (fun b r q1 q2 q3 => ?_) (fun r q1 q2 => ?_) ?_) (fun b r q1 q2 q3 q4 q5 q6 q7 => ?_)
           · rw [up_f (by omega), up_f (by omega), up_f (by omega)]
           · rw [up_a (by decide), up_a (by decide), up_a (by decide)]
             exact t2_.2.2.2.2.2.2.2.2.2.1
           · have hq := rt i i0 i1
             unfold sdC
             rw [show 48 * (0 : Int) + i = i by omega]
             simp only [up, true_and]
             repeat' split
             all_goals first
               | (exfalso; omega)
               | exact hq
               | (congr 1; omega)
               | rfl
           · rw [up_f (by omega), up_f (by omega), up_f (by omega)]
           · rw [up_f (by omega), up_f (by omega), up_f (by omega)]
           · rw [up_a (by decide), up_a (by decide), up_a (by decide)]
           · rw [up_f (by omega), up_f (by omega), up_f (by omega), t3_ b r (by omega) (by omega) (by omega), up_f (by omega)])
    · refine x_aload rfl ?_
      refine h_getR sc_94 rfl (by omega) ?_
      refine x_iload rfl ?_
      refine h_iald sc_113 ⟨by omega, by omega⟩ (by decide) ?_
      first
        | rw [up_a (b := 113) (by decide), rd _ (by omega) (by omega)]
        | rw [rd _ (by omega) (by omega)]
      refine x_aload rfl ?_
      refine h_getR sc_94 rfl (by omega) ?_
      refine x_iload rfl ?_
      refine x_ci ?_
      refine x_iadd ?_
      refine h_iald sc_113 ⟨by omega, by omega⟩ (by decide) ?_
      first
        | rw [up_a (b := 113) (by decide), rd _ (by omega) (by omega)]
        | rw [rd _ (by omega) (by omega)]
      have vx := hv x (by omega) (by omega)
      have vz := hv (x + 2) (by omega) (by omega)
      refine n_icmp_eq ⟨by omega, by omega⟩ ⟨by omega, by omega⟩ (fun c3 => ?_) (fun c3 => ?_)
      · refine x_aload rfl ?_
        refine h_getR sc_94 rfl (by omega) ?_
        refine x_iload rfl ?_
        refine h_iald sc_113 ⟨by omega, by omega⟩ (by decide) ?_
        first
          | rw [up_a (b := 113) (by decide), rd _ (by omega) (by omega)]
          | rw [rd _ (by omega) (by omega)]
        refine n_istore [some (vR _), some (vI _), some (vI _), _] (Nat.le_of_ble_eq_true rfl) rfl ?_
        refine x_aload rfl ?_
        refine h_getR sc_94 rfl (by omega) ?_
        refine x_iload rfl ?_
        refine x_ci ?_
        refine x_iadd ?_
        refine h_iald sc_113 ⟨by omega, by omega⟩ (by decide) ?_
        first
          | rw [up_a (b := 113) (by decide), rd _ (by omega) (by omega)]
          | rw [rd _ (by omega) (by omega)]
        have vx := hv x (by omega) (by omega)
        have vy := hv (x + 1) (by omega) (by omega)
        have vz := hv (x + 2) (by omega) (by omega)
        refine n_istore [some (vR _), some (vI _), some (vI _), some (vI _)] (Nat.le_of_ble_eq_true rfl) rfl ?_
        refine x_iload rfl ?_
        refine x_iload rfl ?_
        refine x_isub ?_
        refine n_iabs ⟨by omega, by omega⟩ (by omega) (Nat.le_of_ble_eq_true rfl) ?_
        refine x_ci ?_
        refine n_icmp_eq ⟨by omega, by omega⟩ ⟨by omega, by omega⟩ (fun c4 => ?_) (fun c4 => ?_)
        · refine x_aload rfl ?_
          refine n_call [vR _] [] (by omega) (Nat.le_of_ble_eq_true rfl) rfl rfl (Nat.le_of_ble_eq_true rfl) ?_
          refine r_keepNow (by omega) hu0 hok (hD0.up (by decide)) (fun t_ t1_ t2_ t3_ => ?_)
          have rt : ∀ q : Int, 0 ≤ q → q < n → t_ 113 q = c q := fun q q0 q1 => by
            have := t2_.2.2.2.2.2.2.2.2.2.2 q q0 q1
            rwa [show 48 * (0 : Int) + q = q by omega] at this
          show wp PP _ _ _ [some (vR _), some (vI _), some (vI _), some (vI _)] [] _ _
          refine x_aload rfl ?_
          refine h_getR sc_94 rfl (by omega) ?_
          refine x_iload rfl ?_
          refine x_iload rfl ?_
          refine h_iast sc_113 ⟨by omega, by omega⟩ (by decide) ?_
          refine x_aload rfl ?_
          refine h_getR sc_94 rfl (by omega) ?_
          refine x_iload rfl ?_
          refine x_ci ?_
          refine x_iadd ?_
          refine x_iload rfl ?_
          refine h_iast sc_113 ⟨by omega, by omega⟩ (by decide) ?_
          refine x_aload rfl ?_
          refine h_getR sc_94 rfl (by omega) ?_
          refine x_iload rfl ?_
          refine x_ci ?_
          refine x_iadd ?_
          refine x_iload rfl ?_
          refine h_iast sc_113 ⟨by omega, by omega⟩ (by decide) ?_
          refine x_ci ?_
          refine x_zret (by first | exact bI_01 _ | omega) ?_
          first
            | exact kN (fun q => by unfold sdP at q; omega)
            | (refine kY (by unfold sdP; omega) _ (DRset t2_ (fun b r q1 q2 => ?_) (by omega) ?_ (sdC_v hv (by omega) (by omega)) (fun i i0 i1 => ?_)) (t1_.out (fun b r q1 q2 q3 => ?_) (fun r q1 q2 => ?_) ?_) (fun b r q1 q2 q3 q4 q5 q6 q7 => ?_)
               · rw [up_f (by omega), up_f (by omega), up_f (by omega)]
               · rw [up_a (by decide), up_a (by decide), up_a (by decide)]
                 exact t2_.2.2.2.2.2.2.2.2.2.1
               · have hq := rt i i0 i1
                 unfold sdC
                 rw [show 48 * (0 : Int) + i = i by omega]
                 simp only [up, true_and]
                 repeat' split
                 all_goals first
                   | (exfalso; omega)
                   | exact hq
                   | (congr 1; omega)
                   | rfl
               · rw [up_f (by omega), up_f (by omega), up_f (by omega)]
               · rw [up_f (by omega), up_f (by omega), up_f (by omega)]
               · rw [up_a (by decide), up_a (by decide), up_a (by decide)]
               · rw [up_f (by omega), up_f (by omega), up_f (by omega), t3_ b r (by omega) (by omega) (by omega), up_f (by omega)])
        · refine x_ci ?_
          refine x_zret (by first | exact bI_01 _ | omega) ?_
          first
            | exact kN (fun q => by unfold sdP at q; omega)
            | (refine kY (by unfold sdP; omega) _ (DRset t2_ (fun b r q1 q2 => ?_) (by omega) ?_ (sdC_v hv (by omega) (by omega)) (fun i i0 i1 => ?_)) (t1_.out (fun b r q1 q2 q3 => ?_) (fun r q1 q2 => ?_) ?_) (fun b r q1 q2 q3 q4 q5 q6 q7 => ?_)
               · rw [up_f (by omega), up_f (by omega), up_f (by omega)]
               · rw [up_a (by decide), up_a (by decide), up_a (by decide)]
                 exact t2_.2.2.2.2.2.2.2.2.2.1
               · have hq := rt i i0 i1
                 unfold sdC
                 rw [show 48 * (0 : Int) + i = i by omega]
                 simp only [up, true_and]
                 repeat' split
                 all_goals first
                   | (exfalso; omega)
                   | exact hq
                   | (congr 1; omega)
                   | rfl
               · rw [up_f (by omega), up_f (by omega), up_f (by omega)]
               · rw [up_f (by omega), up_f (by omega), up_f (by omega)]
               · rw [up_a (by decide), up_a (by decide), up_a (by decide)]
               · rw [up_f (by omega), up_f (by omega), up_f (by omega), t3_ b r (by omega) (by omega) (by omega), up_f (by omega)])
      · refine x_fall ?_
        refine x_ci ?_
        refine x_zret (by first | exact bI_01 _ | omega) ?_
        first
          | exact kN (fun q => by unfold sdP at q; omega)
          | (refine kY (by unfold sdP; omega) _ (DRset t2_ (fun b r q1 q2 => ?_) (by omega) ?_ (sdC_v hv (by omega) (by omega)) (fun i i0 i1 => ?_)) (t1_.out (fun b r q1 q2 q3 => ?_) (fun r q1 q2 => ?_) ?_) (fun b r q1 q2 q3 q4 q5 q6 q7 => ?_)
             · rw [up_f (by omega), up_f (by omega), up_f (by omega)]
             · rw [up_a (by decide), up_a (by decide), up_a (by decide)]
               exact t2_.2.2.2.2.2.2.2.2.2.1
             · have hq := rt i i0 i1
               unfold sdC
               rw [show 48 * (0 : Int) + i = i by omega]
               simp only [up, true_and]
               repeat' split
               all_goals first
                 | (exfalso; omega)
                 | exact hq
                 | (congr 1; omega)
                 | rfl
             · rw [up_f (by omega), up_f (by omega), up_f (by omega)]
             · rw [up_f (by omega), up_f (by omega), up_f (by omega)]
             · rw [up_a (by decide), up_a (by decide), up_a (by decide)]
             · rw [up_f (by omega), up_f (by omega), up_f (by omega), t3_ b r (by omega) (by omega) (by omega), up_f (by omega)])
end PA2
