/-! PUBLICS THAT ONLY LOOK: crossing -/
section PU
variable {d : Nat} {h0 h : pheap} {s : St} {Q : Option pv → pheap → Prop} {L : Int} {n : Nat} {c : Int → Int}
def crA (L : Int) (n : Nat) (c : Int → Int) (k w : Int) : Int :=
  if ¬ (0 ≤ k ∧ k < n) then -1 else if w = 0 then c k / 2 else if w = 1 then bI (c k % 2 = 0)
  else if w = 2 then wO L c k.toNat (if c k % 2 = 0 then c k / 2 else c k / 2 + 1) else if w = 3 then wO L c k.toNat (if c k % 2 = 0 then c k / 2 + 1 else c k / 2)
  else if w = 4 then hcN c k.toNat n else -1
theorem m_isCrossing (hp : PL 54 L n c s) {x : Int} (hx : iR x) (k : Q (some (vI (bI (0 ≤ x ∧ x < n)))) (HP h0 s)) : wpM PP d 45 [vR 32, vI x] (HP h0 s) Q := by
  have hn := hp.hn
  have q5 := hp.size
  refine n_at (m := 45) (q := mr45) (kn := (0, 2)) [some (vR _), some (vI _)] mb45 rfl rfl (h_rcv sc_32) (Nat.le_of_ble_eq_true rfl) rfl rfl ?_
  refine x_iload rfl ?_
  refine n_if_lt ⟨by omega, by omega⟩ (fun c1 => ?_) (fun c1 => ?_)
  · refine x_ci ?_
    refine x_fall ?_
    refine x_zret (by first | exact bI_01 _ | omega) ?_
    exact cB0 k (by omega)
  · refine x_iload rfl ?_
    refine x_aload rfl ?_
    refine h_getR sc_32 rfl (by omega) ?_
    refine h_getR sc_53 rfl (by omega) ?_
    refine h_getI 5 sc_54 rfl rfl ?_
    rw [q5]
    refine n_icmp_ge ⟨by omega, by omega⟩ ⟨by omega, by omega⟩ (fun c2 => ?_) (fun c2 => ?_)
    · refine x_ci ?_
      refine x_fall ?_
      refine x_zret (by first | exact bI_01 _ | omega) ?_
      exact cB0 k (by omega)
    · refine x_ci ?_
      refine x_goto ?_
      refine x_zret (by first | exact bI_01 _ | omega) ?_
      exact cB1 k (by omega)
theorem m_crossing (hd : 12 ≤ d) (hp : PL 54 L n c s) {x w : Int} (hx : iR x) (hw : iR w) (k : Q (some (vI (crA L n c x w))) (HP h0 s)) : wpM PP d 11 [vR 32, vI x, vI w] (HP h0 s) Q := by
  refine n_at (m := 11) (q := mr11) (kn := (0, 3)) [some (vR _), some (vI _), some (vI _), none, none, none, none] mb11 rfl rfl (h_rcv sc_32) (Nat.le_of_ble_eq_true rfl) rfl rfl ?_
  refine x_aload rfl ?_
  refine x_iload rfl ?_
  refine n_call [vR _, vI _] [] (by omega) (Nat.le_of_ble_eq_true rfl) rfl rfl (Nat.le_of_ble_eq_true rfl) ?_
  refine m_isCrossing hp ⟨by omega, by omega⟩ ?_
  show wp PP _ _ _ [some (vR _), some (vI _), some (vI _), _, _, _, _] [vI _] _ _
  refine z_if_ne (fun c1 => ?_) (fun c1 => ?_)
  · refine x_aload rfl ?_
    refine h_getR sc_32 rfl (by omega) ?_
    refine h_getR sc_53 rfl (by omega) ?_
    refine n_astore [some (vR _), some (vI _), some (vI _), some (vR _), _, _, _] (Nat.le_of_ble_eq_true rfl) rfl ?_
    refine x_aload rfl ?_
    refine x_iload rfl ?_
    refine n_call [vR _, vI _] [] (by omega) (Nat.le_of_ble_eq_true rfl) rfl rfl (Nat.le_of_ble_eq_true rfl) ?_
    have hn := hp.hn
    have hv := hp.v x c1.1 c1.2
    have hct := cnt_R L
    refine m_codeAt pl_54 (by omega) ?_
    rw [hp.code c1.1 c1.2]
    show wp PP _ _ _ [some (vR _), some (vI _), some (vI _), some (vR _), _, _, _] [vI _] _ _
    refine n_istore [some (vR _), some (vI _), some (vI _), some (vR _), some (vI _), _, _] (Nat.le_of_ble_eq_true rfl) rfl ?_
    refine x_iload rfl ?_
    refine n_call [vI _] [] (by omega) (Nat.le_of_ble_eq_true rfl) rfl rfl (Nat.le_of_ble_eq_true rfl) ?_
    refine m_placeOfCode ⟨by omega, by omega⟩ ?_
    show wp PP _ _ _ [some (vR _), some (vI _), some (vI _), some (vR _), some (vI _), _, _] [vI _] _ _
    refine n_istore [some (vR _), some (vI _), some (vI _), some (vR _), some (vI _), some (vI _), _] (Nat.le_of_ble_eq_true rfl) rfl ?_
    refine x_iload rfl ?_
    refine n_call [vI _] [] (by omega) (Nat.le_of_ble_eq_true rfl) rfl rfl (Nat.le_of_ble_eq_true rfl) ?_
    refine m_isOver ⟨by omega, by omega⟩ ?_
    show wp PP _ _ _ [some (vR _), some (vI _), some (vI _), some (vR _), some (vI _), some (vI _), _] [vI _] _ _
    refine n_istore [some (vR _), some (vI _), some (vI _), some (vR _), some (vI _), some (vI _), some (vI _)] (Nat.le_of_ble_eq_true rfl) rfl ?_
    refine x_iload rfl ?_
    refine n_tsw 5 rfl ⟨by omega, by omega⟩ (fun c2 => ?_) (And.intro (fun c2 => ?_) (And.intro (fun c2 => ?_) (And.intro (fun c2 => ?_) (And.intro (fun c2 => ?_) (And.intro (fun c2 => ?_) trivial)))))
    · refine x_ci ?_
      refine x_iret ?_
      first
        | (refine cI k ?_
           unfold crA
           rw [if_pos (by assumption)]
           done)
        | (refine cI k ?_
           unfold crA
           rw [if_neg (by omega), if_pos (by omega)]
           done)
        | (refine cI k ?_
           unfold crA
           rw [if_neg (by omega), if_neg (by omega), if_pos (by omega)]
           done)
        | (refine cI k ?_
           unfold crA
           rw [if_neg (by omega), if_neg (by omega), if_neg (by omega), if_pos (by omega), if_pos (by assumption)]
           done)
        | (refine cI k ?_
           unfold crA
           rw [if_neg (by omega), if_neg (by omega), if_neg (by omega), if_pos (by omega), if_neg (by assumption)]
           done)
        | (refine cI k ?_
           unfold crA
           rw [if_neg (by omega), if_neg (by omega), if_neg (by omega), if_neg (by omega), if_pos (by omega), if_pos (by assumption)]
           done)
        | (refine cI k ?_
           unfold crA
           rw [if_neg (by omega), if_neg (by omega), if_neg (by omega), if_neg (by omega), if_pos (by omega), if_neg (by assumption)]
           done)
        | (refine cI k ?_
           unfold crA
           rw [if_neg (by omega), if_neg (by omega), if_neg (by omega), if_neg (by omega), if_neg (by omega), if_pos (by omega)]
           rfl)
        | (refine cI k ?_
           unfold crA
           rw [if_neg (by omega), if_neg (by omega), if_neg (by omega), if_neg (by omega), if_neg (by omega), if_neg (by omega)]
           done)
    · refine x_iload rfl ?_
      refine x_iret ?_
      first
        | (refine cI k ?_
           unfold crA
           rw [if_pos (by assumption)]
           done)
        | (refine cI k ?_
           unfold crA
           rw [if_neg (by omega), if_pos (by omega)]
           done)
        | (refine cI k ?_
           unfold crA
           rw [if_neg (by omega), if_neg (by omega), if_pos (by omega)]
           done)
        | (refine cI k ?_
           unfold crA
           rw [if_neg (by omega), if_neg (by omega), if_neg (by omega), if_pos (by omega), if_pos (by assumption)]
           done)
        | (refine cI k ?_
           unfold crA
           rw [if_neg (by omega), if_neg (by omega), if_neg (by omega), if_pos (by omega), if_neg (by assumption)]
           done)
        | (refine cI k ?_
           unfold crA
           rw [if_neg (by omega), if_neg (by omega), if_neg (by omega), if_neg (by omega), if_pos (by omega), if_pos (by assumption)]
           done)
        | (refine cI k ?_
           unfold crA
           rw [if_neg (by omega), if_neg (by omega), if_neg (by omega), if_neg (by omega), if_pos (by omega), if_neg (by assumption)]
           done)
        | (refine cI k ?_
           unfold crA
           rw [if_neg (by omega), if_neg (by omega), if_neg (by omega), if_neg (by omega), if_neg (by omega), if_pos (by omega)]
           rfl)
        | (refine cI k ?_
           unfold crA
           rw [if_neg (by omega), if_neg (by omega), if_neg (by omega), if_neg (by omega), if_neg (by omega), if_neg (by omega)]
           done)
    · refine x_iload rfl ?_
      refine n_call [vI _] [] (by omega) (Nat.le_of_ble_eq_true rfl) rfl rfl (Nat.le_of_ble_eq_true rfl) ?_
      refine m_bit (by first | exact bI_01 _ | omega) ?_
      show wp PP _ _ _ [some (vR _), some (vI _), some (vI _), some (vR _), some (vI _), some (vI _), some (vI _)] [vI _] _ _
      refine x_iret ?_
      first
        | (refine cI k ?_
           unfold crA
           rw [if_pos (by assumption)]
           done)
        | (refine cI k ?_
           unfold crA
           rw [if_neg (by omega), if_pos (by omega)]
           done)
        | (refine cI k ?_
           unfold crA
           rw [if_neg (by omega), if_neg (by omega), if_pos (by omega)]
           done)
        | (refine cI k ?_
           unfold crA
           rw [if_neg (by omega), if_neg (by omega), if_neg (by omega), if_pos (by omega), if_pos (by assumption)]
           done)
        | (refine cI k ?_
           unfold crA
           rw [if_neg (by omega), if_neg (by omega), if_neg (by omega), if_pos (by omega), if_neg (by assumption)]
           done)
        | (refine cI k ?_
           unfold crA
           rw [if_neg (by omega), if_neg (by omega), if_neg (by omega), if_neg (by omega), if_pos (by omega), if_pos (by assumption)]
           done)
        | (refine cI k ?_
           unfold crA
           rw [if_neg (by omega), if_neg (by omega), if_neg (by omega), if_neg (by omega), if_pos (by omega), if_neg (by assumption)]
           done)
        | (refine cI k ?_
           unfold crA
           rw [if_neg (by omega), if_neg (by omega), if_neg (by omega), if_neg (by omega), if_neg (by omega), if_pos (by omega)]
           rfl)
        | (refine cI k ?_
           unfold crA
           rw [if_neg (by omega), if_neg (by omega), if_neg (by omega), if_neg (by omega), if_neg (by omega), if_neg (by omega)]
           done)
    · refine x_aload rfl ?_
      refine x_iload rfl ?_
      refine x_iload rfl ?_
      refine z_if_eq (fun c3 => ?_) (fun c3 => ?_)
      · refine x_iload rfl ?_
        refine x_ci ?_
        refine x_iadd ?_
        refine x_fall ?_
        refine n_call [vR _, vI _, vI _] [] (by omega) (Nat.le_of_ble_eq_true rfl) rfl rfl (Nat.le_of_ble_eq_true rfl) ?_
        refine m_standsBehind pl_54 (by omega) hp (by omega) (by omega) ?_
        rw [show (min x (n : Int)).toNat = x.toNat by omega]
        show wp PP _ _ _ [some (vR _), some (vI _), some (vI _), some (vR _), some (vI _), some (vI _), some (vI _)] [vI _] _ _
        refine x_iret ?_
        first
          | (refine cI k ?_
             unfold crA
             rw [if_pos (by assumption)]
             done)
          | (refine cI k ?_
             unfold crA
             rw [if_neg (by omega), if_pos (by omega)]
             done)
          | (refine cI k ?_
             unfold crA
             rw [if_neg (by omega), if_neg (by omega), if_pos (by omega)]
             done)
          | (refine cI k ?_
             unfold crA
             rw [if_neg (by omega), if_neg (by omega), if_neg (by omega), if_pos (by omega), if_pos (by assumption)]
             done)
          | (refine cI k ?_
             unfold crA
             rw [if_neg (by omega), if_neg (by omega), if_neg (by omega), if_pos (by omega), if_neg (by assumption)]
             done)
          | (refine cI k ?_
             unfold crA
             rw [if_neg (by omega), if_neg (by omega), if_neg (by omega), if_neg (by omega), if_pos (by omega), if_pos (by assumption)]
             done)
          | (refine cI k ?_
             unfold crA
             rw [if_neg (by omega), if_neg (by omega), if_neg (by omega), if_neg (by omega), if_pos (by omega), if_neg (by assumption)]
             done)
          | (refine cI k ?_
             unfold crA
             rw [if_neg (by omega), if_neg (by omega), if_neg (by omega), if_neg (by omega), if_neg (by omega), if_pos (by omega)]
             rfl)
          | (refine cI k ?_
             unfold crA
             rw [if_neg (by omega), if_neg (by omega), if_neg (by omega), if_neg (by omega), if_neg (by omega), if_neg (by omega)]
             done)
      · refine x_iload rfl ?_
        refine x_goto ?_
        refine n_call [vR _, vI _, vI _] [] (by omega) (Nat.le_of_ble_eq_true rfl) rfl rfl (Nat.le_of_ble_eq_true rfl) ?_
        refine m_standsBehind pl_54 (by omega) hp (by omega) (by omega) ?_
        rw [show (min x (n : Int)).toNat = x.toNat by omega]
        show wp PP _ _ _ [some (vR _), some (vI _), some (vI _), some (vR _), some (vI _), some (vI _), some (vI _)] [vI _] _ _
        refine x_iret ?_
        first
          | (refine cI k ?_
             unfold crA
             rw [if_pos (by assumption)]
             done)
          | (refine cI k ?_
             unfold crA
             rw [if_neg (by omega), if_pos (by omega)]
             done)
          | (refine cI k ?_
             unfold crA
             rw [if_neg (by omega), if_neg (by omega), if_pos (by omega)]
             done)
          | (refine cI k ?_
             unfold crA
             rw [if_neg (by omega), if_neg (by omega), if_neg (by omega), if_pos (by omega), if_pos (by assumption)]
             done)
          | (refine cI k ?_
             unfold crA
             rw [if_neg (by omega), if_neg (by omega), if_neg (by omega), if_pos (by omega), if_neg (by assumption)]
             done)
          | (refine cI k ?_
             unfold crA
             rw [if_neg (by omega), if_neg (by omega), if_neg (by omega), if_neg (by omega), if_pos (by omega), if_pos (by assumption)]
             done)
          | (refine cI k ?_
             unfold crA
             rw [if_neg (by omega), if_neg (by omega), if_neg (by omega), if_neg (by omega), if_pos (by omega), if_neg (by assumption)]
             done)
          | (refine cI k ?_
             unfold crA
             rw [if_neg (by omega), if_neg (by omega), if_neg (by omega), if_neg (by omega), if_neg (by omega), if_pos (by omega)]
             rfl)
          | (refine cI k ?_
             unfold crA
             rw [if_neg (by omega), if_neg (by omega), if_neg (by omega), if_neg (by omega), if_neg (by omega), if_neg (by omega)]
             done)
    · refine x_aload rfl ?_
      refine x_iload rfl ?_
      refine x_iload rfl ?_
      refine z_if_eq (fun c3 => ?_) (fun c3 => ?_)
      · refine x_iload rfl ?_
        refine x_fall ?_
        refine n_call [vR _, vI _, vI _] [] (by omega) (Nat.le_of_ble_eq_true rfl) rfl rfl (Nat.le_of_ble_eq_true rfl) ?_
        refine m_standsBehind pl_54 (by omega) hp (by omega) (by omega) ?_
        rw [show (min x (n : Int)).toNat = x.toNat by omega]
        show wp PP _ _ _ [some (vR _), some (vI _), some (vI _), some (vR _), some (vI _), some (vI _), some (vI _)] [vI _] _ _
        refine x_iret ?_
        first
          | (refine cI k ?_
             unfold crA
             rw [if_pos (by assumption)]
             done)
          | (refine cI k ?_
             unfold crA
             rw [if_neg (by omega), if_pos (by omega)]
             done)
          | (refine cI k ?_
             unfold crA
             rw [if_neg (by omega), if_neg (by omega), if_pos (by omega)]
             done)
          | (refine cI k ?_
             unfold crA
             rw [if_neg (by omega), if_neg (by omega), if_neg (by omega), if_pos (by omega), if_pos (by assumption)]
             done)
          | (refine cI k ?_
             unfold crA
             rw [if_neg (by omega), if_neg (by omega), if_neg (by omega), if_pos (by omega), if_neg (by assumption)]
             done)
          | (refine cI k ?_
             unfold crA
             rw [if_neg (by omega), if_neg (by omega), if_neg (by omega), if_neg (by omega), if_pos (by omega), if_pos (by assumption)]
             done)
          | (refine cI k ?_
             unfold crA
             rw [if_neg (by omega), if_neg (by omega), if_neg (by omega), if_neg (by omega), if_pos (by omega), if_neg (by assumption)]
             done)
          | (refine cI k ?_
             unfold crA
             rw [if_neg (by omega), if_neg (by omega), if_neg (by omega), if_neg (by omega), if_neg (by omega), if_pos (by omega)]
             rfl)
          | (refine cI k ?_
             unfold crA
             rw [if_neg (by omega), if_neg (by omega), if_neg (by omega), if_neg (by omega), if_neg (by omega), if_neg (by omega)]
             done)
      · refine x_iload rfl ?_
        refine x_ci ?_
        refine x_iadd ?_
        refine x_goto ?_
        refine n_call [vR _, vI _, vI _] [] (by omega) (Nat.le_of_ble_eq_true rfl) rfl rfl (Nat.le_of_ble_eq_true rfl) ?_
        refine m_standsBehind pl_54 (by omega) hp (by omega) (by omega) ?_
        rw [show (min x (n : Int)).toNat = x.toNat by omega]
        show wp PP _ _ _ [some (vR _), some (vI _), some (vI _), some (vR _), some (vI _), some (vI _), some (vI _)] [vI _] _ _
        refine x_iret ?_
        first
          | (refine cI k ?_
             unfold crA
             rw [if_pos (by assumption)]
             done)
          | (refine cI k ?_
             unfold crA
             rw [if_neg (by omega), if_pos (by omega)]
             done)
          | (refine cI k ?_
             unfold crA
             rw [if_neg (by omega), if_neg (by omega), if_pos (by omega)]
             done)
          | (refine cI k ?_
             unfold crA
             rw [if_neg (by omega), if_neg (by omega), if_neg (by omega), if_pos (by omega), if_pos (by assumption)]
             done)
          | (refine cI k ?_
             unfold crA
             rw [if_neg (by omega), if_neg (by omega), if_neg (by omega), if_pos (by omega), if_neg (by assumption)]
             done)
          | (refine cI k ?_
             unfold crA
             rw [if_neg (by omega), if_neg (by omega), if_neg (by omega), if_neg (by omega), if_pos (by omega), if_pos (by assumption)]
             done)
          | (refine cI k ?_
             unfold crA
             rw [if_neg (by omega), if_neg (by omega), if_neg (by omega), if_neg (by omega), if_pos (by omega), if_neg (by assumption)]
             done)
          | (refine cI k ?_
             unfold crA
             rw [if_neg (by omega), if_neg (by omega), if_neg (by omega), if_neg (by omega), if_neg (by omega), if_pos (by omega)]
             rfl)
          | (refine cI k ?_
             unfold crA
             rw [if_neg (by omega), if_neg (by omega), if_neg (by omega), if_neg (by omega), if_neg (by omega), if_neg (by omega)]
             done)
    · refine x_aload rfl ?_
      refine x_iload rfl ?_
      refine n_call [vR _, vI _] [] (by omega) (Nat.le_of_ble_eq_true rfl) rfl rfl (Nat.le_of_ble_eq_true rfl) ?_
      obtain ⟨k0, hk0⟩ : ∃ k0 : Nat, x = k0 := ⟨x.toNat, by omega⟩
      subst hk0
      refine m_hangOn pl_54 (by omega) hp (k0 := k0) (by omega) ?_
      show wp PP _ _ _ [some (vR _), some (vI _), some (vI _), some (vR _), some (vI _), some (vI _), some (vI _)] [vI _] _ _
      refine x_iret ?_
      first
        | (refine cI k ?_
           unfold crA
           rw [if_pos (by assumption)]
           done)
        | (refine cI k ?_
           unfold crA
           rw [if_neg (by omega), if_pos (by omega)]
           done)
        | (refine cI k ?_
           unfold crA
           rw [if_neg (by omega), if_neg (by omega), if_pos (by omega)]
           done)
        | (refine cI k ?_
           unfold crA
           rw [if_neg (by omega), if_neg (by omega), if_neg (by omega), if_pos (by omega), if_pos (by assumption)]
           done)
        | (refine cI k ?_
           unfold crA
           rw [if_neg (by omega), if_neg (by omega), if_neg (by omega), if_pos (by omega), if_neg (by assumption)]
           done)
        | (refine cI k ?_
           unfold crA
           rw [if_neg (by omega), if_neg (by omega), if_neg (by omega), if_neg (by omega), if_pos (by omega), if_pos (by assumption)]
           done)
        | (refine cI k ?_
           unfold crA
           rw [if_neg (by omega), if_neg (by omega), if_neg (by omega), if_neg (by omega), if_pos (by omega), if_neg (by assumption)]
           done)
        | (refine cI k ?_
           unfold crA
           rw [if_neg (by omega), if_neg (by omega), if_neg (by omega), if_neg (by omega), if_neg (by omega), if_pos (by omega)]
           rfl)
        | (refine cI k ?_
           unfold crA
           rw [if_neg (by omega), if_neg (by omega), if_neg (by omega), if_neg (by omega), if_neg (by omega), if_neg (by omega)]
           done)
  · refine x_ci ?_
    refine x_iret ?_
    first
      | (refine cI k ?_
         unfold crA
         rw [if_pos (by assumption)]
         done)
      | (refine cI k ?_
         unfold crA
         rw [if_neg (by omega), if_pos (by omega)]
         done)
      | (refine cI k ?_
         unfold crA
         rw [if_neg (by omega), if_neg (by omega), if_pos (by omega)]
         done)
      | (refine cI k ?_
         unfold crA
         rw [if_neg (by omega), if_neg (by omega), if_neg (by omega), if_pos (by omega), if_pos (by assumption)]
         done)
      | (refine cI k ?_
         unfold crA
         rw [if_neg (by omega), if_neg (by omega), if_neg (by omega), if_pos (by omega), if_neg (by assumption)]
         done)
      | (refine cI k ?_
         unfold crA
         rw [if_neg (by omega), if_neg (by omega), if_neg (by omega), if_neg (by omega), if_pos (by omega), if_pos (by assumption)]
         done)
      | (refine cI k ?_
         unfold crA
         rw [if_neg (by omega), if_neg (by omega), if_neg (by omega), if_neg (by omega), if_pos (by omega), if_neg (by assumption)]
         done)
      | (refine cI k ?_
         unfold crA
         rw [if_neg (by omega), if_neg (by omega), if_neg (by omega), if_neg (by omega), if_neg (by omega), if_pos (by omega)]
         rfl)
      | (refine cI k ?_
         unfold crA
         rw [if_neg (by omega), if_neg (by omega), if_neg (by omega), if_neg (by omega), if_neg (by omega), if_neg (by omega)]
         done)
theorem r_crossing (hd : 9 ≤ d) (hr0 : RD 0 L n c s) {x w : Int} (hx : iR x) (hw : iR w) (k : ∀ t, (∀ b : Nat, (b < 114 ∨ (117 < b ∧ b ≠ 121)) → ∀ r, ¬ (b = 94 ∧ r = 0) → t b r = s b r) → Q (some (vI (crA L n c x w))) (HP h0 t)) : wpM PP d 135 [vR 94, vI x, vI w] (HP h0 s) Q := by
  obtain ⟨hL, hn, hv, r1, r2, r3⟩ := hr0
  have hct := cnt_R L
  refine n_at (m := 135) (q := mr135) (kn := (0, 3)) [some (vR _), some (vI _), some (vI _), none, none] mb135 rfl rfl (h_rcv sc_94) (Nat.le_of_ble_eq_true rfl) rfl rfl ?_
  refine x_aload rfl ?_
  refine x_ci ?_
  refine h_putI 0 sc_94 rfl rfl ?_
  refine x_aload rfl ?_
  refine x_iload rfl ?_
  refine n_call [vR _, vI _] [] (by omega) (Nat.le_of_ble_eq_true rfl) rfl rfl (Nat.le_of_ble_eq_true rfl) ?_
  refine r_isCrossing (by rw [up_a (by decide), r2]; omega) ⟨by omega, by omega⟩ ?_
  rw [up_a (b := 112) (by decide), r2]
  show wp PP _ _ _ [some (vR _), some (vI _), some (vI _), _, _] [vI _] _ _
  refine z_if_eq (fun c1 => ?_) (fun c1 => ?_)
  · refine x_ci ?_
    refine x_iret ?_
    first
      | (refine cI (k _ (fun b hb r hr => up_f hr)) ?_
         unfold crA
         try rw [ekk]
         rw [if_pos (by omega)]
         done)
      | (refine cI (k _ (fun b hb r hr => up_f hr)) ?_
         unfold crA
         try rw [ekk]
         rw [if_neg (by omega), if_neg (by omega), if_neg (by omega), if_neg (by omega), if_neg (by omega), if_neg (by omega)]
         done)
      | (refine cI (k _ (fun b hb r hr => (t2 b (by omega) r).trans (up_f hr))) ?_
         unfold crA
         try rw [ekk]
         rw [if_neg (by omega), if_pos (by omega)]
         done)
      | (refine cI (k _ (fun b hb r hr => (t2 b (by omega) r).trans (up_f hr))) ?_
         unfold crA
         rw [if_neg (by omega), if_neg (by omega), if_pos (by omega)]
         by_cases z : c (k0 : Int) % 2 = 0
         · rw [bI_t z]
           omega
         · rw [bI_f z]
           omega)
      | (refine cI (k _ (fun b hb r hr => (t2 b (by omega) r).trans (up_f hr))) ?_
         unfold crA
         rw [ekk, if_neg (by omega), if_neg (by omega), if_neg (by omega), if_pos (by omega)]
         by_cases z : c (k0 : Int) % 2 = 0
         · rw [if_pos z, show c (k0 : Int) / 2 + c (k0 : Int) % 2 = c (k0 : Int) / 2 by omega]
         · rw [if_neg z, show c (k0 : Int) / 2 + c (k0 : Int) % 2 = c (k0 : Int) / 2 + 1 by omega])
      | (refine cI (k _ (fun b hb r hr => (t2 b (by omega) r).trans (up_f hr))) ?_
         unfold crA
         rw [ekk, if_neg (by omega), if_neg (by omega), if_neg (by omega), if_neg (by omega), if_pos (by omega)]
         by_cases z : c (k0 : Int) % 2 = 0
         · rw [if_pos z, show c (k0 : Int) / 2 + 1 - c (k0 : Int) % 2 = c (k0 : Int) / 2 + 1 by omega]
         · rw [if_neg z, show c (k0 : Int) / 2 + 1 - c (k0 : Int) % 2 = c (k0 : Int) / 2 by omega])
      | (refine cI (k _ (fun b hb r hr => (u1 b (by omega) r).trans ((t2 b (by omega) r).trans (up_f hr)))) ?_
         unfold crA
         try rw [ekk]
         rw [if_neg (by omega), if_neg (by omega), if_neg (by omega), if_neg (by omega), if_neg (by omega), if_pos (by omega)]
         done)
  · refine x_iload rfl ?_
    refine n_if_lt ⟨by omega, by omega⟩ (fun c2 => ?_) (fun c2 => ?_)
    · refine x_ci ?_
      refine x_iret ?_
      first
        | (refine cI (k _ (fun b hb r hr => up_f hr)) ?_
           unfold crA
           try rw [ekk]
           rw [if_pos (by omega)]
           done)
        | (refine cI (k _ (fun b hb r hr => up_f hr)) ?_
           unfold crA
           try rw [ekk]
           rw [if_neg (by omega), if_neg (by omega), if_neg (by omega), if_neg (by omega), if_neg (by omega), if_neg (by omega)]
           done)
        | (refine cI (k _ (fun b hb r hr => (t2 b (by omega) r).trans (up_f hr))) ?_
           unfold crA
           try rw [ekk]
           rw [if_neg (by omega), if_pos (by omega)]
           done)
        | (refine cI (k _ (fun b hb r hr => (t2 b (by omega) r).trans (up_f hr))) ?_
           unfold crA
           rw [if_neg (by omega), if_neg (by omega), if_pos (by omega)]
           by_cases z : c (k0 : Int) % 2 = 0
           · rw [bI_t z]
             omega
           · rw [bI_f z]
             omega)
        | (refine cI (k _ (fun b hb r hr => (t2 b (by omega) r).trans (up_f hr))) ?_
           unfold crA
           rw [ekk, if_neg (by omega), if_neg (by omega), if_neg (by omega), if_pos (by omega)]
           by_cases z : c (k0 : Int) % 2 = 0
           · rw [if_pos z, show c (k0 : Int) / 2 + c (k0 : Int) % 2 = c (k0 : Int) / 2 by omega]
           · rw [if_neg z, show c (k0 : Int) / 2 + c (k0 : Int) % 2 = c (k0 : Int) / 2 + 1 by omega])
        | (refine cI (k _ (fun b hb r hr => (t2 b (by omega) r).trans (up_f hr))) ?_
           unfold crA
           rw [ekk, if_neg (by omega), if_neg (by omega), if_neg (by omega), if_neg (by omega), if_pos (by omega)]
           by_cases z : c (k0 : Int) % 2 = 0
           · rw [if_pos z, show c (k0 : Int) / 2 + 1 - c (k0 : Int) % 2 = c (k0 : Int) / 2 + 1 by omega]
           · rw [if_neg z, show c (k0 : Int) / 2 + 1 - c (k0 : Int) % 2 = c (k0 : Int) / 2 by omega])
        | (refine cI (k _ (fun b hb r hr => (u1 b (by omega) r).trans ((t2 b (by omega) r).trans (up_f hr)))) ?_
           unfold crA
           try rw [ekk]
           rw [if_neg (by omega), if_neg (by omega), if_neg (by omega), if_neg (by omega), if_neg (by omega), if_pos (by omega)]
           done)
    · refine x_iload rfl ?_
      refine x_ci ?_
      refine n_icmp_le ⟨by omega, by omega⟩ ⟨by omega, by omega⟩ (fun c3 => ?_) (fun c3 => ?_)
      · have hv2 := hv x c1.1 c1.2
        have r4 : up s 94 0 0 113 x = c x := by
          rw [up_a (by decide)]
          have := r3 x c1.1 c1.2
          rwa [show 48 * (0 : Int) + x = x by omega] at this
        obtain ⟨k0, hk0⟩ : ∃ k0 : Nat, x = k0 := ⟨x.toNat, by omega⟩
        subst hk0
        have ekk : ((k0 : Nat) : Int).toNat = k0 := by omega
        refine x_aload rfl ?_
        refine h_getR sc_94 rfl (by omega) ?_
        refine x_iload rfl ?_
        refine h_iald sc_113 ⟨by omega, by omega⟩ (by decide) ?_
        rw [r4]
        refine x_ci ?_
        refine n_idiv ⟨by omega, by omega⟩ ⟨by omega, by omega⟩ ?_
        refine n_istore [some (vR _), some (vI _), some (vI _), some (vI _), _] (Nat.le_of_ble_eq_true rfl) rfl ?_
        refine x_aload rfl ?_
        refine h_getR sc_94 rfl (by omega) ?_
        refine x_iload rfl ?_
        refine h_iald sc_113 ⟨by omega, by omega⟩ (by decide) ?_
        rw [r4]
        refine x_ci ?_
        refine n_irem ⟨by omega, by omega⟩ ⟨by omega, by omega⟩ ?_
        refine n_istore [some (vR _), some (vI _), some (vI _), some (vI _), some (vI _)] (Nat.le_of_ble_eq_true rfl) rfl ?_
        refine x_aload rfl ?_
        refine x_ci ?_
        refine x_iload rfl ?_
        refine n_call [vR _, vI _, vI _] [] (by omega) (Nat.le_of_ble_eq_true rfl) rfl rfl (Nat.le_of_ble_eq_true rfl) ?_
        refine r_stands (c := c) (L := L) (f := 0) (by omega) (m := k0) (by omega) hL ((up_a (by decide)).trans r1) (by omega) (vC_less hv (by omega)) (fun i i0 i1 => (up_a (by decide)).trans (r3 i i0 (by omega))) (fun t t1 t2 => ?_)
        show wp PP _ _ _ [some (vR _), some (vI _), some (vI _), some (vI _), some (vI _)] [] _ _
        refine x_iload rfl ?_
        refine n_tsw 4 rfl ⟨by omega, by omega⟩ (fun c4 => ?_) (And.intro (fun c4 => ?_) (And.intro (fun c4 => ?_) (And.intro (fun c4 => ?_) (And.intro (fun c4 => ?_) trivial))))
        · refine x_aload rfl ?_
          refine x_iload rfl ?_
          refine n_call [vR _, vI _] [] (by omega) (Nat.le_of_ble_eq_true rfl) rfl rfl (Nat.le_of_ble_eq_true rfl) ?_
          refine r_hangsOn (c := c) (n := n) (k0 := k0) (by omega) ((t2 112 (by omega) _).trans ((up_a (by decide)).trans r2)) hn (fun i i0 i1 => by have := hv i i0 i1; omega) (fun i i0 i1 => ?_) (by omega) (fun u u1 => ?_)
          · rw [t2 113 (by omega) i, up_a (by decide)]
            have := r3 i i0 i1
            rwa [show 48 * (0 : Int) + i = i by omega] at this
          show wp PP _ _ _ [some (vR _), some (vI _), some (vI _), some (vI _), some (vI _)] [vI _] _ _
          refine x_iret ?_
          first
            | (refine cI (k _ (fun b hb r hr => up_f hr)) ?_
               unfold crA
               try rw [ekk]
               rw [if_pos (by omega)]
               done)
            | (refine cI (k _ (fun b hb r hr => up_f hr)) ?_
               unfold crA
               try rw [ekk]
               rw [if_neg (by omega), if_neg (by omega), if_neg (by omega), if_neg (by omega), if_neg (by omega), if_neg (by omega)]
               done)
            | (refine cI (k _ (fun b hb r hr => (t2 b (by omega) r).trans (up_f hr))) ?_
               unfold crA
               try rw [ekk]
               rw [if_neg (by omega), if_pos (by omega)]
               done)
            | (refine cI (k _ (fun b hb r hr => (t2 b (by omega) r).trans (up_f hr))) ?_
               unfold crA
               rw [if_neg (by omega), if_neg (by omega), if_pos (by omega)]
               by_cases z : c (k0 : Int) % 2 = 0
               · rw [bI_t z]
                 omega
               · rw [bI_f z]
                 omega)
            | (refine cI (k _ (fun b hb r hr => (t2 b (by omega) r).trans (up_f hr))) ?_
               unfold crA
               rw [ekk, if_neg (by omega), if_neg (by omega), if_neg (by omega), if_pos (by omega)]
               by_cases z : c (k0 : Int) % 2 = 0
               · rw [if_pos z, show c (k0 : Int) / 2 + c (k0 : Int) % 2 = c (k0 : Int) / 2 by omega]
               · rw [if_neg z, show c (k0 : Int) / 2 + c (k0 : Int) % 2 = c (k0 : Int) / 2 + 1 by omega])
            | (refine cI (k _ (fun b hb r hr => (t2 b (by omega) r).trans (up_f hr))) ?_
               unfold crA
               rw [ekk, if_neg (by omega), if_neg (by omega), if_neg (by omega), if_neg (by omega), if_pos (by omega)]
               by_cases z : c (k0 : Int) % 2 = 0
               · rw [if_pos z, show c (k0 : Int) / 2 + 1 - c (k0 : Int) % 2 = c (k0 : Int) / 2 + 1 by omega]
               · rw [if_neg z, show c (k0 : Int) / 2 + 1 - c (k0 : Int) % 2 = c (k0 : Int) / 2 by omega])
            | (refine cI (k _ (fun b hb r hr => (u1 b (by omega) r).trans ((t2 b (by omega) r).trans (up_f hr)))) ?_
               unfold crA
               try rw [ekk]
               rw [if_neg (by omega), if_neg (by omega), if_neg (by omega), if_neg (by omega), if_neg (by omega), if_pos (by omega)]
               done)
        · refine x_iload rfl ?_
          refine x_iret ?_
          first
            | (refine cI (k _ (fun b hb r hr => up_f hr)) ?_
               unfold crA
               try rw [ekk]
               rw [if_pos (by omega)]
               done)
            | (refine cI (k _ (fun b hb r hr => up_f hr)) ?_
               unfold crA
               try rw [ekk]
               rw [if_neg (by omega), if_neg (by omega), if_neg (by omega), if_neg (by omega), if_neg (by omega), if_neg (by omega)]
               done)
            | (refine cI (k _ (fun b hb r hr => (t2 b (by omega) r).trans (up_f hr))) ?_
               unfold crA
               try rw [ekk]
               rw [if_neg (by omega), if_pos (by omega)]
               done)
            | (refine cI (k _ (fun b hb r hr => (t2 b (by omega) r).trans (up_f hr))) ?_
               unfold crA
               rw [if_neg (by omega), if_neg (by omega), if_pos (by omega)]
               by_cases z : c (k0 : Int) % 2 = 0
               · rw [bI_t z]
                 omega
               · rw [bI_f z]
                 omega)
            | (refine cI (k _ (fun b hb r hr => (t2 b (by omega) r).trans (up_f hr))) ?_
               unfold crA
               rw [ekk, if_neg (by omega), if_neg (by omega), if_neg (by omega), if_pos (by omega)]
               by_cases z : c (k0 : Int) % 2 = 0
               · rw [if_pos z, show c (k0 : Int) / 2 + c (k0 : Int) % 2 = c (k0 : Int) / 2 by omega]
               · rw [if_neg z, show c (k0 : Int) / 2 + c (k0 : Int) % 2 = c (k0 : Int) / 2 + 1 by omega])
            | (refine cI (k _ (fun b hb r hr => (t2 b (by omega) r).trans (up_f hr))) ?_
               unfold crA
               rw [ekk, if_neg (by omega), if_neg (by omega), if_neg (by omega), if_neg (by omega), if_pos (by omega)]
               by_cases z : c (k0 : Int) % 2 = 0
               · rw [if_pos z, show c (k0 : Int) / 2 + 1 - c (k0 : Int) % 2 = c (k0 : Int) / 2 + 1 by omega]
               · rw [if_neg z, show c (k0 : Int) / 2 + 1 - c (k0 : Int) % 2 = c (k0 : Int) / 2 by omega])
            | (refine cI (k _ (fun b hb r hr => (u1 b (by omega) r).trans ((t2 b (by omega) r).trans (up_f hr)))) ?_
               unfold crA
               try rw [ekk]
               rw [if_neg (by omega), if_neg (by omega), if_neg (by omega), if_neg (by omega), if_neg (by omega), if_pos (by omega)]
               done)
        · refine x_ci ?_
          refine x_iload rfl ?_
          refine x_isub ?_
          refine x_iret ?_
          first
            | (refine cI (k _ (fun b hb r hr => up_f hr)) ?_
               unfold crA
               try rw [ekk]
               rw [if_pos (by omega)]
               done)
            | (refine cI (k _ (fun b hb r hr => up_f hr)) ?_
               unfold crA
               try rw [ekk]
               rw [if_neg (by omega), if_neg (by omega), if_neg (by omega), if_neg (by omega), if_neg (by omega), if_neg (by omega)]
               done)
            | (refine cI (k _ (fun b hb r hr => (t2 b (by omega) r).trans (up_f hr))) ?_
               unfold crA
               try rw [ekk]
               rw [if_neg (by omega), if_pos (by omega)]
               done)
            | (refine cI (k _ (fun b hb r hr => (t2 b (by omega) r).trans (up_f hr))) ?_
               unfold crA
               rw [if_neg (by omega), if_neg (by omega), if_pos (by omega)]
               by_cases z : c (k0 : Int) % 2 = 0
               · rw [bI_t z]
                 omega
               · rw [bI_f z]
                 omega)
            | (refine cI (k _ (fun b hb r hr => (t2 b (by omega) r).trans (up_f hr))) ?_
               unfold crA
               rw [ekk, if_neg (by omega), if_neg (by omega), if_neg (by omega), if_pos (by omega)]
               by_cases z : c (k0 : Int) % 2 = 0
               · rw [if_pos z, show c (k0 : Int) / 2 + c (k0 : Int) % 2 = c (k0 : Int) / 2 by omega]
               · rw [if_neg z, show c (k0 : Int) / 2 + c (k0 : Int) % 2 = c (k0 : Int) / 2 + 1 by omega])
            | (refine cI (k _ (fun b hb r hr => (t2 b (by omega) r).trans (up_f hr))) ?_
               unfold crA
               rw [ekk, if_neg (by omega), if_neg (by omega), if_neg (by omega), if_neg (by omega), if_pos (by omega)]
               by_cases z : c (k0 : Int) % 2 = 0
               · rw [if_pos z, show c (k0 : Int) / 2 + 1 - c (k0 : Int) % 2 = c (k0 : Int) / 2 + 1 by omega]
               · rw [if_neg z, show c (k0 : Int) / 2 + 1 - c (k0 : Int) % 2 = c (k0 : Int) / 2 by omega])
            | (refine cI (k _ (fun b hb r hr => (u1 b (by omega) r).trans ((t2 b (by omega) r).trans (up_f hr)))) ?_
               unfold crA
               try rw [ekk]
               rw [if_neg (by omega), if_neg (by omega), if_neg (by omega), if_neg (by omega), if_neg (by omega), if_pos (by omega)]
               done)
        · refine x_aload rfl ?_
          refine h_getR sc_94 rfl (by omega) ?_
          refine x_iload rfl ?_
          refine x_iload rfl ?_
          refine x_iadd ?_
          refine h_iald sc_114 ⟨by omega, by omega⟩ (by decide) ?_
          rw [t1.1 _ (by omega) (by omega)]
          refine x_iret ?_
          first
            | (refine cI (k _ (fun b hb r hr => up_f hr)) ?_
               unfold crA
               try rw [ekk]
               rw [if_pos (by omega)]
               done)
            | (refine cI (k _ (fun b hb r hr => up_f hr)) ?_
               unfold crA
               try rw [ekk]
               rw [if_neg (by omega), if_neg (by omega), if_neg (by omega), if_neg (by omega), if_neg (by omega), if_neg (by omega)]
               done)
            | (refine cI (k _ (fun b hb r hr => (t2 b (by omega) r).trans (up_f hr))) ?_
               unfold crA
               try rw [ekk]
               rw [if_neg (by omega), if_pos (by omega)]
               done)
            | (refine cI (k _ (fun b hb r hr => (t2 b (by omega) r).trans (up_f hr))) ?_
               unfold crA
               rw [if_neg (by omega), if_neg (by omega), if_pos (by omega)]
               by_cases z : c (k0 : Int) % 2 = 0
               · rw [bI_t z]
                 omega
               · rw [bI_f z]
                 omega)
            | (refine cI (k _ (fun b hb r hr => (t2 b (by omega) r).trans (up_f hr))) ?_
               unfold crA
               rw [ekk, if_neg (by omega), if_neg (by omega), if_neg (by omega), if_pos (by omega)]
               by_cases z : c (k0 : Int) % 2 = 0
               · rw [if_pos z, show c (k0 : Int) / 2 + c (k0 : Int) % 2 = c (k0 : Int) / 2 by omega]
               · rw [if_neg z, show c (k0 : Int) / 2 + c (k0 : Int) % 2 = c (k0 : Int) / 2 + 1 by omega])
            | (refine cI (k _ (fun b hb r hr => (t2 b (by omega) r).trans (up_f hr))) ?_
               unfold crA
               rw [ekk, if_neg (by omega), if_neg (by omega), if_neg (by omega), if_neg (by omega), if_pos (by omega)]
               by_cases z : c (k0 : Int) % 2 = 0
               · rw [if_pos z, show c (k0 : Int) / 2 + 1 - c (k0 : Int) % 2 = c (k0 : Int) / 2 + 1 by omega]
               · rw [if_neg z, show c (k0 : Int) / 2 + 1 - c (k0 : Int) % 2 = c (k0 : Int) / 2 by omega])
            | (refine cI (k _ (fun b hb r hr => (u1 b (by omega) r).trans ((t2 b (by omega) r).trans (up_f hr)))) ?_
               unfold crA
               try rw [ekk]
               rw [if_neg (by omega), if_neg (by omega), if_neg (by omega), if_neg (by omega), if_neg (by omega), if_pos (by omega)]
               done)
        · refine x_aload rfl ?_
          refine h_getR sc_94 rfl (by omega) ?_
          refine x_iload rfl ?_
          refine x_ci ?_
          refine x_iadd ?_
          refine x_iload rfl ?_
          refine x_isub ?_
          refine h_iald sc_114 ⟨by omega, by omega⟩ (by decide) ?_
          rw [t1.1 _ (by omega) (by omega)]
          refine x_iret ?_
          first
            | (refine cI (k _ (fun b hb r hr => up_f hr)) ?_
               unfold crA
               try rw [ekk]
               rw [if_pos (by omega)]
               done)
            | (refine cI (k _ (fun b hb r hr => up_f hr)) ?_
               unfold crA
               try rw [ekk]
               rw [if_neg (by omega), if_neg (by omega), if_neg (by omega), if_neg (by omega), if_neg (by omega), if_neg (by omega)]
               done)
            | (refine cI (k _ (fun b hb r hr => (t2 b (by omega) r).trans (up_f hr))) ?_
               unfold crA
               try rw [ekk]
               rw [if_neg (by omega), if_pos (by omega)]
               done)
            | (refine cI (k _ (fun b hb r hr => (t2 b (by omega) r).trans (up_f hr))) ?_
               unfold crA
               rw [if_neg (by omega), if_neg (by omega), if_pos (by omega)]
               by_cases z : c (k0 : Int) % 2 = 0
               · rw [bI_t z]
                 omega
               · rw [bI_f z]
                 omega)
            | (refine cI (k _ (fun b hb r hr => (t2 b (by omega) r).trans (up_f hr))) ?_
               unfold crA
               rw [ekk, if_neg (by omega), if_neg (by omega), if_neg (by omega), if_pos (by omega)]
               by_cases z : c (k0 : Int) % 2 = 0
               · rw [if_pos z, show c (k0 : Int) / 2 + c (k0 : Int) % 2 = c (k0 : Int) / 2 by omega]
               · rw [if_neg z, show c (k0 : Int) / 2 + c (k0 : Int) % 2 = c (k0 : Int) / 2 + 1 by omega])
            | (refine cI (k _ (fun b hb r hr => (t2 b (by omega) r).trans (up_f hr))) ?_
               unfold crA
               rw [ekk, if_neg (by omega), if_neg (by omega), if_neg (by omega), if_neg (by omega), if_pos (by omega)]
               by_cases z : c (k0 : Int) % 2 = 0
               · rw [if_pos z, show c (k0 : Int) / 2 + 1 - c (k0 : Int) % 2 = c (k0 : Int) / 2 + 1 by omega]
               · rw [if_neg z, show c (k0 : Int) / 2 + 1 - c (k0 : Int) % 2 = c (k0 : Int) / 2 by omega])
            | (refine cI (k _ (fun b hb r hr => (u1 b (by omega) r).trans ((t2 b (by omega) r).trans (up_f hr)))) ?_
               unfold crA
               try rw [ekk]
               rw [if_neg (by omega), if_neg (by omega), if_neg (by omega), if_neg (by omega), if_neg (by omega), if_pos (by omega)]
               done)
      · refine x_fall ?_
        refine x_ci ?_
        refine x_iret ?_
        first
          | (refine cI (k _ (fun b hb r hr => up_f hr)) ?_
             unfold crA
             try rw [ekk]
             rw [if_pos (by omega)]
             done)
          | (refine cI (k _ (fun b hb r hr => up_f hr)) ?_
             unfold crA
             try rw [ekk]
             rw [if_neg (by omega), if_neg (by omega), if_neg (by omega), if_neg (by omega), if_neg (by omega), if_neg (by omega)]
             done)
          | (refine cI (k _ (fun b hb r hr => (t2 b (by omega) r).trans (up_f hr))) ?_
             unfold crA
             try rw [ekk]
             rw [if_neg (by omega), if_pos (by omega)]
             done)
          | (refine cI (k _ (fun b hb r hr => (t2 b (by omega) r).trans (up_f hr))) ?_
             unfold crA
             rw [if_neg (by omega), if_neg (by omega), if_pos (by omega)]
             by_cases z : c (k0 : Int) % 2 = 0
             · rw [bI_t z]
               omega
             · rw [bI_f z]
               omega)
          | (refine cI (k _ (fun b hb r hr => (t2 b (by omega) r).trans (up_f hr))) ?_
             unfold crA
             rw [ekk, if_neg (by omega), if_neg (by omega), if_neg (by omega), if_pos (by omega)]
             by_cases z : c (k0 : Int) % 2 = 0
             · rw [if_pos z, show c (k0 : Int) / 2 + c (k0 : Int) % 2 = c (k0 : Int) / 2 by omega]
             · rw [if_neg z, show c (k0 : Int) / 2 + c (k0 : Int) % 2 = c (k0 : Int) / 2 + 1 by omega])
          | (refine cI (k _ (fun b hb r hr => (t2 b (by omega) r).trans (up_f hr))) ?_
             unfold crA
             rw [ekk, if_neg (by omega), if_neg (by omega), if_neg (by omega), if_neg (by omega), if_pos (by omega)]
             by_cases z : c (k0 : Int) % 2 = 0
             · rw [if_pos z, show c (k0 : Int) / 2 + 1 - c (k0 : Int) % 2 = c (k0 : Int) / 2 + 1 by omega]
             · rw [if_neg z, show c (k0 : Int) / 2 + 1 - c (k0 : Int) % 2 = c (k0 : Int) / 2 by omega])
          | (refine cI (k _ (fun b hb r hr => (u1 b (by omega) r).trans ((t2 b (by omega) r).trans (up_f hr)))) ?_
             unfold crA
             try rw [ekk]
             rw [if_neg (by omega), if_neg (by omega), if_neg (by omega), if_neg (by omega), if_neg (by omega), if_pos (by omega)]
             done)
end PU
