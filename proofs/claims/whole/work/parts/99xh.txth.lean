/-! TEXT: a line, as a step -/
section TXH
variable {d sp : Nat} {h0 h : pheap} {s tqq uqq : St} {Q : Option pv → pheap → Prop} {B : Int → Int} {n p q N : Nat} {sz : Int} {k vqq : Int} {K : KS}
/-- what is told so far: where it goes on; dancers; what is told of years; slip, seed (told or not, how much); knots; where laws begin, end; lines -/
abbrev TS : Type := Nat × (Nat × (Int → Int)) × (Nat × (Int → Int) × (Int → Int)) × (Int × Int) × (Int × Int) × KS × ((Int → Int) × (Int → Int)) × Nat
abbrev TS2 : Type := (Nat × (Int → Int)) × (Nat × (Int → Int) × (Int → Int)) × (Int × Int) × (Int × Int) × KS × ((Int → Int) × (Int → Int)) × Nat
abbrev LNR : Type := Int × Nat × TS
def lEnd (B : Int → Int) (n p : Nat) (X : TS) (Y : TS2) : LNR := if tkK B n p = 5 ∧ tkV B n p = 15 then (0, 0, (tkE B n p, Y)) else (1, tkP B n p, X)
def lNum (B : Int → Int) (n p : Nat) (most : Int) (X : TS) (r : LNR) : LNR := if tkK B n p ≠ 2 then (1, tkP B n p, X) else if most < tkV B n p then (2, tkP B n p, X) else r
def lDan (B : Int → Int) (n p : Nat) (D : Nat × (Int → Int)) (X : TS) (Y : Nat × (Int → Int) → TS2) : LNR :=
  if 6 ≤ D.1 then (2, tkP B n p, X) else if tkK B n (tkE B n p) ≠ 3 then (1, tkP B n (tkE B n p), X) else if fndN D.2 (tkV B n (tkE B n p)) D.1 ≠ -1 then (3, tkP B n (tkE B n p), X) else lEnd B n (tkE B n (tkE B n p)) X (Y (D.1 + 1, updF D.2 D.1 (tkV B n (tkE B n p))))
def lTel (B : Int → Int) (n p : Nat) (T : Nat × (Int → Int) × (Int → Int)) (X : TS) (Y : Nat × (Int → Int) × (Int → Int) → TS2) : LNR :=
  if 24 ≤ T.1 then (2, tkP B n p, X) else lNum B n (tkE B n p) 99 X (lNum B n (tkE B n (tkE B n p)) 4 X (lEnd B n (tkE B n (tkE B n (tkE B n p))) X (Y (T.1 + 1, updF T.2.1 T.1 (tkV B n (tkE B n p)), updF T.2.2 T.1 (2 * tkV B n (tkE B n (tkE B n p)) + (tkV B n p - 1))))))
def lOne (B : Int → Int) (n p : Nat) (most : Int) (S : Int × Int) (X : TS) (Y : Int × Int → TS2) : LNR :=
  if S.1 = 1 then (3, tkP B n p, X) else lNum B n (tkE B n p) most X (lEnd B n (tkE B n (tkE B n p)) X (Y (1, tkV B n (tkE B n p))))
/-- a step: a line, or a fault (1, 2, 3), or the end (-1) -/
def lSt (B : Int → Int) (n : Nat) : TS → LNR → Prop
  | (p, D, T, S, E, K, L, N), r =>
    if tkK B n p = 0 then r = (-1, 0, (p, D, T, S, E, K, L, N))
    else if ¬ (tkK B n p = 4 ∧ tkV B n p ≤ 5) then r = (1, tkP B n p, (p, D, T, S, E, K, L, N))
    else if tkV B n p = 0 then r = lDan B n p D (p, D, T, S, E, K, L, N) (fun D2 => (D2, T, S, E, K, L, N + 1))
    else if tkV B n p = 1 ∨ tkV B n p = 2 then r = lTel B n p T (p, D, T, S, E, K, L, N) (fun T2 => (D, T2, S, E, K, L, N + 1))
    else if tkV B n p = 3 then r = lOne B n p 100 S (p, D, T, S, E, K, L, N) (fun S2 => (D, T, S2, E, K, L, N + 1))
    else if tkV B n p = 4 then r = lOne B n p 99999 E (p, D, T, S, E, K, L, N) (fun E2 => (D, T, S, E2, K, L, N + 1))
    else if ¬ (tkK B n (tkE B n p) = 4 ∧ 6 ≤ tkV B n (tkE B n p) ∧ tkV B n (tkE B n p) ≤ 8) then r = (1, tkP B n (tkE B n p), (p, D, T, S, E, K, L, N))
    else if L.1 (tkV B n (tkE B n p) - 6) < L.2 (tkV B n (tkE B n p) - 6) then r = (3, tkP B n (tkE B n p), (p, D, T, S, E, K, L, N))
    else ∃ e, eEnd B n (tkE B n (tkE B n p)) 0 [] K e ∧ r = (if e.1 = -1 then (0, 0, (e.2.1, D, T, S, E, e.2.2, (updF L.1 (tkV B n (tkE B n p) - 6) K.1, updF L.2 (tkV B n (tkE B n p) - 6) e.2.2.1), N + 1)) else (e.1, e.2.1, (p, D, T, S, E, K, L, N)))
theorem lSt_one {X : TS} {r r' : LNR} (h : lSt B n X r) (g : lSt B n X r') : r = r' := by
  obtain ⟨p, D, T, S, E, K, L, N⟩ := X
  simp only [lSt] at h g
  by_cases c0 : tkK B n p = 0
  · rw [if_pos c0] at h g
    rw [h, g]
  rw [if_neg c0] at h g
  by_cases c1 : ¬ (tkK B n p = 4 ∧ tkV B n p ≤ 5)
  · rw [if_pos c1] at h g
    rw [h, g]
  rw [if_neg c1] at h g
  by_cases c2 : tkV B n p = 0
  · rw [if_pos c2] at h g
    rw [h, g]
  rw [if_neg c2] at h g
  by_cases c3 : tkV B n p = 1 ∨ tkV B n p = 2
  · rw [if_pos c3] at h g
    rw [h, g]
  rw [if_neg c3] at h g
  by_cases c4 : tkV B n p = 3
  · rw [if_pos c4] at h g
    rw [h, g]
  rw [if_neg c4] at h g
  by_cases c5 : tkV B n p = 4
  · rw [if_pos c5] at h g
    rw [h, g]
  rw [if_neg c5] at h g
  by_cases c6 : ¬ (tkK B n (tkE B n p) = 4 ∧ 6 ≤ tkV B n (tkE B n p) ∧ tkV B n (tkE B n p) ≤ 8)
  · rw [if_pos c6] at h g
    rw [h, g]
  rw [if_neg c6] at h g
  by_cases c7 : L.1 (tkV B n (tkE B n p) - 6) < L.2 (tkV B n (tkE B n p) - 6)
  · rw [if_pos c7] at h g
    rw [h, g]
  rw [if_neg c7] at h g
  obtain ⟨e, h1, h2⟩ := h
  obtain ⟨e', g1, g2⟩ := g
  rw [h2, g2, eEnd_one h1 g1]
theorem lS_0 {D : Nat × (Int → Int)} {T : Nat × (Int → Int) × (Int → Int)} {S E : Int × Int} {K : KS} {L : (Int → Int) × (Int → Int)} {N : Nat} (h : tkK B n p = 0) : lSt B n (p, D, T, S, E, K, L, N) (-1, 0, (p, D, T, S, E, K, L, N)) := by
  simp only [lSt]
  rw [if_pos (show tkK B n p = 0 by omega)]
  trivial
theorem lS_1 {D : Nat × (Int → Int)} {T : Nat × (Int → Int) × (Int → Int)} {S E : Int × Int} {K : KS} {L : (Int → Int) × (Int → Int)} {N : Nat} (h : tkK B n p ≠ 0) (g : ¬ (tkK B n p = 4 ∧ tkV B n p ≤ 5)) : lSt B n (p, D, T, S, E, K, L, N) (1, tkP B n p, (p, D, T, S, E, K, L, N)) := by
  simp only [lSt]
  rw [if_neg (show ¬ (tkK B n p = 0) by omega), if_pos (show ¬ (tkK B n p = 4 ∧ tkV B n p ≤ 5) by omega)]
  trivial
theorem lS_dan {D : Nat × (Int → Int)} {T : Nat × (Int → Int) × (Int → Int)} {S E : Int × Int} {K : KS} {L : (Int → Int) × (Int → Int)} {N : Nat} (h : tkK B n p = 4) (g : tkV B n p = 0) : lSt B n (p, D, T, S, E, K, L, N) (lDan B n p D (p, D, T, S, E, K, L, N) (fun D2 => (D2, T, S, E, K, L, N + 1))) := by
  simp only [lSt]
  rw [if_neg (show ¬ (tkK B n p = 0) by omega), if_neg (show ¬ (¬ (tkK B n p = 4 ∧ tkV B n p ≤ 5)) by omega), if_pos (show tkV B n p = 0 by omega)]
  trivial
theorem lS_tel {D : Nat × (Int → Int)} {T : Nat × (Int → Int) × (Int → Int)} {S E : Int × Int} {K : KS} {L : (Int → Int) × (Int → Int)} {N : Nat} (h : tkK B n p = 4) (g : tkV B n p = 1 ∨ tkV B n p = 2) : lSt B n (p, D, T, S, E, K, L, N) (lTel B n p T (p, D, T, S, E, K, L, N) (fun T2 => (D, T2, S, E, K, L, N + 1))) := by
  simp only [lSt]
  rw [if_neg (show ¬ (tkK B n p = 0) by omega), if_neg (show ¬ (¬ (tkK B n p = 4 ∧ tkV B n p ≤ 5)) by omega), if_neg (show ¬ (tkV B n p = 0) by omega), if_pos (show tkV B n p = 1 ∨ tkV B n p = 2 by omega)]
  trivial
theorem lS_slip {D : Nat × (Int → Int)} {T : Nat × (Int → Int) × (Int → Int)} {S E : Int × Int} {K : KS} {L : (Int → Int) × (Int → Int)} {N : Nat} (h : tkK B n p = 4) (g : tkV B n p = 3) : lSt B n (p, D, T, S, E, K, L, N) (lOne B n p 100 S (p, D, T, S, E, K, L, N) (fun S2 => (D, T, S2, E, K, L, N + 1))) := by
  simp only [lSt]
  rw [if_neg (show ¬ (tkK B n p = 0) by omega), if_neg (show ¬ (¬ (tkK B n p = 4 ∧ tkV B n p ≤ 5)) by omega), if_neg (show ¬ (tkV B n p = 0) by omega), if_neg (show ¬ (tkV B n p = 1 ∨ tkV B n p = 2) by omega), if_pos (show tkV B n p = 3 by omega)]
  trivial
theorem lS_seed {D : Nat × (Int → Int)} {T : Nat × (Int → Int) × (Int → Int)} {S E : Int × Int} {K : KS} {L : (Int → Int) × (Int → Int)} {N : Nat} (h : tkK B n p = 4) (g : tkV B n p = 4) : lSt B n (p, D, T, S, E, K, L, N) (lOne B n p 99999 E (p, D, T, S, E, K, L, N) (fun E2 => (D, T, S, E2, K, L, N + 1))) := by
  simp only [lSt]
  rw [if_neg (show ¬ (tkK B n p = 0) by omega), if_neg (show ¬ (¬ (tkK B n p = 4 ∧ tkV B n p ≤ 5)) by omega), if_neg (show ¬ (tkV B n p = 0) by omega), if_neg (show ¬ (tkV B n p = 1 ∨ tkV B n p = 2) by omega), if_neg (show ¬ (tkV B n p = 3) by omega), if_pos (show tkV B n p = 4 by omega)]
  trivial
theorem lS_rule {D : Nat × (Int → Int)} {T : Nat × (Int → Int) × (Int → Int)} {S E : Int × Int} {K : KS} {L : (Int → Int) × (Int → Int)} {N : Nat} (h : tkK B n p = 4) (g : tkV B n p = 5) (g1 : ¬ (tkK B n (tkE B n p) = 4 ∧ 6 ≤ tkV B n (tkE B n p) ∧ tkV B n (tkE B n p) ≤ 8)) : lSt B n (p, D, T, S, E, K, L, N) (1, tkP B n (tkE B n p), (p, D, T, S, E, K, L, N)) := by
  simp only [lSt]
  rw [if_neg (show ¬ (tkK B n p = 0) by omega), if_neg (show ¬ (¬ (tkK B n p = 4 ∧ tkV B n p ≤ 5)) by omega), if_neg (show ¬ (tkV B n p = 0) by omega), if_neg (show ¬ (tkV B n p = 1 ∨ tkV B n p = 2) by omega), if_neg (show ¬ (tkV B n p = 3) by omega), if_neg (show ¬ (tkV B n p = 4) by omega), if_pos (show ¬ (tkK B n (tkE B n p) = 4 ∧ 6 ≤ tkV B n (tkE B n p) ∧ tkV B n (tkE B n p) ≤ 8) by omega)]
  trivial
theorem lS_told {D : Nat × (Int → Int)} {T : Nat × (Int → Int) × (Int → Int)} {S E : Int × Int} {K : KS} {L : (Int → Int) × (Int → Int)} {N : Nat} (h : tkK B n p = 4) (g : tkV B n p = 5) (g1 : tkK B n (tkE B n p) = 4 ∧ 6 ≤ tkV B n (tkE B n p) ∧ tkV B n (tkE B n p) ≤ 8) (g2 : L.1 (tkV B n (tkE B n p) - 6) < L.2 (tkV B n (tkE B n p) - 6)) : lSt B n (p, D, T, S, E, K, L, N) (3, tkP B n (tkE B n p), (p, D, T, S, E, K, L, N)) := by
  simp only [lSt]
  rw [if_neg (show ¬ (tkK B n p = 0) by omega), if_neg (show ¬ (¬ (tkK B n p = 4 ∧ tkV B n p ≤ 5)) by omega), if_neg (show ¬ (tkV B n p = 0) by omega), if_neg (show ¬ (tkV B n p = 1 ∨ tkV B n p = 2) by omega), if_neg (show ¬ (tkV B n p = 3) by omega), if_neg (show ¬ (tkV B n p = 4) by omega), if_neg (show ¬ (¬ (tkK B n (tkE B n p) = 4 ∧ 6 ≤ tkV B n (tkE B n p) ∧ tkV B n (tkE B n p) ≤ 8)) by omega), if_pos (show L.1 (tkV B n (tkE B n p) - 6) < L.2 (tkV B n (tkE B n p) - 6) by omega)]
  trivial
theorem lS_law {D : Nat × (Int → Int)} {T : Nat × (Int → Int) × (Int → Int)} {S E : Int × Int} {K : KS} {L : (Int → Int) × (Int → Int)} {N : Nat} {e : Int × Nat × KS} (h : tkK B n p = 4) (g : tkV B n p = 5) (g1 : tkK B n (tkE B n p) = 4 ∧ 6 ≤ tkV B n (tkE B n p) ∧ tkV B n (tkE B n p) ≤ 8) (g2 : ¬ L.1 (tkV B n (tkE B n p) - 6) < L.2 (tkV B n (tkE B n p) - 6)) (he : eEnd B n (tkE B n (tkE B n p)) 0 [] K e) : lSt B n (p, D, T, S, E, K, L, N) (if e.1 = -1 then (0, 0, (e.2.1, D, T, S, E, e.2.2, (updF L.1 (tkV B n (tkE B n p) - 6) K.1, updF L.2 (tkV B n (tkE B n p) - 6) e.2.2.1), N + 1)) else (e.1, e.2.1, (p, D, T, S, E, K, L, N))) := by
  simp only [lSt]
  rw [if_neg (show ¬ (tkK B n p = 0) by omega), if_neg (show ¬ (¬ (tkK B n p = 4 ∧ tkV B n p ≤ 5)) by omega), if_neg (show ¬ (tkV B n p = 0) by omega), if_neg (show ¬ (tkV B n p = 1 ∨ tkV B n p = 2) by omega), if_neg (show ¬ (tkV B n p = 3) by omega), if_neg (show ¬ (tkV B n p = 4) by omega), if_neg (show ¬ (¬ (tkK B n (tkE B n p) = 4 ∧ 6 ≤ tkV B n (tkE B n p) ∧ tkV B n (tkE B n p) ≤ 8)) by omega), if_neg (show ¬ (L.1 (tkV B n (tkE B n p) - 6) < L.2 (tkV B n (tkE B n p) - 6)) by omega)]
  exact ⟨e, he, rfl⟩
/-- all lines: the end, or a fault -/
def tGo (B : Int → Int) (n : Nat) : Nat → TS → LNR → Prop
  | 0, _, _ => False
  | j + 1, X, r => ∃ e, lSt B n X e ∧ (if e.1 = 0 then tGo B n j e.2.2 r else r = e)
theorem tGo_one {r r' : LNR} : ∀ {i j : Nat} {X : TS}, tGo B n i X r → tGo B n j X r' → r = r'
  | 0, _, _, h, _ => h.elim
  | _ + 1, 0, _, _, g => g.elim
  | i + 1, j + 1, X, h, g => by
    obtain ⟨e, h1, h2⟩ := h
    obtain ⟨e2, g1, g2⟩ := g
    have := lSt_one h1 g1
    subst this
    split at h2
    · rename_i q
      rw [if_pos q] at g2
      exact tGo_one h2 g2
    · rename_i q
      rw [if_neg q] at g2
      rw [h2, g2]
def tEnd (B : Int → Int) (n : Nat) (X : TS) (r : LNR) : Prop := ∃ j, tGo B n j X r
theorem tEnd_step {X : TS} {e r : LNR} (h : lSt B n X e) (h0 : e.1 = 0) (g : tEnd B n e.2.2 r) : tEnd B n X r := by
  obtain ⟨j, hj⟩ := g
  exact ⟨j + 1, e, h, by rw [if_pos h0]; exact hj⟩
theorem tEnd_stop {X : TS} {e : LNR} (h : lSt B n X e) (h0 : e.1 ≠ 0) : tEnd B n X e := ⟨1, e, h, by rw [if_neg h0]⟩
theorem tEnd_one {X : TS} {r r' : LNR} (h : tEnd B n X r) (g : tEnd B n X r') : r = r' := by
  obtain ⟨i, hi⟩ := h
  obtain ⟨j, hj⟩ := g
  exact tGo_one hi hj
end TXH
