/-! SEARCH: a crossing turns one pair; small methods -/
section PC2
variable {d tp : Nat} {h0 : pheap} {s : St} {Q : Option pv → pheap → Prop} {L : Int} {n z K N : Nat} {c c' : Int → Int}
/-- pairs the other way round, of six places at most, written out -/
def tp15 (f : Int → Int) (m : Nat) : Int := (if 1 < m then bI (f 1 < f 0) else 0) + (if 2 < m then bI (f 2 < f 0) + bI (f 2 < f 1) else 0) + (if 3 < m then bI (f 3 < f 0) + bI (f 3 < f 1) + bI (f 3 < f 2) else 0) + (if 4 < m then bI (f 4 < f 0) + bI (f 4 < f 1) + bI (f 4 < f 2) + bI (f 4 < f 3) else 0) + (if 5 < m then bI (f 5 < f 0) + bI (f 5 < f 1) + bI (f 5 < f 2) + bI (f 5 < f 3) + bI (f 5 < f 4) else 0)
theorem tp15_is (f : Int → Int) {m : Nat} (hm : m ≤ 6) : tpO f m m = tp15 f m := by
  have e : m = 0 ∨ m = 1 ∨ m = 2 ∨ m = 3 ∨ m = 4 ∨ m = 5 ∨ m = 6 := by omega
  rcases e with rfl | rfl | rfl | rfl | rfl | rfl | rfl
  all_goals
    simp [tpO, tpI, tp15]
    try omega
theorem tp15_sw {f g : Int → Int} {m p : Nat} (hm : m ≤ 6) (hp : p + 1 < m) (e0 : g p = f (p + 1)) (e1 : g (p + 1) = f p) (ne : f p ≠ f (p + 1)) (eo : ∀ q : Nat, q ≠ p → q ≠ p + 1 → g q = f q) : tp15 g m = tp15 f m + (if f p < f (p + 1) then 1 else -1) := by
  have k0 : (g : Int → Int) 0 = g ((0 : Nat) : Int) := rfl
  have hh : p = 0 ∨ p = 1 ∨ p = 2 ∨ p = 3 ∨ p = 4 := by omega
  have sw : bI (f p < f (p + 1)) + bI (f (p + 1) < f p) = 1 := by
    unfold bI
    split <;> split <;> omega
  have sv : (if f p < f (p + 1) then (1 : Int) else -1) = 2 * bI (f p < f (p + 1)) - 1 := by
    unfold bI
    split <;> omega
  rw [sv]
  rcases hh with rfl | rfl | rfl | rfl | rfl
  · have a2 := eo 2 (by omega) (by omega)
    have a3 := eo 3 (by omega) (by omega)
    have a4 := eo 4 (by omega) (by omega)
    have a5 := eo 5 (by omega) (by omega)
    simp at e0 e1 a2 a3 a4 a5 sw ⊢
    unfold tp15
    rw [e0, e1, a2, a3, a4, a5]
    have : 1 < m := by omega
    simp only [if_pos this]
    repeat' split
    all_goals omega
  · have a0 := eo 0 (by omega) (by omega)
    have a3 := eo 3 (by omega) (by omega)
    have a4 := eo 4 (by omega) (by omega)
    have a5 := eo 5 (by omega) (by omega)
    simp at e0 e1 a0 a3 a4 a5 sw ⊢
    unfold tp15
    rw [e0, e1, a0, a3, a4, a5]
    have : 1 < m := by omega
    have : 2 < m := by omega
    simp only [if_pos (show 1 < m by omega), if_pos (show 2 < m by omega)]
    repeat' split
    all_goals omega
  · have a0 := eo 0 (by omega) (by omega)
    have a1 := eo 1 (by omega) (by omega)
    have a4 := eo 4 (by omega) (by omega)
    have a5 := eo 5 (by omega) (by omega)
    simp at e0 e1 a0 a1 a4 a5 sw ⊢
    unfold tp15
    rw [e0, e1, a0, a1, a4, a5]
    simp only [if_pos (show 1 < m by omega), if_pos (show 2 < m by omega), if_pos (show 3 < m by omega)]
    repeat' split
    all_goals omega
  · have a0 := eo 0 (by omega) (by omega)
    have a1 := eo 1 (by omega) (by omega)
    have a2 := eo 2 (by omega) (by omega)
    have a5 := eo 5 (by omega) (by omega)
    simp at e0 e1 a0 a1 a2 a5 sw ⊢
    unfold tp15
    rw [e0, e1, a0, a1, a2, a5]
    simp only [if_pos (show 1 < m by omega), if_pos (show 2 < m by omega), if_pos (show 3 < m by omega), if_pos (show 4 < m by omega)]
    repeat' split
    all_goals omega
  · have a0 := eo 0 (by omega) (by omega)
    have a1 := eo 1 (by omega) (by omega)
    have a2 := eo 2 (by omega) (by omega)
    have a3 := eo 3 (by omega) (by omega)
    simp at e0 e1 a0 a1 a2 a3 sw ⊢
    unfold tp15
    rw [e0, e1, a0, a1, a2, a3]
    simp only [if_pos (show 1 < m by omega), if_pos (show 2 < m by omega), if_pos (show 3 < m by omega), if_pos (show 4 < m by omega), if_pos (show 5 < m by omega)]
    omega
abbrev tpW (L : Int) (c : Int → Int) (n : Nat) : Int := tpO (wO L c n) (cnt L).toNat (cnt L).toNat
/-- a crossing behind turns one pair -/
theorem tpW_s (hL : 0 ≤ L ∧ L < 64) (v : vC L c (n + 1)) : tpW L c (n + 1) = tpW L c n + (if wO L c n (c n / 2) < wO L c n (c n / 2 + 1) then 1 else -1) := by
  have hct := cnt_R L
  have hc := v n (by omega) (by omega)
  have v' := vC_less v (Nat.le_succ n)
  obtain ⟨p, hp⟩ : ∃ p : Nat, c n / 2 = p := ⟨(c n / 2).toNat, by omega⟩
  unfold tpW
  rw [tp15_is _ (by omega), tp15_is _ (by omega), hp]
  have w1 : ∀ z : Int, wO L c (n + 1) z = if z = c n / 2 then wO L c n (c n / 2 + 1) else if z = c n / 2 + 1 then wO L c n (c n / 2) else wO L c n z := fun z => rfl
  refine tp15_sw (by omega) (by omega) ?_ ?_ (fun e => ?_) (fun q q1 q2 => ?_)
  · rw [w1, hp, if_pos rfl]
  · rw [w1, hp, if_neg (by omega), if_pos rfl]
  · have := wO_inj hL v' p (p + 1) (by omega) (by omega) (by omega) (by omega) e
    omega
  · rw [w1, hp, if_neg (by omega), if_neg (by omega)]
end PC2
