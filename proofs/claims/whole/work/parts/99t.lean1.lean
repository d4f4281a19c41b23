/-! LEAN: piles; taking out a pair that undoes itself leaves them as they are -/
section LN1
variable {x y q p : Int} {P : Int → List Int} {r m us : List Int}
def ner (x q : Int) : Prop := q = x / 2 ∨ q = x / 2 + 1 ∨ q = x / 2 - 1
def farC (x y : Int) : Prop := x / 2 + 2 ≤ y / 2 ∨ y / 2 + 2 ≤ x / 2
/-- what a crossing is at a place's pile -/
def sy (x q : Int) : List Int := if q = x / 2 then [sgn x] else if q = x / 2 + 1 ∨ q = x / 2 - 1 then [0] else []
/-- the piles of a row, the latest first -/
def pil : List Int → Int → List Int
  | [], _ => []
  | x :: r, q => sy x q ++ pil r q
theorem sy_p (h : q = x / 2) : sy x q = [sgn x] := if_pos h
theorem sy_0 (h : q = x / 2 + 1 ∨ q = x / 2 - 1) : sy x q = [0] := by
  unfold sy
  rw [if_neg (by omega), if_pos h]
theorem sy_n (h : ¬ ner x q) : sy x q = [] := by
  unfold ner at h
  unfold sy
  rw [if_neg (by omega), if_neg (by omega)]
theorem sgn_0 (x : Int) : sgn x ≠ 0 := by
  have := sgn_R x
  omega
/-- a crossing comes to the piles: it takes away what it undoes, or lies on them -/
def sg (x : Int) (P : Int → List Int) : Int → List Int := fun q => if (P (x / 2)).head? = some (-(sgn x)) then (if q = x / 2 ∨ q = x / 2 + 1 ∨ q = x / 2 - 1 then (P q).tail else P q) else sy x q ++ P q
def nadj : List Int → Prop
  | [] => True
  | a :: l => (∀ b, l.head? = some b → a = 0 ∨ b ≠ -a) ∧ nadj l
def Inv (P : Int → List Int) : Prop := (∃ r, P = pil r) ∧ ∀ q, nadj (P q)
theorem pil_h {vqq : Int} : ∀ {r : List Int} {p : Int}, (pil r p).head? = some vqq → vqq ≠ 0 → (pil r (p + 1)).head? = some 0 ∧ (pil r (p - 1)).head? = some 0
  | [], p, h, _ => by simp [pil] at h
  | x :: r, p, h, hv => by
    simp only [pil] at h ⊢
    by_cases e : p = x / 2
    · rw [sy_0 (x := x) (q := p + 1) (by omega), sy_0 (x := x) (q := p - 1) (by omega)]
      exact ⟨rfl, rfl⟩
    · by_cases e2 : ner x p
      · unfold ner at e2
        rw [sy_0 (by omega)] at h
        exact absurd (Option.some.inj h).symm hv
      · rw [sy_n e2] at h
        have ih := pil_h (r := r) h hv
        unfold ner at e2
        have k : ∀ q : Int, q ≠ x / 2 → (pil r q).head? = some 0 → (sy x q ++ pil r q).head? = some 0 := fun q hq hh => by
          by_cases e3 : ner x q
          · unfold ner at e3
            rw [sy_0 (by omega)]
            rfl
          · rw [sy_n e3]
            exact hh
        exact ⟨k _ (by omega) ih.1, k _ (by omega) ih.2⟩
theorem pil_far : ∀ {m : List Int}, (∀ y, y ∈ m → ¬ ner y p) → pil (m ++ r) p = pil r p
  | [], _ => rfl
  | y :: m, h => by
    show sy y p ++ pil (m ++ r) p = _
    rw [sy_n (h y (List.mem_cons_self ..)), pil_far (fun zqq hz => h zqq (List.mem_cons_of_mem _ hz))]
    rfl
/-- the last one near is taken out -/
theorem pil_out {l : Int} : ∀ {m : List Int}, (∀ y, y ∈ m → ¬ ner y (l / 2)) → ∀ q, pil (m ++ us) q = if q = l / 2 ∨ q = l / 2 + 1 ∨ q = l / 2 - 1 then (pil (m ++ l :: us) q).tail else pil (m ++ l :: us) q
  | [], _, q => by
    show pil us q = if _ then (sy l q ++ pil us q).tail else sy l q ++ pil us q
    by_cases e : q = l / 2
    · rw [if_pos (Or.inl e), sy_p e]
      rfl
    · by_cases e2 : q = l / 2 + 1 ∨ q = l / 2 - 1
      · rw [if_pos (Or.inr e2), sy_0 e2]
        rfl
      · rw [if_neg (by omega), sy_n (by unfold ner; omega)]
        rfl
  | y :: m, h, q => by
    have hy := h y (List.mem_cons_self ..)
    have hm : ∀ zqq, zqq ∈ m → ¬ ner zqq (l / 2) := fun zqq hz => h zqq (List.mem_cons_of_mem _ hz)
    have ih := pil_out hm q
    show sy y q ++ pil (m ++ us) q = if _ then (sy y q ++ pil (m ++ l :: us) q).tail else sy y q ++ pil (m ++ l :: us) q
    rw [ih]
    by_cases e : q = l / 2 ∨ q = l / 2 + 1 ∨ q = l / 2 - 1
    · rw [if_pos e, if_pos e]
      by_cases e1 : q = l / 2
      · rw [sy_n (by rw [e1]; exact hy)]
        rfl
      · by_cases e2 : ner y q
        · unfold ner at e2 hy
          rw [sy_0 (by omega)]
          have hd : (pil (m ++ l :: us) (l / 2)).head? = some (sgn l) := by
            rw [pil_far hm]
            show (sy l (l / 2) ++ pil us (l / 2)).head? = _
            rw [sy_p rfl]
            rfl
          have h2 := pil_h hd (sgn_0 l)
          have h3 : (pil (m ++ l :: us) q).head? = some 0 := by
            rcases e with e | e | e
            · exact absurd e e1
            · rw [e]
              exact h2.1
            · rw [e]
              exact h2.2
          show 0 :: (pil (m ++ l :: us) q).tail = pil (m ++ l :: us) q
          cases hp : pil (m ++ l :: us) q with
          | nil => rw [hp] at h3; simp at h3
          | cons a b =>
            rw [hp] at h3
            have := Option.some.inj h3
            rw [this]
            rfl
        · rw [sy_n e2]
          rfl
    · rw [if_neg e, if_neg e]
/-- the last one near, if there is one -/
theorem pil_at {vqq : Int} : ∀ {r : List Int}, (pil r p).head? = some vqq → vqq ≠ 0 → ∃ m l us, r = m ++ l :: us ∧ l / 2 = p ∧ sgn l = vqq ∧ ∀ y, y ∈ m → ¬ ner y p
  | [], h, _ => by simp [pil] at h
  | x :: r, h, hv => by
    simp only [pil] at h
    by_cases e : p = x / 2
    · rw [sy_p e] at h
      exact ⟨[], x, r, rfl, e.symm, Option.some.inj h, fun y hy => by cases hy⟩
    · by_cases e2 : ner x p
      · unfold ner at e2
        rw [sy_0 (by omega)] at h
        exact absurd (Option.some.inj h).symm hv
      · rw [sy_n e2] at h
        obtain ⟨m, l, us, h1, h2, h3, h4⟩ := pil_at (r := r) h hv
        refine ⟨x :: m, l, us, by rw [h1]; rfl, h2, h3, fun y hy => ?_⟩
        rcases List.mem_cons.mp hy with hy | hy
        · rw [hy]
          exact e2
        · exact h4 y hy
theorem sg_push (h : ¬ (P (x / 2)).head? = some (-(sgn x))) : sg x P = fun q => sy x q ++ P q := by
  funext q
  exact if_neg h
theorem sg_pop (h : (P (x / 2)).head? = some (-(sgn x))) : sg x P = fun q => if q = x / 2 ∨ q = x / 2 + 1 ∨ q = x / 2 - 1 then (P q).tail else P q := by
  funext q
  exact if_pos h
theorem nadj_t : ∀ {l : List Int}, nadj l → nadj l.tail
  | [], _ => trivial
  | _ :: _, h => h.2
theorem Inv_sg (h : Inv P) : Inv (sg x P) := by
  obtain ⟨⟨r, hr⟩, hn⟩ := h
  by_cases e : (P (x / 2)).head? = some (-(sgn x))
  · rw [sg_pop e]
    refine ⟨?_, fun q => ?_⟩
    · rw [hr] at e
      have s0 := sgn_0 x
      obtain ⟨m, l, us, h1, h2, h3, h4⟩ := pil_at e (by omega)
      refine ⟨m ++ us, ?_⟩
      funext q
      rw [pil_out (l := l) (by rw [h2]; exact h4) q, hr, h1, h2]
    · show nadj (if _ then (P q).tail else P q)
      split
      · exact nadj_t (hn q)
      · exact hn q
  · rw [sg_push e]
    refine ⟨⟨x :: r, by rw [hr]; rfl⟩, fun q => ?_⟩
    show nadj (sy x q ++ P q)
    by_cases e1 : q = x / 2
    · rw [sy_p e1]
      refine ⟨fun b hb => Or.inr (fun y => ?_), hn q⟩
      rw [e1] at hb
      rw [y] at hb
      exact e hb
    · by_cases e2 : ner x q
      · unfold ner at e2
        rw [sy_0 (by omega)]
        exact ⟨fun b _ => Or.inl rfl, hn q⟩
      · rw [sy_n e2]
        exact hn q
theorem Inv_0 : Inv (fun _ => []) := ⟨⟨[], by funext q; rfl⟩, fun _ => trivial⟩
theorem Inv_h {vqq : Int} (h : Inv P) (e : (P p).head? = some vqq) (hv : vqq ≠ 0) : (P (p + 1)).head? = some 0 ∧ (P (p - 1)).head? = some 0 := by
  obtain ⟨⟨r, hr⟩, _⟩ := h
  rw [hr] at e ⊢
  exact pil_h e hv
theorem cons_tail {l : List Int} {a : Int} (h : l.head? = some a) : a :: l.tail = l := by
  cases l with
  | nil => simp at h
  | cons b tqq =>
    have := Option.some.inj h
    rw [← this]
    rfl
theorem sg_far (h : farC x y) : sg y P (x / 2) = P (x / 2) := by
  unfold farC at h
  unfold sg
  split
  · rw [if_neg (by omega)]
  · rw [sy_n (by unfold ner; omega)]
    rfl
theorem sg_sw (h : farC x y) (hI : Inv P) : sg x (sg y P) = sg y (sg x P) := by
  have h' : farC y x := Or.symm h
  have ex := sg_far (P := P) h
  have ey := sg_far (P := P) h'
  have sx := sgn_0 x
  have sy0 := sgn_0 y
  have both : ∀ q : Int, ner x q → ner y q → (q = x / 2 + 1 ∧ q = y / 2 - 1) ∨ (q = x / 2 - 1 ∧ q = y / 2 + 1) := fun q a b => by
    unfold farC at h
    unfold ner at a b
    omega
  by_cases cx : (P (x / 2)).head? = some (-(sgn x))
  · have i2 := Inv_h hI cx (by omega)
    have cx' : (sg y P (x / 2)).head? = some (-(sgn x)) := by rw [ex]; exact cx
    by_cases cy : (P (y / 2)).head? = some (-(sgn y))
    · have cy' : (sg x P (y / 2)).head? = some (-(sgn y)) := by rw [ey]; exact cy
      rw [sg_pop cx', sg_pop cy', sg_pop cx, sg_pop cy]
      funext q
      dsimp only
      by_cases a : q = x / 2 ∨ q = x / 2 + 1 ∨ q = x / 2 - 1
      · by_cases b : q = y / 2 ∨ q = y / 2 + 1 ∨ q = y / 2 - 1
        · simp only [if_pos a, if_pos b]
        · simp only [if_pos a, if_neg b]
      · by_cases b : q = y / 2 ∨ q = y / 2 + 1 ∨ q = y / 2 - 1
        · simp only [if_neg a, if_pos b]
        · simp only [if_neg a, if_neg b]
    · have cy' : ¬ (sg x P (y / 2)).head? = some (-(sgn y)) := by rw [ey]; exact cy
      rw [sg_pop cx', sg_push cy', sg_pop cx, sg_push cy]
      funext q
      show (if _ then (sy y q ++ P q).tail else sy y q ++ P q) = sy y q ++ (if _ then _ else _)
      split
      · rename_i a
        by_cases b : ner y q
        · have bb := both q a b
          rw [sy_0 (by omega)]
          have h0 : (P q).head? = some 0 := by
            rcases bb with bb | bb
            · rw [bb.1]
              exact i2.1
            · rw [bb.1]
              exact i2.2
          exact (cons_tail h0).symm
        · rw [sy_n b]
          rfl
      · rfl
  · have cx' : ¬ (sg y P (x / 2)).head? = some (-(sgn x)) := by rw [ex]; exact cx
    by_cases cy : (P (y / 2)).head? = some (-(sgn y))
    · have i2 := Inv_h hI cy (by omega)
      have cy' : (sg x P (y / 2)).head? = some (-(sgn y)) := by rw [ey]; exact cy
      rw [sg_push cx', sg_pop cy', sg_push cx, sg_pop cy]
      funext q
      show sy x q ++ (if _ then _ else _) = (if _ then (sy x q ++ P q).tail else sy x q ++ P q)
      split
      · rename_i b
        by_cases a : ner x q
        · have bb := both q a b
          rw [sy_0 (by omega)]
          have h0 : (P q).head? = some 0 := by
            rcases bb with bb | bb
            · rw [bb.2]
              exact i2.2
            · rw [bb.2]
              exact i2.1
          exact cons_tail h0
        · rw [sy_n a]
          rfl
      · rfl
    · have cy' : ¬ (sg x P (y / 2)).head? = some (-(sgn y)) := by rw [ey]; exact cy
      rw [sg_push cx', sg_push cy', sg_push cx, sg_push cy]
      funext q
      show sy x q ++ (sy y q ++ P q) = sy y q ++ (sy x q ++ P q)
      by_cases a : ner x q
      · by_cases b : ner y q
        · have bb := both q a b
          rw [sy_0 (x := x) (by omega), sy_0 (x := y) (by omega)]
        · rw [sy_n b]
          rfl
      · rw [sy_n a]
        rfl
theorem sg_inv (h1 : y / 2 = x / 2) (h2 : sgn y = -(sgn x)) (hI : Inv P) : sg y (sg x P) = P := by
  have sx := sgn_0 x
  by_cases cx : (P (x / 2)).head? = some (-(sgn x))
  · have i2 := Inv_h hI cx (by omega)
    have nn := hI.2 (x / 2)
    have e1 : sg x P (x / 2) = (P (x / 2)).tail := by
      rw [sg_pop cx]
      exact if_pos (Or.inl rfl)
    have cy : ¬ (sg x P (y / 2)).head? = some (-(sgn y)) := by
      rw [h1, e1, h2]
      intro zqq
      rw [← cons_tail cx] at nn
      rcases nn.1 _ zqq with wqq | wqq
      · omega
      · exact wqq rfl
    rw [sg_push cy, sg_pop cx]
    funext q
    show sy y q ++ (if _ then _ else _) = P q
    by_cases e : q = x / 2
    · rw [if_pos (Or.inl e), sy_p (by omega), h2, e]
      exact cons_tail cx
    · by_cases e2 : q = x / 2 + 1 ∨ q = x / 2 - 1
      · rw [if_pos (Or.inr e2), sy_0 (by omega)]
        refine cons_tail ?_
        rcases e2 with e2 | e2
        · rw [e2]
          exact i2.1
        · rw [e2]
          exact i2.2
      · rw [if_neg (by omega), sy_n (by unfold ner; omega)]
        rfl
  · have cy : (sg x P (y / 2)).head? = some (-(sgn y)) := by
      rw [sg_push cx, h1, h2]
      show (sy x (x / 2) ++ _).head? = _
      rw [sy_p rfl, Int.neg_neg]
      rfl
    rw [sg_pop cy, sg_push cx]
    funext q
    show (if _ then (sy x q ++ P q).tail else sy x q ++ P q) = P q
    by_cases e : q = x / 2
    · rw [if_pos (by omega), sy_p e]
      rfl
    · by_cases e2 : q = x / 2 + 1 ∨ q = x / 2 - 1
      · rw [if_pos (by omega), sy_0 e2]
        rfl
      · rw [if_neg (by omega), sy_n (by unfold ner; omega)]
        rfl
/-- how many lie on the piles -/
def czN : List Int → Int
  | [] => 0
  | a :: l => (if a = 0 then 0 else 1) + czN l
def nP (P : Int → List Int) : Int := czN (P 0) + czN (P 1) + czN (P 2) + czN (P 3) + czN (P 4)
theorem czN_sy (l : List Int) : czN (sy x q ++ l) = (if q = x / 2 then 1 else 0) + czN l := by
  by_cases e : q = x / 2
  · rw [sy_p e, if_pos e]
    show (if sgn x = 0 then (0 : Int) else 1) + czN l = _
    rw [if_neg (sgn_0 x)]
  · rw [if_neg e, Int.zero_add]
    by_cases e2 : ner x q
    · unfold ner at e2
      rw [sy_0 (by omega)]
      show (if (0 : Int) = 0 then (0 : Int) else 1) + czN l = _
      rw [if_pos rfl, Int.zero_add]
    · rw [sy_n e2]
      rfl
theorem nP_pil : ∀ {r : List Int}, (∀ x, x ∈ r → 0 ≤ x ∧ x < 10) → nP (pil r) = r.length
  | [], _ => rfl
  | x :: r, h => by
    have hx := h x (List.mem_cons_self ..)
    have ih := nP_pil (r := r) (fun y hy => h y (List.mem_cons_of_mem _ hy))
    unfold nP at ih ⊢
    simp only [pil, czN_sy, List.length_cons]
    have e : x / 2 = 0 ∨ x / 2 = 1 ∨ x / 2 = 2 ∨ x / 2 = 3 ∨ x / 2 = 4 := by omega
    rcases e with e | e | e | e | e <;> rw [e] <;> simp <;> omega
end LN1
