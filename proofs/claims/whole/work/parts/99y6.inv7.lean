/-! INV: at the start -/
section INV7
def st0 : St := fun b r => if b = 32 ∧ r = 2 then 38 else if b = 32 ∧ r = 3 then 46 else if b = 32 ∧ r = 5 then -1 else if b = 35 ∧ r = 1 then -1 else if b = 35 ∧ (r = 6 ∨ r = 7) then 1 else if b = 75 ∧ r = 7 then -1 else if b = 82 ∧ r = 4 then -1 else if b = 94 ∧ (r = 21 ∨ r = 51) then -1 else 0
theorem st0_z {b : Nat} {r : Int} (h : ¬ (b = 32 ∧ (r = 2 ∨ r = 3 ∨ r = 5)) ∧ ¬ b = 35 ∧ ¬ (b = 75 ∧ r = 7) ∧ ¬ b = 82 ∧ ¬ (b = 94 ∧ (r = 21 ∨ r = 51))) : st0 b r = 0 := by
  unfold st0
  rw [if_neg (by omega), if_neg (by omega), if_neg (by omega), if_neg (by omega), if_neg (by omega), if_neg (by omega), if_neg (by omega), if_neg (by omega)]
theorem INV_0 : INV st0 := by
  have n0 : ∀ i : Int, 0 ≤ i → i < ((0 : Nat) : Int) → False := fun i i0 i1 => by omega
  have v0qq : vC 0 c00 0 := fun i i0 i1 => (n0 i i0 i1).elim
  have zqq : ∀ {b : Nat} {r : Int}, ¬ b = 32 → ¬ b = 35 → ¬ b = 75 → ¬ b = 82 → ¬ b = 94 → st0 b r = 0 := fun q1 q2 q3 q4 q5 => st0_z ⟨by omega, by omega, by omega, by omega, by omega⟩
  have da : DA 53 0 0 0 0 0 0 0 c00 st0 := by
    refine ⟨rfl, rfl, rfl, rfl, rfl, ⟨by decide, by decide⟩, by decide, v0qq, rfl, rfl, rfl, rfl, fun i i0 i1 => (n0 i i0 i1).elim, fun p p0 p1 => ?_, fun j j0 j1 => ?_⟩
    · have : cnt 0 = 0 := by decide
      omega
    · rw [zqq (by decide) (by decide) (by decide) (by decide) (by decide)]
      rfl
  have dr : DR 0 0 0 0 0 0 0 0 c00 st0 := ⟨rfl, rfl, rfl, rfl, rfl, ⟨by decide, by decide⟩, by decide, v0qq, rfl, rfl, fun i i0 i1 => (n0 i i0 i1).elim⟩
  have l0 : lD 0 ((0 : Nat) : Int) := lD_L0 (m := 0) (by decide)
  exact ⟨37, 45, (0, c00), (0, c00, c00), (0, 0), (0, 0), (0, c00), (c00, c00), 0, 0, 0, 0, 0, 0, 0, 0, c00, 0, (fun _ => (0, 0, 0, c00)), 0, 0, -1, c00, c00, c00, c00, c00, ⟨by decide, rfl, rfl, fun i i0 i1 => by omega⟩, ⟨rfl, rfl, rfl⟩, ⟨Or.inl ⟨rfl, rfl⟩, rfl, rfl, ⟨⟨rfl, fun i i0 i1 => (n0 i i0 i1).elim⟩, ⟨rfl, fun i i0 i1 => (n0 i i0 i1).elim⟩, ⟨rfl, rfl, rfl, rfl⟩, ⟨rfl, fun i i0 i1 => (n0 i i0 i1).elim⟩, fun r r0 r1 => ⟨zqq (by decide) (by decide) (by decide) (by decide) (by decide), zqq (by decide) (by decide) (by decide) (by decide) (by decide)⟩⟩, ⟨⟨rfl, rfl, rfl, rfl, rfl⟩, fun i i0 i1 => (n0 i i0 i1).elim, fun i i0 i1 => (n0 i i0 i1).elim, fun r r0 r1 => ⟨zqq (by decide) (by decide) (by decide) (by decide) (by decide), zqq (by decide) (by decide) (by decide) (by decide) (by decide)⟩, fun i i0 i1 => (n0 i i0 i1).elim⟩, XI_0⟩, ⟨da, dr, ⟨by decide, by decide, by decide, l0, by decide⟩⟩, ⟨⟨by decide, rfl, by decide, by decide, fun i hi => by omega⟩, ⟨by decide, rfl, fun i hi => by omega⟩, fun i hi => by omega, fun i hi => by omega⟩, ⟨rfl, rfl, Or.inl rfl, fun y => by omega⟩, ⟨⟨rfl, rfl, fun i i0 i1 => (n0 i i0 i1).elim⟩, ⟨rfl, rfl, fun i i0 i1 => (n0 i i0 i1).elim⟩, by decide, by decide, by decide, fun i i0 i1 => (n0 i i0 i1).elim⟩⟩
end INV7
