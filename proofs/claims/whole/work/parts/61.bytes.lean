/-! THE BYTES of the tape agree -/
theorem vn (x : Int32) : vp_nar .byte x = x.toInt8.toInt32 := rfl
theorem byte255 (x : Int32) : (x.toInt8.toInt32 &&& Int32.ofInt 255) = (x &&& Int32.ofInt 255) := by
  apply Int32.toBitVec_inj.mp
  rw [Int32.toBitVec_and, Int32.toBitVec_and, Int8.toBitVec_toInt32, Int32.toBitVec_toInt8]
  apply BitVec.eq_of_getLsbD_eq
  intro i hi
  have e : (Int32.ofInt 255).toBitVec = 255#32 := by decide
  rw [e]
  simp only [BitVec.getLsbD_and, BitVec.getLsbD_signExtend, BitVec.getLsbD_setWidth]
  by_cases h : i < 8
  · simp [h, hi]
  · have : (255#32).getLsbD i = false := by
      have : ∀ i : Fin 32, ¬ i.1 < 8 → (255#32).getLsbD i.1 = false := by decide
      exact this ⟨i, hi⟩ h
    simp [this]
theorem cb_and (w : Int) : i_and (a_nar 1 (i_byte w)) 255 = i_and w 255 := by
  unfold i_and a_nar i_byte
  rw [if_pos rfl, vn, Int32.ofInt_toInt, Int32.ofInt_toInt, byte255, byte255]
theorem cbB_rbB (v : Int) (k : Nat) : i_and (cbB v k) 255 = rbB v k := cb_and _
