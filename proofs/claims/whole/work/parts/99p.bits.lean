/-! BITS: how many are set, of fifteen -/
theorem iand_nn {a b : Nat} (ha : a < 2147483648) (hb : b < 2147483648) : i_and (a : Int) (b : Int) = ((Nat.land a b : Nat) : Int) := by
  have hc : a &&& b < 2147483648 := Nat.lt_of_le_of_lt Nat.and_le_left ha
  unfold i_and
  rw [Int32.ofInt_eq_ofNat, Int32.ofInt_eq_ofNat]
  have e : (Int32.ofNat a &&& Int32.ofNat b) = Int32.ofNat (a &&& b) := by
    apply Int32.toBitVec_inj.mp
    rw [Int32.toBitVec_and]
    apply BitVec.eq_of_toNat_eq
    rw [BitVec.toNat_and, Int32.toBitVec_ofNat', Int32.toBitVec_ofNat', Int32.toBitVec_ofNat', BitVec.toNat_ofNat, BitVec.toNat_ofNat, BitVec.toNat_ofNat, Nat.mod_eq_of_lt (by omega), Nat.mod_eq_of_lt (by omega), Nat.mod_eq_of_lt (by omega)]
  rw [e]
  exact Int32.toInt_ofNat_of_lt hc
theorem ush_f : ∀ k : Fin 31, (((Int32.ofInt ((k : Nat) : Int)).toUInt32 &&& Int32.toUInt32 31).toBitVec % 32) = BitVec.ofNat 32 (k : Nat) := by decide +kernel
theorem iushr_nn {x k : Nat} (h : x < 2147483648) (hk : k < 31) : i_ushr (x : Int) (k : Int) = ((x / 2 ^ k : Nat) : Int) := by
  unfold i_ushr
  have e := ush_f ⟨k, hk⟩
  have hle : x / 2 ^ k ≤ x := Nat.div_le_self _ _
  have e1 : (Int32.ofInt (x : Int)).toUInt32.toBitVec = BitVec.ofNat 32 x := by
    show BitVec.ofInt 32 (x : Int) = _
    exact BitVec.ofInt_natCast 32 x
  show (((Int32.ofInt (x : Int)).toUInt32 >>> ((Int32.ofInt (k : Int)).toUInt32 &&& Int32.toUInt32 31)).toBitVec).toInt = _
  rw [UInt32.toBitVec_shiftRight, e, e1]
  have e2 : (BitVec.ofNat 32 x >>> BitVec.ofNat 32 k).toNat = x / 2 ^ k := by
    rw [BitVec.ushiftRight_eq', BitVec.toNat_ushiftRight, BitVec.toNat_ofNat, BitVec.toNat_ofNat, Nat.mod_eq_of_lt (by omega), Nat.mod_eq_of_lt (by omega), Nat.shiftRight_eq_div_pow]
  rw [BitVec.toInt_eq_toNat_of_lt (by rw [e2]; omega), e2]
def nB1 (x : Nat) : Nat := x - Nat.land (x / 2) 1431655765
def nB2 (x : Nat) : Nat := Nat.land x 858993459 + Nat.land (x / 4) 858993459
def nB3 (x : Nat) : Nat := Nat.land (x + x / 16) 252645135
def nB4 (x : Nat) : Nat := x + x / 256
def nB5 (x : Nat) : Nat := x + x / 65536
def nBC (x : Nat) : Nat := Nat.land (nB5 (nB4 (nB3 (nB2 (nB1 x))))) 63
def nPC : Nat → Nat → Nat
  | 0, _ => 0
  | k + 1, x => x % 2 + nPC k (x / 2)
theorem land_l (a b : Nat) : Nat.land a b ≤ a := Nat.and_le_left
theorem nB1_R {x : Nat} (h : x < 32768) : nB1 x < 32768 ∧ bc1 (x : Int) = ((nB1 x : Nat) : Int) := by
  have l := land_l (x / 2) 1431655765
  have e : i_ushr (x : Int) 1 = ((x / 2 : Nat) : Int) := iushr_nn (k := 1) (by omega) (by omega)
  have e2 : i_and ((x / 2 : Nat) : Int) 1431655765 = _ := iand_nn (a := x / 2) (b := 1431655765) (by omega) (by omega)
  unfold bc1 nB1
  rw [e, e2]
  omega
theorem nB2_R {x : Nat} (h : x < 32768) : nB2 x < 65536 ∧ bc2 (x : Int) = ((nB2 x : Nat) : Int) := by
  have l := land_l x 858993459
  have l2 := land_l (x / 4) 858993459
  have e : i_ushr (x : Int) 2 = ((x / 4 : Nat) : Int) := iushr_nn (k := 2) (by omega) (by omega)
  have e2 : i_and ((x / 4 : Nat) : Int) 858993459 = _ := iand_nn (a := x / 4) (b := 858993459) (by omega) (by omega)
  have e3 : i_and (x : Int) 858993459 = _ := iand_nn (a := x) (b := 858993459) (by omega) (by omega)
  unfold bc2 nB2
  rw [e, e2, e3]
  omega
theorem nB3_R {x : Nat} (h : x < 65536) : nB3 x < 131072 ∧ bc3 (x : Int) = ((nB3 x : Nat) : Int) := by
  have l := land_l (x + x / 16) 252645135
  have e : i_ushr (x : Int) 4 = ((x / 16 : Nat) : Int) := iushr_nn (k := 4) (by omega) (by omega)
  have e2 : i_and ((x + x / 16 : Nat) : Int) 252645135 = _ := iand_nn (a := x + x / 16) (b := 252645135) (by omega) (by omega)
  unfold bc3 nB3
  rw [e, ← Int.natCast_add, e2]
  omega
theorem nB4_R {x : Nat} (h : x < 131072) : nB4 x < 262144 ∧ bc4 (x : Int) = ((nB4 x : Nat) : Int) := by
  have e : i_ushr (x : Int) 8 = ((x / 256 : Nat) : Int) := iushr_nn (k := 8) (by omega) (by omega)
  unfold bc4 nB4
  rw [e]
  omega
theorem nB5_R {x : Nat} (h : x < 262144) : nB5 x < 524288 ∧ bc5 (x : Int) = ((nB5 x : Nat) : Int) := by
  have e : i_ushr (x : Int) 16 = ((x / 65536 : Nat) : Int) := iushr_nn (k := 16) (by omega) (by omega)
  unfold bc5 nB5
  rw [e]
  omega
theorem BC_nn {x : Nat} (h : x < 32768) : BC (x : Int) = ((nBC x : Nat) : Int) := by
  have h1 := nB1_R h
  have h2 := nB2_R h1.1
  have h3 := nB3_R h2.1
  have h4 := nB4_R h3.1
  have h5 := nB5_R h4.1
  unfold BC nBC
  rw [h1.2, h2.2, h3.2, h4.2, h5.2]
  exact iand_nn (b := 63) (by omega) (by omega)
theorem nBC_f0 : ∀ a : Fin 16, ∀ b : Fin 256, Nat.beq (nBC (256 * (0 + (a : Nat)) + (b : Nat))) (nPC 15 (256 * (0 + (a : Nat)) + (b : Nat))) = true := by decide +kernel
theorem nBC_f1 : ∀ a : Fin 16, ∀ b : Fin 256, Nat.beq (nBC (256 * (16 + (a : Nat)) + (b : Nat))) (nPC 15 (256 * (16 + (a : Nat)) + (b : Nat))) = true := by decide +kernel
theorem nBC_f2 : ∀ a : Fin 16, ∀ b : Fin 256, Nat.beq (nBC (256 * (32 + (a : Nat)) + (b : Nat))) (nPC 15 (256 * (32 + (a : Nat)) + (b : Nat))) = true := by decide +kernel
theorem nBC_f3 : ∀ a : Fin 16, ∀ b : Fin 256, Nat.beq (nBC (256 * (48 + (a : Nat)) + (b : Nat))) (nPC 15 (256 * (48 + (a : Nat)) + (b : Nat))) = true := by decide +kernel
theorem nBC_f4 : ∀ a : Fin 16, ∀ b : Fin 256, Nat.beq (nBC (256 * (64 + (a : Nat)) + (b : Nat))) (nPC 15 (256 * (64 + (a : Nat)) + (b : Nat))) = true := by decide +kernel
theorem nBC_f5 : ∀ a : Fin 16, ∀ b : Fin 256, Nat.beq (nBC (256 * (80 + (a : Nat)) + (b : Nat))) (nPC 15 (256 * (80 + (a : Nat)) + (b : Nat))) = true := by decide +kernel
theorem nBC_f6 : ∀ a : Fin 16, ∀ b : Fin 256, Nat.beq (nBC (256 * (96 + (a : Nat)) + (b : Nat))) (nPC 15 (256 * (96 + (a : Nat)) + (b : Nat))) = true := by decide +kernel
theorem nBC_f7 : ∀ a : Fin 16, ∀ b : Fin 256, Nat.beq (nBC (256 * (112 + (a : Nat)) + (b : Nat))) (nPC 15 (256 * (112 + (a : Nat)) + (b : Nat))) = true := by decide +kernel
