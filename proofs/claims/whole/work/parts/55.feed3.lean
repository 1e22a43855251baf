/-! ===== the reference: a message fed ===== -/
theorem jz_bys (x : Int) (i : Nat) (hi : i < 4) : (Int32.ofInt ((Int32.ofInt x >>> (Int32.ofInt ((24 : Int) - 8 * (i : Int)) &&& 31)).toInt) &&& Int32.ofInt 255).toInt = wby x i := by
  rw [Int32.ofInt_toInt]
  have e1 : ∀ y : Int32, ((y.toBitVec.toNat % 2 ^ 8 : Nat) : Int) = y.toInt % 256 := by
    intro y
    have h3 : y.toInt = y.toBitVec.toInt := rfl
    rw [h3, BitVec.toInt_eq_toNat_cond]
    split <;> omega
  have e2 : (Int32.ofInt x).toInt % 4294967296 = ((Int32.ofInt x).toBitVec.toNat : Int) := by
    have h3 : (Int32.ofInt x).toInt = (Int32.ofInt x).toBitVec.toInt := rfl
    have h4 := (Int32.ofInt x).toBitVec.isLt
    rw [h3, BitVec.toInt_eq_toNat_cond]
    split <;> omega
  rcases (by omega : i = 0 ∨ i = 1 ∨ i = 2 ∨ i = 3) with rfl | rfl | rfl | rfl
  · have h := pk_and (Int32.ofInt x >>> (Int32.ofInt 24 &&& 31)) (m := Int32.ofInt 255) 8 (by decide)
    have h2 := pk_shr (Int32.ofInt x) (Int32.ofInt 24 &&& 31) 24 (by decide)
    show ((Int32.ofInt x >>> (Int32.ofInt 24 &&& 31)) &&& Int32.ofInt 255).toInt = _
    rw [h, nI_toInt (by omega), e1, h2, Int.shiftRight_eq_div_pow]
    unfold wby
    rw [show ((((Int32.ofInt x).toBitVec.toNat / 2 ^ 24 % 256 : Nat)) : Int) = ((Int32.ofInt x).toBitVec.toNat : Int) / 2 ^ 24 % 256 by omega, ← e2]
    omega
  · have h := pk_and (Int32.ofInt x >>> (Int32.ofInt 16 &&& 31)) (m := Int32.ofInt 255) 8 (by decide)
    have h2 := pk_shr (Int32.ofInt x) (Int32.ofInt 16 &&& 31) 16 (by decide)
    show ((Int32.ofInt x >>> (Int32.ofInt 16 &&& 31)) &&& Int32.ofInt 255).toInt = _
    rw [h, nI_toInt (by omega), e1, h2, Int.shiftRight_eq_div_pow]
    unfold wby
    rw [show ((((Int32.ofInt x).toBitVec.toNat / 2 ^ 16 % 256 : Nat)) : Int) = ((Int32.ofInt x).toBitVec.toNat : Int) / 2 ^ 16 % 256 by omega, ← e2]
    omega
  · have h := pk_and (Int32.ofInt x >>> (Int32.ofInt 8 &&& 31)) (m := Int32.ofInt 255) 8 (by decide)
    have h2 := pk_shr (Int32.ofInt x) (Int32.ofInt 8 &&& 31) 8 (by decide)
    show ((Int32.ofInt x >>> (Int32.ofInt 8 &&& 31)) &&& Int32.ofInt 255).toInt = _
    rw [h, nI_toInt (by omega), e1, h2, Int.shiftRight_eq_div_pow]
    unfold wby
    rw [show ((((Int32.ofInt x).toBitVec.toNat / 2 ^ 8 % 256 : Nat)) : Int) = ((Int32.ofInt x).toBitVec.toNat : Int) / 2 ^ 8 % 256 by omega, ← e2]
    omega
  · have h := pk_and (Int32.ofInt x >>> (Int32.ofInt 0 &&& 31)) (m := Int32.ofInt 255) 8 (by decide)
    have h2 := pk_shr (Int32.ofInt x) (Int32.ofInt 0 &&& 31) 0 (by decide)
    show ((Int32.ofInt x >>> (Int32.ofInt 0 &&& 31)) &&& Int32.ofInt 255).toInt = _
    rw [h, nI_toInt (by omega), e1, h2, Int.shiftRight_eq_div_pow]
    unfold wby
    rw [show ((((Int32.ofInt x).toBitVec.toNat / 2 ^ 0 % 256 : Nat)) : Int) = ((Int32.ofInt x).toBitVec.toNat : Int) / 2 ^ 0 % 256 by omega, ← e2]
    omega
theorem jz_rem4 : ∀ i : Nat, i < 20 → (Int32.ofInt (i : Int) - Int32.ofInt (i : Int) / Int32.ofInt 4 * Int32.ofInt 4).toInt = ((i % 4 : Nat) : Int) := by decide
