/-! ===== a word put on the tape ===== -/
/-- a byte of a word, the highest first -/
def wby (w : Int) (i : Nat) : Int := (((Int32.ofInt w).toBitVec.toNat / 2 ^ (24 - 8 * i) % 256 : Nat) : Int)
theorem jz_byu (x : Int) (i : Nat) (hi : i < 4) : (Int32.ofInt ((((Int32.ofInt x).toUInt32 >>> ((Int32.ofInt ((24 : Int) - 8 * (i : Int))).toUInt32 &&& Int32.toUInt32 31)).toInt32).toInt) &&& Int32.ofInt 255).toInt = wby x i := by
  rw [Int32.ofInt_toInt]
  rcases (by omega : i = 0 ∨ i = 1 ∨ i = 2 ∨ i = 3) with rfl | rfl | rfl | rfl
  · have h := pk_and ((((Int32.ofInt x).toUInt32 >>> ((Int32.ofInt 24).toUInt32 &&& Int32.toUInt32 31)).toInt32)) (m := Int32.ofInt 255) 8 (by decide)
    show (((((Int32.ofInt x).toUInt32 >>> ((Int32.ofInt 24).toUInt32 &&& Int32.toUInt32 31)).toInt32)) &&& Int32.ofInt 255).toInt = _
    rw [h, pk_ushr (Int32.ofInt x) (Int32.ofInt 24) 24 (by decide), nI_toInt (by omega)]; rfl
  · have h := pk_and ((((Int32.ofInt x).toUInt32 >>> ((Int32.ofInt 16).toUInt32 &&& Int32.toUInt32 31)).toInt32)) (m := Int32.ofInt 255) 8 (by decide)
    show (((((Int32.ofInt x).toUInt32 >>> ((Int32.ofInt 16).toUInt32 &&& Int32.toUInt32 31)).toInt32)) &&& Int32.ofInt 255).toInt = _
    rw [h, pk_ushr (Int32.ofInt x) (Int32.ofInt 16) 16 (by decide), nI_toInt (by omega)]; rfl
  · have h := pk_and ((((Int32.ofInt x).toUInt32 >>> ((Int32.ofInt 8).toUInt32 &&& Int32.toUInt32 31)).toInt32)) (m := Int32.ofInt 255) 8 (by decide)
    show (((((Int32.ofInt x).toUInt32 >>> ((Int32.ofInt 8).toUInt32 &&& Int32.toUInt32 31)).toInt32)) &&& Int32.ofInt 255).toInt = _
    rw [h, pk_ushr (Int32.ofInt x) (Int32.ofInt 8) 8 (by decide), nI_toInt (by omega)]; rfl
  · have h := pk_and ((((Int32.ofInt x).toUInt32 >>> ((Int32.ofInt 0).toUInt32 &&& Int32.toUInt32 31)).toInt32)) (m := Int32.ofInt 255) 8 (by decide)
    show (((((Int32.ofInt x).toUInt32 >>> ((Int32.ofInt 0).toUInt32 &&& Int32.toUInt32 31)).toInt32)) &&& Int32.ofInt 255).toInt = _
    rw [h, pk_ushr (Int32.ofInt x) (Int32.ofInt 0) 0 (by decide), nI_toInt (by omega)]; rfl
