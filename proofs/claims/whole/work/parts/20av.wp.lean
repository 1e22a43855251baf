/-! ===== what the codes ask: the last methods ===== -/
theorem jy_rokC {x : Int} (h : 0 ≤ x ∧ x < 65536) : jx_rok (some .char) (Int32.ofInt x) := by
  obtain ⟨n, rfl⟩ := Int.eq_ofNat_of_zero_le h.1
  have e : Int32.ofInt (n : Int) = nI n := by
    unfold nI
    first | rfl | simp
  show narrow .char (.int (Int32.ofInt (n : Int))) = .int (Int32.ofInt (n : Int))
  rw [e]
  exact (pk_charN (by omega)).1
theorem jt_327 : jx_ml 327 = 1 ∧ jx_rt 327 = some .int ∧ jx_hz 327 = [] ∧ decide ((jx_nm 327).name = "<init>") = false ∧ jx_code 327 = jx_c327 := by decide +kernel
/-- java/lang/Integer.bitCount -/
def wz_327 (V : jx_V) (X : jx_X) (R : jx_R) (Q : Option Value → jx_I → Prop) (QE : String → jx_I → Prop)  (a0 : Int) (I : jx_I) : Prop :=
  Q (some (jy ((Int32.ofInt (((Int32.ofInt (((Int32.ofInt (a0 - (Int32.ofInt ((((Int32.ofInt a0).toUInt32 >>> ((Int32.ofInt 1).toUInt32 &&& Int32.toUInt32 31)).toInt32).toInt) &&& Int32.ofInt 1431655765).toInt) &&& Int32.ofInt 858993459).toInt + (Int32.ofInt ((((Int32.ofInt (a0 - (Int32.ofInt ((((Int32.ofInt a0).toUInt32 >>> ((Int32.ofInt 1).toUInt32 &&& Int32.toUInt32 31)).toInt32).toInt) &&& Int32.ofInt 1431655765).toInt)).toUInt32 >>> ((Int32.ofInt 2).toUInt32 &&& Int32.toUInt32 31)).toInt32).toInt) &&& Int32.ofInt 858993459).toInt) + (((Int32.ofInt ((Int32.ofInt (a0 - (Int32.ofInt ((((Int32.ofInt a0).toUInt32 >>> ((Int32.ofInt 1).toUInt32 &&& Int32.toUInt32 31)).toInt32).toInt) &&& Int32.ofInt 1431655765).toInt) &&& Int32.ofInt 858993459).toInt + (Int32.ofInt ((((Int32.ofInt (a0 - (Int32.ofInt ((((Int32.ofInt a0).toUInt32 >>> ((Int32.ofInt 1).toUInt32 &&& Int32.toUInt32 31)).toInt32).toInt) &&& Int32.ofInt 1431655765).toInt)).toUInt32 >>> ((Int32.ofInt 2).toUInt32 &&& Int32.toUInt32 31)).toInt32).toInt) &&& Int32.ofInt 858993459).toInt)).toUInt32 >>> ((Int32.ofInt 4).toUInt32 &&& Int32.toUInt32 31)).toInt32).toInt) &&& Int32.ofInt 252645135).toInt + (((Int32.ofInt ((Int32.ofInt (((Int32.ofInt (a0 - (Int32.ofInt ((((Int32.ofInt a0).toUInt32 >>> ((Int32.ofInt 1).toUInt32 &&& Int32.toUInt32 31)).toInt32).toInt) &&& Int32.ofInt 1431655765).toInt) &&& Int32.ofInt 858993459).toInt + (Int32.ofInt ((((Int32.ofInt (a0 - (Int32.ofInt ((((Int32.ofInt a0).toUInt32 >>> ((Int32.ofInt 1).toUInt32 &&& Int32.toUInt32 31)).toInt32).toInt) &&& Int32.ofInt 1431655765).toInt)).toUInt32 >>> ((Int32.ofInt 2).toUInt32 &&& Int32.toUInt32 31)).toInt32).toInt) &&& Int32.ofInt 858993459).toInt) + (((Int32.ofInt ((Int32.ofInt (a0 - (Int32.ofInt ((((Int32.ofInt a0).toUInt32 >>> ((Int32.ofInt 1).toUInt32 &&& Int32.toUInt32 31)).toInt32).toInt) &&& Int32.ofInt 1431655765).toInt) &&& Int32.ofInt 858993459).toInt + (Int32.ofInt ((((Int32.ofInt (a0 - (Int32.ofInt ((((Int32.ofInt a0).toUInt32 >>> ((Int32.ofInt 1).toUInt32 &&& Int32.toUInt32 31)).toInt32).toInt) &&& Int32.ofInt 1431655765).toInt)).toUInt32 >>> ((Int32.ofInt 2).toUInt32 &&& Int32.toUInt32 31)).toInt32).toInt) &&& Int32.ofInt 858993459).toInt)).toUInt32 >>> ((Int32.ofInt 4).toUInt32 &&& Int32.toUInt32 31)).toInt32).toInt) &&& Int32.ofInt 252645135).toInt)).toUInt32 >>> ((Int32.ofInt 8).toUInt32 &&& Int32.toUInt32 31)).toInt32).toInt) + (((Int32.ofInt ((Int32.ofInt (((Int32.ofInt (a0 - (Int32.ofInt ((((Int32.ofInt a0).toUInt32 >>> ((Int32.ofInt 1).toUInt32 &&& Int32.toUInt32 31)).toInt32).toInt) &&& Int32.ofInt 1431655765).toInt) &&& Int32.ofInt 858993459).toInt + (Int32.ofInt ((((Int32.ofInt (a0 - (Int32.ofInt ((((Int32.ofInt a0).toUInt32 >>> ((Int32.ofInt 1).toUInt32 &&& Int32.toUInt32 31)).toInt32).toInt) &&& Int32.ofInt 1431655765).toInt)).toUInt32 >>> ((Int32.ofInt 2).toUInt32 &&& Int32.toUInt32 31)).toInt32).toInt) &&& Int32.ofInt 858993459).toInt) + (((Int32.ofInt ((Int32.ofInt (a0 - (Int32.ofInt ((((Int32.ofInt a0).toUInt32 >>> ((Int32.ofInt 1).toUInt32 &&& Int32.toUInt32 31)).toInt32).toInt) &&& Int32.ofInt 1431655765).toInt) &&& Int32.ofInt 858993459).toInt + (Int32.ofInt ((((Int32.ofInt (a0 - (Int32.ofInt ((((Int32.ofInt a0).toUInt32 >>> ((Int32.ofInt 1).toUInt32 &&& Int32.toUInt32 31)).toInt32).toInt) &&& Int32.ofInt 1431655765).toInt)).toUInt32 >>> ((Int32.ofInt 2).toUInt32 &&& Int32.toUInt32 31)).toInt32).toInt) &&& Int32.ofInt 858993459).toInt)).toUInt32 >>> ((Int32.ofInt 4).toUInt32 &&& Int32.toUInt32 31)).toInt32).toInt) &&& Int32.ofInt 252645135).toInt + (((Int32.ofInt ((Int32.ofInt (((Int32.ofInt (a0 - (Int32.ofInt ((((Int32.ofInt a0).toUInt32 >>> ((Int32.ofInt 1).toUInt32 &&& Int32.toUInt32 31)).toInt32).toInt) &&& Int32.ofInt 1431655765).toInt) &&& Int32.ofInt 858993459).toInt + (Int32.ofInt ((((Int32.ofInt (a0 - (Int32.ofInt ((((Int32.ofInt a0).toUInt32 >>> ((Int32.ofInt 1).toUInt32 &&& Int32.toUInt32 31)).toInt32).toInt) &&& Int32.ofInt 1431655765).toInt)).toUInt32 >>> ((Int32.ofInt 2).toUInt32 &&& Int32.toUInt32 31)).toInt32).toInt) &&& Int32.ofInt 858993459).toInt) + (((Int32.ofInt ((Int32.ofInt (a0 - (Int32.ofInt ((((Int32.ofInt a0).toUInt32 >>> ((Int32.ofInt 1).toUInt32 &&& Int32.toUInt32 31)).toInt32).toInt) &&& Int32.ofInt 1431655765).toInt) &&& Int32.ofInt 858993459).toInt + (Int32.ofInt ((((Int32.ofInt (a0 - (Int32.ofInt ((((Int32.ofInt a0).toUInt32 >>> ((Int32.ofInt 1).toUInt32 &&& Int32.toUInt32 31)).toInt32).toInt) &&& Int32.ofInt 1431655765).toInt)).toUInt32 >>> ((Int32.ofInt 2).toUInt32 &&& Int32.toUInt32 31)).toInt32).toInt) &&& Int32.ofInt 858993459).toInt)).toUInt32 >>> ((Int32.ofInt 4).toUInt32 &&& Int32.toUInt32 31)).toInt32).toInt) &&& Int32.ofInt 252645135).toInt)).toUInt32 >>> ((Int32.ofInt 8).toUInt32 &&& Int32.toUInt32 31)).toInt32).toInt)).toUInt32 >>> ((Int32.ofInt 16).toUInt32 &&& Int32.toUInt32 31)).toInt32).toInt) &&& Int32.ofInt 63).toInt))) I
set_option maxRecDepth 20000 in
theorem wm_327 {V : jx_V} (hV : V.1.stackTraces = false) {X : jx_X} {R : jx_R} {I : jx_I} {Q : Option Value → jx_I → Prop} {QE : String → jx_I → Prop} {a0 : Int} (r_a0 : -2147483648 ≤ a0 ∧ a0 < 2147483648) 
    (h : wz_327 V X R Q QE  a0 I) : jc V 1 327 (0, 0) [jy a0] X I R Q QE := by
  refine jy_met hV (by decide) (n := 1) (rt := some .int) (hh := []) (ini := false) (C := jx_c327) (L := [some (jy a0)]) jt_327 (Nat.le_of_ble_eq_true rfl) rfl ?_
  intro J hS
  unfold wz_327 at h
  refine jy_iload_n hS rfl rfl ?_
  refine jy_iload_n hS rfl rfl ?_
  refine jy_iconst hS rfl ?_
  refine jy_iushrX hS rfl rfl ?_
  refine jy_ldcw hS rfl (n := 1431655765) (by decide) ?_
  refine jy_iandX hS rfl rfl ?_
  refine jy_isub hS rfl ?_
  refine jy_istore_n hS rfl (Nat.le_of_ble_eq_true rfl) (L' := [some (jy (a0 - (Int32.ofInt ((((Int32.ofInt a0).toUInt32 >>> ((Int32.ofInt 1).toUInt32 &&& Int32.toUInt32 31)).toInt32).toInt) &&& Int32.ofInt 1431655765).toInt))]) rfl ?_
  refine jy_iload_n hS rfl rfl ?_
  refine jy_ldcw hS rfl (n := 858993459) (by decide) ?_
  refine jy_iandX hS rfl rfl ?_
  refine jy_iload_n hS rfl rfl ?_
  refine jy_iconst hS rfl ?_
  refine jy_iushrX hS rfl rfl ?_
  refine jy_ldcw hS rfl (n := 858993459) (by decide) ?_
  refine jy_iandX hS rfl rfl ?_
  refine jy_iadd hS rfl ?_
  refine jy_istore_n hS rfl (Nat.le_of_ble_eq_true rfl) (L' := [some (jy ((Int32.ofInt (a0 - (Int32.ofInt ((((Int32.ofInt a0).toUInt32 >>> ((Int32.ofInt 1).toUInt32 &&& Int32.toUInt32 31)).toInt32).toInt) &&& Int32.ofInt 1431655765).toInt) &&& Int32.ofInt 858993459).toInt + (Int32.ofInt ((((Int32.ofInt (a0 - (Int32.ofInt ((((Int32.ofInt a0).toUInt32 >>> ((Int32.ofInt 1).toUInt32 &&& Int32.toUInt32 31)).toInt32).toInt) &&& Int32.ofInt 1431655765).toInt)).toUInt32 >>> ((Int32.ofInt 2).toUInt32 &&& Int32.toUInt32 31)).toInt32).toInt) &&& Int32.ofInt 858993459).toInt))]) rfl ?_
  refine jy_iload_n hS rfl rfl ?_
  refine jy_iload_n hS rfl rfl ?_
  refine jy_iconst hS rfl ?_
  refine jy_iushrX hS rfl rfl ?_
  refine jy_iadd hS rfl ?_
  refine jy_ldcw hS rfl (n := 252645135) (by decide) ?_
  refine jy_iandX hS rfl rfl ?_
  refine jy_istore_n hS rfl (Nat.le_of_ble_eq_true rfl) (L' := [some (jy ((Int32.ofInt (((Int32.ofInt (a0 - (Int32.ofInt ((((Int32.ofInt a0).toUInt32 >>> ((Int32.ofInt 1).toUInt32 &&& Int32.toUInt32 31)).toInt32).toInt) &&& Int32.ofInt 1431655765).toInt) &&& Int32.ofInt 858993459).toInt + (Int32.ofInt ((((Int32.ofInt (a0 - (Int32.ofInt ((((Int32.ofInt a0).toUInt32 >>> ((Int32.ofInt 1).toUInt32 &&& Int32.toUInt32 31)).toInt32).toInt) &&& Int32.ofInt 1431655765).toInt)).toUInt32 >>> ((Int32.ofInt 2).toUInt32 &&& Int32.toUInt32 31)).toInt32).toInt) &&& Int32.ofInt 858993459).toInt) + (((Int32.ofInt ((Int32.ofInt (a0 - (Int32.ofInt ((((Int32.ofInt a0).toUInt32 >>> ((Int32.ofInt 1).toUInt32 &&& Int32.toUInt32 31)).toInt32).toInt) &&& Int32.ofInt 1431655765).toInt) &&& Int32.ofInt 858993459).toInt + (Int32.ofInt ((((Int32.ofInt (a0 - (Int32.ofInt ((((Int32.ofInt a0).toUInt32 >>> ((Int32.ofInt 1).toUInt32 &&& Int32.toUInt32 31)).toInt32).toInt) &&& Int32.ofInt 1431655765).toInt)).toUInt32 >>> ((Int32.ofInt 2).toUInt32 &&& Int32.toUInt32 31)).toInt32).toInt) &&& Int32.ofInt 858993459).toInt)).toUInt32 >>> ((Int32.ofInt 4).toUInt32 &&& Int32.toUInt32 31)).toInt32).toInt) &&& Int32.ofInt 252645135).toInt))]) rfl ?_
  refine jy_iload_n hS rfl rfl ?_
  refine jy_iload_n hS rfl rfl ?_
  refine jy_bipush hS rfl (by decide) ?_
  refine jy_iushrX hS rfl rfl ?_
  refine jy_iadd hS rfl ?_
  refine jy_istore_n hS rfl (Nat.le_of_ble_eq_true rfl) (L' := [some (jy ((Int32.ofInt (((Int32.ofInt (a0 - (Int32.ofInt ((((Int32.ofInt a0).toUInt32 >>> ((Int32.ofInt 1).toUInt32 &&& Int32.toUInt32 31)).toInt32).toInt) &&& Int32.ofInt 1431655765).toInt) &&& Int32.ofInt 858993459).toInt + (Int32.ofInt ((((Int32.ofInt (a0 - (Int32.ofInt ((((Int32.ofInt a0).toUInt32 >>> ((Int32.ofInt 1).toUInt32 &&& Int32.toUInt32 31)).toInt32).toInt) &&& Int32.ofInt 1431655765).toInt)).toUInt32 >>> ((Int32.ofInt 2).toUInt32 &&& Int32.toUInt32 31)).toInt32).toInt) &&& Int32.ofInt 858993459).toInt) + (((Int32.ofInt ((Int32.ofInt (a0 - (Int32.ofInt ((((Int32.ofInt a0).toUInt32 >>> ((Int32.ofInt 1).toUInt32 &&& Int32.toUInt32 31)).toInt32).toInt) &&& Int32.ofInt 1431655765).toInt) &&& Int32.ofInt 858993459).toInt + (Int32.ofInt ((((Int32.ofInt (a0 - (Int32.ofInt ((((Int32.ofInt a0).toUInt32 >>> ((Int32.ofInt 1).toUInt32 &&& Int32.toUInt32 31)).toInt32).toInt) &&& Int32.ofInt 1431655765).toInt)).toUInt32 >>> ((Int32.ofInt 2).toUInt32 &&& Int32.toUInt32 31)).toInt32).toInt) &&& Int32.ofInt 858993459).toInt)).toUInt32 >>> ((Int32.ofInt 4).toUInt32 &&& Int32.toUInt32 31)).toInt32).toInt) &&& Int32.ofInt 252645135).toInt + (((Int32.ofInt ((Int32.ofInt (((Int32.ofInt (a0 - (Int32.ofInt ((((Int32.ofInt a0).toUInt32 >>> ((Int32.ofInt 1).toUInt32 &&& Int32.toUInt32 31)).toInt32).toInt) &&& Int32.ofInt 1431655765).toInt) &&& Int32.ofInt 858993459).toInt + (Int32.ofInt ((((Int32.ofInt (a0 - (Int32.ofInt ((((Int32.ofInt a0).toUInt32 >>> ((Int32.ofInt 1).toUInt32 &&& Int32.toUInt32 31)).toInt32).toInt) &&& Int32.ofInt 1431655765).toInt)).toUInt32 >>> ((Int32.ofInt 2).toUInt32 &&& Int32.toUInt32 31)).toInt32).toInt) &&& Int32.ofInt 858993459).toInt) + (((Int32.ofInt ((Int32.ofInt (a0 - (Int32.ofInt ((((Int32.ofInt a0).toUInt32 >>> ((Int32.ofInt 1).toUInt32 &&& Int32.toUInt32 31)).toInt32).toInt) &&& Int32.ofInt 1431655765).toInt) &&& Int32.ofInt 858993459).toInt + (Int32.ofInt ((((Int32.ofInt (a0 - (Int32.ofInt ((((Int32.ofInt a0).toUInt32 >>> ((Int32.ofInt 1).toUInt32 &&& Int32.toUInt32 31)).toInt32).toInt) &&& Int32.ofInt 1431655765).toInt)).toUInt32 >>> ((Int32.ofInt 2).toUInt32 &&& Int32.toUInt32 31)).toInt32).toInt) &&& Int32.ofInt 858993459).toInt)).toUInt32 >>> ((Int32.ofInt 4).toUInt32 &&& Int32.toUInt32 31)).toInt32).toInt) &&& Int32.ofInt 252645135).toInt)).toUInt32 >>> ((Int32.ofInt 8).toUInt32 &&& Int32.toUInt32 31)).toInt32).toInt))]) rfl ?_
  refine jy_iload_n hS rfl rfl ?_
  refine jy_iload_n hS rfl rfl ?_
  refine jy_bipush hS rfl (by decide) ?_
  refine jy_iushrX hS rfl rfl ?_
  refine jy_iadd hS rfl ?_
  refine jy_istore_n hS rfl (Nat.le_of_ble_eq_true rfl) (L' := [some (jy (((Int32.ofInt (((Int32.ofInt (a0 - (Int32.ofInt ((((Int32.ofInt a0).toUInt32 >>> ((Int32.ofInt 1).toUInt32 &&& Int32.toUInt32 31)).toInt32).toInt) &&& Int32.ofInt 1431655765).toInt) &&& Int32.ofInt 858993459).toInt + (Int32.ofInt ((((Int32.ofInt (a0 - (Int32.ofInt ((((Int32.ofInt a0).toUInt32 >>> ((Int32.ofInt 1).toUInt32 &&& Int32.toUInt32 31)).toInt32).toInt) &&& Int32.ofInt 1431655765).toInt)).toUInt32 >>> ((Int32.ofInt 2).toUInt32 &&& Int32.toUInt32 31)).toInt32).toInt) &&& Int32.ofInt 858993459).toInt) + (((Int32.ofInt ((Int32.ofInt (a0 - (Int32.ofInt ((((Int32.ofInt a0).toUInt32 >>> ((Int32.ofInt 1).toUInt32 &&& Int32.toUInt32 31)).toInt32).toInt) &&& Int32.ofInt 1431655765).toInt) &&& Int32.ofInt 858993459).toInt + (Int32.ofInt ((((Int32.ofInt (a0 - (Int32.ofInt ((((Int32.ofInt a0).toUInt32 >>> ((Int32.ofInt 1).toUInt32 &&& Int32.toUInt32 31)).toInt32).toInt) &&& Int32.ofInt 1431655765).toInt)).toUInt32 >>> ((Int32.ofInt 2).toUInt32 &&& Int32.toUInt32 31)).toInt32).toInt) &&& Int32.ofInt 858993459).toInt)).toUInt32 >>> ((Int32.ofInt 4).toUInt32 &&& Int32.toUInt32 31)).toInt32).toInt) &&& Int32.ofInt 252645135).toInt + (((Int32.ofInt ((Int32.ofInt (((Int32.ofInt (a0 - (Int32.ofInt ((((Int32.ofInt a0).toUInt32 >>> ((Int32.ofInt 1).toUInt32 &&& Int32.toUInt32 31)).toInt32).toInt) &&& Int32.ofInt 1431655765).toInt) &&& Int32.ofInt 858993459).toInt + (Int32.ofInt ((((Int32.ofInt (a0 - (Int32.ofInt ((((Int32.ofInt a0).toUInt32 >>> ((Int32.ofInt 1).toUInt32 &&& Int32.toUInt32 31)).toInt32).toInt) &&& Int32.ofInt 1431655765).toInt)).toUInt32 >>> ((Int32.ofInt 2).toUInt32 &&& Int32.toUInt32 31)).toInt32).toInt) &&& Int32.ofInt 858993459).toInt) + (((Int32.ofInt ((Int32.ofInt (a0 - (Int32.ofInt ((((Int32.ofInt a0).toUInt32 >>> ((Int32.ofInt 1).toUInt32 &&& Int32.toUInt32 31)).toInt32).toInt) &&& Int32.ofInt 1431655765).toInt) &&& Int32.ofInt 858993459).toInt + (Int32.ofInt ((((Int32.ofInt (a0 - (Int32.ofInt ((((Int32.ofInt a0).toUInt32 >>> ((Int32.ofInt 1).toUInt32 &&& Int32.toUInt32 31)).toInt32).toInt) &&& Int32.ofInt 1431655765).toInt)).toUInt32 >>> ((Int32.ofInt 2).toUInt32 &&& Int32.toUInt32 31)).toInt32).toInt) &&& Int32.ofInt 858993459).toInt)).toUInt32 >>> ((Int32.ofInt 4).toUInt32 &&& Int32.toUInt32 31)).toInt32).toInt) &&& Int32.ofInt 252645135).toInt)).toUInt32 >>> ((Int32.ofInt 8).toUInt32 &&& Int32.toUInt32 31)).toInt32).toInt) + (((Int32.ofInt ((Int32.ofInt (((Int32.ofInt (a0 - (Int32.ofInt ((((Int32.ofInt a0).toUInt32 >>> ((Int32.ofInt 1).toUInt32 &&& Int32.toUInt32 31)).toInt32).toInt) &&& Int32.ofInt 1431655765).toInt) &&& Int32.ofInt 858993459).toInt + (Int32.ofInt ((((Int32.ofInt (a0 - (Int32.ofInt ((((Int32.ofInt a0).toUInt32 >>> ((Int32.ofInt 1).toUInt32 &&& Int32.toUInt32 31)).toInt32).toInt) &&& Int32.ofInt 1431655765).toInt)).toUInt32 >>> ((Int32.ofInt 2).toUInt32 &&& Int32.toUInt32 31)).toInt32).toInt) &&& Int32.ofInt 858993459).toInt) + (((Int32.ofInt ((Int32.ofInt (a0 - (Int32.ofInt ((((Int32.ofInt a0).toUInt32 >>> ((Int32.ofInt 1).toUInt32 &&& Int32.toUInt32 31)).toInt32).toInt) &&& Int32.ofInt 1431655765).toInt) &&& Int32.ofInt 858993459).toInt + (Int32.ofInt ((((Int32.ofInt (a0 - (Int32.ofInt ((((Int32.ofInt a0).toUInt32 >>> ((Int32.ofInt 1).toUInt32 &&& Int32.toUInt32 31)).toInt32).toInt) &&& Int32.ofInt 1431655765).toInt)).toUInt32 >>> ((Int32.ofInt 2).toUInt32 &&& Int32.toUInt32 31)).toInt32).toInt) &&& Int32.ofInt 858993459).toInt)).toUInt32 >>> ((Int32.ofInt 4).toUInt32 &&& Int32.toUInt32 31)).toInt32).toInt) &&& Int32.ofInt 252645135).toInt + (((Int32.ofInt ((Int32.ofInt (((Int32.ofInt (a0 - (Int32.ofInt ((((Int32.ofInt a0).toUInt32 >>> ((Int32.ofInt 1).toUInt32 &&& Int32.toUInt32 31)).toInt32).toInt) &&& Int32.ofInt 1431655765).toInt) &&& Int32.ofInt 858993459).toInt + (Int32.ofInt ((((Int32.ofInt (a0 - (Int32.ofInt ((((Int32.ofInt a0).toUInt32 >>> ((Int32.ofInt 1).toUInt32 &&& Int32.toUInt32 31)).toInt32).toInt) &&& Int32.ofInt 1431655765).toInt)).toUInt32 >>> ((Int32.ofInt 2).toUInt32 &&& Int32.toUInt32 31)).toInt32).toInt) &&& Int32.ofInt 858993459).toInt) + (((Int32.ofInt ((Int32.ofInt (a0 - (Int32.ofInt ((((Int32.ofInt a0).toUInt32 >>> ((Int32.ofInt 1).toUInt32 &&& Int32.toUInt32 31)).toInt32).toInt) &&& Int32.ofInt 1431655765).toInt) &&& Int32.ofInt 858993459).toInt + (Int32.ofInt ((((Int32.ofInt (a0 - (Int32.ofInt ((((Int32.ofInt a0).toUInt32 >>> ((Int32.ofInt 1).toUInt32 &&& Int32.toUInt32 31)).toInt32).toInt) &&& Int32.ofInt 1431655765).toInt)).toUInt32 >>> ((Int32.ofInt 2).toUInt32 &&& Int32.toUInt32 31)).toInt32).toInt) &&& Int32.ofInt 858993459).toInt)).toUInt32 >>> ((Int32.ofInt 4).toUInt32 &&& Int32.toUInt32 31)).toInt32).toInt) &&& Int32.ofInt 252645135).toInt)).toUInt32 >>> ((Int32.ofInt 8).toUInt32 &&& Int32.toUInt32 31)).toInt32).toInt)).toUInt32 >>> ((Int32.ofInt 16).toUInt32 &&& Int32.toUInt32 31)).toInt32).toInt))]) rfl ?_
  refine jy_iload_n hS rfl rfl ?_
  refine jy_bipush hS rfl (by decide) ?_
  refine jy_iandX hS rfl rfl ?_
  exact jy_iret hS rfl rfl ⟨rfl, rfl, h⟩
theorem jt_328 : jx_ml 328 = 2 ∧ jx_rt 328 = some .int ∧ jx_hz 328 = [] ∧ decide ((jx_nm 328).name = "<init>") = false ∧ jx_code 328 = jx_c328 := by decide +kernel
/-- java/lang/Math.max -/
def wz_328 (V : jx_V) (X : jx_X) (R : jx_R) (Q : Option Value → jx_I → Prop) (QE : String → jx_I → Prop)  (a0 : Int) (a1 : Int) (I : jx_I) : Prop :=
  (a0 < a1 → (
    Q (some (jy a1)) I
  )) ∧ (¬ a0 < a1 → (
    Q (some (jy a0)) I
  ))
set_option maxRecDepth 20000 in
theorem wm_328 {V : jx_V} (hV : V.1.stackTraces = false) {X : jx_X} {R : jx_R} {I : jx_I} {Q : Option Value → jx_I → Prop} {QE : String → jx_I → Prop} {a0 : Int} {a1 : Int} (r_a0 : -2147483648 ≤ a0 ∧ a0 < 2147483648) (r_a1 : -2147483648 ≤ a1 ∧ a1 < 2147483648) 
    (h : wz_328 V X R Q QE  a0 a1 I) : jc V 1 328 (0, 0) [jy a0, jy a1] X I R Q QE := by
  refine jy_met hV (by decide) (n := 2) (rt := some .int) (hh := []) (ini := false) (C := jx_c328) (L := [some (jy a0), some (jy a1)]) jt_328 (Nat.le_of_ble_eq_true rfl) rfl ?_
  intro J hS
  unfold wz_328 at h
  refine jy_iload_n hS rfl rfl ?_
  refine jy_iload_n hS rfl rfl ?_
  refine jy_icmp_lt hS rfl ⟨r_a0, r_a1⟩ (fun hq => ?_) (fun hq => ?_)
  · have h := h.1 hq
    refine jy_iload_n hS rfl rfl ?_
    exact jy_iret hS rfl rfl ⟨rfl, rfl, h⟩
  · have h := h.2 hq
    refine jy_iload_n hS rfl rfl ?_
    refine jy_goto hS rfl ?_
    exact jy_iret hS rfl rfl ⟨rfl, rfl, h⟩
theorem jt_329 : jx_ml 329 = 2 ∧ jx_rt 329 = some .int ∧ jx_hz 329 = [] ∧ decide ((jx_nm 329).name = "<init>") = false ∧ jx_code 329 = jx_c329 := by decide +kernel
/-- java/lang/Math.min -/
def wz_329 (V : jx_V) (X : jx_X) (R : jx_R) (Q : Option Value → jx_I → Prop) (QE : String → jx_I → Prop)  (a0 : Int) (a1 : Int) (I : jx_I) : Prop :=
  (a1 < a0 → (
    Q (some (jy a1)) I
  )) ∧ (¬ a1 < a0 → (
    Q (some (jy a0)) I
  ))
set_option maxRecDepth 20000 in
theorem wm_329 {V : jx_V} (hV : V.1.stackTraces = false) {X : jx_X} {R : jx_R} {I : jx_I} {Q : Option Value → jx_I → Prop} {QE : String → jx_I → Prop} {a0 : Int} {a1 : Int} (r_a0 : -2147483648 ≤ a0 ∧ a0 < 2147483648) (r_a1 : -2147483648 ≤ a1 ∧ a1 < 2147483648) 
    (h : wz_329 V X R Q QE  a0 a1 I) : jc V 1 329 (0, 0) [jy a0, jy a1] X I R Q QE := by
  refine jy_met hV (by decide) (n := 2) (rt := some .int) (hh := []) (ini := false) (C := jx_c329) (L := [some (jy a0), some (jy a1)]) jt_329 (Nat.le_of_ble_eq_true rfl) rfl ?_
  intro J hS
  unfold wz_329 at h
  refine jy_iload_n hS rfl rfl ?_
  refine jy_iload_n hS rfl rfl ?_
  refine jy_icmp_gt hS rfl ⟨r_a0, r_a1⟩ (fun hq => ?_) (fun hq => ?_)
  · have h := h.1 hq
    refine jy_iload_n hS rfl rfl ?_
    exact jy_iret hS rfl rfl ⟨rfl, rfl, h⟩
  · have h := h.2 hq
    refine jy_iload_n hS rfl rfl ?_
    refine jy_goto hS rfl ?_
    exact jy_iret hS rfl rfl ⟨rfl, rfl, h⟩
theorem jt_330 : jx_ml 330 = 1 ∧ jx_rt 330 = some .int ∧ jx_hz 330 = [] ∧ decide ((jx_nm 330).name = "<init>") = false ∧ jx_code 330 = jx_c330 := by decide +kernel
/-- java/lang/String.length -/
def wz_330 (V : jx_V) (X : jx_X) (R : jx_R) (Q : Option Value → jx_I → Prop) (QE : String → jx_I → Prop)  (a0 : Nat) (I : jx_I) : Prop :=
  ∃ Q1 : Option Value → jx_I → Prop, (
  (jc V 1 332 (0, 0) [.ref (V.2.2.2.1 a0)] X I R Q1 (fun _ _ => False)) ∧ (
  ∀ rv I3, Q1 rv I3 → ∃ r4 : Int, rv = some (jy r4) ∧ (
  Q (some (jy ((Int32.ofInt ((jx_sb a0).length : Int) >>> (Int32.ofInt r4 &&& 31)).toInt))) I3)))
set_option maxRecDepth 20000 in
theorem wm_330 {V : jx_V} (hV : V.1.stackTraces = false) {X : jx_X} {R : jx_R} {I : jx_I} {Q : Option Value → jx_I → Prop} {QE : String → jx_I → Prop} {a0 : Nat}  (h_a0 : a0 < 34)
    (h : wz_330 V X R Q QE  a0 I) : jc V 2 330 (0, 0) [.ref (V.2.2.2.1 a0)] X I R Q QE := by
  refine jy_met hV (by decide) (n := 1) (rt := some .int) (hh := []) (ini := false) (C := jx_c330) (L := [some (.ref (V.2.2.2.1 a0))]) jt_330 (Nat.le_of_ble_eq_true rfl) rfl ?_
  intro J hS
  unfold wz_330 at h
  refine jy_aload_n hS rfl rfl ?_
  refine jy_strV hS rfl h_a0 ?_
  refine jy_blen hS rfl h_a0 ?_
  refine jy_aload_n hS rfl rfl ?_
  obtain ⟨Q1, h⟩ := h
  obtain ⟨g2, h⟩ := h
  refine jy_callV hS rfl rfl rfl (Nat.le_of_ble_eq_true rfl) (Or.inr ⟨rfl, a0, h_a0, rfl⟩) g2 (by decide) ⟨by decide, by decide⟩ (Nat.le_of_ble_eq_true rfl) ?_ ?_
  rotate_left
  · exact fun Ex Xx Ix Rx hp => hp.2.2.2.elim
  intro rv Xx I3 Rx hp
  obtain ⟨e1, e2, hp⟩ := hp
  rw [e1, e2]
  clear e1 e2
  obtain ⟨r4, e1, h⟩ := h rv I3 hp
  rw [e1]
  clear e1
  change J 9 [jy r4, jy ((jx_sb a0).length : Int)] _ (0, 0) _ _ _
  refine jy_ishrX hS rfl rfl ?_
  exact jy_iret hS rfl rfl ⟨rfl, rfl, h⟩
theorem jt_331 : jx_ml 331 = 2 ∧ jx_rt 331 = some .char ∧ jx_hz 331 = [] ∧ decide ((jx_nm 331).name = "<init>") = false ∧ jx_code 331 = jx_c331 := by decide +kernel
/-- java/lang/String.charAt -/
def wz_331 (V : jx_V) (X : jx_X) (R : jx_R) (Q : Option Value → jx_I → Prop) (QE : String → jx_I → Prop)  (a0 : Nat) (a1 : Int) (I : jx_I) : Prop :=
  ∃ Q1 : Option Value → jx_I → Prop, (
  (jc V 1 333 (0, 0) [.ref (V.2.2.2.1 a0)] X I R Q1 (fun _ _ => False)) ∧ (
  ∀ rv I3, Q1 rv I3 → ∃ r4 : Int, rv = some (jy r4) ∧ (
  (-2147483648 ≤ r4 ∧ r4 < 2147483648) ∧ (
  (r4 = 0 → (
    False
  )) ∧ (¬ r4 = 0 → (
    ∃ Q6 : Option Value → jx_I → Prop, (
    (jc V 3 335 (0, 0) [.ref (V.2.2.2.2.1 a0), jy a1] X I3 R Q6 (fun _ _ => False)) ∧ (
    ∀ rv I8, Q6 rv I8 → ∃ r9 : Int, rv = some (jy r9) ∧ (
    (0 ≤ r9 ∧ r9 < 65536) ∧ (
    Q (some (jy r9)) I8))))
  ))))))
set_option maxRecDepth 20000 in
theorem wm_331 {V : jx_V} (hV : V.1.stackTraces = false) {X : jx_X} {R : jx_R} {I : jx_I} {Q : Option Value → jx_I → Prop} {QE : String → jx_I → Prop} {a0 : Nat} {a1 : Int} (r_a1 : -2147483648 ≤ a1 ∧ a1 < 2147483648) (h_a0 : a0 < 34)
    (h : wz_331 V X R Q QE  a0 a1 I) : jc V 4 331 (0, 0) [.ref (V.2.2.2.1 a0), jy a1] X I R Q QE := by
  refine jy_met hV (by decide) (n := 2) (rt := some .char) (hh := []) (ini := false) (C := jx_c331) (L := [some (.ref (V.2.2.2.1 a0)), some (jy a1)]) jt_331 (Nat.le_of_ble_eq_true rfl) rfl ?_
  intro J hS
  unfold wz_331 at h
  refine jy_aload_n hS rfl rfl ?_
  obtain ⟨Q1, h⟩ := h
  obtain ⟨g2, h⟩ := h
  refine jy_callV hS rfl rfl rfl (Nat.le_of_ble_eq_true rfl) (Or.inr ⟨rfl, a0, h_a0, rfl⟩) g2 (by decide) ⟨by decide, by decide⟩ (Nat.le_of_ble_eq_true rfl) ?_ ?_
  rotate_left
  · exact fun Ex Xx Ix Rx hp => hp.2.2.2.elim
  intro rv Xx I3 Rx hp
  obtain ⟨e1, e2, hp⟩ := hp
  rw [e1, e2]
  clear e1 e2
  obtain ⟨r4, e1, h⟩ := h rv I3 hp
  rw [e1]
  clear e1
  change J 4 [jy r4] _ (0, 0) _ _ _
  obtain ⟨g5, h⟩ := h
  refine jy_if_eq hS rfl g5 (fun hq => ?_) (fun hq => ?_)
  · have h := h.1 hq
    exact h.elim
  · have h := h.2 hq
    refine jy_aload_n hS rfl rfl ?_
    refine jy_strV hS rfl h_a0 ?_
    refine jy_iload_n hS rfl rfl ?_
    obtain ⟨Q6, h⟩ := h
    obtain ⟨g7, h⟩ := h
    refine jy_callS hS rfl rfl rfl (Nat.le_of_ble_eq_true rfl) g7 (by decide) ⟨by decide, by decide⟩ (Nat.le_of_ble_eq_true rfl) ?_ ?_
    rotate_left
    · exact fun Ex Xx Ix Rx hp => hp.2.2.2.elim
    intro rv Xx I8 Rx hp
    obtain ⟨e1, e2, hp⟩ := hp
    rw [e1, e2]
    clear e1 e2
    obtain ⟨r9, e1, h⟩ := h rv I8 hp
    rw [e1]
    clear e1
    change J 15 [jy r9] _ (0, 0) _ _ _
    obtain ⟨g10, h⟩ := h
    exact jy_iret hS rfl (jy_rokC g10) ⟨rfl, rfl, h⟩
theorem jt_332 : jx_ml 332 = 1 ∧ jx_rt 332 = some .byte ∧ jx_hz 332 = [] ∧ decide ((jx_nm 332).name = "<init>") = false ∧ jx_code 332 = jx_c332 := by decide +kernel
/-- java/lang/String.coder -/
def wz_332 (V : jx_V) (X : jx_X) (R : jx_R) (Q : Option Value → jx_I → Prop) (QE : String → jx_I → Prop)  (a0 : Nat) (I : jx_I) : Prop :=
  ((1 : Int) = 0 → (
    Q (some (jy 1)) I
  )) ∧ (¬ (1 : Int) = 0 → (
    Q (some (jy 0)) I
  ))
set_option maxRecDepth 20000 in
theorem wm_332 {V : jx_V} (hV : V.1.stackTraces = false) {X : jx_X} {R : jx_R} {I : jx_I} {Q : Option Value → jx_I → Prop} {QE : String → jx_I → Prop} {a0 : Nat}  (h_a0 : a0 < 34)
    (h : wz_332 V X R Q QE  a0 I) : jc V 1 332 (0, 0) [.ref (V.2.2.2.1 a0)] X I R Q QE := by
  refine jy_met hV (by decide) (n := 1) (rt := some .byte) (hh := []) (ini := false) (C := jx_c332) (L := [some (.ref (V.2.2.2.1 a0))]) jt_332 (Nat.le_of_ble_eq_true rfl) rfl ?_
  intro J hS
  unfold wz_332 at h
  refine jy_gets0 hS rfl ?_
  refine jy_if_eq hS rfl ⟨by decide, by decide⟩ (fun hq => ?_) (fun hq => ?_)
  · have h := h.1 hq
    refine jy_iconst hS rfl ?_
    exact jy_iret hS rfl rfl ⟨rfl, rfl, h⟩
  · have h := h.2 hq
    refine jy_aload_n hS rfl rfl ?_
    refine jy_strC hS rfl h_a0 ?_
    refine jy_goto hS rfl ?_
    exact jy_iret hS rfl rfl ⟨rfl, rfl, h⟩
theorem jt_333 : jx_ml 333 = 1 ∧ jx_rt 333 = some .boolean ∧ jx_hz 333 = [] ∧ decide ((jx_nm 333).name = "<init>") = false ∧ jx_code 333 = jx_c333 := by decide +kernel
/-- java/lang/String.isLatin1 -/
def wz_333 (V : jx_V) (X : jx_X) (R : jx_R) (Q : Option Value → jx_I → Prop) (QE : String → jx_I → Prop)  (a0 : Nat) (I : jx_I) : Prop :=
  ((1 : Int) = 0 → (
    Q (some (jy 0)) I
  )) ∧ (¬ (1 : Int) = 0 → (
    ((0 : Int) ≠ 0 → (
      Q (some (jy 0)) I
    )) ∧ ((0 : Int) = 0 → (
      Q (some (jy 1)) I
    ))
  ))
set_option maxRecDepth 20000 in
theorem wm_333 {V : jx_V} (hV : V.1.stackTraces = false) {X : jx_X} {R : jx_R} {I : jx_I} {Q : Option Value → jx_I → Prop} {QE : String → jx_I → Prop} {a0 : Nat}  (h_a0 : a0 < 34)
    (h : wz_333 V X R Q QE  a0 I) : jc V 1 333 (0, 0) [.ref (V.2.2.2.1 a0)] X I R Q QE := by
  refine jy_met hV (by decide) (n := 1) (rt := some .boolean) (hh := []) (ini := false) (C := jx_c333) (L := [some (.ref (V.2.2.2.1 a0))]) jt_333 (Nat.le_of_ble_eq_true rfl) rfl ?_
  intro J hS
  unfold wz_333 at h
  refine jy_gets0 hS rfl ?_
  refine jy_if_eq hS rfl ⟨by decide, by decide⟩ (fun hq => ?_) (fun hq => ?_)
  · have h := h.1 hq
    refine jy_iconst hS rfl ?_
    exact jy_iret hS rfl rfl ⟨rfl, rfl, h⟩
  · have h := h.2 hq
    refine jy_aload_n hS rfl rfl ?_
    refine jy_strC hS rfl h_a0 ?_
    refine jy_if_ne hS rfl ⟨by decide, by decide⟩ (fun hq => ?_) (fun hq => ?_)
    · have h := h.1 hq
      refine jy_iconst hS rfl ?_
      exact jy_iret hS rfl rfl ⟨rfl, rfl, h⟩
    · have h := h.2 hq
      refine jy_iconst hS rfl ?_
      refine jy_goto hS rfl ?_
      exact jy_iret hS rfl rfl ⟨rfl, rfl, h⟩
theorem jt_334 : jx_ml 334 = 2 ∧ jx_rt 334 = none ∧ jx_hz 334 = [] ∧ decide ((jx_nm 334).name = "<init>") = false ∧ jx_code 334 = jx_c334 := by decide +kernel
/-- java/lang/String.checkIndex -/
def wz_334 (V : jx_V) (X : jx_X) (R : jx_R) (Q : Option Value → jx_I → Prop) (QE : String → jx_I → Prop)  (a0 : Int) (a1 : Int) (I : jx_I) : Prop :=
  ∀ qs : Option Nat, (
  ∃ Q1 : Option Value → jx_I → Prop, (
  (jc V 1 336 (0, 0) [jy a0, jy a1, va_rf qs] X I R Q1 (fun _ _ => False)) ∧ (
  ∀ rv I3, Q1 rv I3 → ∃ r4 : Int, rv = some (jy r4) ∧ (
  Q none I3))))
set_option maxRecDepth 20000 in
theorem wm_334 {V : jx_V} (hV : V.1.stackTraces = false) {X : jx_X} {R : jx_R} {I : jx_I} {Q : Option Value → jx_I → Prop} {QE : String → jx_I → Prop} {a0 : Int} {a1 : Int} (r_a0 : -2147483648 ≤ a0 ∧ a0 < 2147483648) (r_a1 : -2147483648 ≤ a1 ∧ a1 < 2147483648) 
    (h : wz_334 V X R Q QE  a0 a1 I) : jc V 2 334 (0, 0) [jy a0, jy a1] X I R Q QE := by
  refine jy_met hV (by decide) (n := 2) (rt := none) (hh := []) (ini := false) (C := jx_c334) (L := [some (jy a0), some (jy a1)]) jt_334 (Nat.le_of_ble_eq_true rfl) rfl ?_
  intro J hS
  unfold wz_334 at h
  refine jy_iload_n hS rfl rfl ?_
  refine jy_iload_n hS rfl rfl ?_
  refine jy_gets1 hS rfl (fun qs => ?_)
  have h := h qs
  obtain ⟨Q1, h⟩ := h
  obtain ⟨g2, h⟩ := h
  refine jy_callS hS rfl rfl rfl (Nat.le_of_ble_eq_true rfl) g2 (by decide) ⟨by decide, by decide⟩ (Nat.le_of_ble_eq_true rfl) ?_ ?_
  rotate_left
  · exact fun Ex Xx Ix Rx hp => hp.2.2.2.elim
  intro rv Xx I3 Rx hp
  obtain ⟨e1, e2, hp⟩ := hp
  rw [e1, e2]
  clear e1 e2
  obtain ⟨r4, e1, h⟩ := h rv I3 hp
  rw [e1]
  clear e1
  change J 8 [jy r4] _ (0, 0) _ _ _
  refine jy_pop hS rfl rfl ?_
  exact jy_ret hS rfl rfl ⟨rfl, rfl, h⟩
theorem jt_335 : jx_ml 335 = 2 ∧ jx_rt 335 = some .char ∧ jx_hz 335 = [] ∧ decide ((jx_nm 335).name = "<init>") = false ∧ jx_code 335 = jx_c335 := by decide +kernel
/-- java/lang/StringLatin1.charAt -/
def wz_335 (V : jx_V) (X : jx_X) (R : jx_R) (Q : Option Value → jx_I → Prop) (QE : String → jx_I → Prop)  (a0 : Nat) (a1 : Int) (I : jx_I) : Prop :=
  ∃ Q1 : Option Value → jx_I → Prop, (
  (jc V 2 334 (0, 0) [jy a1, jy ((jx_sb a0).length : Int)] X I R Q1 (fun _ _ => False)) ∧ (
  ∀ rv I3, Q1 rv I3 → rv = none ∧ (
  (0 ≤ a1 ∧ a1 < (jx_sb a0).length) ∧ (
  ((jx_sb a0).length ≤ 2147483648) ∧ (
  (0 ≤ ((Int32.ofInt ((Int32.ofInt (((jx_sb a0).getD a1.toNat 0).toInt) &&& Int32.ofInt 255).toInt)).toUInt32 % 65536).toInt32.toInt ∧ ((Int32.ofInt ((Int32.ofInt (((jx_sb a0).getD a1.toNat 0).toInt) &&& Int32.ofInt 255).toInt)).toUInt32 % 65536).toInt32.toInt < 65536) ∧ (
  Q (some (jy (((Int32.ofInt ((Int32.ofInt (((jx_sb a0).getD a1.toNat 0).toInt) &&& Int32.ofInt 255).toInt)).toUInt32 % 65536).toInt32.toInt))) I3))))))
set_option maxRecDepth 20000 in
theorem wm_335 {V : jx_V} (hV : V.1.stackTraces = false) {X : jx_X} {R : jx_R} {I : jx_I} {Q : Option Value → jx_I → Prop} {QE : String → jx_I → Prop} {a0 : Nat} {a1 : Int} (r_a1 : -2147483648 ≤ a1 ∧ a1 < 2147483648) (h_a0 : a0 < 34)
    (h : wz_335 V X R Q QE  a0 a1 I) : jc V 3 335 (0, 0) [.ref (V.2.2.2.2.1 a0), jy a1] X I R Q QE := by
  refine jy_met hV (by decide) (n := 2) (rt := some .char) (hh := []) (ini := false) (C := jx_c335) (L := [some (.ref (V.2.2.2.2.1 a0)), some (jy a1)]) jt_335 (Nat.le_of_ble_eq_true rfl) rfl ?_
  intro J hS
  unfold wz_335 at h
  refine jy_iload_n hS rfl rfl ?_
  refine jy_aload_n hS rfl rfl ?_
  refine jy_blen hS rfl h_a0 ?_
  obtain ⟨Q1, h⟩ := h
  obtain ⟨g2, h⟩ := h
  refine jy_callS hS rfl rfl rfl (Nat.le_of_ble_eq_true rfl) g2 (by decide) ⟨by decide, by decide⟩ (Nat.le_of_ble_eq_true rfl) ?_ ?_
  rotate_left
  · exact fun Ex Xx Ix Rx hp => hp.2.2.2.elim
  intro rv Xx I3 Rx hp
  obtain ⟨e1, e2, hp⟩ := hp
  rw [e1, e2]
  clear e1 e2
  obtain ⟨e1, h⟩ := h rv I3 hp
  rw [e1]
  clear e1
  change J 6 [] _ (0, 0) _ _ _
  refine jy_aload_n hS rfl rfl ?_
  refine jy_iload_n hS rfl rfl ?_
  obtain ⟨g5, h⟩ := h
  obtain ⟨g6, h⟩ := h
  refine jy_bald hS rfl h_a0 g6 g5 rfl ?_
  refine jy_sipush hS rfl (by decide) ?_
  refine jy_iandX hS rfl rfl ?_
  refine jy_i2c hS rfl rfl ?_
  obtain ⟨g7, h⟩ := h
  exact jy_iret hS rfl (jy_rokC g7) ⟨rfl, rfl, h⟩
theorem jt_336 : jx_ml 336 = 3 ∧ jx_rt 336 = some .int ∧ jx_hz 336 = [] ∧ decide ((jx_nm 336).name = "<init>") = false ∧ jx_code 336 = jx_c336 := by decide +kernel
/-- jdk/internal/util/Preconditions.checkIndex -/
def wz_336 (V : jx_V) (X : jx_X) (R : jx_R) (Q : Option Value → jx_I → Prop) (QE : String → jx_I → Prop)  (a0 : Int) (a1 : Int) (a2 : Option Nat) (I : jx_I) : Prop :=
  (a0 < 0 → (
    False
  )) ∧ (¬ a0 < 0 → (
    (a0 < a1 → (
      Q (some (jy a0)) I
    )) ∧ (¬ a0 < a1 → (
      False
    ))
  ))
set_option maxRecDepth 20000 in
theorem wm_336 {V : jx_V} (hV : V.1.stackTraces = false) {X : jx_X} {R : jx_R} {I : jx_I} {Q : Option Value → jx_I → Prop} {QE : String → jx_I → Prop} {a0 : Int} {a1 : Int} {a2 : Option Nat} (r_a0 : -2147483648 ≤ a0 ∧ a0 < 2147483648) (r_a1 : -2147483648 ≤ a1 ∧ a1 < 2147483648) 
    (h : wz_336 V X R Q QE  a0 a1 a2 I) : jc V 1 336 (0, 0) [jy a0, jy a1, va_rf a2] X I R Q QE := by
  refine jy_met hV (by decide) (n := 3) (rt := some .int) (hh := []) (ini := false) (C := jx_c336) (L := [some (jy a0), some (jy a1), some (va_rf a2)]) jt_336 (by cases a2 <;> exact Nat.le_of_ble_eq_true rfl) (by cases a2 <;> rfl) ?_
  intro J hS
  unfold wz_336 at h
  refine jy_iload_n hS rfl rfl ?_
  refine jy_if_lt hS rfl r_a0 (fun hq => ?_) (fun hq => ?_)
  · have h := h.1 hq
    exact h.elim
  · have h := h.2 hq
    refine jy_iload_n hS rfl rfl ?_
    refine jy_iload_n hS rfl rfl ?_
    refine jy_icmp_lt hS rfl ⟨r_a0, r_a1⟩ (fun hq => ?_) (fun hq => ?_)
    · have h := h.1 hq
      refine jy_iload_n hS rfl rfl ?_
      exact jy_iret hS rfl rfl ⟨rfl, rfl, h⟩
    · have h := h.2 hq
      exact h.elim
