/-! ===== rules over integers: every int is Int32.ofInt of an Int ===== -/
abbrev jy (x : Int) : Value := .int (Int32.ofInt x)
def jy_in (x : Int) : Prop := -2147483648 ≤ x ∧ x < 2147483648
theorem jy_toInt {x : Int} (h : -2147483648 ≤ x ∧ x < 2147483648) : (Int32.ofInt x).toInt = x := Int32.toInt_ofInt_of_le (by simpa using h.1) (by simpa using h.2)
theorem jy_eq {x y : Int} (hx : -2147483648 ≤ x ∧ x < 2147483648) (hy : -2147483648 ≤ y ∧ y < 2147483648) : Int32.ofInt x = Int32.ofInt y ↔ x = y := by
  rw [← Int32.toInt_inj, jy_toInt hx, jy_toInt hy]
theorem jy_lt {x y : Int} (hx : -2147483648 ≤ x ∧ x < 2147483648) (hy : -2147483648 ≤ y ∧ y < 2147483648) : Int32.ofInt x < Int32.ofInt y ↔ x < y := by
  rw [Int32.lt_iff_toInt_lt, jy_toInt hx, jy_toInt hy]
theorem jy_le {x y : Int} (hx : -2147483648 ≤ x ∧ x < 2147483648) (hy : -2147483648 ≤ y ∧ y < 2147483648) : Int32.ofInt x ≤ Int32.ofInt y ↔ x ≤ y := by
  rw [Int32.le_iff_toInt_le, jy_toInt hx, jy_toInt hy]
theorem jy_nat {x : Int} (h : 0 ≤ x ∧ x < 2147483648) : (Int32.ofInt x).toNatClampNeg = x.toNat := by
  have h2 : (Int32.ofInt x).toInt = x := jy_toInt (by omega)
  rw [← h2]
  simp [Int32.toNatClampNeg]
theorem jy_vp {i : Int} {n : Nat} (h : 0 ≤ i ∧ i < n) (hn : n ≤ 2147483648) : vp_in (Int32.ofInt i) n := by
  intro q
  rcases q with q | q
  · rw [show (0 : Int32) = Int32.ofInt 0 from rfl, jy_lt (by omega) (by omega)] at q
    omega
  · rw [jy_nat (by omega)] at q
    omega
theorem jy_cd (c : ClassFile.Cond) {x y : Int} (hx : -2147483648 ≤ x ∧ x < 2147483648) (hy : -2147483648 ≤ y ∧ y < 2147483648) : jx_cd c (Int32.ofInt x) (Int32.ofInt y) ↔ (match c with
    | .eq => x = y
    | .ne => x ≠ y
    | .lt => x < y
    | .ge => y ≤ x
    | .gt => y < x
    | .le => x ≤ y) := by
  cases c with
  | eq => exact jy_eq hx hy
  | ne => exact not_congr (jy_eq hx hy)
  | lt => exact jy_lt hx hy
  | ge => exact jy_le hy hx
  | gt => exact jy_lt hy hx
  | le => exact jy_le hx hy
section JY
variable {V : jx_V} {d : Nat} {rt : Option FieldType} {hh : List (Nat × Nat × Nat × Nat)} {ini : Bool} {C : List jx_row} {J : jx_Jt} {KR : Option Value → Nat × Nat → jx_X → jx_I → jx_R → Prop} {KX : String → Nat × Nat → jx_X → jx_I → jx_R → Prop}
variable {pc nx r1 r2 r3 : Nat} {st : List Value} {L : List (Option Value)} {b : Nat × Nat} {X : jx_X} {I : jx_I} {R : jx_R}

theorem jy_iconst (hS : jx_Snd V d rt hh ini C J KR KX) {n : Int} (hat : jx_at C pc = some (.iconst n, nx, r1, r2, r3)) (k : J nx (jy n :: st) L b X I R) : J pc st L b X I R := hS.2 _ _ _ _ _ _ _ _ _ _ _ _ hat k
theorem jy_bipush (hS : jx_Snd V d rt hh ini C J KR KX) {n : Int} (hat : jx_at C pc = some (.bipush n, nx, r1, r2, r3)) (hn : (Int8.ofInt n).toInt32 = Int32.ofInt n) (k : J nx (jy n :: st) L b X I R) : J pc st L b X I R := by
  rw [jy, ← hn] at k
  exact hS.2 _ _ _ _ _ _ _ _ _ _ _ _ hat k
theorem jy_sipush (hS : jx_Snd V d rt hh ini C J KR KX) {n : Int} (hat : jx_at C pc = some (.sipush n, nx, r1, r2, r3)) (hn : (Int16.ofInt n).toInt32 = Int32.ofInt n) (k : J nx (jy n :: st) L b X I R) : J pc st L b X I R := by
  rw [jy, ← hn] at k
  exact hS.2 _ _ _ _ _ _ _ _ _ _ _ _ hat k
theorem jy_ldcI (hS : jx_Snd V d rt hh ini C J KR KX) {i : Nat} {n : Int} (hat : jx_at C pc = some (.ldc i, nx, 0, r2, r3)) (hn : (jx_cst.getD r2 (99, 0, 0, 0)).2.2.1 = Int32.ofInt n) (k : J nx (jy n :: st) L b X I R) : J pc st L b X I R := by
  rw [jy, ← hn] at k
  exact hS.2 _ _ _ _ _ _ _ _ _ _ _ _ hat (Or.inl ⟨rfl, k⟩)
theorem jy_ldcS (hS : jx_Snd V d rt hh ini C J KR KX) {i : Nat} (hat : jx_at C pc = some (.ldc i, nx, 1, r2, r3)) (k : J nx (.ref (V.2.2.2.1 r2) :: st) L b X I R) : J pc st L b X I R := hS.2 _ _ _ _ _ _ _ _ _ _ _ _ hat (Or.inr ⟨rfl, k⟩)
theorem jy_ldcw (hS : jx_Snd V d rt hh ini C J KR KX) {i : Nat} {n : Int} (hat : jx_at C pc = some (.ldc_w i, nx, r1, r2, r3)) (hn : (jx_cst.getD r2 (99, 0, 0, 0)).2.2.1 = Int32.ofInt n) (k : J nx (jy n :: st) L b X I R) : J pc st L b X I R := by
  rw [jy, ← hn] at k
  exact hS.2 _ _ _ _ _ _ _ _ _ _ _ _ hat k
theorem jy_ldc2 (hS : jx_Snd V d rt hh ini C J KR KX) {i : Nat} {n : Int64} (hat : jx_at C pc = some (.ldc2_w i, nx, r1, r2, r3)) (hn : (jx_lcst.getD r1 (99, 0, 0, 0)).2.2.1 = n) (k : J nx (.long n :: st) L b X I R) : J pc st L b X I R := by
  rw [← hn] at k
  exact hS.2 _ _ _ _ _ _ _ _ _ _ _ _ hat k
theorem jy_lconst (hS : jx_Snd V d rt hh ini C J KR KX) {n : Fin 2} (hat : jx_at C pc = some (.lconst n, nx, r1, r2, r3)) (k : J nx (.long (Int64.ofNat (n : Nat)) :: st) L b X I R) : J pc st L b X I R := hS.2 _ _ _ _ _ _ _ _ _ _ _ _ hat k
theorem jy_null (hS : jx_Snd V d rt hh ini C J KR KX) (hat : jx_at C pc = some (.aconst_null, nx, r1, r2, r3)) (k : J nx (.null :: st) L b X I R) : J pc st L b X I R := hS.2 _ _ _ _ _ _ _ _ _ _ _ _ hat k
theorem jy_iload (hS : jx_Snd V d rt hh ini C J KR KX) {i : Nat} {x : Int32} (hat : jx_at C pc = some (.iload i, nx, r1, r2, r3)) (hL : L[i]? = some (some (.int x))) (k : J nx (.int x :: st) L b X I R) : J pc st L b X I R := hS.2 _ _ _ _ _ _ _ _ _ _ _ _ hat ⟨x, hL, k⟩
theorem jy_iload_n (hS : jx_Snd V d rt hh ini C J KR KX) {i : Fin 4} {x : Int32} (hat : jx_at C pc = some (.iload_n i, nx, r1, r2, r3)) (hL : L[(i : Nat)]? = some (some (.int x))) (k : J nx (.int x :: st) L b X I R) : J pc st L b X I R := hS.2 _ _ _ _ _ _ _ _ _ _ _ _ hat ⟨x, hL, k⟩
theorem jy_istore (hS : jx_Snd V d rt hh ini C J KR KX) {i : Nat} {x : Int32} {L' : List (Option Value)} (hat : jx_at C pc = some (.istore i, nx, r1, r2, r3)) (hi : i < L.length) (hL : jx_s1 L i (.int x) = L') (k : J nx st L' b X I R) : J pc (.int x :: st) L b X I R := by
  subst hL
  exact hS.2 _ _ _ _ _ _ _ _ _ _ _ _ hat ⟨hi, k⟩
theorem jy_istore_n (hS : jx_Snd V d rt hh ini C J KR KX) {i : Fin 4} {x : Int32} {L' : List (Option Value)} (hat : jx_at C pc = some (.istore_n i, nx, r1, r2, r3)) (hi : (i : Nat) < L.length) (hL : jx_s1 L i (.int x) = L') (k : J nx st L' b X I R) : J pc (.int x :: st) L b X I R := by
  subst hL
  exact hS.2 _ _ _ _ _ _ _ _ _ _ _ _ hat ⟨hi, k⟩
theorem jy_lload (hS : jx_Snd V d rt hh ini C J KR KX) {i : Nat} {x : Int64} (hat : jx_at C pc = some (.lload i, nx, r1, r2, r3)) (hL : L[i]? = some (some (.long x))) (k : J nx (.long x :: st) L b X I R) : J pc st L b X I R := hS.2 _ _ _ _ _ _ _ _ _ _ _ _ hat ⟨x, hL, k⟩
theorem jy_lload_n (hS : jx_Snd V d rt hh ini C J KR KX) {i : Fin 4} {x : Int64} (hat : jx_at C pc = some (.lload_n i, nx, r1, r2, r3)) (hL : L[(i : Nat)]? = some (some (.long x))) (k : J nx (.long x :: st) L b X I R) : J pc st L b X I R := hS.2 _ _ _ _ _ _ _ _ _ _ _ _ hat ⟨x, hL, k⟩
theorem jy_lstore (hS : jx_Snd V d rt hh ini C J KR KX) {i : Nat} {x : Int64} {L' : List (Option Value)} (hat : jx_at C pc = some (.lstore i, nx, r1, r2, r3)) (hi : i + 1 < L.length) (hL : jx_s2 L i (.long x) = L') (k : J nx st L' b X I R) : J pc (.long x :: st) L b X I R := by
  subst hL
  exact hS.2 _ _ _ _ _ _ _ _ _ _ _ _ hat ⟨hi, k⟩
theorem jy_lstore_n (hS : jx_Snd V d rt hh ini C J KR KX) {i : Fin 4} {x : Int64} {L' : List (Option Value)} (hat : jx_at C pc = some (.lstore_n i, nx, r1, r2, r3)) (hi : (i : Nat) + 1 < L.length) (hL : jx_s2 L i (.long x) = L') (k : J nx st L' b X I R) : J pc (.long x :: st) L b X I R := by
  subst hL
  exact hS.2 _ _ _ _ _ _ _ _ _ _ _ _ hat ⟨hi, k⟩
theorem jy_aload (hS : jx_Snd V d rt hh ini C J KR KX) {i : Nat} {x : Nat} (hat : jx_at C pc = some (.aload i, nx, r1, r2, r3)) (hL : L[i]? = some (some (.ref x))) (k : J nx (.ref x :: st) L b X I R) : J pc st L b X I R := hS.2 _ _ _ _ _ _ _ _ _ _ _ _ hat ⟨x, hL, k⟩
theorem jy_aload_n (hS : jx_Snd V d rt hh ini C J KR KX) {i : Fin 4} {x : Nat} (hat : jx_at C pc = some (.aload_n i, nx, r1, r2, r3)) (hL : L[(i : Nat)]? = some (some (.ref x))) (k : J nx (.ref x :: st) L b X I R) : J pc st L b X I R := hS.2 _ _ _ _ _ _ _ _ _ _ _ _ hat ⟨x, hL, k⟩
theorem jy_astore (hS : jx_Snd V d rt hh ini C J KR KX) {i : Nat} {x : Nat} {L' : List (Option Value)} (hat : jx_at C pc = some (.astore i, nx, r1, r2, r3)) (hi : i < L.length) (hL : jx_s1 L i (.ref x) = L') (k : J nx st L' b X I R) : J pc (.ref x :: st) L b X I R := by
  subst hL
  exact hS.2 _ _ _ _ _ _ _ _ _ _ _ _ hat ⟨hi, k⟩
theorem jy_astore_n (hS : jx_Snd V d rt hh ini C J KR KX) {i : Fin 4} {x : Nat} {L' : List (Option Value)} (hat : jx_at C pc = some (.astore_n i, nx, r1, r2, r3)) (hi : (i : Nat) < L.length) (hL : jx_s1 L i (.ref x) = L') (k : J nx st L' b X I R) : J pc (.ref x :: st) L b X I R := by
  subst hL
  exact hS.2 _ _ _ _ _ _ _ _ _ _ _ _ hat ⟨hi, k⟩
theorem jy_iinc (hS : jx_Snd V d rt hh ini C J KR KX) {i : Nat} {n x : Int} {L' : List (Option Value)} (hat : jx_at C pc = some (.iinc i n, nx, r1, r2, r3)) (hx : L[i]? = some (some (jy x))) (hL : jx_s1 L i (jy (x + n)) = L') (k : J nx st L' b X I R) : J pc st L b X I R := by
  subst hL
  refine hS.2 _ _ _ _ _ _ _ _ _ _ _ _ hat ⟨_, hx, ?_⟩
  rw [← Int32.ofInt_add]
  exact k
theorem jy_iadd (hS : jx_Snd V d rt hh ini C J KR KX) {x y : Int} (hat : jx_at C pc = some (.iadd, nx, r1, r2, r3)) (k : J nx (jy (x + y) :: st) L b X I R) : J pc (jy y :: jy x :: st) L b X I R := by
  refine hS.2 _ _ _ _ _ _ _ _ _ _ _ _ hat ?_
  show J nx (.int (Int32.ofInt x + Int32.ofInt y) :: st) L b X I R
  rw [← Int32.ofInt_add]
  exact k
theorem jy_isub (hS : jx_Snd V d rt hh ini C J KR KX) {x y : Int} (hat : jx_at C pc = some (.isub, nx, r1, r2, r3)) (k : J nx (jy (x - y) :: st) L b X I R) : J pc (jy y :: jy x :: st) L b X I R := by
  refine hS.2 _ _ _ _ _ _ _ _ _ _ _ _ hat ?_
  show J nx (.int (Int32.ofInt x - Int32.ofInt y) :: st) L b X I R
  rw [← Int32.ofInt_sub]
  exact k
theorem jy_imul (hS : jx_Snd V d rt hh ini C J KR KX) {x y : Int} (hat : jx_at C pc = some (.imul, nx, r1, r2, r3)) (k : J nx (jy (x * y) :: st) L b X I R) : J pc (jy y :: jy x :: st) L b X I R := by
  refine hS.2 _ _ _ _ _ _ _ _ _ _ _ _ hat ?_
  show J nx (.int (Int32.ofInt x * Int32.ofInt y) :: st) L b X I R
  rw [← Int32.ofInt_mul]
  exact k
theorem jy_iaddX (hS : jx_Snd V d rt hh ini C J KR KX) {u w : Int} {v : Int32} (hat : jx_at C pc = some (.iadd, nx, r1, r2, r3)) (hv : (fun x y : Int32 => x + y) (Int32.ofInt u) (Int32.ofInt w) = v) (k : J nx (jy v.toInt :: st) L b X I R) : J pc (jy w :: jy u :: st) L b X I R := by
  subst hv
  rw [jy, Int32.ofInt_toInt] at k
  exact hS.2 _ _ _ _ _ _ _ _ _ _ _ _ hat k
theorem jy_isubX (hS : jx_Snd V d rt hh ini C J KR KX) {u w : Int} {v : Int32} (hat : jx_at C pc = some (.isub, nx, r1, r2, r3)) (hv : (fun x y : Int32 => x - y) (Int32.ofInt u) (Int32.ofInt w) = v) (k : J nx (jy v.toInt :: st) L b X I R) : J pc (jy w :: jy u :: st) L b X I R := by
  subst hv
  rw [jy, Int32.ofInt_toInt] at k
  exact hS.2 _ _ _ _ _ _ _ _ _ _ _ _ hat k
theorem jy_imulX (hS : jx_Snd V d rt hh ini C J KR KX) {u w : Int} {v : Int32} (hat : jx_at C pc = some (.imul, nx, r1, r2, r3)) (hv : (fun x y : Int32 => x * y) (Int32.ofInt u) (Int32.ofInt w) = v) (k : J nx (jy v.toInt :: st) L b X I R) : J pc (jy w :: jy u :: st) L b X I R := by
  subst hv
  rw [jy, Int32.ofInt_toInt] at k
  exact hS.2 _ _ _ _ _ _ _ _ _ _ _ _ hat k
theorem jy_iandX (hS : jx_Snd V d rt hh ini C J KR KX) {u w : Int} {v : Int32} (hat : jx_at C pc = some (.iand, nx, r1, r2, r3)) (hv : (fun x y : Int32 => x &&& y) (Int32.ofInt u) (Int32.ofInt w) = v) (k : J nx (jy v.toInt :: st) L b X I R) : J pc (jy w :: jy u :: st) L b X I R := by
  subst hv
  rw [jy, Int32.ofInt_toInt] at k
  exact hS.2 _ _ _ _ _ _ _ _ _ _ _ _ hat k
theorem jy_iorX (hS : jx_Snd V d rt hh ini C J KR KX) {u w : Int} {v : Int32} (hat : jx_at C pc = some (.ior, nx, r1, r2, r3)) (hv : (fun x y : Int32 => x ||| y) (Int32.ofInt u) (Int32.ofInt w) = v) (k : J nx (jy v.toInt :: st) L b X I R) : J pc (jy w :: jy u :: st) L b X I R := by
  subst hv
  rw [jy, Int32.ofInt_toInt] at k
  exact hS.2 _ _ _ _ _ _ _ _ _ _ _ _ hat k
theorem jy_ixorX (hS : jx_Snd V d rt hh ini C J KR KX) {u w : Int} {v : Int32} (hat : jx_at C pc = some (.ixor, nx, r1, r2, r3)) (hv : (fun x y : Int32 => x ^^^ y) (Int32.ofInt u) (Int32.ofInt w) = v) (k : J nx (jy v.toInt :: st) L b X I R) : J pc (jy w :: jy u :: st) L b X I R := by
  subst hv
  rw [jy, Int32.ofInt_toInt] at k
  exact hS.2 _ _ _ _ _ _ _ _ _ _ _ _ hat k
theorem jy_ishlX (hS : jx_Snd V d rt hh ini C J KR KX) {u w : Int} {v : Int32} (hat : jx_at C pc = some (.ishl, nx, r1, r2, r3)) (hv : (fun x y : Int32 => x <<< (y &&& 31)) (Int32.ofInt u) (Int32.ofInt w) = v) (k : J nx (jy v.toInt :: st) L b X I R) : J pc (jy w :: jy u :: st) L b X I R := by
  subst hv
  rw [jy, Int32.ofInt_toInt] at k
  exact hS.2 _ _ _ _ _ _ _ _ _ _ _ _ hat k
theorem jy_ishrX (hS : jx_Snd V d rt hh ini C J KR KX) {u w : Int} {v : Int32} (hat : jx_at C pc = some (.ishr, nx, r1, r2, r3)) (hv : (fun x y : Int32 => x >>> (y &&& 31)) (Int32.ofInt u) (Int32.ofInt w) = v) (k : J nx (jy v.toInt :: st) L b X I R) : J pc (jy w :: jy u :: st) L b X I R := by
  subst hv
  rw [jy, Int32.ofInt_toInt] at k
  exact hS.2 _ _ _ _ _ _ _ _ _ _ _ _ hat k
theorem jy_iushrX (hS : jx_Snd V d rt hh ini C J KR KX) {u w : Int} {v : Int32} (hat : jx_at C pc = some (.iushr, nx, r1, r2, r3)) (hv : (fun x y : Int32 => (x.toUInt32 >>> (y.toUInt32 &&& Int32.toUInt32 31)).toInt32) (Int32.ofInt u) (Int32.ofInt w) = v) (k : J nx (jy v.toInt :: st) L b X I R) : J pc (jy w :: jy u :: st) L b X I R := by
  subst hv
  rw [jy, Int32.ofInt_toInt] at k
  exact hS.2 _ _ _ _ _ _ _ _ _ _ _ _ hat k
theorem jy_idivX (hS : jx_Snd V d rt hh ini C J KR KX) {u w : Int} {v : Int32} (hat : jx_at C pc = some (.idiv, nx, r1, r2, r3)) (hw : (-2147483648 ≤ w ∧ w < 2147483648) ∧ w ≠ 0) (hv : (fun x y : Int32 => x / y) (Int32.ofInt u) (Int32.ofInt w) = v) (k : J nx (jy v.toInt :: st) L b X I R) : J pc (jy w :: jy u :: st) L b X I R := by
  subst hv
  rw [jy, Int32.ofInt_toInt] at k
  refine hS.2 _ _ _ _ _ _ _ _ _ _ _ _ hat ⟨fun q => hw.2 ((jy_eq hw.1 (by omega)).mp q), k⟩
theorem jy_iremX (hS : jx_Snd V d rt hh ini C J KR KX) {u w : Int} {v : Int32} (hat : jx_at C pc = some (.irem, nx, r1, r2, r3)) (hw : (-2147483648 ≤ w ∧ w < 2147483648) ∧ w ≠ 0) (hv : (fun x y : Int32 => x - x / y * y) (Int32.ofInt u) (Int32.ofInt w) = v) (k : J nx (jy v.toInt :: st) L b X I R) : J pc (jy w :: jy u :: st) L b X I R := by
  subst hv
  rw [jy, Int32.ofInt_toInt] at k
  refine hS.2 _ _ _ _ _ _ _ _ _ _ _ _ hat ⟨fun q => hw.2 ((jy_eq hw.1 (by omega)).mp q), k⟩
theorem jy_ladd (hS : jx_Snd V d rt hh ini C J KR KX) {x y v : Int64} (hat : jx_at C pc = some (.ladd, nx, r1, r2, r3)) (hv : x + y = v) (k : J nx (.long v :: st) L b X I R) : J pc (.long y :: .long x :: st) L b X I R := by
  subst hv
  exact hS.2 _ _ _ _ _ _ _ _ _ _ _ _ hat k
theorem jy_lsub (hS : jx_Snd V d rt hh ini C J KR KX) {x y v : Int64} (hat : jx_at C pc = some (.lsub, nx, r1, r2, r3)) (hv : x - y = v) (k : J nx (.long v :: st) L b X I R) : J pc (.long y :: .long x :: st) L b X I R := by
  subst hv
  exact hS.2 _ _ _ _ _ _ _ _ _ _ _ _ hat k
theorem jy_lmul (hS : jx_Snd V d rt hh ini C J KR KX) {x y v : Int64} (hat : jx_at C pc = some (.lmul, nx, r1, r2, r3)) (hv : x * y = v) (k : J nx (.long v :: st) L b X I R) : J pc (.long y :: .long x :: st) L b X I R := by
  subst hv
  exact hS.2 _ _ _ _ _ _ _ _ _ _ _ _ hat k
theorem jy_land (hS : jx_Snd V d rt hh ini C J KR KX) {x y v : Int64} (hat : jx_at C pc = some (.land, nx, r1, r2, r3)) (hv : x &&& y = v) (k : J nx (.long v :: st) L b X I R) : J pc (.long y :: .long x :: st) L b X I R := by
  subst hv
  exact hS.2 _ _ _ _ _ _ _ _ _ _ _ _ hat k
theorem jy_lor (hS : jx_Snd V d rt hh ini C J KR KX) {x y v : Int64} (hat : jx_at C pc = some (.lor, nx, r1, r2, r3)) (hv : x ||| y = v) (k : J nx (.long v :: st) L b X I R) : J pc (.long y :: .long x :: st) L b X I R := by
  subst hv
  exact hS.2 _ _ _ _ _ _ _ _ _ _ _ _ hat k
theorem jy_ldiv (hS : jx_Snd V d rt hh ini C J KR KX) {x y v : Int64} (hat : jx_at C pc = some (.ldiv, nx, r1, r2, r3)) (hy : ¬ y = 0) (hv : x / y = v) (k : J nx (.long v :: st) L b X I R) : J pc (.long y :: .long x :: st) L b X I R := by
  subst hv
  exact hS.2 _ _ _ _ _ _ _ _ _ _ _ _ hat ⟨hy, k⟩
theorem jy_lrem (hS : jx_Snd V d rt hh ini C J KR KX) {x y v : Int64} (hat : jx_at C pc = some (.lrem, nx, r1, r2, r3)) (hy : ¬ y = 0) (hv : x - x / y * y = v) (k : J nx (.long v :: st) L b X I R) : J pc (.long y :: .long x :: st) L b X I R := by
  subst hv
  exact hS.2 _ _ _ _ _ _ _ _ _ _ _ _ hat ⟨hy, k⟩
theorem jy_lshl (hS : jx_Snd V d rt hh ini C J KR KX) {x v : Int64} {y : Int32} (hat : jx_at C pc = some (.lshl, nx, r1, r2, r3)) (hv : x <<< (y.toInt64 &&& 63) = v) (k : J nx (.long v :: st) L b X I R) : J pc (.int y :: .long x :: st) L b X I R := by
  subst hv
  exact hS.2 _ _ _ _ _ _ _ _ _ _ _ _ hat k
theorem jy_lcmp (hS : jx_Snd V d rt hh ini C J KR KX) {x y : Int64} (hat : jx_at C pc = some (.lcmp, nx, r1, r2, r3)) (k : J nx (jy (lg_cmp x y).toInt :: st) L b X I R) : J pc (.long y :: .long x :: st) L b X I R := by
  rw [jy, Int32.ofInt_toInt] at k
  exact hS.2 _ _ _ _ _ _ _ _ _ _ _ _ hat k
theorem jy_i2l (hS : jx_Snd V d rt hh ini C J KR KX) {x : Int} {v : Int64} (hat : jx_at C pc = some (.i2l, nx, r1, r2, r3)) (hv : (Int32.ofInt x).toInt64 = v) (k : J nx (.long v :: st) L b X I R) : J pc (jy x :: st) L b X I R := by
  subst hv
  exact hS.2 _ _ _ _ _ _ _ _ _ _ _ _ hat k
theorem jy_l2i (hS : jx_Snd V d rt hh ini C J KR KX) {x : Int64} {v : Int32} (hat : jx_at C pc = some (.l2i, nx, r1, r2, r3)) (hv : x.toInt32 = v) (k : J nx (jy v.toInt :: st) L b X I R) : J pc (.long x :: st) L b X I R := by
  subst hv
  rw [jy, Int32.ofInt_toInt] at k
  exact hS.2 _ _ _ _ _ _ _ _ _ _ _ _ hat k
theorem jy_i2c (hS : jx_Snd V d rt hh ini C J KR KX) {u : Int} {v : Int32} (hat : jx_at C pc = some (.i2c, nx, r1, r2, r3)) (hv : (fun x : Int32 => (x.toUInt32 % 65536).toInt32) (Int32.ofInt u) = v) (k : J nx (jy v.toInt :: st) L b X I R) : J pc (jy u :: st) L b X I R := by
  subst hv
  rw [jy, Int32.ofInt_toInt] at k
  exact hS.2 _ _ _ _ _ _ _ _ _ _ _ _ hat k
theorem jy_dup (hS : jx_Snd V d rt hh ini C J KR KX) {v : Value} (hat : jx_at C pc = some (.dup, nx, r1, r2, r3)) (hv : v.category = 1) (k : J nx (v :: v :: st) L b X I R) : J pc (v :: st) L b X I R := hS.2 _ _ _ _ _ _ _ _ _ _ _ _ hat ⟨hv, k⟩
theorem jy_pop (hS : jx_Snd V d rt hh ini C J KR KX) {v : Value} (hat : jx_at C pc = some (.pop, nx, r1, r2, r3)) (hv : v.category = 1) (k : J nx st L b X I R) : J pc (v :: st) L b X I R := hS.2 _ _ _ _ _ _ _ _ _ _ _ _ hat ⟨hv, k⟩
theorem jy_dup2 (hS : jx_Snd V d rt hh ini C J KR KX) {v w : Value} (hat : jx_at C pc = some (.dup2, nx, r1, r2, r3)) (hv : v.category = 1) (hw : w.category = 1) (k : J nx (v :: w :: v :: w :: st) L b X I R) : J pc (v :: w :: st) L b X I R := hS.2 _ _ _ _ _ _ _ _ _ _ _ _ hat ⟨hv, hw, k⟩
theorem jy_if_eq (hS : jx_Snd V d rt hh ini C J KR KX) {x off : Int} (hat : jx_at C pc = some (.ifCond .eq off, nx, r1, r2, r3)) (hx : -2147483648 ≤ x ∧ x < 2147483648) (kt : x = 0 → J r1 st L b X I R) (kf : ¬ x = 0 → J nx st L b X I R) : J pc (jy x :: st) L b X I R :=
  hS.2 _ _ _ _ _ _ _ _ _ _ _ _ hat ⟨fun h => kt ((jy_cd .eq hx (by omega)).mp h), fun h => kf (fun q => h ((jy_cd .eq hx (by omega)).mpr q))⟩
theorem jy_icmp_eq (hS : jx_Snd V d rt hh ini C J KR KX) {x y off : Int} (hat : jx_at C pc = some (.if_icmp .eq off, nx, r1, r2, r3)) (hx : (-2147483648 ≤ x ∧ x < 2147483648) ∧ (-2147483648 ≤ y ∧ y < 2147483648)) (kt : x = y → J r1 st L b X I R) (kf : ¬ x = y → J nx st L b X I R) : J pc (jy y :: jy x :: st) L b X I R :=
  hS.2 _ _ _ _ _ _ _ _ _ _ _ _ hat ⟨fun h => kt ((jy_cd .eq hx.1 hx.2).mp h), fun h => kf (fun q => h ((jy_cd .eq hx.1 hx.2).mpr q))⟩
theorem jy_if_eqX (hS : jx_Snd V d rt hh ini C J KR KX) {x : Int32} {off : Int} (hat : jx_at C pc = some (.ifCond .eq off, nx, r1, r2, r3)) (kt : jx_cd .eq x 0 → J r1 st L b X I R) (kf : ¬ jx_cd .eq x 0 → J nx st L b X I R) : J pc (.int x :: st) L b X I R := hS.2 _ _ _ _ _ _ _ _ _ _ _ _ hat ⟨kt, kf⟩
theorem jy_if_ne (hS : jx_Snd V d rt hh ini C J KR KX) {x off : Int} (hat : jx_at C pc = some (.ifCond .ne off, nx, r1, r2, r3)) (hx : -2147483648 ≤ x ∧ x < 2147483648) (kt : x ≠ 0 → J r1 st L b X I R) (kf : x = 0 → J nx st L b X I R) : J pc (jy x :: st) L b X I R :=
  hS.2 _ _ _ _ _ _ _ _ _ _ _ _ hat ⟨fun h => kt ((jy_cd .ne hx (by omega)).mp h), fun h => kf (Classical.byContradiction fun q => h ((jy_cd .ne hx (by omega)).mpr q))⟩
theorem jy_icmp_ne (hS : jx_Snd V d rt hh ini C J KR KX) {x y off : Int} (hat : jx_at C pc = some (.if_icmp .ne off, nx, r1, r2, r3)) (hx : (-2147483648 ≤ x ∧ x < 2147483648) ∧ (-2147483648 ≤ y ∧ y < 2147483648)) (kt : x ≠ y → J r1 st L b X I R) (kf : x = y → J nx st L b X I R) : J pc (jy y :: jy x :: st) L b X I R :=
  hS.2 _ _ _ _ _ _ _ _ _ _ _ _ hat ⟨fun h => kt ((jy_cd .ne hx.1 hx.2).mp h), fun h => kf (Classical.byContradiction fun q => h ((jy_cd .ne hx.1 hx.2).mpr q))⟩
theorem jy_if_neX (hS : jx_Snd V d rt hh ini C J KR KX) {x : Int32} {off : Int} (hat : jx_at C pc = some (.ifCond .ne off, nx, r1, r2, r3)) (kt : jx_cd .ne x 0 → J r1 st L b X I R) (kf : ¬ jx_cd .ne x 0 → J nx st L b X I R) : J pc (.int x :: st) L b X I R := hS.2 _ _ _ _ _ _ _ _ _ _ _ _ hat ⟨kt, kf⟩
theorem jy_if_lt (hS : jx_Snd V d rt hh ini C J KR KX) {x off : Int} (hat : jx_at C pc = some (.ifCond .lt off, nx, r1, r2, r3)) (hx : -2147483648 ≤ x ∧ x < 2147483648) (kt : x < 0 → J r1 st L b X I R) (kf : ¬ x < 0 → J nx st L b X I R) : J pc (jy x :: st) L b X I R :=
  hS.2 _ _ _ _ _ _ _ _ _ _ _ _ hat ⟨fun h => kt ((jy_cd .lt hx (by omega)).mp h), fun h => kf (fun q => h ((jy_cd .lt hx (by omega)).mpr q))⟩
theorem jy_icmp_lt (hS : jx_Snd V d rt hh ini C J KR KX) {x y off : Int} (hat : jx_at C pc = some (.if_icmp .lt off, nx, r1, r2, r3)) (hx : (-2147483648 ≤ x ∧ x < 2147483648) ∧ (-2147483648 ≤ y ∧ y < 2147483648)) (kt : x < y → J r1 st L b X I R) (kf : ¬ x < y → J nx st L b X I R) : J pc (jy y :: jy x :: st) L b X I R :=
  hS.2 _ _ _ _ _ _ _ _ _ _ _ _ hat ⟨fun h => kt ((jy_cd .lt hx.1 hx.2).mp h), fun h => kf (fun q => h ((jy_cd .lt hx.1 hx.2).mpr q))⟩
theorem jy_if_ltX (hS : jx_Snd V d rt hh ini C J KR KX) {x : Int32} {off : Int} (hat : jx_at C pc = some (.ifCond .lt off, nx, r1, r2, r3)) (kt : jx_cd .lt x 0 → J r1 st L b X I R) (kf : ¬ jx_cd .lt x 0 → J nx st L b X I R) : J pc (.int x :: st) L b X I R := hS.2 _ _ _ _ _ _ _ _ _ _ _ _ hat ⟨kt, kf⟩
theorem jy_if_ge (hS : jx_Snd V d rt hh ini C J KR KX) {x off : Int} (hat : jx_at C pc = some (.ifCond .ge off, nx, r1, r2, r3)) (hx : -2147483648 ≤ x ∧ x < 2147483648) (kt : 0 ≤ x → J r1 st L b X I R) (kf : ¬ 0 ≤ x → J nx st L b X I R) : J pc (jy x :: st) L b X I R :=
  hS.2 _ _ _ _ _ _ _ _ _ _ _ _ hat ⟨fun h => kt ((jy_cd .ge hx (by omega)).mp h), fun h => kf (fun q => h ((jy_cd .ge hx (by omega)).mpr q))⟩
theorem jy_icmp_ge (hS : jx_Snd V d rt hh ini C J KR KX) {x y off : Int} (hat : jx_at C pc = some (.if_icmp .ge off, nx, r1, r2, r3)) (hx : (-2147483648 ≤ x ∧ x < 2147483648) ∧ (-2147483648 ≤ y ∧ y < 2147483648)) (kt : y ≤ x → J r1 st L b X I R) (kf : ¬ y ≤ x → J nx st L b X I R) : J pc (jy y :: jy x :: st) L b X I R :=
  hS.2 _ _ _ _ _ _ _ _ _ _ _ _ hat ⟨fun h => kt ((jy_cd .ge hx.1 hx.2).mp h), fun h => kf (fun q => h ((jy_cd .ge hx.1 hx.2).mpr q))⟩
theorem jy_if_geX (hS : jx_Snd V d rt hh ini C J KR KX) {x : Int32} {off : Int} (hat : jx_at C pc = some (.ifCond .ge off, nx, r1, r2, r3)) (kt : jx_cd .ge x 0 → J r1 st L b X I R) (kf : ¬ jx_cd .ge x 0 → J nx st L b X I R) : J pc (.int x :: st) L b X I R := hS.2 _ _ _ _ _ _ _ _ _ _ _ _ hat ⟨kt, kf⟩
theorem jy_if_gt (hS : jx_Snd V d rt hh ini C J KR KX) {x off : Int} (hat : jx_at C pc = some (.ifCond .gt off, nx, r1, r2, r3)) (hx : -2147483648 ≤ x ∧ x < 2147483648) (kt : 0 < x → J r1 st L b X I R) (kf : ¬ 0 < x → J nx st L b X I R) : J pc (jy x :: st) L b X I R :=
  hS.2 _ _ _ _ _ _ _ _ _ _ _ _ hat ⟨fun h => kt ((jy_cd .gt hx (by omega)).mp h), fun h => kf (fun q => h ((jy_cd .gt hx (by omega)).mpr q))⟩
theorem jy_icmp_gt (hS : jx_Snd V d rt hh ini C J KR KX) {x y off : Int} (hat : jx_at C pc = some (.if_icmp .gt off, nx, r1, r2, r3)) (hx : (-2147483648 ≤ x ∧ x < 2147483648) ∧ (-2147483648 ≤ y ∧ y < 2147483648)) (kt : y < x → J r1 st L b X I R) (kf : ¬ y < x → J nx st L b X I R) : J pc (jy y :: jy x :: st) L b X I R :=
  hS.2 _ _ _ _ _ _ _ _ _ _ _ _ hat ⟨fun h => kt ((jy_cd .gt hx.1 hx.2).mp h), fun h => kf (fun q => h ((jy_cd .gt hx.1 hx.2).mpr q))⟩
theorem jy_if_gtX (hS : jx_Snd V d rt hh ini C J KR KX) {x : Int32} {off : Int} (hat : jx_at C pc = some (.ifCond .gt off, nx, r1, r2, r3)) (kt : jx_cd .gt x 0 → J r1 st L b X I R) (kf : ¬ jx_cd .gt x 0 → J nx st L b X I R) : J pc (.int x :: st) L b X I R := hS.2 _ _ _ _ _ _ _ _ _ _ _ _ hat ⟨kt, kf⟩
theorem jy_if_le (hS : jx_Snd V d rt hh ini C J KR KX) {x off : Int} (hat : jx_at C pc = some (.ifCond .le off, nx, r1, r2, r3)) (hx : -2147483648 ≤ x ∧ x < 2147483648) (kt : x ≤ 0 → J r1 st L b X I R) (kf : ¬ x ≤ 0 → J nx st L b X I R) : J pc (jy x :: st) L b X I R :=
  hS.2 _ _ _ _ _ _ _ _ _ _ _ _ hat ⟨fun h => kt ((jy_cd .le hx (by omega)).mp h), fun h => kf (fun q => h ((jy_cd .le hx (by omega)).mpr q))⟩
theorem jy_icmp_le (hS : jx_Snd V d rt hh ini C J KR KX) {x y off : Int} (hat : jx_at C pc = some (.if_icmp .le off, nx, r1, r2, r3)) (hx : (-2147483648 ≤ x ∧ x < 2147483648) ∧ (-2147483648 ≤ y ∧ y < 2147483648)) (kt : x ≤ y → J r1 st L b X I R) (kf : ¬ x ≤ y → J nx st L b X I R) : J pc (jy y :: jy x :: st) L b X I R :=
  hS.2 _ _ _ _ _ _ _ _ _ _ _ _ hat ⟨fun h => kt ((jy_cd .le hx.1 hx.2).mp h), fun h => kf (fun q => h ((jy_cd .le hx.1 hx.2).mpr q))⟩
theorem jy_if_leX (hS : jx_Snd V d rt hh ini C J KR KX) {x : Int32} {off : Int} (hat : jx_at C pc = some (.ifCond .le off, nx, r1, r2, r3)) (kt : jx_cd .le x 0 → J r1 st L b X I R) (kf : ¬ jx_cd .le x 0 → J nx st L b X I R) : J pc (.int x :: st) L b X I R := hS.2 _ _ _ _ _ _ _ _ _ _ _ _ hat ⟨kt, kf⟩
theorem jy_goto (hS : jx_Snd V d rt hh ini C J KR KX) {off : Int} (hat : jx_at C pc = some (.goto off, nx, r1, r2, r3)) (k : J r1 st L b X I R) : J pc st L b X I R := hS.2 _ _ _ _ _ _ _ _ _ _ _ _ hat k
theorem jy_getI (hS : jx_Snd V d rt hh ini C J KR KX) {i a : Nat} (hat : jx_at C pc = some (.getfield i, nx, r1, r2, r3)) (hf : jx_fk r1 r2 ≠ 1) (hs : X.2.1 a = some (r1, 0)) (k : J nx (jy (I a r2).toInt :: st) L b X I R) : J pc (.ref a :: st) L b X I R := by
  rw [jy, Int32.ofInt_toInt] at k
  exact hS.2 _ _ _ _ _ _ _ _ _ _ _ _ hat (Or.inr ⟨hs, Or.inl ⟨hf, k⟩⟩)
theorem jy_getR (hS : jx_Snd V d rt hh ini C J KR KX) {i a q : Nat} (hat : jx_at C pc = some (.getfield i, nx, r1, r2, r3)) (hf : jx_fk r1 r2 = 1) (hs : X.2.1 a = some (r1, 0)) (hq : R a r2 = some q) (k : J nx (.ref q :: st) L b X I R) : J pc (.ref a :: st) L b X I R :=
  hS.2 _ _ _ _ _ _ _ _ _ _ _ _ hat (Or.inr ⟨hs, Or.inr ⟨hf, q, hq, k⟩⟩)
theorem jy_strV (hS : jx_Snd V d rt hh ini C J KR KX) {i j : Nat} (hat : jx_at C pc = some (.getfield i, nx, 50, 0, r3)) (hj : j < 34) (k : J nx (.ref (V.2.2.2.2.1 j) :: st) L b X I R) : J pc (.ref (V.2.2.2.1 j) :: st) L b X I R :=
  hS.2 _ _ _ _ _ _ _ _ _ _ _ _ hat (Or.inl ⟨rfl, j, hj, rfl, Or.inl ⟨rfl, k⟩⟩)
theorem jy_strC (hS : jx_Snd V d rt hh ini C J KR KX) {i j : Nat} (hat : jx_at C pc = some (.getfield i, nx, 50, 1, r3)) (hj : j < 34) (k : J nx (jy 0 :: st) L b X I R) : J pc (.ref (V.2.2.2.1 j) :: st) L b X I R :=
  hS.2 _ _ _ _ _ _ _ _ _ _ _ _ hat (Or.inl ⟨rfl, j, hj, rfl, Or.inr ⟨rfl, k⟩⟩)
theorem jy_putI (hS : jx_Snd V d rt hh ini C J KR KX) {i a : Nat} {x : Int} (hat : jx_at C pc = some (.putfield i, nx, r1, r2, r3)) (hf : jx_fk r1 r2 = 0) (hs : X.2.1 a = some (r1, 0)) (k : ∀ I', I' = jx_u I a r2 (Int32.ofInt x) → J nx st L b X I' R) : J pc (jy x :: .ref a :: st) L b X I R :=
  hS.2 _ _ _ _ _ _ _ _ _ _ _ _ hat ⟨hs, Or.inl hf, k _ rfl⟩
theorem jy_putB (hS : jx_Snd V d rt hh ini C J KR KX) {i a : Nat} {x : Int} (hat : jx_at C pc = some (.putfield i, nx, r1, r2, r3)) (hf : jx_fk r1 r2 = 2) (hx : x = 0 ∨ x = 1) (hs : X.2.1 a = some (r1, 0)) (k : ∀ I', I' = jx_u I a r2 (Int32.ofInt x) → J nx st L b X I' R) : J pc (jy x :: .ref a :: st) L b X I R := by
  refine hS.2 _ _ _ _ _ _ _ _ _ _ _ _ hat ⟨hs, Or.inr ⟨hf, ?_⟩, k _ rfl⟩
  rcases hx with rfl | rfl
  · exact Or.inl rfl
  · exact Or.inr rfl
theorem jy_putR (hS : jx_Snd V d rt hh ini C J KR KX) {i a q : Nat} (hat : jx_at C pc = some (.putfield i, nx, r1, r2, r3)) (hf : jx_fk r1 r2 = 1) (hff : jx_ff r1 r2 = true → ini = true) (hs : X.2.1 a = some (r1, 0)) (k : ∀ R', R' = jx_u R a r2 (some q) → J nx st L b X I R') : J pc (.ref q :: .ref a :: st) L b X I R :=
  hS.2 _ _ _ _ _ _ _ _ _ _ _ _ hat ⟨hs, hf, hff, k _ rfl⟩
theorem jy_putN (hS : jx_Snd V d rt hh ini C J KR KX) {i a : Nat} (hat : jx_at C pc = some (.putfield i, nx, r1, r2, r3)) (hf : jx_fk r1 r2 = 1) (hff : jx_ff r1 r2 = true → ini = true) (hs : X.2.1 a = some (r1, 0)) (k : ∀ R', R' = jx_u R a r2 none → J nx st L b X I R') : J pc (.null :: .ref a :: st) L b X I R :=
  hS.2 _ _ _ _ _ _ _ _ _ _ _ _ hat ⟨hs, hf, hff, k _ rfl⟩
theorem jy_gets0 (hS : jx_Snd V d rt hh ini C J KR KX) {i : Nat} (hat : jx_at C pc = some (.getstatic i, nx, 0, r2, r3)) (k : J nx (jy 1 :: st) L b X I R) : J pc st L b X I R := hS.2 _ _ _ _ _ _ _ _ _ _ _ _ hat (Or.inl ⟨rfl, k⟩)
theorem jy_gets1 (hS : jx_Snd V d rt hh ini C J KR KX) {i : Nat} (hat : jx_at C pc = some (.getstatic i, nx, 1, r2, r3)) (k : ∀ q : Option Nat, J nx (va_rf q :: st) L b X I R) : J pc st L b X I R := hS.2 _ _ _ _ _ _ _ _ _ _ _ _ hat (Or.inr ⟨rfl, k⟩)
theorem jy_iald (hS : jx_Snd V d rt hh ini C J KR KX) {a n : Nat} {i : Int} (hat : jx_at C pc = some (.iaload, nx, r1, r2, r3)) (hs : X.2.1 a = some (100, n)) (hn : n ≤ 2147483648) (hi : 0 ≤ i ∧ i < n) (k : J nx (jy (I a i.toNat).toInt :: st) L b X I R) : J pc (jy i :: .ref a :: st) L b X I R := by
  rw [jy, Int32.ofInt_toInt] at k
  refine hS.2 _ _ _ _ _ _ _ _ _ _ _ _ hat (Or.inl ⟨n, hs, jy_vp hi hn, ?_⟩)
  rw [jy_nat (by omega)]
  exact k
theorem jy_sld (hS : jx_Snd V d rt hh ini C J KR KX) {i : Int} (hat : jx_at C pc = some (.iaload, nx, r1, r2, r3)) (hn : V.2.2.2.2.2.2.1 ≤ 2147483648) (hi : 0 ≤ i ∧ i < V.2.2.2.2.2.2.1) (k : J nx (jy (V.2.2.2.2.2.2.2 i.toNat).toInt :: st) L b X I R) : J pc (jy i :: .ref V.2.2.2.2.2.1 :: st) L b X I R := by
  rw [jy, Int32.ofInt_toInt] at k
  refine hS.2 _ _ _ _ _ _ _ _ _ _ _ _ hat (Or.inr ⟨rfl, jy_vp hi hn, ?_⟩)
  rw [jy_nat (by omega)]
  exact k
theorem jy_lald (hS : jx_Snd V d rt hh ini C J KR KX) {a n : Nat} {i : Int} (hat : jx_at C pc = some (.laload, nx, r1, r2, r3)) (hs : X.2.1 a = some (101, n)) (hn : n ≤ 2147483648) (hi : 0 ≤ i ∧ i < n) (k : J nx (.long (X.2.2 a i.toNat) :: st) L b X I R) : J pc (jy i :: .ref a :: st) L b X I R := by
  refine hS.2 _ _ _ _ _ _ _ _ _ _ _ _ hat ⟨n, hs, jy_vp hi hn, ?_⟩
  rw [jy_nat (by omega)]
  exact k
theorem jy_aald (hS : jx_Snd V d rt hh ini C J KR KX) {a n q kd : Nat} {i : Int} (hat : jx_at C pc = some (.aaload, nx, r1, r2, r3)) (hs : X.2.1 a = some (kd, n)) (hk : kd = 102 ∨ kd = 103 ∨ kd = 104) (hn : n ≤ 2147483648) (hi : 0 ≤ i ∧ i < n) (hq : R a i.toNat = some q) (k : J nx (.ref q :: st) L b X I R) : J pc (jy i :: .ref a :: st) L b X I R :=
  hS.2 _ _ _ _ _ _ _ _ _ _ _ _ hat ⟨kd, n, hs, hk, jy_vp hi hn, q, by rw [jy_nat (by omega)]; exact hq, k⟩
theorem jy_bald (hS : jx_Snd V d rt hh ini C J KR KX) {j : Nat} {i : Int} {v : Int32} (hat : jx_at C pc = some (.baload, nx, r1, r2, r3)) (hj : j < 34) (hl : (jx_sb j).length ≤ 2147483648) (hi : 0 ≤ i ∧ i < (jx_sb j).length) (hv : (jx_sb j).getD i.toNat 0 = v) (k : J nx (jy v.toInt :: st) L b X I R) : J pc (jy i :: .ref (V.2.2.2.2.1 j) :: st) L b X I R := by
  subst hv
  rw [jy, Int32.ofInt_toInt] at k
  refine hS.2 _ _ _ _ _ _ _ _ _ _ _ _ hat ⟨j, hj, rfl, jy_vp hi hl, ?_⟩
  rw [jy_nat (by omega)]
  exact k
theorem jy_iast (hS : jx_Snd V d rt hh ini C J KR KX) {a n : Nat} {i x : Int} (hat : jx_at C pc = some (.iastore, nx, r1, r2, r3)) (hs : X.2.1 a = some (100, n)) (hn : n ≤ 2147483648) (hi : 0 ≤ i ∧ i < n) (k : ∀ I', I' = jx_u I a i.toNat (Int32.ofInt x) → J nx st L b X I' R) : J pc (jy x :: jy i :: .ref a :: st) L b X I R := by
  refine hS.2 _ _ _ _ _ _ _ _ _ _ _ _ hat ⟨n, hs, jy_vp hi hn, ?_⟩
  rw [jy_nat (by omega)]
  exact k _ rfl
theorem jy_last (hS : jx_Snd V d rt hh ini C J KR KX) {a n : Nat} {i : Int} {x : Int64} (hat : jx_at C pc = some (.lastore, nx, r1, r2, r3)) (hs : X.2.1 a = some (101, n)) (hn : n ≤ 2147483648) (hi : 0 ≤ i ∧ i < n) (k : J nx st L b (X.1, X.2.1, jx_u X.2.2 a i.toNat x) I R) : J pc (.long x :: jy i :: .ref a :: st) L b X I R := by
  refine hS.2 _ _ _ _ _ _ _ _ _ _ _ _ hat ⟨n, hs, jy_vp hi hn, ?_⟩
  rw [jy_nat (by omega)]
  exact k
theorem jy_alen (hS : jx_Snd V d rt hh ini C J KR KX) {a n kd : Nat} (hat : jx_at C pc = some (.arraylength, nx, r1, r2, r3)) (hs : X.2.1 a = some (kd, n)) (hk : 100 ≤ kd ∧ kd ≤ 104) (hn : n < 2147483648) (k : J nx (jy n :: st) L b X I R) : J pc (.ref a :: st) L b X I R := by
  refine hS.2 _ _ _ _ _ _ _ _ _ _ _ _ hat (Or.inl ⟨kd, n, hs, hk.1, hk.2, ?_⟩)
  have e : nI n = Int32.ofInt n := by
    unfold nI
    first | rfl | simp
  rw [e]
  exact k
theorem jy_slen (hS : jx_Snd V d rt hh ini C J KR KX) (hat : jx_at C pc = some (.arraylength, nx, r1, r2, r3)) (k : J nx (jy (V.2.2.2.2.2.2.1 : Nat) :: st) L b X I R) : J pc (.ref V.2.2.2.2.2.1 :: st) L b X I R := by
  refine hS.2 _ _ _ _ _ _ _ _ _ _ _ _ hat (Or.inr (Or.inl ⟨rfl, ?_⟩))
  have e : nI V.2.2.2.2.2.2.1 = Int32.ofInt (V.2.2.2.2.2.2.1 : Nat) := by
    unfold nI
    first | rfl | simp
  rw [e]
  exact k
theorem jy_blen (hS : jx_Snd V d rt hh ini C J KR KX) {j : Nat} (hat : jx_at C pc = some (.arraylength, nx, r1, r2, r3)) (hj : j < 34) (k : J nx (jy ((jx_sb j).length : Nat) :: st) L b X I R) : J pc (.ref (V.2.2.2.2.1 j) :: st) L b X I R := by
  refine hS.2 _ _ _ _ _ _ _ _ _ _ _ _ hat (Or.inr (Or.inr ⟨j, hj, rfl, ?_⟩))
  have e : nI (jx_sb j).length = Int32.ofInt ((jx_sb j).length : Nat) := by
    unfold nI
    first | rfl | simp
  rw [e]
  exact k
theorem jy_iret (hS : jx_Snd V d rt hh ini C J KR KX) {x : Int} (hat : jx_at C pc = some (.ireturn, nx, r1, r2, r3)) (hr : jx_rok rt (Int32.ofInt x)) (k : KR (some (jy x)) b X I R) : J pc [jy x] L b X I R := hS.2 _ _ _ _ _ _ _ _ _ _ _ _ hat ⟨hr, k⟩
theorem jy_lret (hS : jx_Snd V d rt hh ini C J KR KX) {x : Int64} (hat : jx_at C pc = some (.lreturn, nx, r1, r2, r3)) (hr : rt = some .long) (k : KR (some (.long x)) b X I R) : J pc [.long x] L b X I R := hS.2 _ _ _ _ _ _ _ _ _ _ _ _ hat ⟨hr, k⟩
theorem jy_ret (hS : jx_Snd V d rt hh ini C J KR KX) (hat : jx_at C pc = some (.return_, nx, r1, r2, r3)) (hr : rt = none) (k : KR none b X I R) : J pc [] L b X I R := hS.2 _ _ _ _ _ _ _ _ _ _ _ _ hat ⟨rfl, hr, k⟩
theorem jy_oi (hS : jx_Snd V d rt hh ini C J KR KX) {i a : Nat} (hat : jx_at C pc = some (.invokespecial i, nx, r1, r2, 5)) (hd : 1 ≤ d) (hst : (st.map fun v => v.category).sum ≤ 8) (k : J nx st L b X I R) : J pc (.ref a :: st) L b X I R := hS.2 _ _ _ _ _ _ _ _ _ _ _ _ hat (Or.inl ⟨rfl, hd, hst, k⟩)
theorem jy_throw (hS : jx_Snd V d rt [] ini C J KR KX) {i : Nat} (hat : jx_at C pc = some (.new i, nx, r1, r2, r3)) (hr : 100 ≤ r1 ∧ r1 < 104) (hd : 8 ≤ d) (hb : 1 ≤ b.1 ∧ 6 ≤ b.2) (hst : (st.map fun v => v.category).sum ≤ 8) (k : ∀ X' : jx_X, X.1 ≤ X'.1 → X'.2 = X.2 → KX (jx_exe (r1 - 100)).1 (b.1 - 1, b.2 - 6) X' I R) : J pc st L b X I R :=
  hS.2 _ _ _ _ _ _ _ _ _ _ _ _ hat (Or.inr ⟨hr.1, hr.2, rfl, hd, hb.1, hb.2, hst, k⟩)
theorem jy_new (hS : jx_Snd V d rt hh ini C J KR KX) {i : Nat} (hat : jx_at C pc = some (.new i, nx, r1, r2, r3)) (hr : r1 < 100) (hb : 1 ≤ b.1 ∧ jx_fn r1 ≤ b.2) (k : J nx (.ref X.1 :: st) L (b.1 - 1, b.2 - jx_fn r1) (X.1 + 1, jx_up X.2.1 X.1 (r1, 0), X.2.2) (jx_z I X.1) (jx_n R X.1)) : J pc st L b X I R :=
  hS.2 _ _ _ _ _ _ _ _ _ _ _ _ hat (Or.inl ⟨hr, hb.1, hb.2, k⟩)
/-- calls -/
theorem jy_callV (hS : jx_Snd V d rt hh ini C J KR KX) {i a z n : Nat} {As rest : List Value} {d' : Nat} {b' : Nat × Nat} {Post : Option Value → jx_X → jx_I → jx_R → Prop} {PX : String → jx_X → jx_I → jx_R → Prop} (hat : jx_at C pc = some (.invokevirtual i, nx, z, n, r3)) (hst : st.drop n = .ref a :: rest) (hAs : (st.take n).reverse = As) (hn : n ≤ st.length) (hs : X.2.1 a = some (jx_ow z, 0) ∨ (jx_ow z = 16 ∧ ∃ i, i < 34 ∧ a = V.2.2.2.1 i)) (hM : jx_Met V d' z b' (.ref a :: As) X I R Post PX) (hd : d' < d) (hb : b'.1 ≤ b.1 ∧ b'.2 ≤ b.2) (hsum : (rest.map fun v => v.category).sum ≤ 8)
    (k : ∀ rv X' I' R', Post rv X' I' R' → J nx (rv.toList ++ rest) L (b.1 - b'.1, b.2 - b'.2) X' I' R') (kx : ∀ E X' I' R', PX E X' I' R' → jx_kx hh J KX pc L (b.1 - b'.1, b.2 - b'.2) E X' I' R') : J pc st L b X I R := by
  subst hAs
  refine hS.2 _ _ _ _ _ _ _ _ _ _ _ _ hat ?_
  unfold jx_wp
  rw [hst]
  exact ⟨hs, hn, d', b', Post, PX, hd, hM, hb.1, hb.2, hsum, k, kx⟩
theorem jy_callS (hS : jx_Snd V d rt hh ini C J KR KX) {i z n : Nat} {As rest : List Value} {d' : Nat} {b' : Nat × Nat} {Post : Option Value → jx_X → jx_I → jx_R → Prop} {PX : String → jx_X → jx_I → jx_R → Prop} (hat : jx_at C pc = some (.invokestatic i, nx, z, n, 2)) (hst : st.drop n = rest) (hAs : (st.take n).reverse = As) (hn : n ≤ st.length) (hM : jx_Met V d' z b' As X I R Post PX) (hd : d' < d) (hb : b'.1 ≤ b.1 ∧ b'.2 ≤ b.2) (hsum : (rest.map fun v => v.category).sum ≤ 8)
    (k : ∀ rv X' I' R', Post rv X' I' R' → J nx (rv.toList ++ rest) L (b.1 - b'.1, b.2 - b'.2) X' I' R') (kx : ∀ E X' I' R', PX E X' I' R' → jx_kx hh J KX pc L (b.1 - b'.1, b.2 - b'.2) E X' I' R') : J pc st L b X I R := by
  subst hAs
  subst hst
  exact hS.2 _ _ _ _ _ _ _ _ _ _ _ _ hat (Or.inl ⟨rfl, hn, d', b', Post, PX, hd, hM, hb.1, hb.2, hsum, k, kx⟩)
theorem jy_callI (hS : jx_Snd V d rt hh ini C J KR KX) {i a z n : Nat} {As rest : List Value} {d' : Nat} {b' : Nat × Nat} {Post : Option Value → jx_X → jx_I → jx_R → Prop} {PX : String → jx_X → jx_I → jx_R → Prop} (hat : jx_at C pc = some (.invokespecial i, nx, z, n, r3)) (hr : r3 ≠ 5) (hst : st.drop n = .ref a :: rest) (hAs : (st.take n).reverse = As) (hn : n ≤ st.length) (hs : X.2.1 a = some (jx_ow z, 0)) (hM : jx_Met V d' z b' (.ref a :: As) X I R Post PX) (hd : d' < d) (hb : b'.1 ≤ b.1 ∧ b'.2 ≤ b.2) (hsum : (rest.map fun v => v.category).sum ≤ 8)
    (k : ∀ rv X' I' R', Post rv X' I' R' → J nx (rv.toList ++ rest) L (b.1 - b'.1, b.2 - b'.2) X' I' R') (kx : ∀ E X' I' R', PX E X' I' R' → jx_kx hh J KX pc L (b.1 - b'.1, b.2 - b'.2) E X' I' R') : J pc st L b X I R := by
  subst hAs
  refine hS.2 _ _ _ _ _ _ _ _ _ _ _ _ hat ?_
  refine Or.inr ⟨hr, ?_⟩
  rw [hst]
  exact ⟨hs, hn, d', b', Post, PX, hd, hM, hb.1, hb.2, hsum, k, kx⟩
theorem jy_copy (hS : jx_Snd V d rt hh ini C J KR KX) {i a q n0 n1 : Nat} {sp dp n : Int} (hat : jx_at C pc = some (.invokestatic i, nx, r1, r2, 6)) (hd : 1 ≤ d) (hs : X.2.1 a = some (100, n0) ∧ n0 < 2147483648) (hq : X.2.1 q = some (100, n1) ∧ n1 < 2147483648) (hr : (0 ≤ sp ∧ sp + n ≤ n0) ∧ (0 ≤ dp ∧ dp + n ≤ n1) ∧ 0 ≤ n) (hst : (st.map fun v => v.category).sum ≤ 8)
    (k : ∀ I', I' = jx_cp I a q sp.toNat dp.toNat n.toNat → J nx st L b X I' R) : J pc (jy n :: jy dp :: .ref q :: jy sp :: .ref a :: st) L b X I R := by
  refine hS.2 _ _ _ _ _ _ _ _ _ _ _ _ hat (Or.inr ⟨rfl, hd, n0, n1, hs.1, hq.1, ?_, ?_, ?_, ?_, ?_, hst, ?_⟩)
  · exact (jy_le (x := 0) (by omega) (by omega)).mpr hr.1.1
  · exact (jy_le (x := 0) (by omega) (by omega)).mpr hr.2.1.1
  · exact (jy_le (x := 0) (by omega) (by omega)).mpr hr.2.2
  · rw [jy_nat (by omega), jy_nat (by omega)]
    omega
  · rw [jy_nat (by omega), jy_nat (by omega)]
    omega
  · rw [jy_nat (by omega), jy_nat (by omega), jy_nat (by omega)]
    exact k _ rfl
/-- a lookup switch -/
theorem jy_lsw (hS : jx_Snd V d rt hh ini C J KR KX) {x dflt : Int} {ps : Array (Int × Int)} (hat : jx_at C pc = some (.lookupswitch dflt ps, nx, r1, r2, r3)) (hx : -2147483648 ≤ x ∧ x < 2147483648)
    (k : 0 ≤ (pc : Int) + Op.lookupswitch.offset ps.toList dflt x ∧ J ((pc : Int) + Op.lookupswitch.offset ps.toList dflt x).toNat st L b X I R) : J pc (jy x :: st) L b X I R := by
  refine hS.2 _ _ _ _ _ _ _ _ _ _ _ _ hat ?_
  show 0 ≤ (pc : Int) + Op.lookupswitch.offset ps.toList dflt (Int32.ofInt x).toInt ∧ _
  rw [jy_toInt hx]
  exact k
/-- a table switch -/
theorem jy_tsw (hS : jx_Snd V d rt hh ini C J KR KX) {x dflt lo hi : Int} {offs : Array Int} (hat : jx_at C pc = some (.tableswitch dflt lo hi offs, nx, r1, r2, r3)) (hx : -2147483648 ≤ x ∧ x < 2147483648) (kd : (x < lo ∨ hi < x) → 0 ≤ (pc : Int) + dflt ∧ J ((pc : Int) + dflt).toNat st L b X I R)
    (ki : ¬ x < lo → ¬ hi < x → ∃ off, offs[(x - lo).toNat]? = some off ∧ 0 ≤ (pc : Int) + off ∧ J ((pc : Int) + off).toNat st L b X I R) : J pc (jy x :: st) L b X I R := by
  refine hS.2 _ _ _ _ _ _ _ _ _ _ _ _ hat ?_
  show ((Int32.ofInt x).toInt < lo ∨ hi < (Int32.ofInt x).toInt → _) ∧ (¬ (Int32.ofInt x).toInt < lo → ¬ hi < (Int32.ofInt x).toInt → ∃ off, offs[((Int32.ofInt x).toInt - lo).toNat]? = some off ∧ _ ∧ _)
  rw [jy_toInt hx]
  exact ⟨kd, ki⟩
theorem jy_rng (x : Int32) : -2147483648 ≤ x.toInt ∧ x.toInt < 2147483648 := ⟨by simpa using Int32.le_toInt x, by simpa using Int32.toInt_lt x⟩
/-- what is known of the locals is kept -/
def jy_sub : List (Option Value) → List (Option Value) → Prop
  | [], _ => True
  | none :: l, _ :: l' => jy_sub l l'
  | some v :: l, w :: l' => w = some v ∧ jy_sub l l'
  | _ :: _, [] => False
theorem jy_sub_get : ∀ (l l' : List (Option Value)), jy_sub l l' → ∀ (i : Nat) (v : Value), l[i]? = some (some v) → l'[i]? = some (some v) := by
  intro l
  induction l with
  | nil => intro l' _ i v h; simp at h
  | cons a l ih =>
    intro l' h i v hi
    cases l' with
    | nil => cases a <;> exact h.elim
    | cons w l' =>
      cases i with
      | zero =>
        cases a with
        | none => cases hi
        | some u =>
          cases hi
          show some w = some (some v)
          rw [h.1]
      | succ i =>
        cases a with
        | none => exact ih l' h i v hi
        | some u => exact ih l' h.2 i v hi
theorem jy_sub_0 {l : List (Option Value)} : jy_sub [] l := trivial
theorem jy_sub_n {l l' : List (Option Value)} {w : Option Value} (h : jy_sub l l') : jy_sub (none :: l) (w :: l') := h
theorem jy_sub_s {l l' : List (Option Value)} {v : Value} (h : jy_sub l l') : jy_sub (some v :: l) (some v :: l') := ⟨rfl, h⟩
theorem jy_join (hS : jx_Snd V d rt hh ini C J KR KX) {L' : List (Option Value)} (k : J pc st L' b X I R) (hl : L'.length = L.length) (h : jy_sub L' L) : J pc st L b X I R := hS.1 _ _ _ _ _ _ _ _ hl (jy_sub_get _ _ h) k
theorem jy_weak (hS : jx_Snd V d rt hh ini C J KR KX) {L' : List (Option Value)} (hl : L'.length = L.length) (h : ∀ (i : Nat) (v : Value), L'[i]? = some (some v) → L[i]? = some (some v)) (k : J pc st L' b X I R) : J pc st L b X I R := hS.1 _ _ _ _ _ _ _ _ hl h k
end JY
/-- contracts of methods that make no object (but an exception) and change no reference -/
def jc (V : jx_V) (d z : Nat) (b : Nat × Nat) (As : List Value) (X : jx_X) (I : jx_I) (R : jx_R) (Q : Option Value → jx_I → Prop) (QE : String → jx_I → Prop) : Prop :=
  jx_Met V d z b As X I R (fun rv X' I' R' => X' = X ∧ R' = R ∧ Q rv I') (fun E X' I' R' => X.1 ≤ X'.1 ∧ X'.2 = X.2 ∧ R' = R ∧ QE E I')
/-- .. that may change references -/
def jd (V : jx_V) (d z : Nat) (b : Nat × Nat) (As : List Value) (X : jx_X) (I : jx_I) (R : jx_R) (Q : Option Value → jx_I → jx_R → Prop) (QE : String → jx_I → jx_R → Prop) : Prop :=
  jx_Met V d z b As X I R (fun rv X' I' R' => X' = X ∧ Q rv I' R') (fun E X' I' R' => X.1 ≤ X'.1 ∧ X'.2 = X.2 ∧ QE E I' R')
/-- a method's contract, the code and the rest named -/
theorem jy_met {V : jx_V} {d z n : Nat} {rt : Option FieldType} {hh : List (Nat × Nat × Nat × Nat)} {ini : Bool} {C : List jx_row} {b : Nat × Nat} {As : List Value} {X : jx_X} {I : jx_I} {R : jx_R} {Post : Option Value → jx_X → jx_I → jx_R → Prop} {PX : String → jx_X → jx_I → jx_R → Prop} {L : List (Option Value)} (hV : V.1.stackTraces = false) (hz : z < 377)
    (ht : jx_ml z = n ∧ jx_rt z = rt ∧ jx_hz z = hh ∧ decide ((jx_nm z).name = "<init>") = ini ∧ jx_code z = C) (hlen : (lg_sl As).length ≤ n) (hL : jx_ent n As = L)
    (hbody : ∀ J : jx_Jt, jx_Snd V d rt hh ini C J (fun rv _ X' I' R' => Post rv X' I' R') (fun E _ X' I' R' => PX E X' I' R') → J 0 [] L b X I R) : jx_Met V d z b As X I R Post PX := by
  obtain ⟨rfl, rfl, rfl, rfl, rfl⟩ := ht
  subst hL
  exact jx_met hz hV hlen hbody
