theorem jt_273 : jx_ml 273 = 10 ∧ jx_rt 273 = some .int ∧ jx_hz 273 = [] ∧ decide ((jx_nm 273).name = "<init>") = false ∧ jx_code 273 = jx_c273 := by decide +kernel
/-- GCModel.visited, from 19 -/
def wz_273_19 (V : jx_V) (X : jx_X) (R : jx_R) (Q : Option Value → jx_I → Prop) (QE : String → jx_I → Prop) (J19 : Nat → Int → jx_I → Prop) (J53 : Nat → Int → jx_I → Prop) (J85 : Int → Int → Int → jx_I → Prop) (J126 : Int → Int → Int → jx_I → Prop) (J136 : Int → Int → Int → Int → jx_I → Prop) (J147 : Int → Int → Int → Int → Int → jx_I → Prop) (J181 : Int → Int → Int → Int → Int → Int → jx_I → Prop) (J271 : Int → Int → Int → Int → Int → Int → jx_I → Prop) (J277 : Int → Int → Int → Int → Int → jx_I → Prop) (J292 : Int → Int → Int → Int → Int → jx_I → Prop) (J330 : Int → Int → Int → Int → Int → jx_I → Prop) (J363 : Int → Int → Int → jx_I → Prop) (a0 : Nat) (a1 : Int) (a2 : Int) (a3 : Int) (s0 : Nat) (s1 : Int) (I : jx_I) : Prop :=
  (X.2.1 s0 = some (12, 0)) ∧ (
  ∃ Q9 : Option Value → jx_I → Prop, (
  (jc V 1 202 (0, 0) [.ref s0, jy s1, jy 1, jy 0] X I R Q9 (fun _ _ => False)) ∧ (
  ∀ rv I11, Q9 rv I11 → ∃ r12 : Int, rv = some (jy r12) ∧ (
  (-2147483648 ≤ r12 ∧ r12 < 2147483648) ∧ (
  (r12 ≠ 0 → (
    Q (some (jy 0)) I11
  )) ∧ (r12 = 0 → (
    ∃ Q14 : Option Value → jx_I → Prop, (
    (jc V 1 203 (0, 0) [jy a2, jy 0, jy 999] X I11 R Q14 (fun _ _ => False)) ∧ (
    ∀ rv I16, Q14 rv I16 → ∃ r17 : Int, rv = some (jy r17) ∧ (
    (-2147483648 ≤ r17 ∧ r17 < 2147483648) ∧ (
    (r17 = 0 → (
      J53 a0 1 I16
    )) ∧ (¬ r17 = 0 → (
      ∃ Q19 : Option Value → jx_I → Prop, (
      (jc V 1 203 (0, 0) [jy a3, jy 0, jy 1] X I16 R Q19 (fun _ _ => False)) ∧ (
      ∀ rv I21, Q19 rv I21 → ∃ r22 : Int, rv = some (jy r22) ∧ (
      (-2147483648 ≤ r22 ∧ r22 < 2147483648) ∧ (
      (r22 ≠ 0 → (
        J53 a0 0 I21
      )) ∧ (r22 = 0 → (
        J53 a0 1 I21
      ))))))
    ))))))
  )))))))
/-- GCModel.visited, from 53 -/
def wz_273_53 (V : jx_V) (X : jx_X) (R : jx_R) (Q : Option Value → jx_I → Prop) (QE : String → jx_I → Prop) (J19 : Nat → Int → jx_I → Prop) (J53 : Nat → Int → jx_I → Prop) (J85 : Int → Int → Int → jx_I → Prop) (J126 : Int → Int → Int → jx_I → Prop) (J136 : Int → Int → Int → Int → jx_I → Prop) (J147 : Int → Int → Int → Int → Int → jx_I → Prop) (J181 : Int → Int → Int → Int → Int → Int → jx_I → Prop) (J271 : Int → Int → Int → Int → Int → Int → jx_I → Prop) (J277 : Int → Int → Int → Int → Int → jx_I → Prop) (J292 : Int → Int → Int → Int → Int → jx_I → Prop) (J330 : Int → Int → Int → Int → Int → jx_I → Prop) (J363 : Int → Int → Int → jx_I → Prop) (a0 : Nat) (a1 : Int) (a2 : Int) (a3 : Int) (s0 : Nat) (s1 : Int) (I : jx_I) : Prop :=
  (X.2.1 s0 = some (12, 0)) ∧ (
  ∃ Q25 : Option Value → jx_I → Prop, (
  (jc V 1 202 (0, 0) [.ref s0, jy s1, jy 2, jy 2] X I R Q25 (fun _ _ => False)) ∧ (
  ∀ rv I27, Q25 rv I27 → ∃ r28 : Int, rv = some (jy r28) ∧ (
  (-2147483648 ≤ r28 ∧ r28 < 2147483648) ∧ (
  (r28 = 0 → (
    (X.2.1 a0 = some (12, 0)) ∧ (
    ∃ Q31 : Option Value → jx_I → Prop, (
    (jc V 1 243 (0, 0) [.ref a0] X I27 R Q31 (fun _ _ => False)) ∧ (
    ∀ rv I33, Q31 rv I33 → rv = none ∧ (
    ∃ q35 : Nat, (
    (R a0 11 = some q35) ∧ (
    ∃ n37 : Nat, (
    (X.2.1 q35 = some (100, n37) ∧ n37 < 2147483648) ∧ (
    (0 ≤ (0 : Int) ∧ (0 : Int) < n37) ∧ (
    J85 ((Int32.ofInt 1 <<< (Int32.ofInt ((I33 q35 (0 : Int).toNat).toInt) &&& 31)).toInt) ((Int32.ofInt 1 <<< (Int32.ofInt a1 &&& 31)).toInt) 0 I33)))))))))
  )) ∧ (¬ r28 = 0 → (
    Q (some (jy 0)) I27
  )))))))
/-- GCModel.visited, from 85 -/
def wz_273_85 (V : jx_V) (X : jx_X) (R : jx_R) (Q : Option Value → jx_I → Prop) (QE : String → jx_I → Prop) (J19 : Nat → Int → jx_I → Prop) (J53 : Nat → Int → jx_I → Prop) (J85 : Int → Int → Int → jx_I → Prop) (J126 : Int → Int → Int → jx_I → Prop) (J136 : Int → Int → Int → Int → jx_I → Prop) (J147 : Int → Int → Int → Int → Int → jx_I → Prop) (J181 : Int → Int → Int → Int → Int → Int → jx_I → Prop) (J271 : Int → Int → Int → Int → Int → Int → jx_I → Prop) (J277 : Int → Int → Int → Int → Int → jx_I → Prop) (J292 : Int → Int → Int → Int → Int → jx_I → Prop) (J330 : Int → Int → Int → Int → Int → jx_I → Prop) (J363 : Int → Int → Int → jx_I → Prop) (a0 : Nat) (a1 : Int) (a2 : Int) (a3 : Int) (l4 : Int) (l5 : Int) (l6 : Int) (I : jx_I) : Prop :=
  (-2147483648 ≤ l6 ∧ l6 < 2147483648) ∧ (
  (-2147483648 ≤ (l4 * 10) ∧ (l4 * 10) < 2147483648) ∧ (
  ((l4 * 10) ≤ l6 → (
    (X.2.1 a0 = some (12, 0)) ∧ (
    ∃ q43 : Nat, (
    (R a0 51 = some q43) ∧ (
    ∃ n45 : Nat, (
    (X.2.1 q43 = some (100, n45) ∧ n45 < 2147483648) ∧ (
    (0 ≤ (((Int32.ofInt 1 <<< (Int32.ofInt a1 &&& 31)).toInt * 10) + a1) ∧ (((Int32.ofInt 1 <<< (Int32.ofInt a1 &&& 31)).toInt * 10) + a1) < n45) ∧ (
    ∀ I48 : jx_I, I48 = jx_u I q43 (((Int32.ofInt 1 <<< (Int32.ofInt a1 &&& 31)).toInt * 10) + a1).toNat (Int32.ofInt 0) → (
    J126 l4 l5 1 I48)))))))
  )) ∧ (¬ (l4 * 10) ≤ l6 → (
    (X.2.1 a0 = some (12, 0)) ∧ (
    ∃ q50 : Nat, (
    (R a0 51 = some q50) ∧ (
    ∃ n52 : Nat, (
    (X.2.1 q50 = some (100, n52) ∧ n52 < 2147483648) ∧ (
    (0 ≤ l6 ∧ l6 < n52) ∧ (
    ∀ I55 : jx_I, I55 = jx_u I q50 l6.toNat (Int32.ofInt (-1)) → (
    J85 l4 l5 (l6 + 1) I55)))))))
  ))))
/-- GCModel.visited, from 126 -/
def wz_273_126 (V : jx_V) (X : jx_X) (R : jx_R) (Q : Option Value → jx_I → Prop) (QE : String → jx_I → Prop) (J19 : Nat → Int → jx_I → Prop) (J53 : Nat → Int → jx_I → Prop) (J85 : Int → Int → Int → jx_I → Prop) (J126 : Int → Int → Int → jx_I → Prop) (J136 : Int → Int → Int → Int → jx_I → Prop) (J147 : Int → Int → Int → Int → Int → jx_I → Prop) (J181 : Int → Int → Int → Int → Int → Int → jx_I → Prop) (J271 : Int → Int → Int → Int → Int → Int → jx_I → Prop) (J277 : Int → Int → Int → Int → Int → jx_I → Prop) (J292 : Int → Int → Int → Int → Int → jx_I → Prop) (J330 : Int → Int → Int → Int → Int → jx_I → Prop) (J363 : Int → Int → Int → jx_I → Prop) (a0 : Nat) (a1 : Int) (a2 : Int) (a3 : Int) (l4 : Int) (l5 : Int) (l6 : Int) (I : jx_I) : Prop :=
  (-2147483648 ≤ l6 ∧ l6 < 2147483648) ∧ (
  (-2147483648 ≤ l4 ∧ l4 < 2147483648) ∧ (
  (l4 ≤ l6 → (
    (a3 ≠ 0 → (
      Q (some (jy l5)) I
    )) ∧ (a3 = 0 → (
      ∃ Q58 : Option Value → jx_I → Prop, (
      (jc V 1 272 (0, 0) [jy l5] X I R Q58 (fun _ _ => False)) ∧ (
      ∀ rv I60, Q58 rv I60 → ∃ r61 : Int, rv = some (jy r61) ∧ (
      Q (some (jy r61)) I60)))
    ))
  )) ∧ (¬ l4 ≤ l6 → (
    J136 l4 l5 l6 1 I
  ))))
/-- GCModel.visited, from 136 -/
def wz_273_136 (V : jx_V) (X : jx_X) (R : jx_R) (Q : Option Value → jx_I → Prop) (QE : String → jx_I → Prop) (J19 : Nat → Int → jx_I → Prop) (J53 : Nat → Int → jx_I → Prop) (J85 : Int → Int → Int → jx_I → Prop) (J126 : Int → Int → Int → jx_I → Prop) (J136 : Int → Int → Int → Int → jx_I → Prop) (J147 : Int → Int → Int → Int → Int → jx_I → Prop) (J181 : Int → Int → Int → Int → Int → Int → jx_I → Prop) (J271 : Int → Int → Int → Int → Int → Int → jx_I → Prop) (J277 : Int → Int → Int → Int → Int → jx_I → Prop) (J292 : Int → Int → Int → Int → Int → jx_I → Prop) (J330 : Int → Int → Int → Int → Int → jx_I → Prop) (J363 : Int → Int → Int → jx_I → Prop) (a0 : Nat) (a1 : Int) (a2 : Int) (a3 : Int) (l4 : Int) (l5 : Int) (l6 : Int) (l7 : Int) (I : jx_I) : Prop :=
  (-2147483648 ≤ l7 ∧ l7 < 2147483648) ∧ (
  (l7 = 0 → (
    J292 l4 l5 l6 0 0 I
  )) ∧ (¬ l7 = 0 → (
    J147 l4 l5 l6 0 0 I
  )))
/-- GCModel.visited, from 147 -/
def wz_273_147 (V : jx_V) (X : jx_X) (R : jx_R) (Q : Option Value → jx_I → Prop) (QE : String → jx_I → Prop) (J19 : Nat → Int → jx_I → Prop) (J53 : Nat → Int → jx_I → Prop) (J85 : Int → Int → Int → jx_I → Prop) (J126 : Int → Int → Int → jx_I → Prop) (J136 : Int → Int → Int → Int → jx_I → Prop) (J147 : Int → Int → Int → Int → Int → jx_I → Prop) (J181 : Int → Int → Int → Int → Int → Int → jx_I → Prop) (J271 : Int → Int → Int → Int → Int → Int → jx_I → Prop) (J277 : Int → Int → Int → Int → Int → jx_I → Prop) (J292 : Int → Int → Int → Int → Int → jx_I → Prop) (J330 : Int → Int → Int → Int → Int → jx_I → Prop) (J363 : Int → Int → Int → jx_I → Prop) (a0 : Nat) (a1 : Int) (a2 : Int) (a3 : Int) (l4 : Int) (l5 : Int) (l6 : Int) (l7 : Int) (l8 : Int) (I : jx_I) : Prop :=
  (X.2.1 a0 = some (12, 0)) ∧ (
  ∃ q64 : Nat, (
  (R a0 11 = some q64) ∧ (
  ∃ n66 : Nat, (
  (X.2.1 q64 = some (100, n66) ∧ n66 < 2147483648) ∧ (
  (0 ≤ (0 : Int) ∧ (0 : Int) < n66) ∧ (
  (-2147483648 ≤ l8 ∧ l8 < 2147483648) ∧ (
  ((I q64 (0 : Int).toNat).toInt ≤ l8 → (
    J136 l4 l5 l6 l7 I
  )) ∧ (¬ (I q64 (0 : Int).toNat).toInt ≤ l8 → (
    ∃ q70 : Nat, (
    (R a0 51 = some q70) ∧ (
    ∃ n72 : Nat, (
    (X.2.1 q70 = some (100, n72) ∧ n72 < 2147483648) ∧ (
    (0 ≤ ((l6 * 10) + l8) ∧ ((l6 * 10) + l8) < n72) ∧ (
    ((I q70 ((l6 * 10) + l8).toNat).toInt ≠ (-1) → (
      J181 l4 l5 l6 l7 l8 0 I
    )) ∧ ((I q70 ((l6 * 10) + l8).toNat).toInt = (-1) → (
      J277 l4 l5 l6 l7 l8 I
    )))))))
  )))))))))
/-- GCModel.visited, from 181 -/
def wz_273_181 (V : jx_V) (X : jx_X) (R : jx_R) (Q : Option Value → jx_I → Prop) (QE : String → jx_I → Prop) (J19 : Nat → Int → jx_I → Prop) (J53 : Nat → Int → jx_I → Prop) (J85 : Int → Int → Int → jx_I → Prop) (J126 : Int → Int → Int → jx_I → Prop) (J136 : Int → Int → Int → Int → jx_I → Prop) (J147 : Int → Int → Int → Int → Int → jx_I → Prop) (J181 : Int → Int → Int → Int → Int → Int → jx_I → Prop) (J271 : Int → Int → Int → Int → Int → Int → jx_I → Prop) (J277 : Int → Int → Int → Int → Int → jx_I → Prop) (J292 : Int → Int → Int → Int → Int → jx_I → Prop) (J330 : Int → Int → Int → Int → Int → jx_I → Prop) (J363 : Int → Int → Int → jx_I → Prop) (a0 : Nat) (a1 : Int) (a2 : Int) (a3 : Int) (l4 : Int) (l5 : Int) (l6 : Int) (l7 : Int) (l8 : Int) (l9 : Int) (I : jx_I) : Prop :=
  (X.2.1 a0 = some (12, 0)) ∧ (
  ∃ q76 : Nat, (
  (R a0 11 = some q76) ∧ (
  ∃ n78 : Nat, (
  (X.2.1 q76 = some (100, n78) ∧ n78 < 2147483648) ∧ (
  (0 ≤ (0 : Int) ∧ (0 : Int) < n78) ∧ (
  (-2147483648 ≤ l9 ∧ l9 < 2147483648) ∧ (
  ((I q76 (0 : Int).toNat).toInt ≤ l9 → (
    J147 l4 l5 l6 l7 (l8 + 1) I
  )) ∧ (¬ (I q76 (0 : Int).toNat).toInt ≤ l9 → (
    ∃ q82 : Nat, (
    (R a0 21 = some q82) ∧ (
    ∃ n84 : Nat, (
    (X.2.1 q82 = some (104, n84) ∧ n84 < 2147483648) ∧ (
    (0 ≤ l8 ∧ l8 < n84) ∧ (
    ∃ q87 : Nat, (
    (R q82 l8.toNat = some q87) ∧ (
    ∃ n89 : Nat, (
    (X.2.1 q87 = some (100, n89) ∧ n89 < 2147483648) ∧ (
    (0 ≤ l9 ∧ l9 < n89) ∧ (
    ((I q87 l9.toNat).toInt ≤ 0 → (
      J181 l4 l5 l6 l7 l8 (l9 + 1) I
    )) ∧ (¬ (I q87 l9.toNat).toInt ≤ 0 → (
      ∃ q92 : Nat, (
      (R a0 51 = some q92) ∧ (
      ∃ n94 : Nat, (
      (X.2.1 q92 = some (100, n94) ∧ n94 < 2147483648) ∧ (
      (0 ≤ ((l6 * 10) + l8) ∧ ((l6 * 10) + l8) < n94) ∧ (
      (0 ≤ l8 ∧ l8 < n84) ∧ (
      ∃ q98 : Nat, (
      (R q82 l8.toNat = some q98) ∧ (
      ∃ n100 : Nat, (
      (X.2.1 q98 = some (100, n100) ∧ n100 < 2147483648) ∧ (
      (0 ≤ l9 ∧ l9 < n100) ∧ (
      ∃ Q103 : Option Value → jx_I → Prop, (
      (jc V 3 246 (0, 0) [.ref a0, jy l9] X I R Q103 (fun _ _ => False)) ∧ (
      ∀ rv I105, Q103 rv I105 → ∃ r106 : Int, rv = some (jy r106) ∧ (
      ∃ Q107 : Option Value → jx_I → Prop, (
      (jc V 1 271 (0, 0) [.ref a0, jy (((Int32.ofInt l6 ||| Int32.ofInt ((Int32.ofInt 1 <<< (Int32.ofInt l9 &&& 31)).toInt)).toInt * 10) + l9), jy (((I q92 ((l6 * 10) + l8).toNat).toInt + (I q98 l9.toNat).toInt) + r106), jy a2] X I105 R Q107 (fun _ _ => False)) ∧ (
      ∀ rv I109, Q107 rv I109 → ∃ r110 : Int, rv = some (jy r110) ∧ (
      (-2147483648 ≤ r110 ∧ r110 < 2147483648) ∧ (
      (r110 = 0 → (
        J181 l4 l5 l6 l7 l8 (l9 + 1) I109
      )) ∧ (¬ r110 = 0 → (
        ((Int32.ofInt ((Int32.ofInt l6 >>> (Int32.ofInt l9 &&& 31)).toInt) &&& Int32.ofInt 1).toInt ≠ 1 → (
          J181 l4 l5 l6 l7 l8 (l9 + 1) I109
        )) ∧ ((Int32.ofInt ((Int32.ofInt l6 >>> (Int32.ofInt l9 &&& 31)).toInt) &&& Int32.ofInt 1).toInt = 1 → (
          J271 l4 l5 l6 1 l8 l9 I109
        ))
      ))))))))))))))))))))
    ))))))))))))
  )))))))))
/-- GCModel.visited, from 271 -/
def wz_273_271 (V : jx_V) (X : jx_X) (R : jx_R) (Q : Option Value → jx_I → Prop) (QE : String → jx_I → Prop) (J19 : Nat → Int → jx_I → Prop) (J53 : Nat → Int → jx_I → Prop) (J85 : Int → Int → Int → jx_I → Prop) (J126 : Int → Int → Int → jx_I → Prop) (J136 : Int → Int → Int → Int → jx_I → Prop) (J147 : Int → Int → Int → Int → Int → jx_I → Prop) (J181 : Int → Int → Int → Int → Int → Int → jx_I → Prop) (J271 : Int → Int → Int → Int → Int → Int → jx_I → Prop) (J277 : Int → Int → Int → Int → Int → jx_I → Prop) (J292 : Int → Int → Int → Int → Int → jx_I → Prop) (J330 : Int → Int → Int → Int → Int → jx_I → Prop) (J363 : Int → Int → Int → jx_I → Prop) (a0 : Nat) (a1 : Int) (a2 : Int) (a3 : Int) (l4 : Int) (l5 : Int) (l6 : Int) (l7 : Int) (l8 : Int) (l9 : Int) (I : jx_I) : Prop :=
  J181 l4 l5 l6 l7 l8 (l9 + 1) I
/-- GCModel.visited, from 277 -/
def wz_273_277 (V : jx_V) (X : jx_X) (R : jx_R) (Q : Option Value → jx_I → Prop) (QE : String → jx_I → Prop) (J19 : Nat → Int → jx_I → Prop) (J53 : Nat → Int → jx_I → Prop) (J85 : Int → Int → Int → jx_I → Prop) (J126 : Int → Int → Int → jx_I → Prop) (J136 : Int → Int → Int → Int → jx_I → Prop) (J147 : Int → Int → Int → Int → Int → jx_I → Prop) (J181 : Int → Int → Int → Int → Int → Int → jx_I → Prop) (J271 : Int → Int → Int → Int → Int → Int → jx_I → Prop) (J277 : Int → Int → Int → Int → Int → jx_I → Prop) (J292 : Int → Int → Int → Int → Int → jx_I → Prop) (J330 : Int → Int → Int → Int → Int → jx_I → Prop) (J363 : Int → Int → Int → jx_I → Prop) (a0 : Nat) (a1 : Int) (a2 : Int) (a3 : Int) (l4 : Int) (l5 : Int) (l6 : Int) (l7 : Int) (l8 : Int) (I : jx_I) : Prop :=
  J147 l4 l5 l6 l7 (l8 + 1) I
/-- GCModel.visited, from 292 -/
def wz_273_292 (V : jx_V) (X : jx_X) (R : jx_R) (Q : Option Value → jx_I → Prop) (QE : String → jx_I → Prop) (J19 : Nat → Int → jx_I → Prop) (J53 : Nat → Int → jx_I → Prop) (J85 : Int → Int → Int → jx_I → Prop) (J126 : Int → Int → Int → jx_I → Prop) (J136 : Int → Int → Int → Int → jx_I → Prop) (J147 : Int → Int → Int → Int → Int → jx_I → Prop) (J181 : Int → Int → Int → Int → Int → Int → jx_I → Prop) (J271 : Int → Int → Int → Int → Int → Int → jx_I → Prop) (J277 : Int → Int → Int → Int → Int → jx_I → Prop) (J292 : Int → Int → Int → Int → Int → jx_I → Prop) (J330 : Int → Int → Int → Int → Int → jx_I → Prop) (J363 : Int → Int → Int → jx_I → Prop) (a0 : Nat) (a1 : Int) (a2 : Int) (a3 : Int) (l4 : Int) (l5 : Int) (l6 : Int) (l7 : Int) (l8 : Int) (I : jx_I) : Prop :=
  (X.2.1 a0 = some (12, 0)) ∧ (
  ∃ q113 : Nat, (
  (R a0 11 = some q113) ∧ (
  ∃ n115 : Nat, (
  (X.2.1 q113 = some (100, n115) ∧ n115 < 2147483648) ∧ (
  (0 ≤ (0 : Int) ∧ (0 : Int) < n115) ∧ (
  (-2147483648 ≤ l8 ∧ l8 < 2147483648) ∧ (
  ((I q113 (0 : Int).toNat).toInt ≤ l8 → (
    (-2147483648 ≤ l7 ∧ l7 < 2147483648) ∧ (
    (l7 = 0 → (
      J363 l5 l4 l6 I
    )) ∧ (¬ l7 = 0 → (
      ∃ Q120 : Option Value → jx_I → Prop, (
      (jc V 1 272 (0, 0) [jy l6] X I R Q120 (fun _ _ => False)) ∧ (
      ∀ rv I122, Q120 rv I122 → ∃ r123 : Int, rv = some (jy r123) ∧ (
      ∃ Q124 : Option Value → jx_I → Prop, (
      (jc V 1 272 (0, 0) [jy l5] X I122 R Q124 (fun _ _ => False)) ∧ (
      ∀ rv I126, Q124 rv I126 → ∃ r127 : Int, rv = some (jy r127) ∧ (
      (-2147483648 ≤ r123 ∧ r123 < 2147483648) ∧ (
      (-2147483648 ≤ r127 ∧ r127 < 2147483648) ∧ (
      (r123 ≤ r127 → (
        J363 l5 l4 l6 I126
      )) ∧ (¬ r123 ≤ r127 → (
        J363 l6 l4 l6 I126
      ))))))))))
    )))
  )) ∧ (¬ (I q113 (0 : Int).toNat).toInt ≤ l8 → (
    (-2147483648 ≤ l7 ∧ l7 < 2147483648) ∧ (
    (l7 ≠ 0 → (
      J330 1 l4 l5 l6 l8 I
    )) ∧ (l7 = 0 → (
      ∃ q131 : Nat, (
      (R a0 51 = some q131) ∧ (
      ∃ n133 : Nat, (
      (X.2.1 q131 = some (100, n133) ∧ n133 < 2147483648) ∧ (
      (0 ≤ ((l6 * 10) + l8) ∧ ((l6 * 10) + l8) < n133) ∧ (
      ((I q131 ((l6 * 10) + l8).toNat).toInt = (-1) → (
        J330 0 l4 l5 l6 l8 I
      )) ∧ (¬ (I q131 ((l6 * 10) + l8).toNat).toInt = (-1) → (
        J330 1 l4 l5 l6 l8 I
      )))))))
    )))
  )))))))))
/-- GCModel.visited, from 330 -/
def wz_273_330 (V : jx_V) (X : jx_X) (R : jx_R) (Q : Option Value → jx_I → Prop) (QE : String → jx_I → Prop) (J19 : Nat → Int → jx_I → Prop) (J53 : Nat → Int → jx_I → Prop) (J85 : Int → Int → Int → jx_I → Prop) (J126 : Int → Int → Int → jx_I → Prop) (J136 : Int → Int → Int → Int → jx_I → Prop) (J147 : Int → Int → Int → Int → Int → jx_I → Prop) (J181 : Int → Int → Int → Int → Int → Int → jx_I → Prop) (J271 : Int → Int → Int → Int → Int → Int → jx_I → Prop) (J277 : Int → Int → Int → Int → Int → jx_I → Prop) (J292 : Int → Int → Int → Int → Int → jx_I → Prop) (J330 : Int → Int → Int → Int → Int → jx_I → Prop) (J363 : Int → Int → Int → jx_I → Prop) (a0 : Nat) (a1 : Int) (a2 : Int) (a3 : Int) (s0 : Int) (l4 : Int) (l5 : Int) (l6 : Int) (l8 : Int) (I : jx_I) : Prop :=
  J292 l4 l5 l6 s0 (l8 + 1) I
/-- GCModel.visited, from 363 -/
def wz_273_363 (V : jx_V) (X : jx_X) (R : jx_R) (Q : Option Value → jx_I → Prop) (QE : String → jx_I → Prop) (J19 : Nat → Int → jx_I → Prop) (J53 : Nat → Int → jx_I → Prop) (J85 : Int → Int → Int → jx_I → Prop) (J126 : Int → Int → Int → jx_I → Prop) (J136 : Int → Int → Int → Int → jx_I → Prop) (J147 : Int → Int → Int → Int → Int → jx_I → Prop) (J181 : Int → Int → Int → Int → Int → Int → jx_I → Prop) (J271 : Int → Int → Int → Int → Int → Int → jx_I → Prop) (J277 : Int → Int → Int → Int → Int → jx_I → Prop) (J292 : Int → Int → Int → Int → Int → jx_I → Prop) (J330 : Int → Int → Int → Int → Int → jx_I → Prop) (J363 : Int → Int → Int → jx_I → Prop) (a0 : Nat) (a1 : Int) (a2 : Int) (a3 : Int) (s0 : Int) (l4 : Int) (l6 : Int) (I : jx_I) : Prop :=
  J126 l4 s0 (l6 + 1) I
/-- GCModel.visited -/
def wz_273 (V : jx_V) (X : jx_X) (R : jx_R) (Q : Option Value → jx_I → Prop) (QE : String → jx_I → Prop) (J19 : Nat → Int → jx_I → Prop) (J53 : Nat → Int → jx_I → Prop) (J85 : Int → Int → Int → jx_I → Prop) (J126 : Int → Int → Int → jx_I → Prop) (J136 : Int → Int → Int → Int → jx_I → Prop) (J147 : Int → Int → Int → Int → Int → jx_I → Prop) (J181 : Int → Int → Int → Int → Int → Int → jx_I → Prop) (J271 : Int → Int → Int → Int → Int → Int → jx_I → Prop) (J277 : Int → Int → Int → Int → Int → jx_I → Prop) (J292 : Int → Int → Int → Int → Int → jx_I → Prop) (J330 : Int → Int → Int → Int → Int → jx_I → Prop) (J363 : Int → Int → Int → jx_I → Prop) (a0 : Nat) (a1 : Int) (a2 : Int) (a3 : Int) (I : jx_I) : Prop :=
  (X.2.1 a0 = some (12, 0)) ∧ (
  ∀ I2 : jx_I, I2 = jx_u I a0 0 (Int32.ofInt 0) → (
  ∃ Q3 : Option Value → jx_I → Prop, (
  (jc V 2 232 (0, 0) [.ref a0, jy a1] X I2 R Q3 (fun _ _ => False)) ∧ (
  ∀ rv I5, Q3 rv I5 → ∃ r6 : Int, rv = some (jy r6) ∧ (
  (-2147483648 ≤ r6 ∧ r6 < 2147483648) ∧ (
  (r6 ≠ 0 → (
    J19 a0 0 I5
  )) ∧ (r6 = 0 → (
    J19 a0 1 I5
  ))))))))
set_option maxRecDepth 20000 in
theorem wm_273 {V : jx_V} (hV : V.1.stackTraces = false) {X : jx_X} {R : jx_R} {I : jx_I} {Q : Option Value → jx_I → Prop} {QE : String → jx_I → Prop} {a0 : Nat} {a1 : Int} {a2 : Int} {a3 : Int} (r_a1 : -2147483648 ≤ a1 ∧ a1 < 2147483648) (r_a2 : -2147483648 ≤ a2 ∧ a2 < 2147483648) (r_a3 : -2147483648 ≤ a3 ∧ a3 < 2147483648) 
    (h : ∀ (J19 : Nat → Int → jx_I → Prop) (J53 : Nat → Int → jx_I → Prop) (J85 : Int → Int → Int → jx_I → Prop) (J126 : Int → Int → Int → jx_I → Prop) (J136 : Int → Int → Int → Int → jx_I → Prop) (J147 : Int → Int → Int → Int → Int → jx_I → Prop) (J181 : Int → Int → Int → Int → Int → Int → jx_I → Prop) (J271 : Int → Int → Int → Int → Int → Int → jx_I → Prop) (J277 : Int → Int → Int → Int → Int → jx_I → Prop) (J292 : Int → Int → Int → Int → Int → jx_I → Prop) (J330 : Int → Int → Int → Int → Int → jx_I → Prop) (J363 : Int → Int → Int → jx_I → Prop), ((∀ (s0 : Nat) (s1 : Int) I, wz_273_19 V X R Q QE J19 J53 J85 J126 J136 J147 J181 J271 J277 J292 J330 J363 a0 a1 a2 a3 s0 s1 I → J19 s0 s1 I) ∧ (∀ (s0 : Nat) (s1 : Int) I, wz_273_53 V X R Q QE J19 J53 J85 J126 J136 J147 J181 J271 J277 J292 J330 J363 a0 a1 a2 a3 s0 s1 I → J53 s0 s1 I) ∧ (∀ (l4 : Int) (l5 : Int) (l6 : Int) I, wz_273_85 V X R Q QE J19 J53 J85 J126 J136 J147 J181 J271 J277 J292 J330 J363 a0 a1 a2 a3 l4 l5 l6 I → J85 l4 l5 l6 I) ∧ (∀ (l4 : Int) (l5 : Int) (l6 : Int) I, wz_273_126 V X R Q QE J19 J53 J85 J126 J136 J147 J181 J271 J277 J292 J330 J363 a0 a1 a2 a3 l4 l5 l6 I → J126 l4 l5 l6 I) ∧ (∀ (l4 : Int) (l5 : Int) (l6 : Int) (l7 : Int) I, wz_273_136 V X R Q QE J19 J53 J85 J126 J136 J147 J181 J271 J277 J292 J330 J363 a0 a1 a2 a3 l4 l5 l6 l7 I → J136 l4 l5 l6 l7 I) ∧ (∀ (l4 : Int) (l5 : Int) (l6 : Int) (l7 : Int) (l8 : Int) I, wz_273_147 V X R Q QE J19 J53 J85 J126 J136 J147 J181 J271 J277 J292 J330 J363 a0 a1 a2 a3 l4 l5 l6 l7 l8 I → J147 l4 l5 l6 l7 l8 I) ∧ (∀ (l4 : Int) (l5 : Int) (l6 : Int) (l7 : Int) (l8 : Int) (l9 : Int) I, wz_273_181 V X R Q QE J19 J53 J85 J126 J136 J147 J181 J271 J277 J292 J330 J363 a0 a1 a2 a3 l4 l5 l6 l7 l8 l9 I → J181 l4 l5 l6 l7 l8 l9 I) ∧ (∀ (l4 : Int) (l5 : Int) (l6 : Int) (l7 : Int) (l8 : Int) (l9 : Int) I, wz_273_271 V X R Q QE J19 J53 J85 J126 J136 J147 J181 J271 J277 J292 J330 J363 a0 a1 a2 a3 l4 l5 l6 l7 l8 l9 I → J271 l4 l5 l6 l7 l8 l9 I) ∧ (∀ (l4 : Int) (l5 : Int) (l6 : Int) (l7 : Int) (l8 : Int) I, wz_273_277 V X R Q QE J19 J53 J85 J126 J136 J147 J181 J271 J277 J292 J330 J363 a0 a1 a2 a3 l4 l5 l6 l7 l8 I → J277 l4 l5 l6 l7 l8 I) ∧ (∀ (l4 : Int) (l5 : Int) (l6 : Int) (l7 : Int) (l8 : Int) I, wz_273_292 V X R Q QE J19 J53 J85 J126 J136 J147 J181 J271 J277 J292 J330 J363 a0 a1 a2 a3 l4 l5 l6 l7 l8 I → J292 l4 l5 l6 l7 l8 I) ∧ (∀ (s0 : Int) (l4 : Int) (l5 : Int) (l6 : Int) (l8 : Int) I, wz_273_330 V X R Q QE J19 J53 J85 J126 J136 J147 J181 J271 J277 J292 J330 J363 a0 a1 a2 a3 s0 l4 l5 l6 l8 I → J330 s0 l4 l5 l6 l8 I) ∧ (∀ (s0 : Int) (l4 : Int) (l6 : Int) I, wz_273_363 V X R Q QE J19 J53 J85 J126 J136 J147 J181 J271 J277 J292 J330 J363 a0 a1 a2 a3 s0 l4 l6 I → J363 s0 l4 l6 I)) → wz_273 V X R Q QE J19 J53 J85 J126 J136 J147 J181 J271 J277 J292 J330 J363 a0 a1 a2 a3 I) : jc V 4 273 (0, 0) [.ref a0, jy a1, jy a2, jy a3] X I R Q QE := by
  refine jy_met hV (by decide) (n := 10) (rt := some .int) (hh := []) (ini := false) (C := jx_c273) (L := [some (.ref a0), some (jy a1), some (jy a2), some (jy a3), none, none, none, none, none, none]) jt_273 (Nat.le_of_ble_eq_true rfl) rfl ?_
  intro J hS
  have h := h (fun s0 s1 I => J 19 [jy s1, .ref s0] [some (.ref a0), some (jy a1), some (jy a2), some (jy a3), none, none, none, none, none, none] (0, 0) X I R) (fun s0 s1 I => J 53 [jy s1, .ref s0] [some (.ref a0), some (jy a1), some (jy a2), some (jy a3), none, none, none, none, none, none] (0, 0) X I R) (fun l4 l5 l6 I => J 85 [] [some (.ref a0), some (jy a1), some (jy a2), some (jy a3), some (jy l4), some (jy l5), some (jy l6), none, none, none] (0, 0) X I R) (fun l4 l5 l6 I => J 126 [] [some (.ref a0), none, some (jy a2), some (jy a3), some (jy l4), some (jy l5), some (jy l6), none, none, none] (0, 0) X I R) (fun l4 l5 l6 l7 I => J 136 [] [some (.ref a0), none, some (jy a2), some (jy a3), some (jy l4), some (jy l5), some (jy l6), some (jy l7), none, none] (0, 0) X I R) (fun l4 l5 l6 l7 l8 I => J 147 [] [some (.ref a0), none, some (jy a2), some (jy a3), some (jy l4), some (jy l5), some (jy l6), some (jy l7), some (jy l8), none] (0, 0) X I R) (fun l4 l5 l6 l7 l8 l9 I => J 181 [] [some (.ref a0), none, some (jy a2), some (jy a3), some (jy l4), some (jy l5), some (jy l6), some (jy l7), some (jy l8), some (jy l9)] (0, 0) X I R) (fun l4 l5 l6 l7 l8 l9 I => J 271 [] [some (.ref a0), none, some (jy a2), some (jy a3), some (jy l4), some (jy l5), some (jy l6), some (jy l7), some (jy l8), some (jy l9)] (0, 0) X I R) (fun l4 l5 l6 l7 l8 I => J 277 [] [some (.ref a0), none, some (jy a2), some (jy a3), some (jy l4), some (jy l5), some (jy l6), some (jy l7), some (jy l8), none] (0, 0) X I R) (fun l4 l5 l6 l7 l8 I => J 292 [] [some (.ref a0), none, some (jy a2), some (jy a3), some (jy l4), some (jy l5), some (jy l6), some (jy l7), some (jy l8), none] (0, 0) X I R) (fun s0 l4 l5 l6 l8 I => J 330 [jy s0] [some (.ref a0), none, some (jy a2), some (jy a3), some (jy l4), some (jy l5), some (jy l6), none, some (jy l8), none] (0, 0) X I R) (fun s0 l4 l6 I => J 363 [jy s0] [some (.ref a0), none, some (jy a2), some (jy a3), some (jy l4), none, some (jy l6), none, none, none] (0, 0) X I R) ?_
  · unfold wz_273 at h
    refine jy_aload_n hS rfl rfl ?_
    refine jy_iconst hS rfl ?_
    obtain ⟨g1, h⟩ := h
    refine jy_putI hS rfl (by decide) g1 ?_
    intro I2 e9
    have h := h I2 e9
    clear e9
    refine jy_aload_n hS rfl rfl ?_
    refine jy_aload_n hS rfl rfl ?_
    refine jy_iload_n hS rfl rfl ?_
    obtain ⟨Q3, h⟩ := h
    obtain ⟨g4, h⟩ := h
    refine jy_callV hS rfl rfl rfl (Nat.le_of_ble_eq_true rfl) (Or.inl g1) g4 (by decide) ⟨by decide, by decide⟩ (Nat.le_of_ble_eq_true rfl) ?_ ?_
    rotate_left
    · exact fun Ex Xx Ix Rx hp => hp.2.2.2.elim
    intro rv Xx I5 Rx hp
    obtain ⟨e1, e2, hp⟩ := hp
    rw [e1, e2]
    clear e1 e2
    obtain ⟨r6, e1, h⟩ := h rv I5 hp
    rw [e1]
    clear e1
    change J 11 [jy r6, .ref a0] _ (0, 0) _ _ _
    obtain ⟨g7, h⟩ := h
    refine jy_if_ne hS rfl g7 (fun hq => ?_) (fun hq => ?_)
    · have h := h.1 hq
      refine jy_iconst hS rfl ?_
      exact jy_join hS h rfl (jy_sub_s (jy_sub_s (jy_sub_s (jy_sub_s (jy_sub_n (jy_sub_n (jy_sub_n (jy_sub_n (jy_sub_n (jy_sub_n jy_sub_0))))))))))
    · have h := h.2 hq
      refine jy_iconst hS rfl ?_
      refine jy_goto hS rfl ?_
      exact jy_join hS h rfl (jy_sub_s (jy_sub_s (jy_sub_s (jy_sub_s (jy_sub_n (jy_sub_n (jy_sub_n (jy_sub_n (jy_sub_n (jy_sub_n jy_sub_0))))))))))
  refine ⟨?_, ?_, ?_, ?_, ?_, ?_, ?_, ?_, ?_, ?_, ?_, ?_⟩
  · intro s0 s1 I h
    unfold wz_273_19 at h
    refine jy_iconst hS rfl ?_
    refine jy_iconst hS rfl ?_
    obtain ⟨g8, h⟩ := h
    obtain ⟨Q9, h⟩ := h
    obtain ⟨g10, h⟩ := h
    refine jy_callV hS rfl rfl rfl (Nat.le_of_ble_eq_true rfl) (Or.inl g8) g10 (by decide) ⟨by decide, by decide⟩ (Nat.le_of_ble_eq_true rfl) ?_ ?_
    rotate_left
    · exact fun Ex Xx Ix Rx hp => hp.2.2.2.elim
    intro rv Xx I11 Rx hp
    obtain ⟨e1, e2, hp⟩ := hp
    rw [e1, e2]
    clear e1 e2
    obtain ⟨r12, e1, h⟩ := h rv I11 hp
    rw [e1]
    clear e1
    change J 24 [jy r12] _ (0, 0) _ _ _
    obtain ⟨g13, h⟩ := h
    refine jy_if_ne hS rfl g13 (fun hq => ?_) (fun hq => ?_)
    · have h := h.1 hq
      refine jy_iconst hS rfl ?_
      exact jy_iret hS rfl rfl ⟨rfl, rfl, h⟩
    · have h := h.2 hq
      refine jy_aload_n hS rfl rfl ?_
      refine jy_iload_n hS rfl rfl ?_
      refine jy_iconst hS rfl ?_
      refine jy_sipush hS rfl (by decide) ?_
      obtain ⟨Q14, h⟩ := h
      obtain ⟨g15, h⟩ := h
      refine jy_callS hS rfl rfl rfl (Nat.le_of_ble_eq_true rfl) g15 (by decide) ⟨by decide, by decide⟩ (Nat.le_of_ble_eq_true rfl) ?_ ?_
      rotate_left
      · exact fun Ex Xx Ix Rx hp => hp.2.2.2.elim
      intro rv Xx I16 Rx hp
      obtain ⟨e1, e2, hp⟩ := hp
      rw [e1, e2]
      clear e1 e2
      obtain ⟨r17, e1, h⟩ := h rv I16 hp
      rw [e1]
      clear e1
      change J 36 [jy r17, .ref a0] _ (0, 0) _ _ _
      obtain ⟨g18, h⟩ := h
      refine jy_if_eq hS rfl g18 (fun hq => ?_) (fun hq => ?_)
      · have h := h.1 hq
        refine jy_iconst hS rfl ?_
        refine jy_goto hS rfl ?_
        exact jy_join hS h rfl (jy_sub_s (jy_sub_s (jy_sub_s (jy_sub_s (jy_sub_n (jy_sub_n (jy_sub_n (jy_sub_n (jy_sub_n (jy_sub_n jy_sub_0))))))))))
      · have h := h.2 hq
        refine jy_iload_n hS rfl rfl ?_
        refine jy_iconst hS rfl ?_
        refine jy_iconst hS rfl ?_
        obtain ⟨Q19, h⟩ := h
        obtain ⟨g20, h⟩ := h
        refine jy_callS hS rfl rfl rfl (Nat.le_of_ble_eq_true rfl) g20 (by decide) ⟨by decide, by decide⟩ (Nat.le_of_ble_eq_true rfl) ?_ ?_
        rotate_left
        · exact fun Ex Xx Ix Rx hp => hp.2.2.2.elim
        intro rv Xx I21 Rx hp
        obtain ⟨e1, e2, hp⟩ := hp
        rw [e1, e2]
        clear e1 e2
        obtain ⟨r22, e1, h⟩ := h rv I21 hp
        rw [e1]
        clear e1
        change J 45 [jy r22, .ref a0] _ (0, 0) _ _ _
        obtain ⟨g23, h⟩ := h
        refine jy_if_ne hS rfl g23 (fun hq => ?_) (fun hq => ?_)
        · have h := h.1 hq
          refine jy_iconst hS rfl ?_
          exact jy_join hS h rfl (jy_sub_s (jy_sub_s (jy_sub_s (jy_sub_s (jy_sub_n (jy_sub_n (jy_sub_n (jy_sub_n (jy_sub_n (jy_sub_n jy_sub_0))))))))))
        · have h := h.2 hq
          refine jy_iconst hS rfl ?_
          refine jy_goto hS rfl ?_
          exact jy_join hS h rfl (jy_sub_s (jy_sub_s (jy_sub_s (jy_sub_s (jy_sub_n (jy_sub_n (jy_sub_n (jy_sub_n (jy_sub_n (jy_sub_n jy_sub_0))))))))))
  · intro s0 s1 I h
    unfold wz_273_53 at h
    refine jy_iconst hS rfl ?_
    refine jy_iconst hS rfl ?_
    obtain ⟨g24, h⟩ := h
    obtain ⟨Q25, h⟩ := h
    obtain ⟨g26, h⟩ := h
    refine jy_callV hS rfl rfl rfl (Nat.le_of_ble_eq_true rfl) (Or.inl g24) g26 (by decide) ⟨by decide, by decide⟩ (Nat.le_of_ble_eq_true rfl) ?_ ?_
    rotate_left
    · exact fun Ex Xx Ix Rx hp => hp.2.2.2.elim
    intro rv Xx I27 Rx hp
    obtain ⟨e1, e2, hp⟩ := hp
    rw [e1, e2]
    clear e1 e2
    obtain ⟨r28, e1, h⟩ := h rv I27 hp
    rw [e1]
    clear e1
    change J 58 [jy r28] _ (0, 0) _ _ _
    obtain ⟨g29, h⟩ := h
    refine jy_if_eq hS rfl g29 (fun hq => ?_) (fun hq => ?_)
    · have h := h.1 hq
      refine jy_aload_n hS rfl rfl ?_
      obtain ⟨g30, h⟩ := h
      obtain ⟨Q31, h⟩ := h
      obtain ⟨g32, h⟩ := h
      refine jy_callV hS rfl rfl rfl (Nat.le_of_ble_eq_true rfl) (Or.inl g30) g32 (by decide) ⟨by decide, by decide⟩ (Nat.le_of_ble_eq_true rfl) ?_ ?_
      rotate_left
      · exact fun Ex Xx Ix Rx hp => hp.2.2.2.elim
      intro rv Xx I33 Rx hp
      obtain ⟨e1, e2, hp⟩ := hp
      rw [e1, e2]
      clear e1 e2
      obtain ⟨e1, h⟩ := h rv I33 hp
      rw [e1]
      clear e1
      change J 67 [] _ (0, 0) _ _ _
      refine jy_iconst hS rfl ?_
      refine jy_aload_n hS rfl rfl ?_
      obtain ⟨q35, h⟩ := h
      obtain ⟨g36, h⟩ := h
      refine jy_getR hS rfl (by decide) g30 g36 ?_
      refine jy_iconst hS rfl ?_
      obtain ⟨n37, h⟩ := h
      obtain ⟨g38, h⟩ := h
      obtain ⟨g39, h⟩ := h
      refine jy_iald hS rfl g38.1 (Nat.le_of_lt g38.2) g39 ?_
      refine jy_ishlX hS rfl rfl ?_
      refine jy_istore hS rfl (Nat.le_of_ble_eq_true rfl) (L' := [some (.ref a0), some (jy a1), some (jy a2), some (jy a3), some (jy ((Int32.ofInt 1 <<< (Int32.ofInt ((I33 q35 (0 : Int).toNat).toInt) &&& 31)).toInt)), none, none, none, none, none]) rfl ?_
      refine jy_iconst hS rfl ?_
      refine jy_iload_n hS rfl rfl ?_
      refine jy_ishlX hS rfl rfl ?_
      refine jy_istore hS rfl (Nat.le_of_ble_eq_true rfl) (L' := [some (.ref a0), some (jy a1), some (jy a2), some (jy a3), some (jy ((Int32.ofInt 1 <<< (Int32.ofInt ((I33 q35 (0 : Int).toNat).toInt) &&& 31)).toInt)), some (jy ((Int32.ofInt 1 <<< (Int32.ofInt a1 &&& 31)).toInt)), none, none, none, none]) rfl ?_
      refine jy_iconst hS rfl ?_
      refine jy_istore hS rfl (Nat.le_of_ble_eq_true rfl) (L' := [some (.ref a0), some (jy a1), some (jy a2), some (jy a3), some (jy ((Int32.ofInt 1 <<< (Int32.ofInt ((I33 q35 (0 : Int).toNat).toInt) &&& 31)).toInt)), some (jy ((Int32.ofInt 1 <<< (Int32.ofInt a1 &&& 31)).toInt)), some (jy 0), none, none, none]) rfl ?_
      exact jy_join hS h rfl (jy_sub_s (jy_sub_s (jy_sub_s (jy_sub_s (jy_sub_s (jy_sub_s (jy_sub_s (jy_sub_n (jy_sub_n (jy_sub_n jy_sub_0))))))))))
    · have h := h.2 hq
      refine jy_iconst hS rfl ?_
      exact jy_iret hS rfl rfl ⟨rfl, rfl, h⟩
  · intro l4 l5 l6 I h
    unfold wz_273_85 at h
    refine jy_iload hS rfl rfl ?_
    refine jy_iload hS rfl rfl ?_
    refine jy_bipush hS rfl (by decide) ?_
    refine jy_imul hS rfl ?_
    obtain ⟨g40, h⟩ := h
    obtain ⟨g41, h⟩ := h
    refine jy_icmp_ge hS rfl ⟨g40, g41⟩ (fun hq => ?_) (fun hq => ?_)
    · have h := h.1 hq
      refine jy_aload_n hS rfl rfl ?_
      obtain ⟨g42, h⟩ := h
      obtain ⟨q43, h⟩ := h
      obtain ⟨g44, h⟩ := h
      refine jy_getR hS rfl (by decide) g42 g44 ?_
      refine jy_iconst hS rfl ?_
      refine jy_iload_n hS rfl rfl ?_
      refine jy_ishlX hS rfl rfl ?_
      refine jy_bipush hS rfl (by decide) ?_
      refine jy_imul hS rfl ?_
      refine jy_iload_n hS rfl rfl ?_
      refine jy_iadd hS rfl ?_
      refine jy_iconst hS rfl ?_
      obtain ⟨n45, h⟩ := h
      obtain ⟨g46, h⟩ := h
      obtain ⟨g47, h⟩ := h
      refine jy_iast hS rfl g46.1 (Nat.le_of_lt g46.2) g47 ?_
      intro I48 e9
      have h := h I48 e9
      clear e9
      refine jy_iconst hS rfl ?_
      refine jy_istore hS rfl (Nat.le_of_ble_eq_true rfl) (L' := [some (.ref a0), some (jy a1), some (jy a2), some (jy a3), some (jy l4), some (jy l5), some (jy 1), none, none, none]) rfl ?_
      exact jy_join hS h rfl (jy_sub_s (jy_sub_n (jy_sub_s (jy_sub_s (jy_sub_s (jy_sub_s (jy_sub_s (jy_sub_n (jy_sub_n (jy_sub_n jy_sub_0))))))))))
    · have h := h.2 hq
      refine jy_aload_n hS rfl rfl ?_
      obtain ⟨g49, h⟩ := h
      obtain ⟨q50, h⟩ := h
      obtain ⟨g51, h⟩ := h
      refine jy_getR hS rfl (by decide) g49 g51 ?_
      refine jy_iload hS rfl rfl ?_
      refine jy_iconst hS rfl ?_
      obtain ⟨n52, h⟩ := h
      obtain ⟨g53, h⟩ := h
      obtain ⟨g54, h⟩ := h
      refine jy_iast hS rfl g53.1 (Nat.le_of_lt g53.2) g54 ?_
      intro I55 e9
      have h := h I55 e9
      clear e9
      refine jy_iinc hS rfl rfl (L' := [some (.ref a0), some (jy a1), some (jy a2), some (jy a3), some (jy l4), some (jy l5), some (jy (l6 + 1)), none, none, none]) rfl ?_
      refine jy_goto hS rfl ?_
      exact jy_join hS h rfl (jy_sub_s (jy_sub_s (jy_sub_s (jy_sub_s (jy_sub_s (jy_sub_s (jy_sub_s (jy_sub_n (jy_sub_n (jy_sub_n jy_sub_0))))))))))
  · intro l4 l5 l6 I h
    unfold wz_273_126 at h
    refine jy_iload hS rfl rfl ?_
    refine jy_iload hS rfl rfl ?_
    obtain ⟨g56, h⟩ := h
    obtain ⟨g57, h⟩ := h
    refine jy_icmp_ge hS rfl ⟨g56, g57⟩ (fun hq => ?_) (fun hq => ?_)
    · have h := h.1 hq
      refine jy_iload_n hS rfl rfl ?_
      refine jy_if_ne hS rfl r_a3 (fun hq => ?_) (fun hq => ?_)
      · have h := h.1 hq
        refine jy_iload hS rfl rfl ?_
        exact jy_iret hS rfl rfl ⟨rfl, rfl, h⟩
      · have h := h.2 hq
        refine jy_iload hS rfl rfl ?_
        obtain ⟨Q58, h⟩ := h
        obtain ⟨g59, h⟩ := h
        refine jy_callS hS rfl rfl rfl (Nat.le_of_ble_eq_true rfl) g59 (by decide) ⟨by decide, by decide⟩ (Nat.le_of_ble_eq_true rfl) ?_ ?_
        rotate_left
        · exact fun Ex Xx Ix Rx hp => hp.2.2.2.elim
        intro rv Xx I60 Rx hp
        obtain ⟨e1, e2, hp⟩ := hp
        rw [e1, e2]
        clear e1 e2
        obtain ⟨r61, e1, h⟩ := h rv I60 hp
        rw [e1]
        clear e1
        change J 380 [jy r61] _ (0, 0) _ _ _
        refine jy_goto hS rfl ?_
        exact jy_iret hS rfl rfl ⟨rfl, rfl, h⟩
    · have h := h.2 hq
      refine jy_iconst hS rfl ?_
      refine jy_istore hS rfl (Nat.le_of_ble_eq_true rfl) (L' := [some (.ref a0), none, some (jy a2), some (jy a3), some (jy l4), some (jy l5), some (jy l6), some (jy 1), none, none]) rfl ?_
      exact jy_join hS h rfl (jy_sub_s (jy_sub_n (jy_sub_s (jy_sub_s (jy_sub_s (jy_sub_s (jy_sub_s (jy_sub_s (jy_sub_n (jy_sub_n jy_sub_0))))))))))
  · intro l4 l5 l6 l7 I h
    unfold wz_273_136 at h
    refine jy_iload hS rfl rfl ?_
    obtain ⟨g62, h⟩ := h
    refine jy_if_eq hS rfl g62 (fun hq => ?_) (fun hq => ?_)
    · have h := h.1 hq
      refine jy_iconst hS rfl ?_
      refine jy_istore hS rfl (Nat.le_of_ble_eq_true rfl) (L' := [some (.ref a0), none, some (jy a2), some (jy a3), some (jy l4), some (jy l5), some (jy l6), some (jy 0), none, none]) rfl ?_
      refine jy_iconst hS rfl ?_
      refine jy_istore hS rfl (Nat.le_of_ble_eq_true rfl) (L' := [some (.ref a0), none, some (jy a2), some (jy a3), some (jy l4), some (jy l5), some (jy l6), some (jy 0), some (jy 0), none]) rfl ?_
      exact jy_join hS h rfl (jy_sub_s (jy_sub_n (jy_sub_s (jy_sub_s (jy_sub_s (jy_sub_s (jy_sub_s (jy_sub_s (jy_sub_s (jy_sub_n jy_sub_0))))))))))
    · have h := h.2 hq
      refine jy_iconst hS rfl ?_
      refine jy_istore hS rfl (Nat.le_of_ble_eq_true rfl) (L' := [some (.ref a0), none, some (jy a2), some (jy a3), some (jy l4), some (jy l5), some (jy l6), some (jy 0), none, none]) rfl ?_
      refine jy_iconst hS rfl ?_
      refine jy_istore hS rfl (Nat.le_of_ble_eq_true rfl) (L' := [some (.ref a0), none, some (jy a2), some (jy a3), some (jy l4), some (jy l5), some (jy l6), some (jy 0), some (jy 0), none]) rfl ?_
      exact jy_join hS h rfl (jy_sub_s (jy_sub_n (jy_sub_s (jy_sub_s (jy_sub_s (jy_sub_s (jy_sub_s (jy_sub_s (jy_sub_s (jy_sub_n jy_sub_0))))))))))
  · intro l4 l5 l6 l7 l8 I h
    unfold wz_273_147 at h
    refine jy_iload hS rfl rfl ?_
    refine jy_aload_n hS rfl rfl ?_
    obtain ⟨g63, h⟩ := h
    obtain ⟨q64, h⟩ := h
    obtain ⟨g65, h⟩ := h
    refine jy_getR hS rfl (by decide) g63 g65 ?_
    refine jy_iconst hS rfl ?_
    obtain ⟨n66, h⟩ := h
    obtain ⟨g67, h⟩ := h
    obtain ⟨g68, h⟩ := h
    refine jy_iald hS rfl g67.1 (Nat.le_of_lt g67.2) g68 ?_
    obtain ⟨g69, h⟩ := h
    refine jy_icmp_ge hS rfl ⟨g69, (jy_rng _)⟩ (fun hq => ?_) (fun hq => ?_)
    · have h := h.1 hq
      refine jy_goto hS rfl ?_
      exact jy_join hS h rfl (jy_sub_s (jy_sub_n (jy_sub_s (jy_sub_s (jy_sub_s (jy_sub_s (jy_sub_s (jy_sub_s (jy_sub_n (jy_sub_n jy_sub_0))))))))))
    · have h := h.2 hq
      refine jy_aload_n hS rfl rfl ?_
      obtain ⟨q70, h⟩ := h
      obtain ⟨g71, h⟩ := h
      refine jy_getR hS rfl (by decide) g63 g71 ?_
      refine jy_iload hS rfl rfl ?_
      refine jy_bipush hS rfl (by decide) ?_
      refine jy_imul hS rfl ?_
      refine jy_iload hS rfl rfl ?_
      refine jy_iadd hS rfl ?_
      obtain ⟨n72, h⟩ := h
      obtain ⟨g73, h⟩ := h
      obtain ⟨g74, h⟩ := h
      refine jy_iald hS rfl g73.1 (Nat.le_of_lt g73.2) g74 ?_
      refine jy_iconst hS rfl ?_
      refine jy_icmp_ne hS rfl ⟨(jy_rng _), ⟨by decide, by decide⟩⟩ (fun hq => ?_) (fun hq => ?_)
      · have h := h.1 hq
        refine jy_iconst hS rfl ?_
        refine jy_istore hS rfl (Nat.le_of_ble_eq_true rfl) (L' := [some (.ref a0), none, some (jy a2), some (jy a3), some (jy l4), some (jy l5), some (jy l6), some (jy l7), some (jy l8), some (jy 0)]) rfl ?_
        exact jy_join hS h rfl (jy_sub_s (jy_sub_n (jy_sub_s (jy_sub_s (jy_sub_s (jy_sub_s (jy_sub_s (jy_sub_s (jy_sub_s (jy_sub_s jy_sub_0))))))))))
      · have h := h.2 hq
        refine jy_goto hS rfl ?_
        exact jy_join hS h rfl (jy_sub_s (jy_sub_n (jy_sub_s (jy_sub_s (jy_sub_s (jy_sub_s (jy_sub_s (jy_sub_s (jy_sub_s (jy_sub_n jy_sub_0))))))))))
  · intro l4 l5 l6 l7 l8 l9 I h
    unfold wz_273_181 at h
    refine jy_iload hS rfl rfl ?_
    refine jy_aload_n hS rfl rfl ?_
    obtain ⟨g75, h⟩ := h
    obtain ⟨q76, h⟩ := h
    obtain ⟨g77, h⟩ := h
    refine jy_getR hS rfl (by decide) g75 g77 ?_
    refine jy_iconst hS rfl ?_
    obtain ⟨n78, h⟩ := h
    obtain ⟨g79, h⟩ := h
    obtain ⟨g80, h⟩ := h
    refine jy_iald hS rfl g79.1 (Nat.le_of_lt g79.2) g80 ?_
    obtain ⟨g81, h⟩ := h
    refine jy_icmp_ge hS rfl ⟨g81, (jy_rng _)⟩ (fun hq => ?_) (fun hq => ?_)
    · have h := h.1 hq
      refine jy_iinc hS rfl rfl (L' := [some (.ref a0), none, some (jy a2), some (jy a3), some (jy l4), some (jy l5), some (jy l6), some (jy l7), some (jy (l8 + 1)), some (jy l9)]) rfl ?_
      refine jy_goto hS rfl ?_
      exact jy_join hS h rfl (jy_sub_s (jy_sub_n (jy_sub_s (jy_sub_s (jy_sub_s (jy_sub_s (jy_sub_s (jy_sub_s (jy_sub_s (jy_sub_n jy_sub_0))))))))))
    · have h := h.2 hq
      refine jy_aload_n hS rfl rfl ?_
      obtain ⟨q82, h⟩ := h
      obtain ⟨g83, h⟩ := h
      refine jy_getR hS rfl (by decide) g75 g83 ?_
      refine jy_iload hS rfl rfl ?_
      obtain ⟨n84, h⟩ := h
      obtain ⟨g85, h⟩ := h
      obtain ⟨g86, h⟩ := h
      obtain ⟨q87, h⟩ := h
      obtain ⟨g88, h⟩ := h
      refine jy_aald hS rfl g85.1 (by decide) (Nat.le_of_lt g85.2) g86 g88 ?_
      refine jy_iload hS rfl rfl ?_
      obtain ⟨n89, h⟩ := h
      obtain ⟨g90, h⟩ := h
      obtain ⟨g91, h⟩ := h
      refine jy_iald hS rfl g90.1 (Nat.le_of_lt g90.2) g91 ?_
      refine jy_if_le hS rfl (jy_rng _) (fun hq => ?_) (fun hq => ?_)
      · have h := h.1 hq
        refine jy_iinc hS rfl rfl (L' := [some (.ref a0), none, some (jy a2), some (jy a3), some (jy l4), some (jy l5), some (jy l6), some (jy l7), some (jy l8), some (jy (l9 + 1))]) rfl ?_
        refine jy_goto hS rfl ?_
        exact jy_join hS h rfl (jy_sub_s (jy_sub_n (jy_sub_s (jy_sub_s (jy_sub_s (jy_sub_s (jy_sub_s (jy_sub_s (jy_sub_s (jy_sub_s jy_sub_0))))))))))
      · have h := h.2 hq
        refine jy_aload_n hS rfl rfl ?_
        refine jy_iload hS rfl rfl ?_
        refine jy_iconst hS rfl ?_
        refine jy_iload hS rfl rfl ?_
        refine jy_ishlX hS rfl rfl ?_
        refine jy_iorX hS rfl rfl ?_
        refine jy_bipush hS rfl (by decide) ?_
        refine jy_imul hS rfl ?_
        refine jy_iload hS rfl rfl ?_
        refine jy_iadd hS rfl ?_
        refine jy_aload_n hS rfl rfl ?_
        obtain ⟨q92, h⟩ := h
        obtain ⟨g93, h⟩ := h
        refine jy_getR hS rfl (by decide) g75 g93 ?_
        refine jy_iload hS rfl rfl ?_
        refine jy_bipush hS rfl (by decide) ?_
        refine jy_imul hS rfl ?_
        refine jy_iload hS rfl rfl ?_
        refine jy_iadd hS rfl ?_
        obtain ⟨n94, h⟩ := h
        obtain ⟨g95, h⟩ := h
        obtain ⟨g96, h⟩ := h
        refine jy_iald hS rfl g95.1 (Nat.le_of_lt g95.2) g96 ?_
        refine jy_aload_n hS rfl rfl ?_
        refine jy_getR hS rfl (by decide) g75 g83 ?_
        refine jy_iload hS rfl rfl ?_
        obtain ⟨g97, h⟩ := h
        obtain ⟨q98, h⟩ := h
        obtain ⟨g99, h⟩ := h
        refine jy_aald hS rfl g85.1 (by decide) (Nat.le_of_lt g85.2) g97 g99 ?_
        refine jy_iload hS rfl rfl ?_
        obtain ⟨n100, h⟩ := h
        obtain ⟨g101, h⟩ := h
        obtain ⟨g102, h⟩ := h
        refine jy_iald hS rfl g101.1 (Nat.le_of_lt g101.2) g102 ?_
        refine jy_iadd hS rfl ?_
        refine jy_aload_n hS rfl rfl ?_
        refine jy_iload hS rfl rfl ?_
        obtain ⟨Q103, h⟩ := h
        obtain ⟨g104, h⟩ := h
        refine jy_callV hS rfl rfl rfl (Nat.le_of_ble_eq_true rfl) (Or.inl g75) g104 (by decide) ⟨by decide, by decide⟩ (Nat.le_of_ble_eq_true rfl) ?_ ?_
        rotate_left
        · exact fun Ex Xx Ix Rx hp => hp.2.2.2.elim
        intro rv Xx I105 Rx hp
        obtain ⟨e1, e2, hp⟩ := hp
        rw [e1, e2]
        clear e1 e2
        obtain ⟨r106, e1, h⟩ := h rv I105 hp
        rw [e1]
        clear e1
        change J 249 [jy r106, jy ((I q92 ((l6 * 10) + l8).toNat).toInt + (I q98 l9.toNat).toInt), jy (((Int32.ofInt l6 ||| Int32.ofInt ((Int32.ofInt 1 <<< (Int32.ofInt l9 &&& 31)).toInt)).toInt * 10) + l9), .ref a0] _ (0, 0) _ _ _
        refine jy_iadd hS rfl ?_
        refine jy_iload_n hS rfl rfl ?_
        obtain ⟨Q107, h⟩ := h
        obtain ⟨g108, h⟩ := h
        refine jy_callV hS rfl rfl rfl (Nat.le_of_ble_eq_true rfl) (Or.inl g75) g108 (by decide) ⟨by decide, by decide⟩ (Nat.le_of_ble_eq_true rfl) ?_ ?_
        rotate_left
        · exact fun Ex Xx Ix Rx hp => hp.2.2.2.elim
        intro rv Xx I109 Rx hp
        obtain ⟨e1, e2, hp⟩ := hp
        rw [e1, e2]
        clear e1 e2
        obtain ⟨r110, e1, h⟩ := h rv I109 hp
        rw [e1]
        clear e1
        change J 254 [jy r110] _ (0, 0) _ _ _
        obtain ⟨g111, h⟩ := h
        refine jy_if_eq hS rfl g111 (fun hq => ?_) (fun hq => ?_)
        · have h := h.1 hq
          refine jy_iinc hS rfl rfl (L' := [some (.ref a0), none, some (jy a2), some (jy a3), some (jy l4), some (jy l5), some (jy l6), some (jy l7), some (jy l8), some (jy (l9 + 1))]) rfl ?_
          refine jy_goto hS rfl ?_
          exact jy_join hS h rfl (jy_sub_s (jy_sub_n (jy_sub_s (jy_sub_s (jy_sub_s (jy_sub_s (jy_sub_s (jy_sub_s (jy_sub_s (jy_sub_s jy_sub_0))))))))))
        · have h := h.2 hq
          refine jy_iload hS rfl rfl ?_
          refine jy_iload hS rfl rfl ?_
          refine jy_ishrX hS rfl rfl ?_
          refine jy_iconst hS rfl ?_
          refine jy_iandX hS rfl rfl ?_
          refine jy_iconst hS rfl ?_
          refine jy_icmp_ne hS rfl ⟨(jy_rng _), ⟨by decide, by decide⟩⟩ (fun hq => ?_) (fun hq => ?_)
          · have h := h.1 hq
            refine jy_iinc hS rfl rfl (L' := [some (.ref a0), none, some (jy a2), some (jy a3), some (jy l4), some (jy l5), some (jy l6), some (jy l7), some (jy l8), some (jy (l9 + 1))]) rfl ?_
            refine jy_goto hS rfl ?_
            exact jy_join hS h rfl (jy_sub_s (jy_sub_n (jy_sub_s (jy_sub_s (jy_sub_s (jy_sub_s (jy_sub_s (jy_sub_s (jy_sub_s (jy_sub_s jy_sub_0))))))))))
          · have h := h.2 hq
            refine jy_iconst hS rfl ?_
            refine jy_istore hS rfl (Nat.le_of_ble_eq_true rfl) (L' := [some (.ref a0), none, some (jy a2), some (jy a3), some (jy l4), some (jy l5), some (jy l6), some (jy 1), some (jy l8), some (jy l9)]) rfl ?_
            exact jy_join hS h rfl (jy_sub_s (jy_sub_n (jy_sub_s (jy_sub_s (jy_sub_s (jy_sub_s (jy_sub_s (jy_sub_s (jy_sub_s (jy_sub_s jy_sub_0))))))))))
  · intro l4 l5 l6 l7 l8 l9 I h
    unfold wz_273_271 at h
    refine jy_iinc hS rfl rfl (L' := [some (.ref a0), none, some (jy a2), some (jy a3), some (jy l4), some (jy l5), some (jy l6), some (jy l7), some (jy l8), some (jy (l9 + 1))]) rfl ?_
    refine jy_goto hS rfl ?_
    exact jy_join hS h rfl (jy_sub_s (jy_sub_n (jy_sub_s (jy_sub_s (jy_sub_s (jy_sub_s (jy_sub_s (jy_sub_s (jy_sub_s (jy_sub_s jy_sub_0))))))))))
  · intro l4 l5 l6 l7 l8 I h
    unfold wz_273_277 at h
    refine jy_iinc hS rfl rfl (L' := [some (.ref a0), none, some (jy a2), some (jy a3), some (jy l4), some (jy l5), some (jy l6), some (jy l7), some (jy (l8 + 1)), none]) rfl ?_
    refine jy_goto hS rfl ?_
    exact jy_join hS h rfl (jy_sub_s (jy_sub_n (jy_sub_s (jy_sub_s (jy_sub_s (jy_sub_s (jy_sub_s (jy_sub_s (jy_sub_s (jy_sub_n jy_sub_0))))))))))
  · intro l4 l5 l6 l7 l8 I h
    unfold wz_273_292 at h
    refine jy_iload hS rfl rfl ?_
    refine jy_aload_n hS rfl rfl ?_
    obtain ⟨g112, h⟩ := h
    obtain ⟨q113, h⟩ := h
    obtain ⟨g114, h⟩ := h
    refine jy_getR hS rfl (by decide) g112 g114 ?_
    refine jy_iconst hS rfl ?_
    obtain ⟨n115, h⟩ := h
    obtain ⟨g116, h⟩ := h
    obtain ⟨g117, h⟩ := h
    refine jy_iald hS rfl g116.1 (Nat.le_of_lt g116.2) g117 ?_
    obtain ⟨g118, h⟩ := h
    refine jy_icmp_ge hS rfl ⟨g118, (jy_rng _)⟩ (fun hq => ?_) (fun hq => ?_)
    · have h := h.1 hq
      refine jy_iload hS rfl rfl ?_
      obtain ⟨g119, h⟩ := h
      refine jy_if_eq hS rfl g119 (fun hq => ?_) (fun hq => ?_)
      · have h := h.1 hq
        refine jy_iload hS rfl rfl ?_
        exact jy_join hS h rfl (jy_sub_s (jy_sub_n (jy_sub_s (jy_sub_s (jy_sub_s (jy_sub_n (jy_sub_s (jy_sub_n (jy_sub_n (jy_sub_n jy_sub_0))))))))))
      · have h := h.2 hq
        refine jy_iload hS rfl rfl ?_
        obtain ⟨Q120, h⟩ := h
        obtain ⟨g121, h⟩ := h
        refine jy_callS hS rfl rfl rfl (Nat.le_of_ble_eq_true rfl) g121 (by decide) ⟨by decide, by decide⟩ (Nat.le_of_ble_eq_true rfl) ?_ ?_
        rotate_left
        · exact fun Ex Xx Ix Rx hp => hp.2.2.2.elim
        intro rv Xx I122 Rx hp
        obtain ⟨e1, e2, hp⟩ := hp
        rw [e1, e2]
        clear e1 e2
        obtain ⟨r123, e1, h⟩ := h rv I122 hp
        rw [e1]
        clear e1
        change J 348 [jy r123] _ (0, 0) _ _ _
        refine jy_iload hS rfl rfl ?_
        obtain ⟨Q124, h⟩ := h
        obtain ⟨g125, h⟩ := h
        refine jy_callS hS rfl rfl rfl (Nat.le_of_ble_eq_true rfl) g125 (by decide) ⟨by decide, by decide⟩ (Nat.le_of_ble_eq_true rfl) ?_ ?_
        rotate_left
        · exact fun Ex Xx Ix Rx hp => hp.2.2.2.elim
        intro rv Xx I126 Rx hp
        obtain ⟨e1, e2, hp⟩ := hp
        rw [e1, e2]
        clear e1 e2
        obtain ⟨r127, e1, h⟩ := h rv I126 hp
        rw [e1]
        clear e1
        change J 353 [jy r127, jy r123] _ (0, 0) _ _ _
        obtain ⟨g128, h⟩ := h
        obtain ⟨g129, h⟩ := h
        refine jy_icmp_le hS rfl ⟨g128, g129⟩ (fun hq => ?_) (fun hq => ?_)
        · have h := h.1 hq
          refine jy_iload hS rfl rfl ?_
          exact jy_join hS h rfl (jy_sub_s (jy_sub_n (jy_sub_s (jy_sub_s (jy_sub_s (jy_sub_n (jy_sub_s (jy_sub_n (jy_sub_n (jy_sub_n jy_sub_0))))))))))
        · have h := h.2 hq
          refine jy_iload hS rfl rfl ?_
          refine jy_goto hS rfl ?_
          exact jy_join hS h rfl (jy_sub_s (jy_sub_n (jy_sub_s (jy_sub_s (jy_sub_s (jy_sub_n (jy_sub_s (jy_sub_n (jy_sub_n (jy_sub_n jy_sub_0))))))))))
    · have h := h.2 hq
      refine jy_iload hS rfl rfl ?_
      obtain ⟨g130, h⟩ := h
      refine jy_if_ne hS rfl g130 (fun hq => ?_) (fun hq => ?_)
      · have h := h.1 hq
        refine jy_iconst hS rfl ?_
        refine jy_goto hS rfl ?_
        exact jy_join hS h rfl (jy_sub_s (jy_sub_n (jy_sub_s (jy_sub_s (jy_sub_s (jy_sub_s (jy_sub_s (jy_sub_n (jy_sub_s (jy_sub_n jy_sub_0))))))))))
      · have h := h.2 hq
        refine jy_aload_n hS rfl rfl ?_
        obtain ⟨q131, h⟩ := h
        obtain ⟨g132, h⟩ := h
        refine jy_getR hS rfl (by decide) g112 g132 ?_
        refine jy_iload hS rfl rfl ?_
        refine jy_bipush hS rfl (by decide) ?_
        refine jy_imul hS rfl ?_
        refine jy_iload hS rfl rfl ?_
        refine jy_iadd hS rfl ?_
        obtain ⟨n133, h⟩ := h
        obtain ⟨g134, h⟩ := h
        obtain ⟨g135, h⟩ := h
        refine jy_iald hS rfl g134.1 (Nat.le_of_lt g134.2) g135 ?_
        refine jy_iconst hS rfl ?_
        refine jy_icmp_eq hS rfl ⟨(jy_rng _), ⟨by decide, by decide⟩⟩ (fun hq => ?_) (fun hq => ?_)
        · have h := h.1 hq
          refine jy_iconst hS rfl ?_
          exact jy_join hS h rfl (jy_sub_s (jy_sub_n (jy_sub_s (jy_sub_s (jy_sub_s (jy_sub_s (jy_sub_s (jy_sub_n (jy_sub_s (jy_sub_n jy_sub_0))))))))))
        · have h := h.2 hq
          refine jy_iconst hS rfl ?_
          refine jy_goto hS rfl ?_
          exact jy_join hS h rfl (jy_sub_s (jy_sub_n (jy_sub_s (jy_sub_s (jy_sub_s (jy_sub_s (jy_sub_s (jy_sub_n (jy_sub_s (jy_sub_n jy_sub_0))))))))))
  · intro s0 l4 l5 l6 l8 I h
    unfold wz_273_330 at h
    refine jy_istore hS rfl (Nat.le_of_ble_eq_true rfl) (L' := [some (.ref a0), none, some (jy a2), some (jy a3), some (jy l4), some (jy l5), some (jy l6), some (jy s0), some (jy l8), none]) rfl ?_
    refine jy_iinc hS rfl rfl (L' := [some (.ref a0), none, some (jy a2), some (jy a3), some (jy l4), some (jy l5), some (jy l6), some (jy s0), some (jy (l8 + 1)), none]) rfl ?_
    refine jy_goto hS rfl ?_
    exact jy_join hS h rfl (jy_sub_s (jy_sub_n (jy_sub_s (jy_sub_s (jy_sub_s (jy_sub_s (jy_sub_s (jy_sub_s (jy_sub_s (jy_sub_n jy_sub_0))))))))))
  · intro s0 l4 l6 I h
    unfold wz_273_363 at h
    refine jy_istore hS rfl (Nat.le_of_ble_eq_true rfl) (L' := [some (.ref a0), none, some (jy a2), some (jy a3), some (jy l4), some (jy s0), some (jy l6), none, none, none]) rfl ?_
    refine jy_iinc hS rfl rfl (L' := [some (.ref a0), none, some (jy a2), some (jy a3), some (jy l4), some (jy s0), some (jy (l6 + 1)), none, none, none]) rfl ?_
    refine jy_goto hS rfl ?_
    exact jy_join hS h rfl (jy_sub_s (jy_sub_n (jy_sub_s (jy_sub_s (jy_sub_s (jy_sub_s (jy_sub_s (jy_sub_n (jy_sub_n (jy_sub_n jy_sub_0))))))))))
theorem jt_274 : jx_ml 274 = 5 ∧ jx_rt 274 = none ∧ jx_hz 274 = [] ∧ decide ((jx_nm 274).name = "<init>") = false ∧ jx_code 274 = jx_c274 := by decide +kernel
/-- GCModel.ropes, from 16 -/
def wz_274_16 (d : Nat) (V : jx_V) (X : jx_X) (R : jx_R) (Q : Option Value → jx_I → Prop) (QE : String → jx_I → Prop) (J16 : Int → jx_I → Prop) (J81 : Int → jx_I → Prop) (J160 : Int → jx_I → Prop) (a0 : Nat) (a1 : Int) (a2 : Int) (a3 : Int) (l4 : Int) (I : jx_I) : Prop :=
  (-2147483648 ≤ l4 ∧ l4 < 2147483648) ∧ (
  (a2 ≤ l4 → (
    (X.2.1 a0 = some (12, 0)) ∧ (
    (5 < d) ∧ (
    ∃ Q10 : Option Value → jx_I → Prop, (
    (jc V 5 258 (0, 0) [.ref a0] X I R Q10 (fun _ _ => False)) ∧ (
    ∀ rv I13, Q10 rv I13 → ∃ r14 : Int, rv = some (jy r14) ∧ (
    ((I13 a0 53).toInt = (-1) → (
      ∀ I15 : jx_I, I15 = jx_u I13 a0 53 (Int32.ofInt r14) → (
      ∀ I16 : jx_I, I16 = jx_u I15 a0 54 (Int32.ofInt a3) → (
      Q none I16))
    )) ∧ (¬ (I13 a0 53).toInt = (-1) → (
      (-2147483648 ≤ r14 ∧ r14 < 2147483648) ∧ (
      (r14 < (I13 a0 53).toInt → (
        ∀ I18 : jx_I, I18 = jx_u I13 a0 53 (Int32.ofInt r14) → (
        ∀ I19 : jx_I, I19 = jx_u I18 a0 54 (Int32.ofInt a3) → (
        Q none I19))
      )) ∧ (¬ r14 < (I13 a0 53).toInt → (
        Q none I13
      )))
    )))))))
  )) ∧ (¬ a2 ≤ l4 → (
    (X.2.1 a0 = some (12, 0)) ∧ (
    ∃ q21 : Nat, (
    (R a0 44 = some q21) ∧ (
    ∃ q23 : Nat, (
    (R a0 52 = some q23) ∧ (
    ∃ n25 : Nat, (
    (X.2.1 q23 = some (100, n25) ∧ n25 < 2147483648) ∧ (
    (0 ≤ l4 ∧ l4 < n25) ∧ (
    ∃ n28 : Nat, (
    (X.2.1 q21 = some (100, n28) ∧ n28 < 2147483648) ∧ (
    (0 ≤ l4 ∧ l4 < n28) ∧ (
    ∀ I31 : jx_I, I31 = jx_u I q21 l4.toNat (Int32.ofInt ((I q23 l4.toNat).toInt)) → (
    J16 (l4 + 1) I31))))))))))))
  )))
/-- GCModel.ropes, from 81 -/
def wz_274_81 (d : Nat) (V : jx_V) (X : jx_X) (R : jx_R) (Q : Option Value → jx_I → Prop) (QE : String → jx_I → Prop) (J16 : Int → jx_I → Prop) (J81 : Int → jx_I → Prop) (J160 : Int → jx_I → Prop) (a0 : Nat) (a1 : Int) (a2 : Int) (a3 : Int) (l4 : Int) (I : jx_I) : Prop :=
  (X.2.1 a0 = some (12, 0)) ∧ (
  ∃ q33 : Nat, (
  (R a0 11 = some q33) ∧ (
  ∃ n35 : Nat, (
  (X.2.1 q33 = some (100, n35) ∧ n35 < 2147483648) ∧ (
  (0 ≤ (1 : Int) ∧ (1 : Int) < n35) ∧ (
  (-2147483648 ≤ l4 ∧ l4 < 2147483648) ∧ (
  ((I q33 (1 : Int).toNat).toInt ≤ l4 → (
    Q none I
  )) ∧ (¬ (I q33 (1 : Int).toNat).toInt ≤ l4 → (
    ((Int32.ofInt ((Int32.ofInt a1 >>> (Int32.ofInt l4 &&& 31)).toInt) &&& Int32.ofInt 1).toInt = 0 → (
      J81 (l4 + 1) I
    )) ∧ (¬ (Int32.ofInt ((Int32.ofInt a1 >>> (Int32.ofInt l4 &&& 31)).toInt) &&& Int32.ofInt 1).toInt = 0 → (
      (a2 ≤ 0 → (
        ∃ q39 : Nat, (
        (R a0 52 = some q39) ∧ (
        ∃ n41 : Nat, (
        (X.2.1 q39 = some (100, n41) ∧ n41 < 2147483648) ∧ (
        (0 ≤ a2 ∧ a2 < n41) ∧ (
        ∀ I44 : jx_I, I44 = jx_u I q39 a2.toNat (Int32.ofInt l4) → (
        ∃ d46 : Nat, d46 < d ∧ (
        ∃ Q45 : Option Value → jx_I → Prop, (
        (jc V d46 274 (0, 0) [.ref a0, jy ((Int32.ofInt a1 &&& Int32.ofInt ((Int32.ofInt ((Int32.ofInt 1 <<< (Int32.ofInt l4 &&& 31)).toInt) ^^^ Int32.ofInt (-1)).toInt)).toInt), jy (a2 + 1), jy ((10 * a3) + l4)] X I44 R Q45 (fun _ _ => False)) ∧ (
        ∀ rv I49, Q45 rv I49 → rv = none ∧ (
        J160 l4 I49))))))))))
      )) ∧ (¬ a2 ≤ 0 → (
        ∃ q51 : Nat, (
        (R a0 19 = some q51) ∧ (
        ∃ n53 : Nat, (
        (X.2.1 q51 = some (100, n53) ∧ n53 < 2147483648) ∧ (
        (0 ≤ l4 ∧ l4 < n53) ∧ (
        ∃ q56 : Nat, (
        (R a0 52 = some q56) ∧ (
        ∃ n58 : Nat, (
        (X.2.1 q56 = some (100, n58) ∧ n58 < 2147483648) ∧ (
        (0 ≤ (a2 - 1) ∧ (a2 - 1) < n58) ∧ (
        ((Int32.ofInt ((Int32.ofInt ((I q51 l4.toNat).toInt) >>> (Int32.ofInt ((I q56 (a2 - 1).toNat).toInt) &&& 31)).toInt) &&& Int32.ofInt 1).toInt ≠ 1 → (
          (0 ≤ a2 ∧ a2 < n58) ∧ (
          ∀ I62 : jx_I, I62 = jx_u I q56 a2.toNat (Int32.ofInt l4) → (
          ∃ d64 : Nat, d64 < d ∧ (
          ∃ Q63 : Option Value → jx_I → Prop, (
          (jc V d64 274 (0, 0) [.ref a0, jy ((Int32.ofInt a1 &&& Int32.ofInt ((Int32.ofInt ((Int32.ofInt 1 <<< (Int32.ofInt l4 &&& 31)).toInt) ^^^ Int32.ofInt (-1)).toInt)).toInt), jy (a2 + 1), jy ((10 * a3) + l4)] X I62 R Q63 (fun _ _ => False)) ∧ (
          ∀ rv I67, Q63 rv I67 → rv = none ∧ (
          J160 l4 I67))))))
        )) ∧ ((Int32.ofInt ((Int32.ofInt ((I q51 l4.toNat).toInt) >>> (Int32.ofInt ((I q56 (a2 - 1).toNat).toInt) &&& 31)).toInt) &&& Int32.ofInt 1).toInt = 1 → (
          J160 l4 I
        ))))))))))))
      ))
    ))
  )))))))))
/-- GCModel.ropes, from 160 -/
def wz_274_160 (d : Nat) (V : jx_V) (X : jx_X) (R : jx_R) (Q : Option Value → jx_I → Prop) (QE : String → jx_I → Prop) (J16 : Int → jx_I → Prop) (J81 : Int → jx_I → Prop) (J160 : Int → jx_I → Prop) (a0 : Nat) (a1 : Int) (a2 : Int) (a3 : Int) (l4 : Int) (I : jx_I) : Prop :=
  J81 (l4 + 1) I
/-- GCModel.ropes -/
def wz_274 (d : Nat) (V : jx_V) (X : jx_X) (R : jx_R) (Q : Option Value → jx_I → Prop) (QE : String → jx_I → Prop) (J16 : Int → jx_I → Prop) (J81 : Int → jx_I → Prop) (J160 : Int → jx_I → Prop) (a0 : Nat) (a1 : Int) (a2 : Int) (a3 : Int) (I : jx_I) : Prop :=
  (a1 ≠ 0 → (
    J81 0 I
  )) ∧ (a1 = 0 → (
    (X.2.1 a0 = some (12, 0)) ∧ (
    (1 < d) ∧ (
    ∃ Q2 : Option Value → jx_I → Prop, (
    (jc V 1 243 (0, 0) [.ref a0] X I R Q2 (fun _ _ => False)) ∧ (
    ∀ rv I5, Q2 rv I5 → rv = none ∧ (
    ∀ I7 : jx_I, I7 = jx_u I5 a0 46 (Int32.ofInt a2) → (
    J16 0 I7))))))
  ))
set_option maxRecDepth 20000 in
theorem wm_274 {V : jx_V} (hV : V.1.stackTraces = false) {d : Nat} {X : jx_X} {R : jx_R} {I : jx_I} {Q : Option Value → jx_I → Prop} {QE : String → jx_I → Prop} {a0 : Nat} {a1 : Int} {a2 : Int} {a3 : Int} (r_a1 : -2147483648 ≤ a1 ∧ a1 < 2147483648) (r_a2 : -2147483648 ≤ a2 ∧ a2 < 2147483648) (r_a3 : -2147483648 ≤ a3 ∧ a3 < 2147483648) 
    (h : ∀ (J16 : Int → jx_I → Prop) (J81 : Int → jx_I → Prop) (J160 : Int → jx_I → Prop), ((∀ (l4 : Int) I, wz_274_16 d V X R Q QE J16 J81 J160 a0 a1 a2 a3 l4 I → J16 l4 I) ∧ (∀ (l4 : Int) I, wz_274_81 d V X R Q QE J16 J81 J160 a0 a1 a2 a3 l4 I → J81 l4 I) ∧ (∀ (l4 : Int) I, wz_274_160 d V X R Q QE J16 J81 J160 a0 a1 a2 a3 l4 I → J160 l4 I)) → wz_274 d V X R Q QE J16 J81 J160 a0 a1 a2 a3 I) : jc V d 274 (0, 0) [.ref a0, jy a1, jy a2, jy a3] X I R Q QE := by
  refine jy_met hV (by decide) (n := 5) (rt := none) (hh := []) (ini := false) (C := jx_c274) (L := [some (.ref a0), some (jy a1), some (jy a2), some (jy a3), none]) jt_274 (Nat.le_of_ble_eq_true rfl) rfl ?_
  intro J hS
  have h := h (fun l4 I => J 16 [] [some (.ref a0), none, some (jy a2), some (jy a3), some (jy l4)] (0, 0) X I R) (fun l4 I => J 81 [] [some (.ref a0), some (jy a1), some (jy a2), some (jy a3), some (jy l4)] (0, 0) X I R) (fun l4 I => J 160 [] [some (.ref a0), some (jy a1), some (jy a2), some (jy a3), some (jy l4)] (0, 0) X I R) ?_
  · unfold wz_274 at h
    refine jy_iload_n hS rfl rfl ?_
    refine jy_if_ne hS rfl r_a1 (fun hq => ?_) (fun hq => ?_)
    · have h := h.1 hq
      refine jy_iconst hS rfl ?_
      refine jy_istore hS rfl (Nat.le_of_ble_eq_true rfl) (L' := [some (.ref a0), some (jy a1), some (jy a2), some (jy a3), some (jy 0)]) rfl ?_
      exact jy_join hS h rfl (jy_sub_s (jy_sub_s (jy_sub_s (jy_sub_s (jy_sub_s jy_sub_0)))))
    · have h := h.2 hq
      refine jy_aload_n hS rfl rfl ?_
      obtain ⟨g1, h⟩ := h
      obtain ⟨g3, h⟩ := h
      obtain ⟨Q2, h⟩ := h
      obtain ⟨g4, h⟩ := h
      refine jy_callV hS rfl rfl rfl (Nat.le_of_ble_eq_true rfl) (Or.inl g1) g4 g3 ⟨by decide, by decide⟩ (Nat.le_of_ble_eq_true rfl) ?_ ?_
      rotate_left
      · exact fun Ex Xx Ix Rx hp => hp.2.2.2.elim
      intro rv Xx I5 Rx hp
      obtain ⟨e1, e2, hp⟩ := hp
      rw [e1, e2]
      clear e1 e2
      obtain ⟨e1, h⟩ := h rv I5 hp
      rw [e1]
      clear e1
      change J 8 [] _ (0, 0) _ _ _
      refine jy_aload_n hS rfl rfl ?_
      refine jy_iload_n hS rfl rfl ?_
      refine jy_putI hS rfl (by decide) g1 ?_
      intro I7 e9
      have h := h I7 e9
      clear e9
      refine jy_iconst hS rfl ?_
      refine jy_istore hS rfl (Nat.le_of_ble_eq_true rfl) (L' := [some (.ref a0), some (jy a1), some (jy a2), some (jy a3), some (jy 0)]) rfl ?_
      exact jy_join hS h rfl (jy_sub_s (jy_sub_n (jy_sub_s (jy_sub_s (jy_sub_s jy_sub_0)))))
  refine ⟨?_, ?_, ?_⟩
  · intro l4 I h
    unfold wz_274_16 at h
    refine jy_iload hS rfl rfl ?_
    refine jy_iload_n hS rfl rfl ?_
    obtain ⟨g8, h⟩ := h
    refine jy_icmp_ge hS rfl ⟨g8, r_a2⟩ (fun hq => ?_) (fun hq => ?_)
    · have h := h.1 hq
      refine jy_aload_n hS rfl rfl ?_
      obtain ⟨g9, h⟩ := h
      obtain ⟨g11, h⟩ := h
      obtain ⟨Q10, h⟩ := h
      obtain ⟨g12, h⟩ := h
      refine jy_callV hS rfl rfl rfl (Nat.le_of_ble_eq_true rfl) (Or.inl g9) g12 g11 ⟨by decide, by decide⟩ (Nat.le_of_ble_eq_true rfl) ?_ ?_
      rotate_left
      · exact fun Ex Xx Ix Rx hp => hp.2.2.2.elim
      intro rv Xx I13 Rx hp
      obtain ⟨e1, e2, hp⟩ := hp
      rw [e1, e2]
      clear e1 e2
      obtain ⟨r14, e1, h⟩ := h rv I13 hp
      rw [e1]
      clear e1
      change J 46 [jy r14] _ (0, 0) _ _ _
      refine jy_istore hS rfl (Nat.le_of_ble_eq_true rfl) (L' := [some (.ref a0), none, some (jy a2), some (jy a3), some (jy r14)]) rfl ?_
      refine jy_aload_n hS rfl rfl ?_
      refine jy_getI hS rfl (by decide) g9 ?_
      refine jy_iconst hS rfl ?_
      refine jy_icmp_eq hS rfl ⟨(jy_rng _), ⟨by decide, by decide⟩⟩ (fun hq => ?_) (fun hq => ?_)
      · have h := h.1 hq
        refine jy_aload_n hS rfl rfl ?_
        refine jy_iload hS rfl rfl ?_
        refine jy_putI hS rfl (by decide) g9 ?_
        intro I15 e9
        have h := h I15 e9
        clear e9
        refine jy_aload_n hS rfl rfl ?_
        refine jy_iload_n hS rfl rfl ?_
        refine jy_putI hS rfl (by decide) g9 ?_
        intro I16 e9
        have h := h I16 e9
        clear e9
        exact jy_ret hS rfl rfl ⟨rfl, rfl, h⟩
      · have h := h.2 hq
        refine jy_iload hS rfl rfl ?_
        refine jy_aload_n hS rfl rfl ?_
        refine jy_getI hS rfl (by decide) g9 ?_
        obtain ⟨g17, h⟩ := h
        refine jy_icmp_lt hS rfl ⟨g17, (jy_rng _)⟩ (fun hq => ?_) (fun hq => ?_)
        · have h := h.1 hq
          refine jy_aload_n hS rfl rfl ?_
          refine jy_iload hS rfl rfl ?_
          refine jy_putI hS rfl (by decide) g9 ?_
          intro I18 e9
          have h := h I18 e9
          clear e9
          refine jy_aload_n hS rfl rfl ?_
          refine jy_iload_n hS rfl rfl ?_
          refine jy_putI hS rfl (by decide) g9 ?_
          intro I19 e9
          have h := h I19 e9
          clear e9
          exact jy_ret hS rfl rfl ⟨rfl, rfl, h⟩
        · have h := h.2 hq
          exact jy_ret hS rfl rfl ⟨rfl, rfl, h⟩
    · have h := h.2 hq
      refine jy_aload_n hS rfl rfl ?_
      obtain ⟨g20, h⟩ := h
      obtain ⟨q21, h⟩ := h
      obtain ⟨g22, h⟩ := h
      refine jy_getR hS rfl (by decide) g20 g22 ?_
      refine jy_iload hS rfl rfl ?_
      refine jy_aload_n hS rfl rfl ?_
      obtain ⟨q23, h⟩ := h
      obtain ⟨g24, h⟩ := h
      refine jy_getR hS rfl (by decide) g20 g24 ?_
      refine jy_iload hS rfl rfl ?_
      obtain ⟨n25, h⟩ := h
      obtain ⟨g26, h⟩ := h
      obtain ⟨g27, h⟩ := h
      refine jy_iald hS rfl g26.1 (Nat.le_of_lt g26.2) g27 ?_
      obtain ⟨n28, h⟩ := h
      obtain ⟨g29, h⟩ := h
      obtain ⟨g30, h⟩ := h
      refine jy_iast hS rfl g29.1 (Nat.le_of_lt g29.2) g30 ?_
      intro I31 e9
      have h := h I31 e9
      clear e9
      refine jy_iinc hS rfl rfl (L' := [some (.ref a0), none, some (jy a2), some (jy a3), some (jy (l4 + 1))]) rfl ?_
      refine jy_goto hS rfl ?_
      exact jy_join hS h rfl (jy_sub_s (jy_sub_n (jy_sub_s (jy_sub_s (jy_sub_s jy_sub_0)))))
  · intro l4 I h
    unfold wz_274_81 at h
    refine jy_iload hS rfl rfl ?_
    refine jy_aload_n hS rfl rfl ?_
    obtain ⟨g32, h⟩ := h
    obtain ⟨q33, h⟩ := h
    obtain ⟨g34, h⟩ := h
    refine jy_getR hS rfl (by decide) g32 g34 ?_
    refine jy_iconst hS rfl ?_
    obtain ⟨n35, h⟩ := h
    obtain ⟨g36, h⟩ := h
    obtain ⟨g37, h⟩ := h
    refine jy_iald hS rfl g36.1 (Nat.le_of_lt g36.2) g37 ?_
    obtain ⟨g38, h⟩ := h
    refine jy_icmp_ge hS rfl ⟨g38, (jy_rng _)⟩ (fun hq => ?_) (fun hq => ?_)
    · have h := h.1 hq
      exact jy_ret hS rfl rfl ⟨rfl, rfl, h⟩
    · have h := h.2 hq
      refine jy_iload_n hS rfl rfl ?_
      refine jy_iload hS rfl rfl ?_
      refine jy_ishrX hS rfl rfl ?_
      refine jy_iconst hS rfl ?_
      refine jy_iandX hS rfl rfl ?_
      refine jy_if_eq hS rfl (jy_rng _) (fun hq => ?_) (fun hq => ?_)
      · have h := h.1 hq
        refine jy_iinc hS rfl rfl (L' := [some (.ref a0), some (jy a1), some (jy a2), some (jy a3), some (jy (l4 + 1))]) rfl ?_
        refine jy_goto hS rfl ?_
        exact jy_join hS h rfl (jy_sub_s (jy_sub_s (jy_sub_s (jy_sub_s (jy_sub_s jy_sub_0)))))
      · have h := h.2 hq
        refine jy_iload_n hS rfl rfl ?_
        refine jy_if_le hS rfl r_a2 (fun hq => ?_) (fun hq => ?_)
        · have h := h.1 hq
          refine jy_aload_n hS rfl rfl ?_
          obtain ⟨q39, h⟩ := h
          obtain ⟨g40, h⟩ := h
          refine jy_getR hS rfl (by decide) g32 g40 ?_
          refine jy_iload_n hS rfl rfl ?_
          refine jy_iload hS rfl rfl ?_
          obtain ⟨n41, h⟩ := h
          obtain ⟨g42, h⟩ := h
          obtain ⟨g43, h⟩ := h
          refine jy_iast hS rfl g42.1 (Nat.le_of_lt g42.2) g43 ?_
          intro I44 e9
          have h := h I44 e9
          clear e9
          refine jy_aload_n hS rfl rfl ?_
          refine jy_iload_n hS rfl rfl ?_
          refine jy_iconst hS rfl ?_
          refine jy_iload hS rfl rfl ?_
          refine jy_ishlX hS rfl rfl ?_
          refine jy_iconst hS rfl ?_
          refine jy_ixorX hS rfl rfl ?_
          refine jy_iandX hS rfl rfl ?_
          refine jy_iload_n hS rfl rfl ?_
          refine jy_iconst hS rfl ?_
          refine jy_iadd hS rfl ?_
          refine jy_bipush hS rfl (by decide) ?_
          refine jy_iload_n hS rfl rfl ?_
          refine jy_imul hS rfl ?_
          refine jy_iload hS rfl rfl ?_
          refine jy_iadd hS rfl ?_
          obtain ⟨d46, g47, h⟩ := h
          obtain ⟨Q45, h⟩ := h
          obtain ⟨g48, h⟩ := h
          refine jy_callV hS rfl rfl rfl (Nat.le_of_ble_eq_true rfl) (Or.inl g32) g48 g47 ⟨by decide, by decide⟩ (Nat.le_of_ble_eq_true rfl) ?_ ?_
          rotate_left
          · exact fun Ex Xx Ix Rx hp => hp.2.2.2.elim
          intro rv Xx I49 Rx hp
          obtain ⟨e1, e2, hp⟩ := hp
          rw [e1, e2]
          clear e1 e2
          obtain ⟨e1, h⟩ := h rv I49 hp
          rw [e1]
          clear e1
          change J 160 [] _ (0, 0) _ _ _
          exact jy_join hS h rfl (jy_sub_s (jy_sub_s (jy_sub_s (jy_sub_s (jy_sub_s jy_sub_0)))))
        · have h := h.2 hq
          refine jy_aload_n hS rfl rfl ?_
          obtain ⟨q51, h⟩ := h
          obtain ⟨g52, h⟩ := h
          refine jy_getR hS rfl (by decide) g32 g52 ?_
          refine jy_iload hS rfl rfl ?_
          obtain ⟨n53, h⟩ := h
          obtain ⟨g54, h⟩ := h
          obtain ⟨g55, h⟩ := h
          refine jy_iald hS rfl g54.1 (Nat.le_of_lt g54.2) g55 ?_
          refine jy_aload_n hS rfl rfl ?_
          obtain ⟨q56, h⟩ := h
          obtain ⟨g57, h⟩ := h
          refine jy_getR hS rfl (by decide) g32 g57 ?_
          refine jy_iload_n hS rfl rfl ?_
          refine jy_iconst hS rfl ?_
          refine jy_isub hS rfl ?_
          obtain ⟨n58, h⟩ := h
          obtain ⟨g59, h⟩ := h
          obtain ⟨g60, h⟩ := h
          refine jy_iald hS rfl g59.1 (Nat.le_of_lt g59.2) g60 ?_
          refine jy_ishrX hS rfl rfl ?_
          refine jy_iconst hS rfl ?_
          refine jy_iandX hS rfl rfl ?_
          refine jy_iconst hS rfl ?_
          refine jy_icmp_ne hS rfl ⟨(jy_rng _), ⟨by decide, by decide⟩⟩ (fun hq => ?_) (fun hq => ?_)
          · have h := h.1 hq
            refine jy_aload_n hS rfl rfl ?_
            refine jy_getR hS rfl (by decide) g32 g57 ?_
            refine jy_iload_n hS rfl rfl ?_
            refine jy_iload hS rfl rfl ?_
            obtain ⟨g61, h⟩ := h
            refine jy_iast hS rfl g59.1 (Nat.le_of_lt g59.2) g61 ?_
            intro I62 e9
            have h := h I62 e9
            clear e9
            refine jy_aload_n hS rfl rfl ?_
            refine jy_iload_n hS rfl rfl ?_
            refine jy_iconst hS rfl ?_
            refine jy_iload hS rfl rfl ?_
            refine jy_ishlX hS rfl rfl ?_
            refine jy_iconst hS rfl ?_
            refine jy_ixorX hS rfl rfl ?_
            refine jy_iandX hS rfl rfl ?_
            refine jy_iload_n hS rfl rfl ?_
            refine jy_iconst hS rfl ?_
            refine jy_iadd hS rfl ?_
            refine jy_bipush hS rfl (by decide) ?_
            refine jy_iload_n hS rfl rfl ?_
            refine jy_imul hS rfl ?_
            refine jy_iload hS rfl rfl ?_
            refine jy_iadd hS rfl ?_
            obtain ⟨d64, g65, h⟩ := h
            obtain ⟨Q63, h⟩ := h
            obtain ⟨g66, h⟩ := h
            refine jy_callV hS rfl rfl rfl (Nat.le_of_ble_eq_true rfl) (Or.inl g32) g66 g65 ⟨by decide, by decide⟩ (Nat.le_of_ble_eq_true rfl) ?_ ?_
            rotate_left
            · exact fun Ex Xx Ix Rx hp => hp.2.2.2.elim
            intro rv Xx I67 Rx hp
            obtain ⟨e1, e2, hp⟩ := hp
            rw [e1, e2]
            clear e1 e2
            obtain ⟨e1, h⟩ := h rv I67 hp
            rw [e1]
            clear e1
            change J 160 [] _ (0, 0) _ _ _
            exact jy_join hS h rfl (jy_sub_s (jy_sub_s (jy_sub_s (jy_sub_s (jy_sub_s jy_sub_0)))))
          · have h := h.2 hq
            refine jy_goto hS rfl ?_
            exact jy_join hS h rfl (jy_sub_s (jy_sub_s (jy_sub_s (jy_sub_s (jy_sub_s jy_sub_0)))))
  · intro l4 I h
    unfold wz_274_160 at h
    refine jy_iinc hS rfl rfl (L' := [some (.ref a0), some (jy a1), some (jy a2), some (jy a3), some (jy (l4 + 1))]) rfl ?_
    refine jy_goto hS rfl ?_
    exact jy_join hS h rfl (jy_sub_s (jy_sub_s (jy_sub_s (jy_sub_s (jy_sub_s jy_sub_0)))))
theorem jt_275 : jx_ml 275 = 3 ∧ jx_rt 275 = some .int ∧ jx_hz 275 = [] ∧ decide ((jx_nm 275).name = "<init>") = false ∧ jx_code 275 = jx_c275 := by decide +kernel
/-- GCModel.roped, from 41 -/
def wz_275_41 (V : jx_V) (X : jx_X) (R : jx_R) (Q : Option Value → jx_I → Prop) (QE : String → jx_I → Prop) (J41 : Nat → Int → jx_I → Prop) (a0 : Nat) (a1 : Int) (a2 : Int) (s0 : Nat) (s1 : Int) (I : jx_I) : Prop :=
  (X.2.1 s0 = some (12, 0)) ∧ (
  ∃ Q23 : Option Value → jx_I → Prop, (
  (jc V 2 260 (0, 0) [.ref s0, jy s1] X I R Q23 (fun _ _ => False)) ∧ (
  ∀ rv I25, Q23 rv I25 → ∃ r26 : Int, rv = some (jy r26) ∧ (
  (-2147483648 ≤ r26 ∧ r26 < 2147483648) ∧ (
  (r26 = 0 → (
    (X.2.1 a0 = some (12, 0)) ∧ (
    ∀ I29 : jx_I, I29 = jx_u I25 a0 53 (Int32.ofInt (-1)) → (
    ∃ d31 : Nat, d31 < 201 ∧ (
    ∃ Q30 : Option Value → jx_I → Prop, (
    (jc V d31 274 (0, 0) [.ref a0, jy a1, jy 0, jy 0] X I29 R Q30 (fun _ _ => False)) ∧ (
    ∀ rv I34, Q30 rv I34 → rv = none ∧ (
    (a2 = 0 → (
      Q (some (jy ((I34 a0 53).toInt))) I34
    )) ∧ (¬ a2 = 0 → (
      ((I34 a0 53).toInt ≠ (-1) → (
        Q (some (jy ((I34 a0 54).toInt))) I34
      )) ∧ ((I34 a0 53).toInt = (-1) → (
        Q (some (jy ((I34 a0 53).toInt))) I34
      ))
    ))))))))
  )) ∧ (¬ r26 = 0 → (
    Q (some (jy 0)) I25
  )))))))
/-- GCModel.roped -/
def wz_275 (V : jx_V) (X : jx_X) (R : jx_R) (Q : Option Value → jx_I → Prop) (QE : String → jx_I → Prop) (J41 : Nat → Int → jx_I → Prop) (a0 : Nat) (a1 : Int) (a2 : Int) (I : jx_I) : Prop :=
  (X.2.1 a0 = some (12, 0)) ∧ (
  ∀ I2 : jx_I, I2 = jx_u I a0 0 (Int32.ofInt 0) → (
  ∃ Q3 : Option Value → jx_I → Prop, (
  (jc V 2 250 (0, 0) [.ref a0, jy a1] X I2 R Q3 (fun _ _ => False)) ∧ (
  ∀ rv I5, Q3 rv I5 → ∃ r6 : Int, rv = some (jy r6) ∧ (
  (-2147483648 ≤ r6 ∧ r6 < 2147483648) ∧ (
  (r6 = 0 → (
    J41 a0 1 I5
  )) ∧ (¬ r6 = 0 → (
    ∃ Q8 : Option Value → jx_I → Prop, (
    (jc V 1 272 (0, 0) [jy a1] X I5 R Q8 (fun _ _ => False)) ∧ (
    ∀ rv I10, Q8 rv I10 → ∃ r11 : Int, rv = some (jy r11) ∧ (
    ∃ Q12 : Option Value → jx_I → Prop, (
    (jc V 1 203 (0, 0) [jy r11, jy 1, jy 6] X I10 R Q12 (fun _ _ => False)) ∧ (
    ∀ rv I14, Q12 rv I14 → ∃ r15 : Int, rv = some (jy r15) ∧ (
    (-2147483648 ≤ r15 ∧ r15 < 2147483648) ∧ (
    (r15 = 0 → (
      J41 a0 1 I14
    )) ∧ (¬ r15 = 0 → (
      ∃ Q17 : Option Value → jx_I → Prop, (
      (jc V 1 203 (0, 0) [jy a2, jy 0, jy 1] X I14 R Q17 (fun _ _ => False)) ∧ (
      ∀ rv I19, Q17 rv I19 → ∃ r20 : Int, rv = some (jy r20) ∧ (
      (-2147483648 ≤ r20 ∧ r20 < 2147483648) ∧ (
      (r20 ≠ 0 → (
        J41 a0 0 I19
      )) ∧ (r20 = 0 → (
        J41 a0 1 I19
      ))))))
    )))))))))
  ))))))))
set_option maxRecDepth 20000 in
theorem wm_275 {V : jx_V} (hV : V.1.stackTraces = false) {X : jx_X} {R : jx_R} {I : jx_I} {Q : Option Value → jx_I → Prop} {QE : String → jx_I → Prop} {a0 : Nat} {a1 : Int} {a2 : Int} (r_a1 : -2147483648 ≤ a1 ∧ a1 < 2147483648) (r_a2 : -2147483648 ≤ a2 ∧ a2 < 2147483648) 
    (h : ∀ (J41 : Nat → Int → jx_I → Prop), ((∀ (s0 : Nat) (s1 : Int) I, wz_275_41 V X R Q QE J41 a0 a1 a2 s0 s1 I → J41 s0 s1 I)) → wz_275 V X R Q QE J41 a0 a1 a2 I) : jc V 201 275 (0, 0) [.ref a0, jy a1, jy a2] X I R Q QE := by
  refine jy_met hV (by decide) (n := 3) (rt := some .int) (hh := []) (ini := false) (C := jx_c275) (L := [some (.ref a0), some (jy a1), some (jy a2)]) jt_275 (Nat.le_of_ble_eq_true rfl) rfl ?_
  intro J hS
  have h := h (fun s0 s1 I => J 41 [jy s1, .ref s0] [some (.ref a0), some (jy a1), some (jy a2)] (0, 0) X I R) ?_
  · unfold wz_275 at h
    refine jy_aload_n hS rfl rfl ?_
    refine jy_iconst hS rfl ?_
    obtain ⟨g1, h⟩ := h
    refine jy_putI hS rfl (by decide) g1 ?_
    intro I2 e9
    have h := h I2 e9
    clear e9
    refine jy_aload_n hS rfl rfl ?_
    refine jy_aload_n hS rfl rfl ?_
    refine jy_iload_n hS rfl rfl ?_
    obtain ⟨Q3, h⟩ := h
    obtain ⟨g4, h⟩ := h
    refine jy_callV hS rfl rfl rfl (Nat.le_of_ble_eq_true rfl) (Or.inl g1) g4 (by decide) ⟨by decide, by decide⟩ (Nat.le_of_ble_eq_true rfl) ?_ ?_
    rotate_left
    · exact fun Ex Xx Ix Rx hp => hp.2.2.2.elim
    intro rv Xx I5 Rx hp
    obtain ⟨e1, e2, hp⟩ := hp
    rw [e1, e2]
    clear e1 e2
    obtain ⟨r6, e1, h⟩ := h rv I5 hp
    rw [e1]
    clear e1
    change J 11 [jy r6, .ref a0] _ (0, 0) _ _ _
    obtain ⟨g7, h⟩ := h
    refine jy_if_eq hS rfl g7 (fun hq => ?_) (fun hq => ?_)
    · have h := h.1 hq
      refine jy_iconst hS rfl ?_
      refine jy_goto hS rfl ?_
      exact jy_join hS h rfl (jy_sub_s (jy_sub_s (jy_sub_s jy_sub_0)))
    · have h := h.2 hq
      refine jy_iload_n hS rfl rfl ?_
      obtain ⟨Q8, h⟩ := h
      obtain ⟨g9, h⟩ := h
      refine jy_callS hS rfl rfl rfl (Nat.le_of_ble_eq_true rfl) g9 (by decide) ⟨by decide, by decide⟩ (Nat.le_of_ble_eq_true rfl) ?_ ?_
      rotate_left
      · exact fun Ex Xx Ix Rx hp => hp.2.2.2.elim
      intro rv Xx I10 Rx hp
      obtain ⟨e1, e2, hp⟩ := hp
      rw [e1, e2]
      clear e1 e2
      obtain ⟨r11, e1, h⟩ := h rv I10 hp
      rw [e1]
      clear e1
      change J 18 [jy r11, .ref a0] _ (0, 0) _ _ _
      refine jy_iconst hS rfl ?_
      refine jy_bipush hS rfl (by decide) ?_
      obtain ⟨Q12, h⟩ := h
      obtain ⟨g13, h⟩ := h
      refine jy_callS hS rfl rfl rfl (Nat.le_of_ble_eq_true rfl) g13 (by decide) ⟨by decide, by decide⟩ (Nat.le_of_ble_eq_true rfl) ?_ ?_
      rotate_left
      · exact fun Ex Xx Ix Rx hp => hp.2.2.2.elim
      intro rv Xx I14 Rx hp
      obtain ⟨e1, e2, hp⟩ := hp
      rw [e1, e2]
      clear e1 e2
      obtain ⟨r15, e1, h⟩ := h rv I14 hp
      rw [e1]
      clear e1
      change J 24 [jy r15, .ref a0] _ (0, 0) _ _ _
      obtain ⟨g16, h⟩ := h
      refine jy_if_eq hS rfl g16 (fun hq => ?_) (fun hq => ?_)
      · have h := h.1 hq
        refine jy_iconst hS rfl ?_
        refine jy_goto hS rfl ?_
        exact jy_join hS h rfl (jy_sub_s (jy_sub_s (jy_sub_s jy_sub_0)))
      · have h := h.2 hq
        refine jy_iload_n hS rfl rfl ?_
        refine jy_iconst hS rfl ?_
        refine jy_iconst hS rfl ?_
        obtain ⟨Q17, h⟩ := h
        obtain ⟨g18, h⟩ := h
        refine jy_callS hS rfl rfl rfl (Nat.le_of_ble_eq_true rfl) g18 (by decide) ⟨by decide, by decide⟩ (Nat.le_of_ble_eq_true rfl) ?_ ?_
        rotate_left
        · exact fun Ex Xx Ix Rx hp => hp.2.2.2.elim
        intro rv Xx I19 Rx hp
        obtain ⟨e1, e2, hp⟩ := hp
        rw [e1, e2]
        clear e1 e2
        obtain ⟨r20, e1, h⟩ := h rv I19 hp
        rw [e1]
        clear e1
        change J 33 [jy r20, .ref a0] _ (0, 0) _ _ _
        obtain ⟨g21, h⟩ := h
        refine jy_if_ne hS rfl g21 (fun hq => ?_) (fun hq => ?_)
        · have h := h.1 hq
          refine jy_iconst hS rfl ?_
          exact jy_join hS h rfl (jy_sub_s (jy_sub_s (jy_sub_s jy_sub_0)))
        · have h := h.2 hq
          refine jy_iconst hS rfl ?_
          refine jy_goto hS rfl ?_
          exact jy_join hS h rfl (jy_sub_s (jy_sub_s (jy_sub_s jy_sub_0)))
  · intro s0 s1 I h
    unfold wz_275_41 at h
    obtain ⟨g22, h⟩ := h
    obtain ⟨Q23, h⟩ := h
    obtain ⟨g24, h⟩ := h
    refine jy_callV hS rfl rfl rfl (Nat.le_of_ble_eq_true rfl) (Or.inl g22) g24 (by decide) ⟨by decide, by decide⟩ (Nat.le_of_ble_eq_true rfl) ?_ ?_
    rotate_left
    · exact fun Ex Xx Ix Rx hp => hp.2.2.2.elim
    intro rv Xx I25 Rx hp
    obtain ⟨e1, e2, hp⟩ := hp
    rw [e1, e2]
    clear e1 e2
    obtain ⟨r26, e1, h⟩ := h rv I25 hp
    rw [e1]
    clear e1
    change J 44 [jy r26] _ (0, 0) _ _ _
    obtain ⟨g27, h⟩ := h
    refine jy_if_eq hS rfl g27 (fun hq => ?_) (fun hq => ?_)
    · have h := h.1 hq
      refine jy_aload_n hS rfl rfl ?_
      refine jy_iconst hS rfl ?_
      obtain ⟨g28, h⟩ := h
      refine jy_putI hS rfl (by decide) g28 ?_
      intro I29 e9
      have h := h I29 e9
      clear e9
      refine jy_aload_n hS rfl rfl ?_
      refine jy_iload_n hS rfl rfl ?_
      refine jy_iconst hS rfl ?_
      refine jy_iconst hS rfl ?_
      obtain ⟨d31, g32, h⟩ := h
      obtain ⟨Q30, h⟩ := h
      obtain ⟨g33, h⟩ := h
      refine jy_callV hS rfl rfl rfl (Nat.le_of_ble_eq_true rfl) (Or.inl g28) g33 g32 ⟨by decide, by decide⟩ (Nat.le_of_ble_eq_true rfl) ?_ ?_
      rotate_left
      · exact fun Ex Xx Ix Rx hp => hp.2.2.2.elim
      intro rv Xx I34 Rx hp
      obtain ⟨e1, e2, hp⟩ := hp
      rw [e1, e2]
      clear e1 e2
      obtain ⟨e1, h⟩ := h rv I34 hp
      rw [e1]
      clear e1
      change J 61 [] _ (0, 0) _ _ _
      refine jy_iload_n hS rfl rfl ?_
      refine jy_if_eq hS rfl r_a2 (fun hq => ?_) (fun hq => ?_)
      · have h := h.1 hq
        refine jy_aload_n hS rfl rfl ?_
        refine jy_getI hS rfl (by decide) g28 ?_
        refine jy_goto hS rfl ?_
        exact jy_iret hS rfl rfl ⟨rfl, rfl, h⟩
      · have h := h.2 hq
        refine jy_aload_n hS rfl rfl ?_
        refine jy_getI hS rfl (by decide) g28 ?_
        refine jy_iconst hS rfl ?_
        refine jy_icmp_ne hS rfl ⟨(jy_rng _), ⟨by decide, by decide⟩⟩ (fun hq => ?_) (fun hq => ?_)
        · have h := h.1 hq
          refine jy_aload_n hS rfl rfl ?_
          refine jy_getI hS rfl (by decide) g28 ?_
          exact jy_iret hS rfl rfl ⟨rfl, rfl, h⟩
        · have h := h.2 hq
          refine jy_aload_n hS rfl rfl ?_
          refine jy_getI hS rfl (by decide) g28 ?_
          refine jy_goto hS rfl ?_
          exact jy_iret hS rfl rfl ⟨rfl, rfl, h⟩
    · have h := h.2 hq
      refine jy_iconst hS rfl ?_
      exact jy_iret hS rfl rfl ⟨rfl, rfl, h⟩
theorem jt_276 : jx_ml 276 = 3 ∧ jx_rt 276 = some .int ∧ jx_hz 276 = [] ∧ decide ((jx_nm 276).name = "<init>") = false ∧ jx_code 276 = jx_c276 := by decide +kernel
/-- GCModel.hoursBy, from 11 -/
def wz_276_11 (V : jx_V) (X : jx_X) (R : jx_R) (Q : Option Value → jx_I → Prop) (QE : String → jx_I → Prop) (J11 : Int → jx_I → Prop) (J60 : Int → jx_I → Prop) (a0 : Nat) (a1 : Int) (l2 : Int) (I : jx_I) : Prop :=
  (X.2.1 a0 = some (12, 0)) ∧ (
  (-2147483648 ≤ l2 ∧ l2 < 2147483648) ∧ (
  ((I a0 36).toInt ≤ l2 → (
    ∃ Q9 : Option Value → jx_I → Prop, (
    (jc V 5 258 (0, 0) [.ref a0] X I R Q9 (fun _ _ => False)) ∧ (
    ∀ rv I11, Q9 rv I11 → ∃ r12 : Int, rv = some (jy r12) ∧ (
    Q (some (jy r12)) I11)))
  )) ∧ (¬ (I a0 36).toInt ≤ l2 → (
    ∃ q13 : Nat, (
    (R a0 34 = some q13) ∧ (
    ∃ n15 : Nat, (
    (X.2.1 q13 = some (100, n15) ∧ n15 < 2147483648) ∧ (
    (0 ≤ l2 ∧ l2 < n15) ∧ (
    ((Int32.ofInt ((Int32.ofInt a1 >>> (Int32.ofInt ((I q13 l2.toNat).toInt) &&& 31)).toInt) &&& Int32.ofInt 1).toInt ≠ 0 → (
      ∃ q18 : Nat, (
      (R a0 44 = some q18) ∧ (
      (0 ≤ l2 ∧ l2 < n15) ∧ (
      ∃ n21 : Nat, (
      (X.2.1 q18 = some (100, n21) ∧ n21 < 2147483648) ∧ (
      (0 ≤ (I a0 46).toInt ∧ (I a0 46).toInt < n21) ∧ (
      ∀ I24 : jx_I, I24 = jx_u I q18 ((I a0 46).toInt).toNat (Int32.ofInt ((I q13 l2.toNat).toInt)) → (
      ∀ I25 : jx_I, I25 = jx_u I24 a0 46 (Int32.ofInt ((I24 a0 46).toInt + 1)) → (
      J60 l2 I25))))))))
    )) ∧ ((Int32.ofInt ((Int32.ofInt a1 >>> (Int32.ofInt ((I q13 l2.toNat).toInt) &&& 31)).toInt) &&& Int32.ofInt 1).toInt = 0 → (
      J60 l2 I
    )))))))
  ))))
/-- GCModel.hoursBy, from 60 -/
def wz_276_60 (V : jx_V) (X : jx_X) (R : jx_R) (Q : Option Value → jx_I → Prop) (QE : String → jx_I → Prop) (J11 : Int → jx_I → Prop) (J60 : Int → jx_I → Prop) (a0 : Nat) (a1 : Int) (l2 : Int) (I : jx_I) : Prop :=
  J11 (l2 + 1) I
/-- GCModel.hoursBy -/
def wz_276 (V : jx_V) (X : jx_X) (R : jx_R) (Q : Option Value → jx_I → Prop) (QE : String → jx_I → Prop) (J11 : Int → jx_I → Prop) (J60 : Int → jx_I → Prop) (a0 : Nat) (a1 : Int) (I : jx_I) : Prop :=
  (X.2.1 a0 = some (12, 0)) ∧ (
  ∃ Q2 : Option Value → jx_I → Prop, (
  (jc V 1 243 (0, 0) [.ref a0] X I R Q2 (fun _ _ => False)) ∧ (
  ∀ rv I4, Q2 rv I4 → rv = none ∧ (
  ∀ I6 : jx_I, I6 = jx_u I4 a0 46 (Int32.ofInt 0) → (
  J11 0 I6)))))
set_option maxRecDepth 20000 in
theorem wm_276 {V : jx_V} (hV : V.1.stackTraces = false) {X : jx_X} {R : jx_R} {I : jx_I} {Q : Option Value → jx_I → Prop} {QE : String → jx_I → Prop} {a0 : Nat} {a1 : Int} (r_a1 : -2147483648 ≤ a1 ∧ a1 < 2147483648) 
    (h : ∀ (J11 : Int → jx_I → Prop) (J60 : Int → jx_I → Prop), ((∀ (l2 : Int) I, wz_276_11 V X R Q QE J11 J60 a0 a1 l2 I → J11 l2 I) ∧ (∀ (l2 : Int) I, wz_276_60 V X R Q QE J11 J60 a0 a1 l2 I → J60 l2 I)) → wz_276 V X R Q QE J11 J60 a0 a1 I) : jc V 6 276 (0, 0) [.ref a0, jy a1] X I R Q QE := by
  refine jy_met hV (by decide) (n := 3) (rt := some .int) (hh := []) (ini := false) (C := jx_c276) (L := [some (.ref a0), some (jy a1), none]) jt_276 (Nat.le_of_ble_eq_true rfl) rfl ?_
  intro J hS
  have h := h (fun l2 I => J 11 [] [some (.ref a0), some (jy a1), some (jy l2)] (0, 0) X I R) (fun l2 I => J 60 [] [some (.ref a0), some (jy a1), some (jy l2)] (0, 0) X I R) ?_
  · unfold wz_276 at h
    refine jy_aload_n hS rfl rfl ?_
    obtain ⟨g1, h⟩ := h
    obtain ⟨Q2, h⟩ := h
    obtain ⟨g3, h⟩ := h
    refine jy_callV hS rfl rfl rfl (Nat.le_of_ble_eq_true rfl) (Or.inl g1) g3 (by decide) ⟨by decide, by decide⟩ (Nat.le_of_ble_eq_true rfl) ?_ ?_
    rotate_left
    · exact fun Ex Xx Ix Rx hp => hp.2.2.2.elim
    intro rv Xx I4 Rx hp
    obtain ⟨e1, e2, hp⟩ := hp
    rw [e1, e2]
    clear e1 e2
    obtain ⟨e1, h⟩ := h rv I4 hp
    rw [e1]
    clear e1
    change J 4 [] _ (0, 0) _ _ _
    refine jy_aload_n hS rfl rfl ?_
    refine jy_iconst hS rfl ?_
    refine jy_putI hS rfl (by decide) g1 ?_
    intro I6 e9
    have h := h I6 e9
    clear e9
    refine jy_iconst hS rfl ?_
    refine jy_istore_n hS rfl (Nat.le_of_ble_eq_true rfl) (L' := [some (.ref a0), some (jy a1), some (jy 0)]) rfl ?_
    exact jy_join hS h rfl (jy_sub_s (jy_sub_s (jy_sub_s jy_sub_0)))
  refine ⟨?_, ?_⟩
  · intro l2 I h
    unfold wz_276_11 at h
    refine jy_iload_n hS rfl rfl ?_
    refine jy_aload_n hS rfl rfl ?_
    obtain ⟨g7, h⟩ := h
    refine jy_getI hS rfl (by decide) g7 ?_
    obtain ⟨g8, h⟩ := h
    refine jy_icmp_ge hS rfl ⟨g8, (jy_rng _)⟩ (fun hq => ?_) (fun hq => ?_)
    · have h := h.1 hq
      refine jy_aload_n hS rfl rfl ?_
      obtain ⟨Q9, h⟩ := h
      obtain ⟨g10, h⟩ := h
      refine jy_callV hS rfl rfl rfl (Nat.le_of_ble_eq_true rfl) (Or.inl g7) g10 (by decide) ⟨by decide, by decide⟩ (Nat.le_of_ble_eq_true rfl) ?_ ?_
      rotate_left
      · exact fun Ex Xx Ix Rx hp => hp.2.2.2.elim
      intro rv Xx I11 Rx hp
      obtain ⟨e1, e2, hp⟩ := hp
      rw [e1, e2]
      clear e1 e2
      obtain ⟨r12, e1, h⟩ := h rv I11 hp
      rw [e1]
      clear e1
      change J 70 [jy r12] _ (0, 0) _ _ _
      exact jy_iret hS rfl rfl ⟨rfl, rfl, h⟩
    · have h := h.2 hq
      refine jy_iload_n hS rfl rfl ?_
      refine jy_aload_n hS rfl rfl ?_
      obtain ⟨q13, h⟩ := h
      obtain ⟨g14, h⟩ := h
      refine jy_getR hS rfl (by decide) g7 g14 ?_
      refine jy_iload_n hS rfl rfl ?_
      obtain ⟨n15, h⟩ := h
      obtain ⟨g16, h⟩ := h
      obtain ⟨g17, h⟩ := h
      refine jy_iald hS rfl g16.1 (Nat.le_of_lt g16.2) g17 ?_
      refine jy_ishrX hS rfl rfl ?_
      refine jy_iconst hS rfl ?_
      refine jy_iandX hS rfl rfl ?_
      refine jy_if_ne hS rfl (jy_rng _) (fun hq => ?_) (fun hq => ?_)
      · have h := h.1 hq
        refine jy_aload_n hS rfl rfl ?_
        obtain ⟨q18, h⟩ := h
        obtain ⟨g19, h⟩ := h
        refine jy_getR hS rfl (by decide) g7 g19 ?_
        refine jy_aload_n hS rfl rfl ?_
        refine jy_getI hS rfl (by decide) g7 ?_
        refine jy_aload_n hS rfl rfl ?_
        refine jy_getR hS rfl (by decide) g7 g14 ?_
        refine jy_iload_n hS rfl rfl ?_
        obtain ⟨g20, h⟩ := h
        refine jy_iald hS rfl g16.1 (Nat.le_of_lt g16.2) g20 ?_
        obtain ⟨n21, h⟩ := h
        obtain ⟨g22, h⟩ := h
        obtain ⟨g23, h⟩ := h
        refine jy_iast hS rfl g22.1 (Nat.le_of_lt g22.2) g23 ?_
        intro I24 e9
        have h := h I24 e9
        clear e9
        refine jy_aload_n hS rfl rfl ?_
        refine jy_dup hS rfl rfl ?_
        refine jy_getI hS rfl (by decide) g7 ?_
        refine jy_iconst hS rfl ?_
        refine jy_iadd hS rfl ?_
        refine jy_putI hS rfl (by decide) g7 ?_
        intro I25 e9
        have h := h I25 e9
        clear e9
        exact jy_join hS h rfl (jy_sub_s (jy_sub_s (jy_sub_s jy_sub_0)))
      · have h := h.2 hq
        refine jy_goto hS rfl ?_
        exact jy_join hS h rfl (jy_sub_s (jy_sub_s (jy_sub_s jy_sub_0)))
  · intro l2 I h
    unfold wz_276_60 at h
    refine jy_iinc hS rfl rfl (L' := [some (.ref a0), some (jy a1), some (jy (l2 + 1))]) rfl ?_
    refine jy_goto hS rfl ?_
    exact jy_join hS h rfl (jy_sub_s (jy_sub_s (jy_sub_s jy_sub_0)))
theorem jt_277 : jx_ml 277 = 3 ∧ jx_rt 277 = some .int ∧ jx_hz 277 = [] ∧ decide ((jx_nm 277).name = "<init>") = false ∧ jx_code 277 = jx_c277 := by decide +kernel
/-- GCModel.rowBits, from 4 -/
def wz_277_4 (V : jx_V) (X : jx_X) (R : jx_R) (Q : Option Value → jx_I → Prop) (QE : String → jx_I → Prop) (J4 : Int → Int → jx_I → Prop) (a0 : Nat) (l1 : Int) (l2 : Int) (I : jx_I) : Prop :=
  (X.2.1 a0 = some (12, 0)) ∧ (
  (-2147483648 ≤ l2 ∧ l2 < 2147483648) ∧ (
  ((I a0 36).toInt ≤ l2 → (
    Q (some (jy l1)) I
  )) ∧ (¬ (I a0 36).toInt ≤ l2 → (
    ∃ q3 : Nat, (
    (R a0 34 = some q3) ∧ (
    ∃ n5 : Nat, (
    (X.2.1 q3 = some (100, n5) ∧ n5 < 2147483648) ∧ (
    (0 ≤ l2 ∧ l2 < n5) ∧ (
    J4 ((Int32.ofInt l1 ||| Int32.ofInt ((Int32.ofInt 1 <<< (Int32.ofInt ((I q3 l2.toNat).toInt) &&& 31)).toInt)).toInt) (l2 + 1) I)))))
  ))))
/-- GCModel.rowBits -/
def wz_277 (V : jx_V) (X : jx_X) (R : jx_R) (Q : Option Value → jx_I → Prop) (QE : String → jx_I → Prop) (J4 : Int → Int → jx_I → Prop) (a0 : Nat) (I : jx_I) : Prop :=
  J4 0 0 I
set_option maxRecDepth 20000 in
theorem wm_277 {V : jx_V} (hV : V.1.stackTraces = false) {X : jx_X} {R : jx_R} {I : jx_I} {Q : Option Value → jx_I → Prop} {QE : String → jx_I → Prop} {a0 : Nat}  
    (h : ∀ (J4 : Int → Int → jx_I → Prop), ((∀ (l1 : Int) (l2 : Int) I, wz_277_4 V X R Q QE J4 a0 l1 l2 I → J4 l1 l2 I)) → wz_277 V X R Q QE J4 a0 I) : jc V 1 277 (0, 0) [.ref a0] X I R Q QE := by
  refine jy_met hV (by decide) (n := 3) (rt := some .int) (hh := []) (ini := false) (C := jx_c277) (L := [some (.ref a0), none, none]) jt_277 (Nat.le_of_ble_eq_true rfl) rfl ?_
  intro J hS
  have h := h (fun l1 l2 I => J 4 [] [some (.ref a0), some (jy l1), some (jy l2)] (0, 0) X I R) ?_
  · unfold wz_277 at h
    refine jy_iconst hS rfl ?_
    refine jy_istore_n hS rfl (Nat.le_of_ble_eq_true rfl) (L' := [some (.ref a0), some (jy 0), none]) rfl ?_
    refine jy_iconst hS rfl ?_
    refine jy_istore_n hS rfl (Nat.le_of_ble_eq_true rfl) (L' := [some (.ref a0), some (jy 0), some (jy 0)]) rfl ?_
    exact jy_join hS h rfl (jy_sub_s (jy_sub_s (jy_sub_s jy_sub_0)))
  · intro l1 l2 I h
    unfold wz_277_4 at h
    refine jy_iload_n hS rfl rfl ?_
    refine jy_aload_n hS rfl rfl ?_
    obtain ⟨g1, h⟩ := h
    refine jy_getI hS rfl (by decide) g1 ?_
    obtain ⟨g2, h⟩ := h
    refine jy_icmp_ge hS rfl ⟨g2, (jy_rng _)⟩ (fun hq => ?_) (fun hq => ?_)
    · have h := h.1 hq
      refine jy_iload_n hS rfl rfl ?_
      exact jy_iret hS rfl rfl ⟨rfl, rfl, h⟩
    · have h := h.2 hq
      refine jy_iload_n hS rfl rfl ?_
      refine jy_iconst hS rfl ?_
      refine jy_aload_n hS rfl rfl ?_
      obtain ⟨q3, h⟩ := h
      obtain ⟨g4, h⟩ := h
      refine jy_getR hS rfl (by decide) g1 g4 ?_
      refine jy_iload_n hS rfl rfl ?_
      obtain ⟨n5, h⟩ := h
      obtain ⟨g6, h⟩ := h
      obtain ⟨g7, h⟩ := h
      refine jy_iald hS rfl g6.1 (Nat.le_of_lt g6.2) g7 ?_
      refine jy_ishlX hS rfl rfl ?_
      refine jy_iorX hS rfl rfl ?_
      refine jy_istore_n hS rfl (Nat.le_of_ble_eq_true rfl) (L' := [some (.ref a0), some (jy ((Int32.ofInt l1 ||| Int32.ofInt ((Int32.ofInt 1 <<< (Int32.ofInt ((I q3 l2.toNat).toInt) &&& 31)).toInt)).toInt)), some (jy l2)]) rfl ?_
      refine jy_iinc hS rfl rfl (L' := [some (.ref a0), some (jy ((Int32.ofInt l1 ||| Int32.ofInt ((Int32.ofInt 1 <<< (Int32.ofInt ((I q3 l2.toNat).toInt) &&& 31)).toInt)).toInt)), some (jy (l2 + 1))]) rfl ?_
      refine jy_goto hS rfl ?_
      exact jy_join hS h rfl (jy_sub_s (jy_sub_s (jy_sub_s jy_sub_0)))
theorem jt_278 : jx_ml 278 = 9 ∧ jx_rt 278 = some .int ∧ jx_hz 278 = [] ∧ decide ((jx_nm 278).name = "<init>") = false ∧ jx_code 278 = jx_c278 := by decide +kernel
/-- GCModel.parted, from 20 -/
def wz_278_20 (V : jx_V) (X : jx_X) (R : jx_R) (Q : Option Value → jx_I → Prop) (QE : String → jx_I → Prop) (J20 : Nat → Int → jx_I → Prop) (J41 : Int → Int → Int → Int → jx_I → Prop) (J108 : Int → Int → Int → Int → Int → Int → jx_I → Prop) (J124 : Int → Int → Int → Int → Int → jx_I → Prop) (J148 : Int → Int → Int → Int → jx_I → Prop) (a0 : Nat) (a1 : Int) (s0 : Nat) (s1 : Int) (I : jx_I) : Prop :=
  (X.2.1 s0 = some (12, 0)) ∧ (
  ∃ Q9 : Option Value → jx_I → Prop, (
  (jc V 2 260 (0, 0) [.ref s0, jy s1] X I R Q9 (fun _ _ => False)) ∧ (
  ∀ rv I11, Q9 rv I11 → ∃ r12 : Int, rv = some (jy r12) ∧ (
  (-2147483648 ≤ r12 ∧ r12 < 2147483648) ∧ (
  (r12 = 0 → (
    (X.2.1 a0 = some (12, 0)) ∧ (
    ∃ Q15 : Option Value → jx_I → Prop, (
    (jc V 1 277 (0, 0) [.ref a0] X I11 R Q15 (fun _ _ => False)) ∧ (
    ∀ rv I17, Q15 rv I17 → ∃ r18 : Int, rv = some (jy r18) ∧ (
    J41 r18 (-1) 0 0 I17))))
  )) ∧ (¬ r12 = 0 → (
    Q (some (jy 0)) I11
  )))))))
/-- GCModel.parted, from 41 -/
def wz_278_41 (V : jx_V) (X : jx_X) (R : jx_R) (Q : Option Value → jx_I → Prop) (QE : String → jx_I → Prop) (J20 : Nat → Int → jx_I → Prop) (J41 : Int → Int → Int → Int → jx_I → Prop) (J108 : Int → Int → Int → Int → Int → Int → jx_I → Prop) (J124 : Int → Int → Int → Int → Int → jx_I → Prop) (J148 : Int → Int → Int → Int → jx_I → Prop) (a0 : Nat) (a1 : Int) (l2 : Int) (l3 : Int) (l4 : Int) (l5 : Int) (I : jx_I) : Prop :=
  (-2147483648 ≤ l5 ∧ l5 < 2147483648) ∧ (
  (-2147483648 ≤ l2 ∧ l2 < 2147483648) ∧ (
  (l2 < l5 → (
    (-2147483648 ≤ l3 ∧ l3 < 2147483648) ∧ (
    (l3 ≠ (-1) → (
      (a1 ≠ 0 → (
        Q (some (jy l3)) I
      )) ∧ (a1 = 0 → (
        Q (some (jy l4)) I
      ))
    )) ∧ (l3 = (-1) → (
      Q (some (jy 0)) I
    )))
  )) ∧ (¬ l2 < l5 → (
    (X.2.1 a0 = some (12, 0)) ∧ (
    ((I a0 36).toInt ≤ 0 → (
      (-2147483648 ≤ l3 ∧ l3 < 2147483648) ∧ (
      (l3 ≠ (-1) → (
        (a1 ≠ 0 → (
          Q (some (jy l3)) I
        )) ∧ (a1 = 0 → (
          Q (some (jy l4)) I
        ))
      )) ∧ (l3 = (-1) → (
        Q (some (jy 0)) I
      )))
    )) ∧ (¬ (I a0 36).toInt ≤ 0 → (
      ((Int32.ofInt l5 &&& Int32.ofInt ((Int32.ofInt l2 ^^^ Int32.ofInt (-1)).toInt)).toInt ≠ 0 → (
        J41 l2 l3 l4 (l5 + 1) I
      )) ∧ ((Int32.ofInt l5 &&& Int32.ofInt ((Int32.ofInt l2 ^^^ Int32.ofInt (-1)).toInt)).toInt = 0 → (
        ∃ q24 : Nat, (
        (R a0 34 = some q24) ∧ (
        ∃ n26 : Nat, (
        (X.2.1 q24 = some (100, n26) ∧ n26 < 2147483648) ∧ (
        (0 ≤ (0 : Int) ∧ (0 : Int) < n26) ∧ (
        ((Int32.ofInt ((Int32.ofInt l5 >>> (Int32.ofInt ((I q24 (0 : Int).toNat).toInt) &&& 31)).toInt) &&& Int32.ofInt 1).toInt ≠ 0 → (
          ∃ Q29 : Option Value → jx_I → Prop, (
          (jc V 6 276 (0, 0) [.ref a0, jy l5] X I R Q29 (fun _ _ => False)) ∧ (
          ∀ rv I31, Q29 rv I31 → ∃ r32 : Int, rv = some (jy r32) ∧ (
          (l5 ≠ l2 → (
            ∃ Q33 : Option Value → jx_I → Prop, (
            (jc V 6 276 (0, 0) [.ref a0, jy ((Int32.ofInt l2 &&& Int32.ofInt ((Int32.ofInt l5 ^^^ Int32.ofInt (-1)).toInt)).toInt)] X I31 R Q33 (fun _ _ => False)) ∧ (
            ∀ rv I35, Q33 rv I35 → ∃ r36 : Int, rv = some (jy r36) ∧ (
            J108 r36 l2 l3 l4 l5 r32 I35)))
          )) ∧ (l5 = l2 → (
            J108 0 l2 l3 l4 l5 r32 I31
          )))))
        )) ∧ ((Int32.ofInt ((Int32.ofInt l5 >>> (Int32.ofInt ((I q24 (0 : Int).toNat).toInt) &&& 31)).toInt) &&& Int32.ofInt 1).toInt = 0 → (
          J148 l2 l3 l4 l5 I
        )))))))
      ))
    )))
  ))))
/-- GCModel.parted, from 108 -/
def wz_278_108 (V : jx_V) (X : jx_X) (R : jx_R) (Q : Option Value → jx_I → Prop) (QE : String → jx_I → Prop) (J20 : Nat → Int → jx_I → Prop) (J41 : Int → Int → Int → Int → jx_I → Prop) (J108 : Int → Int → Int → Int → Int → Int → jx_I → Prop) (J124 : Int → Int → Int → Int → Int → jx_I → Prop) (J148 : Int → Int → Int → Int → jx_I → Prop) (a0 : Nat) (a1 : Int) (s0 : Int) (l2 : Int) (l3 : Int) (l4 : Int) (l5 : Int) (l6 : Int) (I : jx_I) : Prop :=
  (-2147483648 ≤ l6 ∧ l6 < 2147483648) ∧ (
  (-2147483648 ≤ s0 ∧ s0 < 2147483648) ∧ (
  (l6 ≤ s0 → (
    J124 s0 l2 l3 l4 l5 I
  )) ∧ (¬ l6 ≤ s0 → (
    J124 l6 l2 l3 l4 l5 I
  ))))
/-- GCModel.parted, from 124 -/
def wz_278_124 (V : jx_V) (X : jx_X) (R : jx_R) (Q : Option Value → jx_I → Prop) (QE : String → jx_I → Prop) (J20 : Nat → Int → jx_I → Prop) (J41 : Int → Int → Int → Int → jx_I → Prop) (J108 : Int → Int → Int → Int → Int → Int → jx_I → Prop) (J124 : Int → Int → Int → Int → Int → jx_I → Prop) (J148 : Int → Int → Int → Int → jx_I → Prop) (a0 : Nat) (a1 : Int) (s0 : Int) (l2 : Int) (l3 : Int) (l4 : Int) (l5 : Int) (I : jx_I) : Prop :=
  (-2147483648 ≤ l3 ∧ l3 < 2147483648) ∧ (
  (l3 = (-1) → (
    J148 l2 l5 s0 l5 I
  )) ∧ (¬ l3 = (-1) → (
    (-2147483648 ≤ s0 ∧ s0 < 2147483648) ∧ (
    (-2147483648 ≤ l4 ∧ l4 < 2147483648) ∧ (
    (s0 < l4 → (
      J148 l2 l5 s0 l5 I
    )) ∧ (¬ s0 < l4 → (
      J148 l2 l3 l4 l5 I
    ))))
  )))
/-- GCModel.parted, from 148 -/
def wz_278_148 (V : jx_V) (X : jx_X) (R : jx_R) (Q : Option Value → jx_I → Prop) (QE : String → jx_I → Prop) (J20 : Nat → Int → jx_I → Prop) (J41 : Int → Int → Int → Int → jx_I → Prop) (J108 : Int → Int → Int → Int → Int → Int → jx_I → Prop) (J124 : Int → Int → Int → Int → Int → jx_I → Prop) (J148 : Int → Int → Int → Int → jx_I → Prop) (a0 : Nat) (a1 : Int) (l2 : Int) (l3 : Int) (l4 : Int) (l5 : Int) (I : jx_I) : Prop :=
  J41 l2 l3 l4 (l5 + 1) I
/-- GCModel.parted -/
def wz_278 (V : jx_V) (X : jx_X) (R : jx_R) (Q : Option Value → jx_I → Prop) (QE : String → jx_I → Prop) (J20 : Nat → Int → jx_I → Prop) (J41 : Int → Int → Int → Int → jx_I → Prop) (J108 : Int → Int → Int → Int → Int → Int → jx_I → Prop) (J124 : Int → Int → Int → Int → Int → jx_I → Prop) (J148 : Int → Int → Int → Int → jx_I → Prop) (a0 : Nat) (a1 : Int) (I : jx_I) : Prop :=
  (X.2.1 a0 = some (12, 0)) ∧ (
  ∀ I2 : jx_I, I2 = jx_u I a0 0 (Int32.ofInt 0) → (
  ∃ Q3 : Option Value → jx_I → Prop, (
  (jc V 1 203 (0, 0) [jy a1, jy 0, jy 1] X I2 R Q3 (fun _ _ => False)) ∧ (
  ∀ rv I5, Q3 rv I5 → ∃ r6 : Int, rv = some (jy r6) ∧ (
  (-2147483648 ≤ r6 ∧ r6 < 2147483648) ∧ (
  (r6 ≠ 0 → (
    J20 a0 0 I5
  )) ∧ (r6 = 0 → (
    J20 a0 1 I5
  ))))))))
set_option maxRecDepth 20000 in
theorem wm_278 {V : jx_V} (hV : V.1.stackTraces = false) {X : jx_X} {R : jx_R} {I : jx_I} {Q : Option Value → jx_I → Prop} {QE : String → jx_I → Prop} {a0 : Nat} {a1 : Int} (r_a1 : -2147483648 ≤ a1 ∧ a1 < 2147483648) 
    (h : ∀ (J20 : Nat → Int → jx_I → Prop) (J41 : Int → Int → Int → Int → jx_I → Prop) (J108 : Int → Int → Int → Int → Int → Int → jx_I → Prop) (J124 : Int → Int → Int → Int → Int → jx_I → Prop) (J148 : Int → Int → Int → Int → jx_I → Prop), ((∀ (s0 : Nat) (s1 : Int) I, wz_278_20 V X R Q QE J20 J41 J108 J124 J148 a0 a1 s0 s1 I → J20 s0 s1 I) ∧ (∀ (l2 : Int) (l3 : Int) (l4 : Int) (l5 : Int) I, wz_278_41 V X R Q QE J20 J41 J108 J124 J148 a0 a1 l2 l3 l4 l5 I → J41 l2 l3 l4 l5 I) ∧ (∀ (s0 : Int) (l2 : Int) (l3 : Int) (l4 : Int) (l5 : Int) (l6 : Int) I, wz_278_108 V X R Q QE J20 J41 J108 J124 J148 a0 a1 s0 l2 l3 l4 l5 l6 I → J108 s0 l2 l3 l4 l5 l6 I) ∧ (∀ (s0 : Int) (l2 : Int) (l3 : Int) (l4 : Int) (l5 : Int) I, wz_278_124 V X R Q QE J20 J41 J108 J124 J148 a0 a1 s0 l2 l3 l4 l5 I → J124 s0 l2 l3 l4 l5 I) ∧ (∀ (l2 : Int) (l3 : Int) (l4 : Int) (l5 : Int) I, wz_278_148 V X R Q QE J20 J41 J108 J124 J148 a0 a1 l2 l3 l4 l5 I → J148 l2 l3 l4 l5 I)) → wz_278 V X R Q QE J20 J41 J108 J124 J148 a0 a1 I) : jc V 7 278 (0, 0) [.ref a0, jy a1] X I R Q QE := by
  refine jy_met hV (by decide) (n := 9) (rt := some .int) (hh := []) (ini := false) (C := jx_c278) (L := [some (.ref a0), some (jy a1), none, none, none, none, none, none, none]) jt_278 (Nat.le_of_ble_eq_true rfl) rfl ?_
  intro J hS
  have h := h (fun s0 s1 I => J 20 [jy s1, .ref s0] [some (.ref a0), some (jy a1), none, none, none, none, none, none, none] (0, 0) X I R) (fun l2 l3 l4 l5 I => J 41 [] [some (.ref a0), some (jy a1), some (jy l2), some (jy l3), some (jy l4), some (jy l5), none, none, none] (0, 0) X I R) (fun s0 l2 l3 l4 l5 l6 I => J 108 [jy s0] [some (.ref a0), some (jy a1), some (jy l2), some (jy l3), some (jy l4), some (jy l5), some (jy l6), none, none] (0, 0) X I R) (fun s0 l2 l3 l4 l5 I => J 124 [jy s0] [some (.ref a0), some (jy a1), some (jy l2), some (jy l3), some (jy l4), some (jy l5), none, none, none] (0, 0) X I R) (fun l2 l3 l4 l5 I => J 148 [] [some (.ref a0), some (jy a1), some (jy l2), some (jy l3), some (jy l4), some (jy l5), none, none, none] (0, 0) X I R) ?_
  · unfold wz_278 at h
    refine jy_aload_n hS rfl rfl ?_
    refine jy_iconst hS rfl ?_
    obtain ⟨g1, h⟩ := h
    refine jy_putI hS rfl (by decide) g1 ?_
    intro I2 e9
    have h := h I2 e9
    clear e9
    refine jy_aload_n hS rfl rfl ?_
    refine jy_iload_n hS rfl rfl ?_
    refine jy_iconst hS rfl ?_
    refine jy_iconst hS rfl ?_
    obtain ⟨Q3, h⟩ := h
    obtain ⟨g4, h⟩ := h
    refine jy_callS hS rfl rfl rfl (Nat.le_of_ble_eq_true rfl) g4 (by decide) ⟨by decide, by decide⟩ (Nat.le_of_ble_eq_true rfl) ?_ ?_
    rotate_left
    · exact fun Ex Xx Ix Rx hp => hp.2.2.2.elim
    intro rv Xx I5 Rx hp
    obtain ⟨e1, e2, hp⟩ := hp
    rw [e1, e2]
    clear e1 e2
    obtain ⟨r6, e1, h⟩ := h rv I5 hp
    rw [e1]
    clear e1
    change J 12 [jy r6, .ref a0] _ (0, 0) _ _ _
    obtain ⟨g7, h⟩ := h
    refine jy_if_ne hS rfl g7 (fun hq => ?_) (fun hq => ?_)
    · have h := h.1 hq
      refine jy_iconst hS rfl ?_
      exact jy_join hS h rfl (jy_sub_s (jy_sub_s (jy_sub_n (jy_sub_n (jy_sub_n (jy_sub_n (jy_sub_n (jy_sub_n (jy_sub_n jy_sub_0)))))))))
    · have h := h.2 hq
      refine jy_iconst hS rfl ?_
      refine jy_goto hS rfl ?_
      exact jy_join hS h rfl (jy_sub_s (jy_sub_s (jy_sub_n (jy_sub_n (jy_sub_n (jy_sub_n (jy_sub_n (jy_sub_n (jy_sub_n jy_sub_0)))))))))
  refine ⟨?_, ?_, ?_, ?_, ?_⟩
  · intro s0 s1 I h
    unfold wz_278_20 at h
    obtain ⟨g8, h⟩ := h
    obtain ⟨Q9, h⟩ := h
    obtain ⟨g10, h⟩ := h
    refine jy_callV hS rfl rfl rfl (Nat.le_of_ble_eq_true rfl) (Or.inl g8) g10 (by decide) ⟨by decide, by decide⟩ (Nat.le_of_ble_eq_true rfl) ?_ ?_
    rotate_left
    · exact fun Ex Xx Ix Rx hp => hp.2.2.2.elim
    intro rv Xx I11 Rx hp
    obtain ⟨e1, e2, hp⟩ := hp
    rw [e1, e2]
    clear e1 e2
    obtain ⟨r12, e1, h⟩ := h rv I11 hp
    rw [e1]
    clear e1
    change J 23 [jy r12] _ (0, 0) _ _ _
    obtain ⟨g13, h⟩ := h
    refine jy_if_eq hS rfl g13 (fun hq => ?_) (fun hq => ?_)
    · have h := h.1 hq
      refine jy_aload_n hS rfl rfl ?_
      obtain ⟨g14, h⟩ := h
      obtain ⟨Q15, h⟩ := h
      obtain ⟨g16, h⟩ := h
      refine jy_callV hS rfl rfl rfl (Nat.le_of_ble_eq_true rfl) (Or.inl g14) g16 (by decide) ⟨by decide, by decide⟩ (Nat.le_of_ble_eq_true rfl) ?_ ?_
      rotate_left
      · exact fun Ex Xx Ix Rx hp => hp.2.2.2.elim
      intro rv Xx I17 Rx hp
      obtain ⟨e1, e2, hp⟩ := hp
      rw [e1, e2]
      clear e1 e2
      obtain ⟨r18, e1, h⟩ := h rv I17 hp
      rw [e1]
      clear e1
      change J 32 [jy r18] _ (0, 0) _ _ _
      refine jy_istore_n hS rfl (Nat.le_of_ble_eq_true rfl) (L' := [some (.ref a0), some (jy a1), some (jy r18), none, none, none, none, none, none]) rfl ?_
      refine jy_iconst hS rfl ?_
      refine jy_istore_n hS rfl (Nat.le_of_ble_eq_true rfl) (L' := [some (.ref a0), some (jy a1), some (jy r18), some (jy (-1)), none, none, none, none, none]) rfl ?_
      refine jy_iconst hS rfl ?_
      refine jy_istore hS rfl (Nat.le_of_ble_eq_true rfl) (L' := [some (.ref a0), some (jy a1), some (jy r18), some (jy (-1)), some (jy 0), none, none, none, none]) rfl ?_
      refine jy_iconst hS rfl ?_
      refine jy_istore hS rfl (Nat.le_of_ble_eq_true rfl) (L' := [some (.ref a0), some (jy a1), some (jy r18), some (jy (-1)), some (jy 0), some (jy 0), none, none, none]) rfl ?_
      exact jy_join hS h rfl (jy_sub_s (jy_sub_s (jy_sub_s (jy_sub_s (jy_sub_s (jy_sub_s (jy_sub_n (jy_sub_n (jy_sub_n jy_sub_0)))))))))
    · have h := h.2 hq
      refine jy_iconst hS rfl ?_
      exact jy_iret hS rfl rfl ⟨rfl, rfl, h⟩
  · intro l2 l3 l4 l5 I h
    unfold wz_278_41 at h
    refine jy_iload hS rfl rfl ?_
    refine jy_iload_n hS rfl rfl ?_
    obtain ⟨g19, h⟩ := h
    obtain ⟨g20, h⟩ := h
    refine jy_icmp_gt hS rfl ⟨g19, g20⟩ (fun hq => ?_) (fun hq => ?_)
    · have h := h.1 hq
      refine jy_iload_n hS rfl rfl ?_
      refine jy_iconst hS rfl ?_
      obtain ⟨g21, h⟩ := h
      refine jy_icmp_ne hS rfl ⟨g21, ⟨by decide, by decide⟩⟩ (fun hq => ?_) (fun hq => ?_)
      · have h := h.1 hq
        refine jy_iload_n hS rfl rfl ?_
        refine jy_if_ne hS rfl r_a1 (fun hq => ?_) (fun hq => ?_)
        · have h := h.1 hq
          refine jy_iload_n hS rfl rfl ?_
          exact jy_iret hS rfl rfl ⟨rfl, rfl, h⟩
        · have h := h.2 hq
          refine jy_iload hS rfl rfl ?_
          refine jy_goto hS rfl ?_
          exact jy_iret hS rfl rfl ⟨rfl, rfl, h⟩
      · have h := h.2 hq
        refine jy_iconst hS rfl ?_
        refine jy_goto hS rfl ?_
        exact jy_iret hS rfl rfl ⟨rfl, rfl, h⟩
    · have h := h.2 hq
      refine jy_aload_n hS rfl rfl ?_
      obtain ⟨g22, h⟩ := h
      refine jy_getI hS rfl (by decide) g22 ?_
      refine jy_if_le hS rfl (jy_rng _) (fun hq => ?_) (fun hq => ?_)
      · have h := h.1 hq
        refine jy_iload_n hS rfl rfl ?_
        refine jy_iconst hS rfl ?_
        obtain ⟨g23, h⟩ := h
        refine jy_icmp_ne hS rfl ⟨g23, ⟨by decide, by decide⟩⟩ (fun hq => ?_) (fun hq => ?_)
        · have h := h.1 hq
          refine jy_iload_n hS rfl rfl ?_
          refine jy_if_ne hS rfl r_a1 (fun hq => ?_) (fun hq => ?_)
          · have h := h.1 hq
            refine jy_iload_n hS rfl rfl ?_
            exact jy_iret hS rfl rfl ⟨rfl, rfl, h⟩
          · have h := h.2 hq
            refine jy_iload hS rfl rfl ?_
            refine jy_goto hS rfl ?_
            exact jy_iret hS rfl rfl ⟨rfl, rfl, h⟩
        · have h := h.2 hq
          refine jy_iconst hS rfl ?_
          refine jy_goto hS rfl ?_
          exact jy_iret hS rfl rfl ⟨rfl, rfl, h⟩
      · have h := h.2 hq
        refine jy_iload hS rfl rfl ?_
        refine jy_iload_n hS rfl rfl ?_
        refine jy_iconst hS rfl ?_
        refine jy_ixorX hS rfl rfl ?_
        refine jy_iandX hS rfl rfl ?_
        refine jy_if_ne hS rfl (jy_rng _) (fun hq => ?_) (fun hq => ?_)
        · have h := h.1 hq
          refine jy_iinc hS rfl rfl (L' := [some (.ref a0), some (jy a1), some (jy l2), some (jy l3), some (jy l4), some (jy (l5 + 1)), none, none, none]) rfl ?_
          refine jy_goto hS rfl ?_
          exact jy_join hS h rfl (jy_sub_s (jy_sub_s (jy_sub_s (jy_sub_s (jy_sub_s (jy_sub_s (jy_sub_n (jy_sub_n (jy_sub_n jy_sub_0)))))))))
        · have h := h.2 hq
          refine jy_iload hS rfl rfl ?_
          refine jy_aload_n hS rfl rfl ?_
          obtain ⟨q24, h⟩ := h
          obtain ⟨g25, h⟩ := h
          refine jy_getR hS rfl (by decide) g22 g25 ?_
          refine jy_iconst hS rfl ?_
          obtain ⟨n26, h⟩ := h
          obtain ⟨g27, h⟩ := h
          obtain ⟨g28, h⟩ := h
          refine jy_iald hS rfl g27.1 (Nat.le_of_lt g27.2) g28 ?_
          refine jy_ishrX hS rfl rfl ?_
          refine jy_iconst hS rfl ?_
          refine jy_iandX hS rfl rfl ?_
          refine jy_if_ne hS rfl (jy_rng _) (fun hq => ?_) (fun hq => ?_)
          · have h := h.1 hq
            refine jy_aload_n hS rfl rfl ?_
            refine jy_iload hS rfl rfl ?_
            obtain ⟨Q29, h⟩ := h
            obtain ⟨g30, h⟩ := h
            refine jy_callV hS rfl rfl rfl (Nat.le_of_ble_eq_true rfl) (Or.inl g22) g30 (by decide) ⟨by decide, by decide⟩ (Nat.le_of_ble_eq_true rfl) ?_ ?_
            rotate_left
            · exact fun Ex Xx Ix Rx hp => hp.2.2.2.elim
            intro rv Xx I31 Rx hp
            obtain ⟨e1, e2, hp⟩ := hp
            rw [e1, e2]
            clear e1 e2
            obtain ⟨r32, e1, h⟩ := h rv I31 hp
            rw [e1]
            clear e1
            change J 86 [jy r32] _ (0, 0) _ _ _
            refine jy_istore hS rfl (Nat.le_of_ble_eq_true rfl) (L' := [some (.ref a0), some (jy a1), some (jy l2), some (jy l3), some (jy l4), some (jy l5), some (jy r32), none, none]) rfl ?_
            refine jy_iload hS rfl rfl ?_
            refine jy_iload_n hS rfl rfl ?_
            refine jy_icmp_ne hS rfl ⟨g19, g20⟩ (fun hq => ?_) (fun hq => ?_)
            · have h := h.1 hq
              refine jy_aload_n hS rfl rfl ?_
              refine jy_iload_n hS rfl rfl ?_
              refine jy_iload hS rfl rfl ?_
              refine jy_iconst hS rfl ?_
              refine jy_ixorX hS rfl rfl ?_
              refine jy_iandX hS rfl rfl ?_
              obtain ⟨Q33, h⟩ := h
              obtain ⟨g34, h⟩ := h
              refine jy_callV hS rfl rfl rfl (Nat.le_of_ble_eq_true rfl) (Or.inl g22) g34 (by decide) ⟨by decide, by decide⟩ (Nat.le_of_ble_eq_true rfl) ?_ ?_
              rotate_left
              · exact fun Ex Xx Ix Rx hp => hp.2.2.2.elim
              intro rv Xx I35 Rx hp
              obtain ⟨e1, e2, hp⟩ := hp
              rw [e1, e2]
              clear e1 e2
              obtain ⟨r36, e1, h⟩ := h rv I35 hp
              rw [e1]
              clear e1
              change J 108 [jy r36] _ (0, 0) _ _ _
              exact jy_join hS h rfl (jy_sub_s (jy_sub_s (jy_sub_s (jy_sub_s (jy_sub_s (jy_sub_s (jy_sub_s (jy_sub_n (jy_sub_n jy_sub_0)))))))))
            · have h := h.2 hq
              refine jy_iconst hS rfl ?_
              refine jy_goto hS rfl ?_
              exact jy_join hS h rfl (jy_sub_s (jy_sub_s (jy_sub_s (jy_sub_s (jy_sub_s (jy_sub_s (jy_sub_s (jy_sub_n (jy_sub_n jy_sub_0)))))))))
          · have h := h.2 hq
            refine jy_goto hS rfl ?_
            exact jy_join hS h rfl (jy_sub_s (jy_sub_s (jy_sub_s (jy_sub_s (jy_sub_s (jy_sub_s (jy_sub_n (jy_sub_n (jy_sub_n jy_sub_0)))))))))
  · intro s0 l2 l3 l4 l5 l6 I h
    unfold wz_278_108 at h
    refine jy_istore hS rfl (Nat.le_of_ble_eq_true rfl) (L' := [some (.ref a0), some (jy a1), some (jy l2), some (jy l3), some (jy l4), some (jy l5), some (jy l6), some (jy s0), none]) rfl ?_
    refine jy_iload hS rfl rfl ?_
    refine jy_iload hS rfl rfl ?_
    obtain ⟨g37, h⟩ := h
    obtain ⟨g38, h⟩ := h
    refine jy_icmp_le hS rfl ⟨g37, g38⟩ (fun hq => ?_) (fun hq => ?_)
    · have h := h.1 hq
      refine jy_iload hS rfl rfl ?_
      exact jy_join hS h rfl (jy_sub_s (jy_sub_s (jy_sub_s (jy_sub_s (jy_sub_s (jy_sub_s (jy_sub_n (jy_sub_n (jy_sub_n jy_sub_0)))))))))
    · have h := h.2 hq
      refine jy_iload hS rfl rfl ?_
      refine jy_goto hS rfl ?_
      exact jy_join hS h rfl (jy_sub_s (jy_sub_s (jy_sub_s (jy_sub_s (jy_sub_s (jy_sub_s (jy_sub_n (jy_sub_n (jy_sub_n jy_sub_0)))))))))
  · intro s0 l2 l3 l4 l5 I h
    unfold wz_278_124 at h
    refine jy_istore hS rfl (Nat.le_of_ble_eq_true rfl) (L' := [some (.ref a0), some (jy a1), some (jy l2), some (jy l3), some (jy l4), some (jy l5), none, none, some (jy s0)]) rfl ?_
    refine jy_iload_n hS rfl rfl ?_
    refine jy_iconst hS rfl ?_
    obtain ⟨g39, h⟩ := h
    refine jy_icmp_eq hS rfl ⟨g39, ⟨by decide, by decide⟩⟩ (fun hq => ?_) (fun hq => ?_)
    · have h := h.1 hq
      refine jy_iload hS rfl rfl ?_
      refine jy_istore_n hS rfl (Nat.le_of_ble_eq_true rfl) (L' := [some (.ref a0), some (jy a1), some (jy l2), some (jy l5), some (jy l4), some (jy l5), none, none, some (jy s0)]) rfl ?_
      refine jy_iload hS rfl rfl ?_
      refine jy_istore hS rfl (Nat.le_of_ble_eq_true rfl) (L' := [some (.ref a0), some (jy a1), some (jy l2), some (jy l5), some (jy s0), some (jy l5), none, none, some (jy s0)]) rfl ?_
      exact jy_join hS h rfl (jy_sub_s (jy_sub_s (jy_sub_s (jy_sub_s (jy_sub_s (jy_sub_s (jy_sub_n (jy_sub_n (jy_sub_n jy_sub_0)))))))))
    · have h := h.2 hq
      refine jy_iload hS rfl rfl ?_
      refine jy_iload hS rfl rfl ?_
      obtain ⟨g40, h⟩ := h
      obtain ⟨g41, h⟩ := h
      refine jy_icmp_lt hS rfl ⟨g40, g41⟩ (fun hq => ?_) (fun hq => ?_)
      · have h := h.1 hq
        refine jy_iload hS rfl rfl ?_
        refine jy_istore_n hS rfl (Nat.le_of_ble_eq_true rfl) (L' := [some (.ref a0), some (jy a1), some (jy l2), some (jy l5), some (jy l4), some (jy l5), none, none, some (jy s0)]) rfl ?_
        refine jy_iload hS rfl rfl ?_
        refine jy_istore hS rfl (Nat.le_of_ble_eq_true rfl) (L' := [some (.ref a0), some (jy a1), some (jy l2), some (jy l5), some (jy s0), some (jy l5), none, none, some (jy s0)]) rfl ?_
        exact jy_join hS h rfl (jy_sub_s (jy_sub_s (jy_sub_s (jy_sub_s (jy_sub_s (jy_sub_s (jy_sub_n (jy_sub_n (jy_sub_n jy_sub_0)))))))))
      · have h := h.2 hq
        refine jy_goto hS rfl ?_
        exact jy_join hS h rfl (jy_sub_s (jy_sub_s (jy_sub_s (jy_sub_s (jy_sub_s (jy_sub_s (jy_sub_n (jy_sub_n (jy_sub_n jy_sub_0)))))))))
  · intro l2 l3 l4 l5 I h
    unfold wz_278_148 at h
    refine jy_iinc hS rfl rfl (L' := [some (.ref a0), some (jy a1), some (jy l2), some (jy l3), some (jy l4), some (jy (l5 + 1)), none, none, none]) rfl ?_
    refine jy_goto hS rfl ?_
    exact jy_join hS h rfl (jy_sub_s (jy_sub_s (jy_sub_s (jy_sub_s (jy_sub_s (jy_sub_s (jy_sub_n (jy_sub_n (jy_sub_n jy_sub_0)))))))))
theorem jt_279 : jx_ml 279 = 6 ∧ jx_rt 279 = some .int ∧ jx_hz 279 = [] ∧ decide ((jx_nm 279).name = "<init>") = false ∧ jx_code 279 = jx_c279 := by decide +kernel
/-- GCModel.sell, from 20 -/
def wz_279_20 (V : jx_V) (X : jx_X) (R : jx_R) (Q : Option Value → jx_I → Prop) (QE : String → jx_I → Prop) (J20 : Nat → Int → jx_I → Prop) (J35 : Int → Int → Int → jx_I → Prop) (J118 : Int → Int → Int → jx_I → Prop) (a0 : Nat) (a1 : Int) (s0 : Nat) (s1 : Int) (I : jx_I) : Prop :=
  (X.2.1 s0 = some (12, 0)) ∧ (
  ∃ Q9 : Option Value → jx_I → Prop, (
  (jc V 2 260 (0, 0) [.ref s0, jy s1] X I R Q9 (fun _ _ => False)) ∧ (
  ∀ rv I11, Q9 rv I11 → ∃ r12 : Int, rv = some (jy r12) ∧ (
  (-2147483648 ≤ r12 ∧ r12 < 2147483648) ∧ (
  (r12 = 0 → (
    J35 (-1) 0 0 I11
  )) ∧ (¬ r12 = 0 → (
    Q (some (jy 0)) I11
  )))))))
/-- GCModel.sell, from 35 -/
def wz_279_35 (V : jx_V) (X : jx_X) (R : jx_R) (Q : Option Value → jx_I → Prop) (QE : String → jx_I → Prop) (J20 : Nat → Int → jx_I → Prop) (J35 : Int → Int → Int → jx_I → Prop) (J118 : Int → Int → Int → jx_I → Prop) (a0 : Nat) (a1 : Int) (l2 : Int) (l3 : Int) (l4 : Int) (I : jx_I) : Prop :=
  (X.2.1 a0 = some (12, 0)) ∧ (
  (-2147483648 ≤ l4 ∧ l4 < 2147483648) ∧ (
  ((I a0 36).toInt ≤ l4 → (
    (a1 = 0 → (
      Q (some (jy l2)) I
    )) ∧ (¬ a1 = 0 → (
      (-2147483648 ≤ l2 ∧ l2 < 2147483648) ∧ (
      (l2 ≠ (-1) → (
        Q (some (jy l3)) I
      )) ∧ (l2 = (-1) → (
        Q (some (jy l2)) I
      )))
    ))
  )) ∧ (¬ (I a0 36).toInt ≤ l4 → (
    ∃ Q17 : Option Value → jx_I → Prop, (
    (jc V 1 277 (0, 0) [.ref a0] X I R Q17 (fun _ _ => False)) ∧ (
    ∀ rv I19, Q17 rv I19 → ∃ r20 : Int, rv = some (jy r20) ∧ (
    ∃ q21 : Nat, (
    (R a0 34 = some q21) ∧ (
    ∃ n23 : Nat, (
    (X.2.1 q21 = some (100, n23) ∧ n23 < 2147483648) ∧ (
    (0 ≤ l4 ∧ l4 < n23) ∧ (
    ∃ Q26 : Option Value → jx_I → Prop, (
    (jc V 6 276 (0, 0) [.ref a0, jy ((Int32.ofInt r20 &&& Int32.ofInt ((Int32.ofInt ((Int32.ofInt 1 <<< (Int32.ofInt ((I19 q21 l4.toNat).toInt) &&& 31)).toInt) ^^^ Int32.ofInt (-1)).toInt)).toInt)] X I19 R Q26 (fun _ _ => False)) ∧ (
    ∀ rv I28, Q26 rv I28 → ∃ r29 : Int, rv = some (jy r29) ∧ (
    (-2147483648 ≤ l2 ∧ l2 < 2147483648) ∧ (
    (l2 = (-1) → (
      (0 ≤ l4 ∧ l4 < n23) ∧ (
      J118 ((I28 q21 l4.toNat).toInt) r29 l4 I28)
    )) ∧ (¬ l2 = (-1) → (
      (-2147483648 ≤ r29 ∧ r29 < 2147483648) ∧ (
      (-2147483648 ≤ l3 ∧ l3 < 2147483648) ∧ (
      (l3 < r29 → (
        J35 l2 l3 (l4 + 1) I28
      )) ∧ (¬ l3 < r29 → (
        (r29 ≠ l3 → (
          (0 ≤ l4 ∧ l4 < n23) ∧ (
          J118 ((I28 q21 l4.toNat).toInt) r29 l4 I28)
        )) ∧ (r29 = l3 → (
          ∃ q35 : Nat, (
          (R a0 15 = some q35) ∧ (
          (0 ≤ l4 ∧ l4 < n23) ∧ (
          ∃ n38 : Nat, (
          (X.2.1 q35 = some (100, n38) ∧ n38 < 2147483648) ∧ (
          (0 ≤ (I28 q21 l4.toNat).toInt ∧ (I28 q21 l4.toNat).toInt < n38) ∧ (
          (0 ≤ l2 ∧ l2 < n38) ∧ (
          ((I28 q35 l2.toNat).toInt < (I28 q35 ((I28 q21 l4.toNat).toInt).toNat).toInt → (
            (0 ≤ l4 ∧ l4 < n23) ∧ (
            J118 ((I28 q21 l4.toNat).toInt) r29 l4 I28)
          )) ∧ (¬ (I28 q35 l2.toNat).toInt < (I28 q35 ((I28 q21 l4.toNat).toInt).toNat).toInt → (
            J118 l2 l3 l4 I28
          )))))))))
        ))
      ))))
    ))))))))))))))
  ))))
/-- GCModel.sell, from 118 -/
def wz_279_118 (V : jx_V) (X : jx_X) (R : jx_R) (Q : Option Value → jx_I → Prop) (QE : String → jx_I → Prop) (J20 : Nat → Int → jx_I → Prop) (J35 : Int → Int → Int → jx_I → Prop) (J118 : Int → Int → Int → jx_I → Prop) (a0 : Nat) (a1 : Int) (l2 : Int) (l3 : Int) (l4 : Int) (I : jx_I) : Prop :=
  J35 l2 l3 (l4 + 1) I
/-- GCModel.sell -/
def wz_279 (V : jx_V) (X : jx_X) (R : jx_R) (Q : Option Value → jx_I → Prop) (QE : String → jx_I → Prop) (J20 : Nat → Int → jx_I → Prop) (J35 : Int → Int → Int → jx_I → Prop) (J118 : Int → Int → Int → jx_I → Prop) (a0 : Nat) (a1 : Int) (I : jx_I) : Prop :=
  (X.2.1 a0 = some (12, 0)) ∧ (
  ∀ I2 : jx_I, I2 = jx_u I a0 0 (Int32.ofInt 0) → (
  ∃ Q3 : Option Value → jx_I → Prop, (
  (jc V 1 203 (0, 0) [jy a1, jy 0, jy 1] X I2 R Q3 (fun _ _ => False)) ∧ (
  ∀ rv I5, Q3 rv I5 → ∃ r6 : Int, rv = some (jy r6) ∧ (
  (-2147483648 ≤ r6 ∧ r6 < 2147483648) ∧ (
  (r6 ≠ 0 → (
    J20 a0 0 I5
  )) ∧ (r6 = 0 → (
    J20 a0 1 I5
  ))))))))
set_option maxRecDepth 20000 in
theorem wm_279 {V : jx_V} (hV : V.1.stackTraces = false) {X : jx_X} {R : jx_R} {I : jx_I} {Q : Option Value → jx_I → Prop} {QE : String → jx_I → Prop} {a0 : Nat} {a1 : Int} (r_a1 : -2147483648 ≤ a1 ∧ a1 < 2147483648) 
    (h : ∀ (J20 : Nat → Int → jx_I → Prop) (J35 : Int → Int → Int → jx_I → Prop) (J118 : Int → Int → Int → jx_I → Prop), ((∀ (s0 : Nat) (s1 : Int) I, wz_279_20 V X R Q QE J20 J35 J118 a0 a1 s0 s1 I → J20 s0 s1 I) ∧ (∀ (l2 : Int) (l3 : Int) (l4 : Int) I, wz_279_35 V X R Q QE J20 J35 J118 a0 a1 l2 l3 l4 I → J35 l2 l3 l4 I) ∧ (∀ (l2 : Int) (l3 : Int) (l4 : Int) I, wz_279_118 V X R Q QE J20 J35 J118 a0 a1 l2 l3 l4 I → J118 l2 l3 l4 I)) → wz_279 V X R Q QE J20 J35 J118 a0 a1 I) : jc V 7 279 (0, 0) [.ref a0, jy a1] X I R Q QE := by
  refine jy_met hV (by decide) (n := 6) (rt := some .int) (hh := []) (ini := false) (C := jx_c279) (L := [some (.ref a0), some (jy a1), none, none, none, none]) jt_279 (Nat.le_of_ble_eq_true rfl) rfl ?_
  intro J hS
  have h := h (fun s0 s1 I => J 20 [jy s1, .ref s0] [some (.ref a0), some (jy a1), none, none, none, none] (0, 0) X I R) (fun l2 l3 l4 I => J 35 [] [some (.ref a0), some (jy a1), some (jy l2), some (jy l3), some (jy l4), none] (0, 0) X I R) (fun l2 l3 l4 I => J 118 [] [some (.ref a0), some (jy a1), some (jy l2), some (jy l3), some (jy l4), none] (0, 0) X I R) ?_
  · unfold wz_279 at h
    refine jy_aload_n hS rfl rfl ?_
    refine jy_iconst hS rfl ?_
    obtain ⟨g1, h⟩ := h
    refine jy_putI hS rfl (by decide) g1 ?_
    intro I2 e9
    have h := h I2 e9
    clear e9
    refine jy_aload_n hS rfl rfl ?_
    refine jy_iload_n hS rfl rfl ?_
    refine jy_iconst hS rfl ?_
    refine jy_iconst hS rfl ?_
    obtain ⟨Q3, h⟩ := h
    obtain ⟨g4, h⟩ := h
    refine jy_callS hS rfl rfl rfl (Nat.le_of_ble_eq_true rfl) g4 (by decide) ⟨by decide, by decide⟩ (Nat.le_of_ble_eq_true rfl) ?_ ?_
    rotate_left
    · exact fun Ex Xx Ix Rx hp => hp.2.2.2.elim
    intro rv Xx I5 Rx hp
    obtain ⟨e1, e2, hp⟩ := hp
    rw [e1, e2]
    clear e1 e2
    obtain ⟨r6, e1, h⟩ := h rv I5 hp
    rw [e1]
    clear e1
    change J 12 [jy r6, .ref a0] _ (0, 0) _ _ _
    obtain ⟨g7, h⟩ := h
    refine jy_if_ne hS rfl g7 (fun hq => ?_) (fun hq => ?_)
    · have h := h.1 hq
      refine jy_iconst hS rfl ?_
      exact jy_join hS h rfl (jy_sub_s (jy_sub_s (jy_sub_n (jy_sub_n (jy_sub_n (jy_sub_n jy_sub_0))))))
    · have h := h.2 hq
      refine jy_iconst hS rfl ?_
      refine jy_goto hS rfl ?_
      exact jy_join hS h rfl (jy_sub_s (jy_sub_s (jy_sub_n (jy_sub_n (jy_sub_n (jy_sub_n jy_sub_0))))))
  refine ⟨?_, ?_, ?_⟩
  · intro s0 s1 I h
    unfold wz_279_20 at h
    obtain ⟨g8, h⟩ := h
    obtain ⟨Q9, h⟩ := h
    obtain ⟨g10, h⟩ := h
    refine jy_callV hS rfl rfl rfl (Nat.le_of_ble_eq_true rfl) (Or.inl g8) g10 (by decide) ⟨by decide, by decide⟩ (Nat.le_of_ble_eq_true rfl) ?_ ?_
    rotate_left
    · exact fun Ex Xx Ix Rx hp => hp.2.2.2.elim
    intro rv Xx I11 Rx hp
    obtain ⟨e1, e2, hp⟩ := hp
    rw [e1, e2]
    clear e1 e2
    obtain ⟨r12, e1, h⟩ := h rv I11 hp
    rw [e1]
    clear e1
    change J 23 [jy r12] _ (0, 0) _ _ _
    obtain ⟨g13, h⟩ := h
    refine jy_if_eq hS rfl g13 (fun hq => ?_) (fun hq => ?_)
    · have h := h.1 hq
      refine jy_iconst hS rfl ?_
      refine jy_istore_n hS rfl (Nat.le_of_ble_eq_true rfl) (L' := [some (.ref a0), some (jy a1), some (jy (-1)), none, none, none]) rfl ?_
      refine jy_iconst hS rfl ?_
      refine jy_istore_n hS rfl (Nat.le_of_ble_eq_true rfl) (L' := [some (.ref a0), some (jy a1), some (jy (-1)), some (jy 0), none, none]) rfl ?_
      refine jy_iconst hS rfl ?_
      refine jy_istore hS rfl (Nat.le_of_ble_eq_true rfl) (L' := [some (.ref a0), some (jy a1), some (jy (-1)), some (jy 0), some (jy 0), none]) rfl ?_
      exact jy_join hS h rfl (jy_sub_s (jy_sub_s (jy_sub_s (jy_sub_s (jy_sub_s (jy_sub_n jy_sub_0))))))
    · have h := h.2 hq
      refine jy_iconst hS rfl ?_
      exact jy_iret hS rfl rfl ⟨rfl, rfl, h⟩
  · intro l2 l3 l4 I h
    unfold wz_279_35 at h
    refine jy_iload hS rfl rfl ?_
    refine jy_aload_n hS rfl rfl ?_
    obtain ⟨g14, h⟩ := h
    refine jy_getI hS rfl (by decide) g14 ?_
    obtain ⟨g15, h⟩ := h
    refine jy_icmp_ge hS rfl ⟨g15, (jy_rng _)⟩ (fun hq => ?_) (fun hq => ?_)
    · have h := h.1 hq
      refine jy_iload_n hS rfl rfl ?_
      refine jy_if_eq hS rfl r_a1 (fun hq => ?_) (fun hq => ?_)
      · have h := h.1 hq
        refine jy_iload_n hS rfl rfl ?_
        refine jy_goto hS rfl ?_
        exact jy_iret hS rfl rfl ⟨rfl, rfl, h⟩
      · have h := h.2 hq
        refine jy_iload_n hS rfl rfl ?_
        refine jy_iconst hS rfl ?_
        obtain ⟨g16, h⟩ := h
        refine jy_icmp_ne hS rfl ⟨g16, ⟨by decide, by decide⟩⟩ (fun hq => ?_) (fun hq => ?_)
        · have h := h.1 hq
          refine jy_iload_n hS rfl rfl ?_
          exact jy_iret hS rfl rfl ⟨rfl, rfl, h⟩
        · have h := h.2 hq
          refine jy_iload_n hS rfl rfl ?_
          refine jy_goto hS rfl ?_
          exact jy_iret hS rfl rfl ⟨rfl, rfl, h⟩
    · have h := h.2 hq
      refine jy_aload_n hS rfl rfl ?_
      refine jy_aload_n hS rfl rfl ?_
      obtain ⟨Q17, h⟩ := h
      obtain ⟨g18, h⟩ := h
      refine jy_callV hS rfl rfl rfl (Nat.le_of_ble_eq_true rfl) (Or.inl g14) g18 (by decide) ⟨by decide, by decide⟩ (Nat.le_of_ble_eq_true rfl) ?_ ?_
      rotate_left
      · exact fun Ex Xx Ix Rx hp => hp.2.2.2.elim
      intro rv Xx I19 Rx hp
      obtain ⟨e1, e2, hp⟩ := hp
      rw [e1, e2]
      clear e1 e2
      obtain ⟨r20, e1, h⟩ := h rv I19 hp
      rw [e1]
      clear e1
      change J 49 [jy r20, .ref a0] _ (0, 0) _ _ _
      refine jy_iconst hS rfl ?_
      refine jy_aload_n hS rfl rfl ?_
      obtain ⟨q21, h⟩ := h
      obtain ⟨g22, h⟩ := h
      refine jy_getR hS rfl (by decide) g14 g22 ?_
      refine jy_iload hS rfl rfl ?_
      obtain ⟨n23, h⟩ := h
      obtain ⟨g24, h⟩ := h
      obtain ⟨g25, h⟩ := h
      refine jy_iald hS rfl g24.1 (Nat.le_of_lt g24.2) g25 ?_
      refine jy_ishlX hS rfl rfl ?_
      refine jy_iconst hS rfl ?_
      refine jy_ixorX hS rfl rfl ?_
      refine jy_iandX hS rfl rfl ?_
      obtain ⟨Q26, h⟩ := h
      obtain ⟨g27, h⟩ := h
      refine jy_callV hS rfl rfl rfl (Nat.le_of_ble_eq_true rfl) (Or.inl g14) g27 (by decide) ⟨by decide, by decide⟩ (Nat.le_of_ble_eq_true rfl) ?_ ?_
      rotate_left
      · exact fun Ex Xx Ix Rx hp => hp.2.2.2.elim
      intro rv Xx I28 Rx hp
      obtain ⟨e1, e2, hp⟩ := hp
      rw [e1, e2]
      clear e1 e2
      obtain ⟨r29, e1, h⟩ := h rv I28 hp
      rw [e1]
      clear e1
      change J 64 [jy r29] _ (0, 0) _ _ _
      refine jy_istore hS rfl (Nat.le_of_ble_eq_true rfl) (L' := [some (.ref a0), some (jy a1), some (jy l2), some (jy l3), some (jy l4), some (jy r29)]) rfl ?_
      refine jy_iload_n hS rfl rfl ?_
      refine jy_iconst hS rfl ?_
      obtain ⟨g30, h⟩ := h
      refine jy_icmp_eq hS rfl ⟨g30, ⟨by decide, by decide⟩⟩ (fun hq => ?_) (fun hq => ?_)
      · have h := h.1 hq
        refine jy_aload_n hS rfl rfl ?_
        refine jy_getR hS rfl (by decide) g14 g22 ?_
        refine jy_iload hS rfl rfl ?_
        obtain ⟨g31, h⟩ := h
        refine jy_iald hS rfl g24.1 (Nat.le_of_lt g24.2) g31 ?_
        refine jy_istore_n hS rfl (Nat.le_of_ble_eq_true rfl) (L' := [some (.ref a0), some (jy a1), some (jy ((I28 q21 l4.toNat).toInt)), some (jy l3), some (jy l4), some (jy r29)]) rfl ?_
        refine jy_iload hS rfl rfl ?_
        refine jy_istore_n hS rfl (Nat.le_of_ble_eq_true rfl) (L' := [some (.ref a0), some (jy a1), some (jy ((I28 q21 l4.toNat).toInt)), some (jy r29), some (jy l4), some (jy r29)]) rfl ?_
        exact jy_join hS h rfl (jy_sub_s (jy_sub_s (jy_sub_s (jy_sub_s (jy_sub_s (jy_sub_n jy_sub_0))))))
      · have h := h.2 hq
        refine jy_iload hS rfl rfl ?_
        refine jy_iload_n hS rfl rfl ?_
        obtain ⟨g32, h⟩ := h
        obtain ⟨g33, h⟩ := h
        refine jy_icmp_gt hS rfl ⟨g32, g33⟩ (fun hq => ?_) (fun hq => ?_)
        · have h := h.1 hq
          refine jy_iinc hS rfl rfl (L' := [some (.ref a0), some (jy a1), some (jy l2), some (jy l3), some (jy (l4 + 1)), some (jy r29)]) rfl ?_
          refine jy_goto hS rfl ?_
          exact jy_join hS h rfl (jy_sub_s (jy_sub_s (jy_sub_s (jy_sub_s (jy_sub_s (jy_sub_n jy_sub_0))))))
        · have h := h.2 hq
          refine jy_iload hS rfl rfl ?_
          refine jy_iload_n hS rfl rfl ?_
          refine jy_icmp_ne hS rfl ⟨g32, g33⟩ (fun hq => ?_) (fun hq => ?_)
          · have h := h.1 hq
            refine jy_aload_n hS rfl rfl ?_
            refine jy_getR hS rfl (by decide) g14 g22 ?_
            refine jy_iload hS rfl rfl ?_
            obtain ⟨g34, h⟩ := h
            refine jy_iald hS rfl g24.1 (Nat.le_of_lt g24.2) g34 ?_
            refine jy_istore_n hS rfl (Nat.le_of_ble_eq_true rfl) (L' := [some (.ref a0), some (jy a1), some (jy ((I28 q21 l4.toNat).toInt)), some (jy l3), some (jy l4), some (jy r29)]) rfl ?_
            refine jy_iload hS rfl rfl ?_
            refine jy_istore_n hS rfl (Nat.le_of_ble_eq_true rfl) (L' := [some (.ref a0), some (jy a1), some (jy ((I28 q21 l4.toNat).toInt)), some (jy r29), some (jy l4), some (jy r29)]) rfl ?_
            exact jy_join hS h rfl (jy_sub_s (jy_sub_s (jy_sub_s (jy_sub_s (jy_sub_s (jy_sub_n jy_sub_0))))))
          · have h := h.2 hq
            refine jy_aload_n hS rfl rfl ?_
            obtain ⟨q35, h⟩ := h
            obtain ⟨g36, h⟩ := h
            refine jy_getR hS rfl (by decide) g14 g36 ?_
            refine jy_aload_n hS rfl rfl ?_
            refine jy_getR hS rfl (by decide) g14 g22 ?_
            refine jy_iload hS rfl rfl ?_
            obtain ⟨g37, h⟩ := h
            refine jy_iald hS rfl g24.1 (Nat.le_of_lt g24.2) g37 ?_
            obtain ⟨n38, h⟩ := h
            obtain ⟨g39, h⟩ := h
            obtain ⟨g40, h⟩ := h
            refine jy_iald hS rfl g39.1 (Nat.le_of_lt g39.2) g40 ?_
            refine jy_aload_n hS rfl rfl ?_
            refine jy_getR hS rfl (by decide) g14 g36 ?_
            refine jy_iload_n hS rfl rfl ?_
            obtain ⟨g41, h⟩ := h
            refine jy_iald hS rfl g39.1 (Nat.le_of_lt g39.2) g41 ?_
            refine jy_icmp_gt hS rfl ⟨(jy_rng _), (jy_rng _)⟩ (fun hq => ?_) (fun hq => ?_)
            · have h := h.1 hq
              refine jy_aload_n hS rfl rfl ?_
              refine jy_getR hS rfl (by decide) g14 g22 ?_
              refine jy_iload hS rfl rfl ?_
              obtain ⟨g42, h⟩ := h
              refine jy_iald hS rfl g24.1 (Nat.le_of_lt g24.2) g42 ?_
              refine jy_istore_n hS rfl (Nat.le_of_ble_eq_true rfl) (L' := [some (.ref a0), some (jy a1), some (jy ((I28 q21 l4.toNat).toInt)), some (jy l3), some (jy l4), some (jy r29)]) rfl ?_
              refine jy_iload hS rfl rfl ?_
              refine jy_istore_n hS rfl (Nat.le_of_ble_eq_true rfl) (L' := [some (.ref a0), some (jy a1), some (jy ((I28 q21 l4.toNat).toInt)), some (jy r29), some (jy l4), some (jy r29)]) rfl ?_
              exact jy_join hS h rfl (jy_sub_s (jy_sub_s (jy_sub_s (jy_sub_s (jy_sub_s (jy_sub_n jy_sub_0))))))
            · have h := h.2 hq
              refine jy_goto hS rfl ?_
              exact jy_join hS h rfl (jy_sub_s (jy_sub_s (jy_sub_s (jy_sub_s (jy_sub_s (jy_sub_n jy_sub_0))))))
  · intro l2 l3 l4 I h
    unfold wz_279_118 at h
    refine jy_iinc hS rfl rfl (L' := [some (.ref a0), some (jy a1), some (jy l2), some (jy l3), some (jy (l4 + 1)), none]) rfl ?_
    refine jy_goto hS rfl ?_
    exact jy_join hS h rfl (jy_sub_s (jy_sub_s (jy_sub_s (jy_sub_s (jy_sub_s (jy_sub_n jy_sub_0))))))
