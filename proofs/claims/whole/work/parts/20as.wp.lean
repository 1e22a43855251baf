theorem jt_302 : jx_ml 302 = 3 ∧ jx_rt 302 = none ∧ jx_hz 302 = [] ∧ decide ((jx_nm 302).name = "<init>") = false ∧ jx_code 302 = jx_c302 := by decide +kernel
/-- GCModel.readsStep, from 19 -/
def wz_302_19 (d : Nat) (V : jx_V) (X : jx_X) (R : jx_R) (Q : Option Value → jx_I → Prop) (QE : String → jx_I → Prop) (J19 : Int → jx_I → Prop) (J166 : Int → Nat → jx_I → Prop) (J176 : Int → Nat → jx_I → Prop) (J209 : Nat → jx_I → Prop) (a0 : Nat) (l1 : Int) (I : jx_I) : Prop :=
  (X.2.1 a0 = some (12, 0)) ∧ (
  ((I a0 5).toInt = 0 → (
    (2 < d) ∧ (
    ∃ Q158 : Option Value → jx_I → Prop, (
    (jc V 2 215 (0, 0) [.ref a0] X I R Q158 (fun _ _ => False)) ∧ (
    ∀ rv I161, Q158 rv I161 → rv = none ∧ (
    ∃ q163 : Nat, (
    (R a0 61 = some q163) ∧ (
    ∃ n165 : Nat, (
    (X.2.1 q163 = some (104, n165) ∧ n165 < 2147483648) ∧ (
    (0 ≤ (I161 a0 57).toInt ∧ (I161 a0 57).toInt < n165) ∧ (
    ∃ q168 : Nat, (
    (R q163 ((I161 a0 57).toInt).toNat = some q168) ∧ (
    ∀ I170 : jx_I, I170 = jx_u I161 a0 57 (Int32.ofInt ((I161 a0 57).toInt + 1)) → (
    ∃ n171 : Nat, (
    (X.2.1 q168 = some (100, n171) ∧ n171 < 2147483648) ∧ (
    (0 ≤ (0 : Int) ∧ (0 : Int) < n171) ∧ (
    ∀ I174 : jx_I, I174 = jx_u I170 q168 (0 : Int).toNat (Int32.ofInt l1) → (
    (0 ≤ (1 : Int) ∧ (1 : Int) < n171) ∧ (
    ∀ I176 : jx_I, I176 = jx_u I174 q168 (1 : Int).toNat (Int32.ofInt 0) → (
    (0 ≤ (2 : Int) ∧ (2 : Int) < n171) ∧ (
    ∀ I178 : jx_I, I178 = jx_u I176 q168 (2 : Int).toNat (Int32.ofInt ((I176 a0 58).toInt)) → (
    (-2147483648 ≤ l1 ∧ l1 < 2147483648) ∧ (
    (l1 ≠ 0 → (
      (l1 ≠ 1 → (
        (l1 ≤ 3 → (
          (l1 ≠ 7 → (
            (l1 ≤ 7 → (
              (l1 ≤ 6 → (
                (0 ≤ (3 : Int) ∧ (3 : Int) < n171) ∧ (
                ∀ I181 : jx_I, I181 = jx_u I178 q168 (3 : Int).toNat (Int32.ofInt ((I178 a0 57).toInt)) → (
                (l1 ≠ 9 → (
                  (0 ≤ (4 : Int) ∧ (4 : Int) < n171) ∧ (
                  ∀ I183 : jx_I, I183 = jx_u I181 q168 (4 : Int).toNat (Int32.ofInt ((I181 a0 57).toInt)) → (
                  (3 < d) ∧ (
                  ∃ Q184 : Option Value → jx_I → Prop, (
                  (jc V 3 217 (0, 0) [.ref a0, jy 59] X I183 R Q184 (fun _ _ => False)) ∧ (
                  ∀ rv I187, Q184 rv I187 → rv = none ∧ (
                  Q none I187))))))
                )) ∧ (l1 = 9 → (
                  (5 < d) ∧ (
                  ∃ Q189 : Option Value → jx_I → Prop, (
                  (jc V 5 216 (0, 0) [.ref a0, jy 5, jy 12, jy 19, jy 5, jy 0, jy 0, jy 0] X I181 R Q189 (fun _ _ => False)) ∧ (
                  ∀ rv I192, Q189 rv I192 → ∃ r193 : Int, rv = some (jy r193) ∧ (
                  (-2147483648 ≤ r193 ∧ r193 < 2147483648) ∧ (
                  (r193 = 0 → (
                    (0 ≤ (4 : Int) ∧ (4 : Int) < n171) ∧ (
                    ∀ I196 : jx_I, I196 = jx_u I192 q168 (4 : Int).toNat (Int32.ofInt ((I192 a0 57).toInt)) → (
                    (3 < d) ∧ (
                    ∃ Q197 : Option Value → jx_I → Prop, (
                    (jc V 3 217 (0, 0) [.ref a0, jy 59] X I196 R Q197 (fun _ _ => False)) ∧ (
                    ∀ rv I200, Q197 rv I200 → rv = none ∧ (
                    Q none I200))))))
                  )) ∧ (¬ r193 = 0 → (
                    ∃ d203 : Nat, d203 < d ∧ (
                    ∃ Q202 : Option Value → jx_I → Prop, (
                    (jc V d203 303 (0, 0) [.ref a0] X I192 R Q202 (fun _ _ => False)) ∧ (
                    ∀ rv I206, Q202 rv I206 → rv = none ∧ (
                    J209 q168 I206))))
                  )))))))
                ))))
              )) ∧ (¬ l1 ≤ 6 → (
                ∃ d209 : Nat, d209 < d ∧ (
                ∃ Q208 : Option Value → jx_I → Prop, (
                (jc V d209 303 (0, 0) [.ref a0] X I178 R Q208 (fun _ _ => False)) ∧ (
                ∀ rv I212, Q208 rv I212 → rv = none ∧ (
                J176 l1 q168 I212))))
              ))
            )) ∧ (¬ l1 ≤ 7 → (
              (8 < d) ∧ (
              ∃ Q214 : Option Value → jx_I → Prop, (
              (jc V 8 304 (0, 0) [.ref a0] X I178 R Q214 (fun _ _ => False)) ∧ (
              ∀ rv I217, Q214 rv I217 → rv = none ∧ (
              J166 l1 q168 I217))))
            ))
          )) ∧ (l1 = 7 → (
            (3 < d) ∧ (
            ∃ Q219 : Option Value → jx_I → Prop, (
            (jc V 3 210 (0, 0) [.ref a0, jy 0, jy 20] X I178 R Q219 (fun _ _ => False)) ∧ (
            ∀ rv I222, Q219 rv I222 → ∃ r223 : Int, rv = some (jy r223) ∧ (
            (0 ≤ (1 : Int) ∧ (1 : Int) < n171) ∧ (
            ∀ I225 : jx_I, I225 = jx_u I222 q168 (1 : Int).toNat (Int32.ofInt r223) → (
            J166 l1 q168 I225))))))
          ))
        )) ∧ (¬ l1 ≤ 3 → (
          (7 ≤ l1 → (
            (l1 ≠ 7 → (
              (l1 ≤ 7 → (
                (l1 ≤ 6 → (
                  (0 ≤ (3 : Int) ∧ (3 : Int) < n171) ∧ (
                  ∀ I227 : jx_I, I227 = jx_u I178 q168 (3 : Int).toNat (Int32.ofInt ((I178 a0 57).toInt)) → (
                  (l1 ≠ 9 → (
                    (0 ≤ (4 : Int) ∧ (4 : Int) < n171) ∧ (
                    ∀ I229 : jx_I, I229 = jx_u I227 q168 (4 : Int).toNat (Int32.ofInt ((I227 a0 57).toInt)) → (
                    (3 < d) ∧ (
                    ∃ Q230 : Option Value → jx_I → Prop, (
                    (jc V 3 217 (0, 0) [.ref a0, jy 59] X I229 R Q230 (fun _ _ => False)) ∧ (
                    ∀ rv I233, Q230 rv I233 → rv = none ∧ (
                    Q none I233))))))
                  )) ∧ (l1 = 9 → (
                    (5 < d) ∧ (
                    ∃ Q235 : Option Value → jx_I → Prop, (
                    (jc V 5 216 (0, 0) [.ref a0, jy 5, jy 12, jy 19, jy 5, jy 0, jy 0, jy 0] X I227 R Q235 (fun _ _ => False)) ∧ (
                    ∀ rv I238, Q235 rv I238 → ∃ r239 : Int, rv = some (jy r239) ∧ (
                    (-2147483648 ≤ r239 ∧ r239 < 2147483648) ∧ (
                    (r239 = 0 → (
                      (0 ≤ (4 : Int) ∧ (4 : Int) < n171) ∧ (
                      ∀ I242 : jx_I, I242 = jx_u I238 q168 (4 : Int).toNat (Int32.ofInt ((I238 a0 57).toInt)) → (
                      (3 < d) ∧ (
                      ∃ Q243 : Option Value → jx_I → Prop, (
                      (jc V 3 217 (0, 0) [.ref a0, jy 59] X I242 R Q243 (fun _ _ => False)) ∧ (
                      ∀ rv I246, Q243 rv I246 → rv = none ∧ (
                      Q none I246))))))
                    )) ∧ (¬ r239 = 0 → (
                      ∃ d249 : Nat, d249 < d ∧ (
                      ∃ Q248 : Option Value → jx_I → Prop, (
                      (jc V d249 303 (0, 0) [.ref a0] X I238 R Q248 (fun _ _ => False)) ∧ (
                      ∀ rv I252, Q248 rv I252 → rv = none ∧ (
                      J209 q168 I252))))
                    )))))))
                  ))))
                )) ∧ (¬ l1 ≤ 6 → (
                  ∃ d255 : Nat, d255 < d ∧ (
                  ∃ Q254 : Option Value → jx_I → Prop, (
                  (jc V d255 303 (0, 0) [.ref a0] X I178 R Q254 (fun _ _ => False)) ∧ (
                  ∀ rv I258, Q254 rv I258 → rv = none ∧ (
                  J176 l1 q168 I258))))
                ))
              )) ∧ (¬ l1 ≤ 7 → (
                (8 < d) ∧ (
                ∃ Q260 : Option Value → jx_I → Prop, (
                (jc V 8 304 (0, 0) [.ref a0] X I178 R Q260 (fun _ _ => False)) ∧ (
                ∀ rv I263, Q260 rv I263 → rv = none ∧ (
                J166 l1 q168 I263))))
              ))
            )) ∧ (l1 = 7 → (
              (3 < d) ∧ (
              ∃ Q265 : Option Value → jx_I → Prop, (
              (jc V 3 210 (0, 0) [.ref a0, jy 0, jy 20] X I178 R Q265 (fun _ _ => False)) ∧ (
              ∀ rv I268, Q265 rv I268 → ∃ r269 : Int, rv = some (jy r269) ∧ (
              (0 ≤ (1 : Int) ∧ (1 : Int) < n171) ∧ (
              ∀ I271 : jx_I, I271 = jx_u I268 q168 (1 : Int).toNat (Int32.ofInt r269) → (
              J166 l1 q168 I271))))))
            ))
          )) ∧ (¬ 7 ≤ l1 → (
            ∃ q272 : Nat, (
            (R a0 11 = some q272) ∧ (
            ∃ n274 : Nat, (
            (X.2.1 q272 = some (100, n274) ∧ n274 < 2147483648) ∧ (
            (0 ≤ (1 : Int) ∧ (1 : Int) < n274) ∧ (
            (3 < d) ∧ (
            ∃ Q277 : Option Value → jx_I → Prop, (
            (jc V 3 210 (0, 0) [.ref a0, jy 0, jy ((I178 q272 (1 : Int).toNat).toInt - 1)] X I178 R Q277 (fun _ _ => False)) ∧ (
            ∀ rv I280, Q277 rv I280 → ∃ r281 : Int, rv = some (jy r281) ∧ (
            (0 ≤ (1 : Int) ∧ (1 : Int) < n171) ∧ (
            ∀ I283 : jx_I, I283 = jx_u I280 q168 (1 : Int).toNat (Int32.ofInt r281) → (
            J166 l1 q168 I283)))))))))))
          ))
        ))
      )) ∧ (l1 = 1 → (
        (3 < d) ∧ (
        ∃ Q284 : Option Value → jx_I → Prop, (
        (jc V 3 210 (0, 0) [.ref a0, jy 0, jy 99] X I178 R Q284 (fun _ _ => False)) ∧ (
        ∀ rv I287, Q284 rv I287 → ∃ r288 : Int, rv = some (jy r288) ∧ (
        (0 ≤ (1 : Int) ∧ (1 : Int) < n171) ∧ (
        ∀ I290 : jx_I, I290 = jx_u I287 q168 (1 : Int).toNat (Int32.ofInt r288) → (
        J166 l1 q168 I290))))))
      ))
    )) ∧ (l1 = 0 → (
      ∃ q291 : Nat, (
      (R a0 11 = some q291) ∧ (
      ∃ n293 : Nat, (
      (X.2.1 q291 = some (100, n293) ∧ n293 < 2147483648) ∧ (
      (0 ≤ (0 : Int) ∧ (0 : Int) < n293) ∧ (
      (3 < d) ∧ (
      ∃ Q296 : Option Value → jx_I → Prop, (
      (jc V 3 210 (0, 0) [.ref a0, jy 0, jy ((I178 q291 (0 : Int).toNat).toInt - 1)] X I178 R Q296 (fun _ _ => False)) ∧ (
      ∀ rv I299, Q296 rv I299 → ∃ r300 : Int, rv = some (jy r300) ∧ (
      (0 ≤ (1 : Int) ∧ (1 : Int) < n171) ∧ (
      ∀ I302 : jx_I, I302 = jx_u I299 q168 (1 : Int).toNat (Int32.ofInt r300) → (
      J166 l1 q168 I302)))))))))))
    )))))))))))))))))))))))
  )) ∧ (¬ (I a0 5).toInt = 0 → (
    Q none I
  )))
/-- GCModel.readsStep, from 166 -/
def wz_302_166 (d : Nat) (V : jx_V) (X : jx_X) (R : jx_R) (Q : Option Value → jx_I → Prop) (QE : String → jx_I → Prop) (J19 : Int → jx_I → Prop) (J166 : Int → Nat → jx_I → Prop) (J176 : Int → Nat → jx_I → Prop) (J209 : Nat → jx_I → Prop) (a0 : Nat) (l1 : Int) (l2 : Nat) (I : jx_I) : Prop :=
  (-2147483648 ≤ l1 ∧ l1 < 2147483648) ∧ (
  (l1 ≤ 6 → (
    (X.2.1 a0 = some (12, 0)) ∧ (
    ∃ n305 : Nat, (
    (X.2.1 l2 = some (100, n305) ∧ n305 < 2147483648) ∧ (
    (0 ≤ (3 : Int) ∧ (3 : Int) < n305) ∧ (
    ∀ I308 : jx_I, I308 = jx_u I l2 (3 : Int).toNat (Int32.ofInt ((I a0 57).toInt)) → (
    (l1 ≠ 9 → (
      (0 ≤ (4 : Int) ∧ (4 : Int) < n305) ∧ (
      ∀ I310 : jx_I, I310 = jx_u I308 l2 (4 : Int).toNat (Int32.ofInt ((I308 a0 57).toInt)) → (
      (3 < d) ∧ (
      ∃ Q311 : Option Value → jx_I → Prop, (
      (jc V 3 217 (0, 0) [.ref a0, jy 59] X I310 R Q311 (fun _ _ => False)) ∧ (
      ∀ rv I314, Q311 rv I314 → rv = none ∧ (
      Q none I314))))))
    )) ∧ (l1 = 9 → (
      (5 < d) ∧ (
      ∃ Q316 : Option Value → jx_I → Prop, (
      (jc V 5 216 (0, 0) [.ref a0, jy 5, jy 12, jy 19, jy 5, jy 0, jy 0, jy 0] X I308 R Q316 (fun _ _ => False)) ∧ (
      ∀ rv I319, Q316 rv I319 → ∃ r320 : Int, rv = some (jy r320) ∧ (
      (-2147483648 ≤ r320 ∧ r320 < 2147483648) ∧ (
      (r320 = 0 → (
        (0 ≤ (4 : Int) ∧ (4 : Int) < n305) ∧ (
        ∀ I323 : jx_I, I323 = jx_u I319 l2 (4 : Int).toNat (Int32.ofInt ((I319 a0 57).toInt)) → (
        (3 < d) ∧ (
        ∃ Q324 : Option Value → jx_I → Prop, (
        (jc V 3 217 (0, 0) [.ref a0, jy 59] X I323 R Q324 (fun _ _ => False)) ∧ (
        ∀ rv I327, Q324 rv I327 → rv = none ∧ (
        Q none I327))))))
      )) ∧ (¬ r320 = 0 → (
        ∃ d330 : Nat, d330 < d ∧ (
        ∃ Q329 : Option Value → jx_I → Prop, (
        (jc V d330 303 (0, 0) [.ref a0] X I319 R Q329 (fun _ _ => False)) ∧ (
        ∀ rv I333, Q329 rv I333 → rv = none ∧ (
        J209 l2 I333))))
      )))))))
    )))))))
  )) ∧ (¬ l1 ≤ 6 → (
    (X.2.1 a0 = some (12, 0)) ∧ (
    ∃ d337 : Nat, d337 < d ∧ (
    ∃ Q336 : Option Value → jx_I → Prop, (
    (jc V d337 303 (0, 0) [.ref a0] X I R Q336 (fun _ _ => False)) ∧ (
    ∀ rv I340, Q336 rv I340 → rv = none ∧ (
    J176 l1 l2 I340)))))
  )))
/-- GCModel.readsStep, from 176 -/
def wz_302_176 (d : Nat) (V : jx_V) (X : jx_X) (R : jx_R) (Q : Option Value → jx_I → Prop) (QE : String → jx_I → Prop) (J19 : Int → jx_I → Prop) (J166 : Int → Nat → jx_I → Prop) (J176 : Int → Nat → jx_I → Prop) (J209 : Nat → jx_I → Prop) (a0 : Nat) (l1 : Int) (l2 : Nat) (I : jx_I) : Prop :=
  (X.2.1 a0 = some (12, 0)) ∧ (
  ∃ n343 : Nat, (
  (X.2.1 l2 = some (100, n343) ∧ n343 < 2147483648) ∧ (
  (0 ≤ (3 : Int) ∧ (3 : Int) < n343) ∧ (
  ∀ I346 : jx_I, I346 = jx_u I l2 (3 : Int).toNat (Int32.ofInt ((I a0 57).toInt)) → (
  (-2147483648 ≤ l1 ∧ l1 < 2147483648) ∧ (
  (l1 ≠ 9 → (
    (0 ≤ (4 : Int) ∧ (4 : Int) < n343) ∧ (
    ∀ I349 : jx_I, I349 = jx_u I346 l2 (4 : Int).toNat (Int32.ofInt ((I346 a0 57).toInt)) → (
    (3 < d) ∧ (
    ∃ Q350 : Option Value → jx_I → Prop, (
    (jc V 3 217 (0, 0) [.ref a0, jy 59] X I349 R Q350 (fun _ _ => False)) ∧ (
    ∀ rv I353, Q350 rv I353 → rv = none ∧ (
    Q none I353))))))
  )) ∧ (l1 = 9 → (
    (5 < d) ∧ (
    ∃ Q355 : Option Value → jx_I → Prop, (
    (jc V 5 216 (0, 0) [.ref a0, jy 5, jy 12, jy 19, jy 5, jy 0, jy 0, jy 0] X I346 R Q355 (fun _ _ => False)) ∧ (
    ∀ rv I358, Q355 rv I358 → ∃ r359 : Int, rv = some (jy r359) ∧ (
    (-2147483648 ≤ r359 ∧ r359 < 2147483648) ∧ (
    (r359 = 0 → (
      (0 ≤ (4 : Int) ∧ (4 : Int) < n343) ∧ (
      ∀ I362 : jx_I, I362 = jx_u I358 l2 (4 : Int).toNat (Int32.ofInt ((I358 a0 57).toInt)) → (
      (3 < d) ∧ (
      ∃ Q363 : Option Value → jx_I → Prop, (
      (jc V 3 217 (0, 0) [.ref a0, jy 59] X I362 R Q363 (fun _ _ => False)) ∧ (
      ∀ rv I366, Q363 rv I366 → rv = none ∧ (
      Q none I366))))))
    )) ∧ (¬ r359 = 0 → (
      ∃ d369 : Nat, d369 < d ∧ (
      ∃ Q368 : Option Value → jx_I → Prop, (
      (jc V d369 303 (0, 0) [.ref a0] X I358 R Q368 (fun _ _ => False)) ∧ (
      ∀ rv I372, Q368 rv I372 → rv = none ∧ (
      J209 l2 I372))))
    )))))))
  ))))))))
/-- GCModel.readsStep, from 209 -/
def wz_302_209 (d : Nat) (V : jx_V) (X : jx_X) (R : jx_R) (Q : Option Value → jx_I → Prop) (QE : String → jx_I → Prop) (J19 : Int → jx_I → Prop) (J166 : Int → Nat → jx_I → Prop) (J176 : Int → Nat → jx_I → Prop) (J209 : Nat → jx_I → Prop) (a0 : Nat) (l2 : Nat) (I : jx_I) : Prop :=
  (X.2.1 a0 = some (12, 0)) ∧ (
  ∃ n375 : Nat, (
  (X.2.1 l2 = some (100, n375) ∧ n375 < 2147483648) ∧ (
  (0 ≤ (4 : Int) ∧ (4 : Int) < n375) ∧ (
  ∀ I378 : jx_I, I378 = jx_u I l2 (4 : Int).toNat (Int32.ofInt ((I a0 57).toInt)) → (
  (3 < d) ∧ (
  ∃ Q379 : Option Value → jx_I → Prop, (
  (jc V 3 217 (0, 0) [.ref a0, jy 59] X I378 R Q379 (fun _ _ => False)) ∧ (
  ∀ rv I382, Q379 rv I382 → rv = none ∧ (
  Q none I382)))))))))
/-- GCModel.readsStep -/
def wz_302 (d : Nat) (V : jx_V) (X : jx_X) (R : jx_R) (Q : Option Value → jx_I → Prop) (QE : String → jx_I → Prop) (J19 : Int → jx_I → Prop) (J166 : Int → Nat → jx_I → Prop) (J176 : Int → Nat → jx_I → Prop) (J209 : Nat → jx_I → Prop) (a0 : Nat) (I : jx_I) : Prop :=
  (X.2.1 a0 = some (12, 0)) ∧ (
  (5 < d) ∧ (
  ∃ Q2 : Option Value → jx_I → Prop, (
  (jc V 5 301 (0, 0) [.ref a0] X I R Q2 (fun _ _ => False)) ∧ (
  ∀ rv I5, Q2 rv I5 → ∃ r6 : Int, rv = some (jy r6) ∧ (
  (-2147483648 ≤ r6 ∧ r6 < 2147483648) ∧ (
  (r6 ≠ (-1) → (
    ((I5 a0 5).toInt = 0 → (
      (2 < d) ∧ (
      ∃ Q8 : Option Value → jx_I → Prop, (
      (jc V 2 215 (0, 0) [.ref a0] X I5 R Q8 (fun _ _ => False)) ∧ (
      ∀ rv I11, Q8 rv I11 → rv = none ∧ (
      ∃ q13 : Nat, (
      (R a0 61 = some q13) ∧ (
      ∃ n15 : Nat, (
      (X.2.1 q13 = some (104, n15) ∧ n15 < 2147483648) ∧ (
      (0 ≤ (I11 a0 57).toInt ∧ (I11 a0 57).toInt < n15) ∧ (
      ∃ q18 : Nat, (
      (R q13 ((I11 a0 57).toInt).toNat = some q18) ∧ (
      ∀ I20 : jx_I, I20 = jx_u I11 a0 57 (Int32.ofInt ((I11 a0 57).toInt + 1)) → (
      ∃ n21 : Nat, (
      (X.2.1 q18 = some (100, n21) ∧ n21 < 2147483648) ∧ (
      (0 ≤ (0 : Int) ∧ (0 : Int) < n21) ∧ (
      ∀ I24 : jx_I, I24 = jx_u I20 q18 (0 : Int).toNat (Int32.ofInt r6) → (
      (0 ≤ (1 : Int) ∧ (1 : Int) < n21) ∧ (
      ∀ I26 : jx_I, I26 = jx_u I24 q18 (1 : Int).toNat (Int32.ofInt 0) → (
      (0 ≤ (2 : Int) ∧ (2 : Int) < n21) ∧ (
      ∀ I28 : jx_I, I28 = jx_u I26 q18 (2 : Int).toNat (Int32.ofInt ((I26 a0 58).toInt)) → (
      (r6 ≠ 0 → (
        (r6 ≠ 1 → (
          (r6 ≤ 3 → (
            (r6 ≠ 7 → (
              (r6 ≤ 7 → (
                (r6 ≤ 6 → (
                  (0 ≤ (3 : Int) ∧ (3 : Int) < n21) ∧ (
                  ∀ I30 : jx_I, I30 = jx_u I28 q18 (3 : Int).toNat (Int32.ofInt ((I28 a0 57).toInt)) → (
                  (r6 ≠ 9 → (
                    (0 ≤ (4 : Int) ∧ (4 : Int) < n21) ∧ (
                    ∀ I32 : jx_I, I32 = jx_u I30 q18 (4 : Int).toNat (Int32.ofInt ((I30 a0 57).toInt)) → (
                    (3 < d) ∧ (
                    ∃ Q33 : Option Value → jx_I → Prop, (
                    (jc V 3 217 (0, 0) [.ref a0, jy 59] X I32 R Q33 (fun _ _ => False)) ∧ (
                    ∀ rv I36, Q33 rv I36 → rv = none ∧ (
                    Q none I36))))))
                  )) ∧ (r6 = 9 → (
                    (5 < d) ∧ (
                    ∃ Q38 : Option Value → jx_I → Prop, (
                    (jc V 5 216 (0, 0) [.ref a0, jy 5, jy 12, jy 19, jy 5, jy 0, jy 0, jy 0] X I30 R Q38 (fun _ _ => False)) ∧ (
                    ∀ rv I41, Q38 rv I41 → ∃ r42 : Int, rv = some (jy r42) ∧ (
                    (-2147483648 ≤ r42 ∧ r42 < 2147483648) ∧ (
                    (r42 = 0 → (
                      (0 ≤ (4 : Int) ∧ (4 : Int) < n21) ∧ (
                      ∀ I45 : jx_I, I45 = jx_u I41 q18 (4 : Int).toNat (Int32.ofInt ((I41 a0 57).toInt)) → (
                      (3 < d) ∧ (
                      ∃ Q46 : Option Value → jx_I → Prop, (
                      (jc V 3 217 (0, 0) [.ref a0, jy 59] X I45 R Q46 (fun _ _ => False)) ∧ (
                      ∀ rv I49, Q46 rv I49 → rv = none ∧ (
                      Q none I49))))))
                    )) ∧ (¬ r42 = 0 → (
                      ∃ d52 : Nat, d52 < d ∧ (
                      ∃ Q51 : Option Value → jx_I → Prop, (
                      (jc V d52 303 (0, 0) [.ref a0] X I41 R Q51 (fun _ _ => False)) ∧ (
                      ∀ rv I55, Q51 rv I55 → rv = none ∧ (
                      J209 q18 I55))))
                    )))))))
                  ))))
                )) ∧ (¬ r6 ≤ 6 → (
                  ∃ d58 : Nat, d58 < d ∧ (
                  ∃ Q57 : Option Value → jx_I → Prop, (
                  (jc V d58 303 (0, 0) [.ref a0] X I28 R Q57 (fun _ _ => False)) ∧ (
                  ∀ rv I61, Q57 rv I61 → rv = none ∧ (
                  J176 r6 q18 I61))))
                ))
              )) ∧ (¬ r6 ≤ 7 → (
                (8 < d) ∧ (
                ∃ Q63 : Option Value → jx_I → Prop, (
                (jc V 8 304 (0, 0) [.ref a0] X I28 R Q63 (fun _ _ => False)) ∧ (
                ∀ rv I66, Q63 rv I66 → rv = none ∧ (
                J166 r6 q18 I66))))
              ))
            )) ∧ (r6 = 7 → (
              (3 < d) ∧ (
              ∃ Q68 : Option Value → jx_I → Prop, (
              (jc V 3 210 (0, 0) [.ref a0, jy 0, jy 20] X I28 R Q68 (fun _ _ => False)) ∧ (
              ∀ rv I71, Q68 rv I71 → ∃ r72 : Int, rv = some (jy r72) ∧ (
              (0 ≤ (1 : Int) ∧ (1 : Int) < n21) ∧ (
              ∀ I74 : jx_I, I74 = jx_u I71 q18 (1 : Int).toNat (Int32.ofInt r72) → (
              J166 r6 q18 I74))))))
            ))
          )) ∧ (¬ r6 ≤ 3 → (
            (7 ≤ r6 → (
              (r6 ≠ 7 → (
                (r6 ≤ 7 → (
                  (r6 ≤ 6 → (
                    (0 ≤ (3 : Int) ∧ (3 : Int) < n21) ∧ (
                    ∀ I76 : jx_I, I76 = jx_u I28 q18 (3 : Int).toNat (Int32.ofInt ((I28 a0 57).toInt)) → (
                    (r6 ≠ 9 → (
                      (0 ≤ (4 : Int) ∧ (4 : Int) < n21) ∧ (
                      ∀ I78 : jx_I, I78 = jx_u I76 q18 (4 : Int).toNat (Int32.ofInt ((I76 a0 57).toInt)) → (
                      (3 < d) ∧ (
                      ∃ Q79 : Option Value → jx_I → Prop, (
                      (jc V 3 217 (0, 0) [.ref a0, jy 59] X I78 R Q79 (fun _ _ => False)) ∧ (
                      ∀ rv I82, Q79 rv I82 → rv = none ∧ (
                      Q none I82))))))
                    )) ∧ (r6 = 9 → (
                      (5 < d) ∧ (
                      ∃ Q84 : Option Value → jx_I → Prop, (
                      (jc V 5 216 (0, 0) [.ref a0, jy 5, jy 12, jy 19, jy 5, jy 0, jy 0, jy 0] X I76 R Q84 (fun _ _ => False)) ∧ (
                      ∀ rv I87, Q84 rv I87 → ∃ r88 : Int, rv = some (jy r88) ∧ (
                      (-2147483648 ≤ r88 ∧ r88 < 2147483648) ∧ (
                      (r88 = 0 → (
                        (0 ≤ (4 : Int) ∧ (4 : Int) < n21) ∧ (
                        ∀ I91 : jx_I, I91 = jx_u I87 q18 (4 : Int).toNat (Int32.ofInt ((I87 a0 57).toInt)) → (
                        (3 < d) ∧ (
                        ∃ Q92 : Option Value → jx_I → Prop, (
                        (jc V 3 217 (0, 0) [.ref a0, jy 59] X I91 R Q92 (fun _ _ => False)) ∧ (
                        ∀ rv I95, Q92 rv I95 → rv = none ∧ (
                        Q none I95))))))
                      )) ∧ (¬ r88 = 0 → (
                        ∃ d98 : Nat, d98 < d ∧ (
                        ∃ Q97 : Option Value → jx_I → Prop, (
                        (jc V d98 303 (0, 0) [.ref a0] X I87 R Q97 (fun _ _ => False)) ∧ (
                        ∀ rv I101, Q97 rv I101 → rv = none ∧ (
                        J209 q18 I101))))
                      )))))))
                    ))))
                  )) ∧ (¬ r6 ≤ 6 → (
                    ∃ d104 : Nat, d104 < d ∧ (
                    ∃ Q103 : Option Value → jx_I → Prop, (
                    (jc V d104 303 (0, 0) [.ref a0] X I28 R Q103 (fun _ _ => False)) ∧ (
                    ∀ rv I107, Q103 rv I107 → rv = none ∧ (
                    J176 r6 q18 I107))))
                  ))
                )) ∧ (¬ r6 ≤ 7 → (
                  (8 < d) ∧ (
                  ∃ Q109 : Option Value → jx_I → Prop, (
                  (jc V 8 304 (0, 0) [.ref a0] X I28 R Q109 (fun _ _ => False)) ∧ (
                  ∀ rv I112, Q109 rv I112 → rv = none ∧ (
                  J166 r6 q18 I112))))
                ))
              )) ∧ (r6 = 7 → (
                (3 < d) ∧ (
                ∃ Q114 : Option Value → jx_I → Prop, (
                (jc V 3 210 (0, 0) [.ref a0, jy 0, jy 20] X I28 R Q114 (fun _ _ => False)) ∧ (
                ∀ rv I117, Q114 rv I117 → ∃ r118 : Int, rv = some (jy r118) ∧ (
                (0 ≤ (1 : Int) ∧ (1 : Int) < n21) ∧ (
                ∀ I120 : jx_I, I120 = jx_u I117 q18 (1 : Int).toNat (Int32.ofInt r118) → (
                J166 r6 q18 I120))))))
              ))
            )) ∧ (¬ 7 ≤ r6 → (
              ∃ q121 : Nat, (
              (R a0 11 = some q121) ∧ (
              ∃ n123 : Nat, (
              (X.2.1 q121 = some (100, n123) ∧ n123 < 2147483648) ∧ (
              (0 ≤ (1 : Int) ∧ (1 : Int) < n123) ∧ (
              (3 < d) ∧ (
              ∃ Q126 : Option Value → jx_I → Prop, (
              (jc V 3 210 (0, 0) [.ref a0, jy 0, jy ((I28 q121 (1 : Int).toNat).toInt - 1)] X I28 R Q126 (fun _ _ => False)) ∧ (
              ∀ rv I129, Q126 rv I129 → ∃ r130 : Int, rv = some (jy r130) ∧ (
              (0 ≤ (1 : Int) ∧ (1 : Int) < n21) ∧ (
              ∀ I132 : jx_I, I132 = jx_u I129 q18 (1 : Int).toNat (Int32.ofInt r130) → (
              J166 r6 q18 I132)))))))))))
            ))
          ))
        )) ∧ (r6 = 1 → (
          (3 < d) ∧ (
          ∃ Q133 : Option Value → jx_I → Prop, (
          (jc V 3 210 (0, 0) [.ref a0, jy 0, jy 99] X I28 R Q133 (fun _ _ => False)) ∧ (
          ∀ rv I136, Q133 rv I136 → ∃ r137 : Int, rv = some (jy r137) ∧ (
          (0 ≤ (1 : Int) ∧ (1 : Int) < n21) ∧ (
          ∀ I139 : jx_I, I139 = jx_u I136 q18 (1 : Int).toNat (Int32.ofInt r137) → (
          J166 r6 q18 I139))))))
        ))
      )) ∧ (r6 = 0 → (
        ∃ q140 : Nat, (
        (R a0 11 = some q140) ∧ (
        ∃ n142 : Nat, (
        (X.2.1 q140 = some (100, n142) ∧ n142 < 2147483648) ∧ (
        (0 ≤ (0 : Int) ∧ (0 : Int) < n142) ∧ (
        (3 < d) ∧ (
        ∃ Q145 : Option Value → jx_I → Prop, (
        (jc V 3 210 (0, 0) [.ref a0, jy 0, jy ((I28 q140 (0 : Int).toNat).toInt - 1)] X I28 R Q145 (fun _ _ => False)) ∧ (
        ∀ rv I148, Q145 rv I148 → ∃ r149 : Int, rv = some (jy r149) ∧ (
        (0 ≤ (1 : Int) ∧ (1 : Int) < n21) ∧ (
        ∀ I151 : jx_I, I151 = jx_u I148 q18 (1 : Int).toNat (Int32.ofInt r149) → (
        J166 r6 q18 I151)))))))))))
      ))))))))))))))))))))))
    )) ∧ (¬ (I5 a0 5).toInt = 0 → (
      Q none I5
    ))
  )) ∧ (r6 = (-1) → (
    (1 < d) ∧ (
    ∃ Q152 : Option Value → jx_I → Prop, (
    (jc V 1 208 (0, 0) [.ref a0, jy 1, jy ((I5 a0 4).toInt)] X I5 R Q152 (fun _ _ => False)) ∧ (
    ∀ rv I155, Q152 rv I155 → rv = none ∧ (
    J19 r6 I155))))
  ))))))))
set_option maxRecDepth 20000 in
theorem wm_302 {V : jx_V} (hV : V.1.stackTraces = false) {d : Nat} {X : jx_X} {R : jx_R} {I : jx_I} {Q : Option Value → jx_I → Prop} {QE : String → jx_I → Prop} {a0 : Nat}  
    (h : ∀ (J19 : Int → jx_I → Prop) (J166 : Int → Nat → jx_I → Prop) (J176 : Int → Nat → jx_I → Prop) (J209 : Nat → jx_I → Prop), ((∀ (l1 : Int) I, wz_302_19 d V X R Q QE J19 J166 J176 J209 a0 l1 I → J19 l1 I) ∧ (∀ (l1 : Int) (l2 : Nat) I, wz_302_166 d V X R Q QE J19 J166 J176 J209 a0 l1 l2 I → J166 l1 l2 I) ∧ (∀ (l1 : Int) (l2 : Nat) I, wz_302_176 d V X R Q QE J19 J166 J176 J209 a0 l1 l2 I → J176 l1 l2 I) ∧ (∀ (l2 : Nat) I, wz_302_209 d V X R Q QE J19 J166 J176 J209 a0 l2 I → J209 l2 I)) → wz_302 d V X R Q QE J19 J166 J176 J209 a0 I) : jc V d 302 (0, 0) [.ref a0] X I R Q QE := by
  refine jy_met hV (by decide) (n := 3) (rt := none) (hh := []) (ini := false) (C := jx_c302) (L := [some (.ref a0), none, none]) jt_302 (Nat.le_of_ble_eq_true rfl) rfl ?_
  intro J hS
  have h := h (fun l1 I => J 19 [] [some (.ref a0), some (jy l1), none] (0, 0) X I R) (fun l1 l2 I => J 166 [] [some (.ref a0), some (jy l1), some (.ref l2)] (0, 0) X I R) (fun l1 l2 I => J 176 [] [some (.ref a0), some (jy l1), some (.ref l2)] (0, 0) X I R) (fun l2 I => J 209 [] [some (.ref a0), none, some (.ref l2)] (0, 0) X I R) ?_
  · unfold wz_302 at h
    refine jy_aload_n hS rfl rfl ?_
    obtain ⟨g1, h⟩ := h
    obtain ⟨g3, h⟩ := h
    obtain ⟨Q2, h⟩ := h
    obtain ⟨g4, h⟩ := h
    refine jy_callV hS rfl rfl rfl (Nat.le_of_ble_eq_true rfl) (Or.inl g1) g4 g3 ⟨by decide, by decide⟩ (Nat.le_of_ble_eq_true rfl) ?_ ?_
    rotate_left
    · exact fun Ex Xx Ix Rx hp => hp.2.2.2.elim
    intro rv Xx I5 Rx hp
    obtain ⟨e1, e2, hp⟩ := hp
    rw [e1, e2]
    clear e1 e2
    obtain ⟨r6, e1, h⟩ := h rv I5 hp
    rw [e1]
    clear e1
    change J 4 [jy r6] _ (0, 0) _ _ _
    refine jy_istore_n hS rfl (Nat.le_of_ble_eq_true rfl) (L' := [some (.ref a0), some (jy r6), none]) rfl ?_
    refine jy_iload_n hS rfl rfl ?_
    refine jy_iconst hS rfl ?_
    obtain ⟨g7, h⟩ := h
    refine jy_icmp_ne hS rfl ⟨g7, ⟨by decide, by decide⟩⟩ (fun hq => ?_) (fun hq => ?_)
    · have h := h.1 hq
      refine jy_aload_n hS rfl rfl ?_
      refine jy_getI hS rfl (by decide) g1 ?_
      refine jy_if_eq hS rfl (jy_rng _) (fun hq => ?_) (fun hq => ?_)
      · have h := h.1 hq
        refine jy_aload_n hS rfl rfl ?_
        obtain ⟨g9, h⟩ := h
        obtain ⟨Q8, h⟩ := h
        obtain ⟨g10, h⟩ := h
        refine jy_callV hS rfl rfl rfl (Nat.le_of_ble_eq_true rfl) (Or.inl g1) g10 g9 ⟨by decide, by decide⟩ (Nat.le_of_ble_eq_true rfl) ?_ ?_
        rotate_left
        · exact fun Ex Xx Ix Rx hp => hp.2.2.2.elim
        intro rv Xx I11 Rx hp
        obtain ⟨e1, e2, hp⟩ := hp
        rw [e1, e2]
        clear e1 e2
        obtain ⟨e1, h⟩ := h rv I11 hp
        rw [e1]
        clear e1
        change J 31 [] _ (0, 0) _ _ _
        refine jy_aload_n hS rfl rfl ?_
        obtain ⟨q13, h⟩ := h
        obtain ⟨g14, h⟩ := h
        refine jy_getR hS rfl (by decide) g1 g14 ?_
        refine jy_aload_n hS rfl rfl ?_
        refine jy_getI hS rfl (by decide) g1 ?_
        obtain ⟨n15, h⟩ := h
        obtain ⟨g16, h⟩ := h
        obtain ⟨g17, h⟩ := h
        obtain ⟨q18, h⟩ := h
        obtain ⟨g19, h⟩ := h
        refine jy_aald hS rfl g16.1 (by decide) (Nat.le_of_lt g16.2) g17 g19 ?_
        refine jy_astore_n hS rfl (Nat.le_of_ble_eq_true rfl) (L' := [some (.ref a0), some (jy r6), some (.ref q18)]) rfl ?_
        refine jy_aload_n hS rfl rfl ?_
        refine jy_dup hS rfl rfl ?_
        refine jy_getI hS rfl (by decide) g1 ?_
        refine jy_iconst hS rfl ?_
        refine jy_iadd hS rfl ?_
        refine jy_putI hS rfl (by decide) g1 ?_
        intro I20 e9
        have h := h I20 e9
        clear e9
        refine jy_aload_n hS rfl rfl ?_
        refine jy_iconst hS rfl ?_
        refine jy_iload_n hS rfl rfl ?_
        obtain ⟨n21, h⟩ := h
        obtain ⟨g22, h⟩ := h
        obtain ⟨g23, h⟩ := h
        refine jy_iast hS rfl g22.1 (Nat.le_of_lt g22.2) g23 ?_
        intro I24 e9
        have h := h I24 e9
        clear e9
        refine jy_aload_n hS rfl rfl ?_
        refine jy_iconst hS rfl ?_
        refine jy_iconst hS rfl ?_
        obtain ⟨g25, h⟩ := h
        refine jy_iast hS rfl g22.1 (Nat.le_of_lt g22.2) g25 ?_
        intro I26 e9
        have h := h I26 e9
        clear e9
        refine jy_aload_n hS rfl rfl ?_
        refine jy_iconst hS rfl ?_
        refine jy_aload_n hS rfl rfl ?_
        refine jy_getI hS rfl (by decide) g1 ?_
        obtain ⟨g27, h⟩ := h
        refine jy_iast hS rfl g22.1 (Nat.le_of_lt g22.2) g27 ?_
        intro I28 e9
        have h := h I28 e9
        clear e9
        refine jy_iload_n hS rfl rfl ?_
        refine jy_if_ne hS rfl g7 (fun hq => ?_) (fun hq => ?_)
        · have h := h.1 hq
          refine jy_iload_n hS rfl rfl ?_
          refine jy_iconst hS rfl ?_
          refine jy_icmp_ne hS rfl ⟨g7, ⟨by decide, by decide⟩⟩ (fun hq => ?_) (fun hq => ?_)
          · have h := h.1 hq
            refine jy_iload_n hS rfl rfl ?_
            refine jy_iconst hS rfl ?_
            refine jy_icmp_le hS rfl ⟨g7, ⟨by decide, by decide⟩⟩ (fun hq => ?_) (fun hq => ?_)
            · have h := h.1 hq
              refine jy_iload_n hS rfl rfl ?_
              refine jy_bipush hS rfl (by decide) ?_
              refine jy_icmp_ne hS rfl ⟨g7, ⟨by decide, by decide⟩⟩ (fun hq => ?_) (fun hq => ?_)
              · have h := h.1 hq
                refine jy_iload_n hS rfl rfl ?_
                refine jy_bipush hS rfl (by decide) ?_
                refine jy_icmp_le hS rfl ⟨g7, ⟨by decide, by decide⟩⟩ (fun hq => ?_) (fun hq => ?_)
                · have h := h.1 hq
                  refine jy_iload_n hS rfl rfl ?_
                  refine jy_bipush hS rfl (by decide) ?_
                  refine jy_icmp_le hS rfl ⟨g7, ⟨by decide, by decide⟩⟩ (fun hq => ?_) (fun hq => ?_)
                  · have h := h.1 hq
                    refine jy_aload_n hS rfl rfl ?_
                    refine jy_iconst hS rfl ?_
                    refine jy_aload_n hS rfl rfl ?_
                    refine jy_getI hS rfl (by decide) g1 ?_
                    obtain ⟨g29, h⟩ := h
                    refine jy_iast hS rfl g22.1 (Nat.le_of_lt g22.2) g29 ?_
                    intro I30 e9
                    have h := h I30 e9
                    clear e9
                    refine jy_iload_n hS rfl rfl ?_
                    refine jy_bipush hS rfl (by decide) ?_
                    refine jy_icmp_ne hS rfl ⟨g7, ⟨by decide, by decide⟩⟩ (fun hq => ?_) (fun hq => ?_)
                    · have h := h.1 hq
                      refine jy_aload_n hS rfl rfl ?_
                      refine jy_iconst hS rfl ?_
                      refine jy_aload_n hS rfl rfl ?_
                      refine jy_getI hS rfl (by decide) g1 ?_
                      obtain ⟨g31, h⟩ := h
                      refine jy_iast hS rfl g22.1 (Nat.le_of_lt g22.2) g31 ?_
                      intro I32 e9
                      have h := h I32 e9
                      clear e9
                      refine jy_aload_n hS rfl rfl ?_
                      refine jy_bipush hS rfl (by decide) ?_
                      obtain ⟨g34, h⟩ := h
                      obtain ⟨Q33, h⟩ := h
                      obtain ⟨g35, h⟩ := h
                      refine jy_callV hS rfl rfl rfl (Nat.le_of_ble_eq_true rfl) (Or.inl g1) g35 g34 ⟨by decide, by decide⟩ (Nat.le_of_ble_eq_true rfl) ?_ ?_
                      rotate_left
                      · exact fun Ex Xx Ix Rx hp => hp.2.2.2.elim
                      intro rv Xx I36 Rx hp
                      obtain ⟨e1, e2, hp⟩ := hp
                      rw [e1, e2]
                      clear e1 e2
                      obtain ⟨e1, h⟩ := h rv I36 hp
                      rw [e1]
                      clear e1
                      change J 222 [] _ (0, 0) _ _ _
                      exact jy_ret hS rfl rfl ⟨rfl, rfl, h⟩
                    · have h := h.2 hq
                      refine jy_aload_n hS rfl rfl ?_
                      refine jy_iconst hS rfl ?_
                      refine jy_bipush hS rfl (by decide) ?_
                      refine jy_bipush hS rfl (by decide) ?_
                      refine jy_iconst hS rfl ?_
                      refine jy_iconst hS rfl ?_
                      refine jy_iconst hS rfl ?_
                      refine jy_iconst hS rfl ?_
                      obtain ⟨g39, h⟩ := h
                      obtain ⟨Q38, h⟩ := h
                      obtain ⟨g40, h⟩ := h
                      refine jy_callV hS rfl rfl rfl (Nat.le_of_ble_eq_true rfl) (Or.inl g1) g40 g39 ⟨by decide, by decide⟩ (Nat.le_of_ble_eq_true rfl) ?_ ?_
                      rotate_left
                      · exact fun Ex Xx Ix Rx hp => hp.2.2.2.elim
                      intro rv Xx I41 Rx hp
                      obtain ⟨e1, e2, hp⟩ := hp
                      rw [e1, e2]
                      clear e1 e2
                      obtain ⟨r42, e1, h⟩ := h rv I41 hp
                      rw [e1]
                      clear e1
                      change J 202 [jy r42] _ (0, 0) _ _ _
                      obtain ⟨g43, h⟩ := h
                      refine jy_if_eq hS rfl g43 (fun hq => ?_) (fun hq => ?_)
                      · have h := h.1 hq
                        refine jy_aload_n hS rfl rfl ?_
                        refine jy_iconst hS rfl ?_
                        refine jy_aload_n hS rfl rfl ?_
                        refine jy_getI hS rfl (by decide) g1 ?_
                        obtain ⟨g44, h⟩ := h
                        refine jy_iast hS rfl g22.1 (Nat.le_of_lt g22.2) g44 ?_
                        intro I45 e9
                        have h := h I45 e9
                        clear e9
                        refine jy_aload_n hS rfl rfl ?_
                        refine jy_bipush hS rfl (by decide) ?_
                        obtain ⟨g47, h⟩ := h
                        obtain ⟨Q46, h⟩ := h
                        obtain ⟨g48, h⟩ := h
                        refine jy_callV hS rfl rfl rfl (Nat.le_of_ble_eq_true rfl) (Or.inl g1) g48 g47 ⟨by decide, by decide⟩ (Nat.le_of_ble_eq_true rfl) ?_ ?_
                        rotate_left
                        · exact fun Ex Xx Ix Rx hp => hp.2.2.2.elim
                        intro rv Xx I49 Rx hp
                        obtain ⟨e1, e2, hp⟩ := hp
                        rw [e1, e2]
                        clear e1 e2
                        obtain ⟨e1, h⟩ := h rv I49 hp
                        rw [e1]
                        clear e1
                        change J 222 [] _ (0, 0) _ _ _
                        exact jy_ret hS rfl rfl ⟨rfl, rfl, h⟩
                      · have h := h.2 hq
                        refine jy_aload_n hS rfl rfl ?_
                        obtain ⟨d52, g53, h⟩ := h
                        obtain ⟨Q51, h⟩ := h
                        obtain ⟨g54, h⟩ := h
                        refine jy_callV hS rfl rfl rfl (Nat.le_of_ble_eq_true rfl) (Or.inl g1) g54 g53 ⟨by decide, by decide⟩ (Nat.le_of_ble_eq_true rfl) ?_ ?_
                        rotate_left
                        · exact fun Ex Xx Ix Rx hp => hp.2.2.2.elim
                        intro rv Xx I55 Rx hp
                        obtain ⟨e1, e2, hp⟩ := hp
                        rw [e1, e2]
                        clear e1 e2
                        obtain ⟨e1, h⟩ := h rv I55 hp
                        rw [e1]
                        clear e1
                        change J 209 [] _ (0, 0) _ _ _
                        exact jy_join hS h rfl (jy_sub_s (jy_sub_n (jy_sub_s jy_sub_0)))
                  · have h := h.2 hq
                    refine jy_aload_n hS rfl rfl ?_
                    obtain ⟨d58, g59, h⟩ := h
                    obtain ⟨Q57, h⟩ := h
                    obtain ⟨g60, h⟩ := h
                    refine jy_callV hS rfl rfl rfl (Nat.le_of_ble_eq_true rfl) (Or.inl g1) g60 g59 ⟨by decide, by decide⟩ (Nat.le_of_ble_eq_true rfl) ?_ ?_
                    rotate_left
                    · exact fun Ex Xx Ix Rx hp => hp.2.2.2.elim
                    intro rv Xx I61 Rx hp
                    obtain ⟨e1, e2, hp⟩ := hp
                    rw [e1, e2]
                    clear e1 e2
                    obtain ⟨e1, h⟩ := h rv I61 hp
                    rw [e1]
                    clear e1
                    change J 176 [] _ (0, 0) _ _ _
                    exact jy_join hS h rfl (jy_sub_s (jy_sub_s (jy_sub_s jy_sub_0)))
                · have h := h.2 hq
                  refine jy_aload_n hS rfl rfl ?_
                  obtain ⟨g64, h⟩ := h
                  obtain ⟨Q63, h⟩ := h
                  obtain ⟨g65, h⟩ := h
                  refine jy_callV hS rfl rfl rfl (Nat.le_of_ble_eq_true rfl) (Or.inl g1) g65 g64 ⟨by decide, by decide⟩ (Nat.le_of_ble_eq_true rfl) ?_ ?_
                  rotate_left
                  · exact fun Ex Xx Ix Rx hp => hp.2.2.2.elim
                  intro rv Xx I66 Rx hp
                  obtain ⟨e1, e2, hp⟩ := hp
                  rw [e1, e2]
                  clear e1 e2
                  obtain ⟨e1, h⟩ := h rv I66 hp
                  rw [e1]
                  clear e1
                  change J 166 [] _ (0, 0) _ _ _
                  exact jy_join hS h rfl (jy_sub_s (jy_sub_s (jy_sub_s jy_sub_0)))
              · have h := h.2 hq
                refine jy_aload_n hS rfl rfl ?_
                refine jy_iconst hS rfl ?_
                refine jy_aload_n hS rfl rfl ?_
                refine jy_iconst hS rfl ?_
                refine jy_bipush hS rfl (by decide) ?_
                obtain ⟨g69, h⟩ := h
                obtain ⟨Q68, h⟩ := h
                obtain ⟨g70, h⟩ := h
                refine jy_callV hS rfl rfl rfl (Nat.le_of_ble_eq_true rfl) (Or.inl g1) g70 g69 ⟨by decide, by decide⟩ (Nat.le_of_ble_eq_true rfl) ?_ ?_
                rotate_left
                · exact fun Ex Xx Ix Rx hp => hp.2.2.2.elim
                intro rv Xx I71 Rx hp
                obtain ⟨e1, e2, hp⟩ := hp
                rw [e1, e2]
                clear e1 e2
                obtain ⟨r72, e1, h⟩ := h rv I71 hp
                rw [e1]
                clear e1
                change J 152 [jy r72, jy 1, .ref q18] _ (0, 0) _ _ _
                obtain ⟨g73, h⟩ := h
                refine jy_iast hS rfl g22.1 (Nat.le_of_lt g22.2) g73 ?_
                intro I74 e9
                have h := h I74 e9
                clear e9
                refine jy_goto hS rfl ?_
                exact jy_join hS h rfl (jy_sub_s (jy_sub_s (jy_sub_s jy_sub_0)))
            · have h := h.2 hq
              refine jy_iload_n hS rfl rfl ?_
              refine jy_bipush hS rfl (by decide) ?_
              refine jy_icmp_ge hS rfl ⟨g7, ⟨by decide, by decide⟩⟩ (fun hq => ?_) (fun hq => ?_)
              · have h := h.1 hq
                refine jy_iload_n hS rfl rfl ?_
                refine jy_bipush hS rfl (by decide) ?_
                refine jy_icmp_ne hS rfl ⟨g7, ⟨by decide, by decide⟩⟩ (fun hq => ?_) (fun hq => ?_)
                · have h := h.1 hq
                  refine jy_iload_n hS rfl rfl ?_
                  refine jy_bipush hS rfl (by decide) ?_
                  refine jy_icmp_le hS rfl ⟨g7, ⟨by decide, by decide⟩⟩ (fun hq => ?_) (fun hq => ?_)
                  · have h := h.1 hq
                    refine jy_iload_n hS rfl rfl ?_
                    refine jy_bipush hS rfl (by decide) ?_
                    refine jy_icmp_le hS rfl ⟨g7, ⟨by decide, by decide⟩⟩ (fun hq => ?_) (fun hq => ?_)
                    · have h := h.1 hq
                      refine jy_aload_n hS rfl rfl ?_
                      refine jy_iconst hS rfl ?_
                      refine jy_aload_n hS rfl rfl ?_
                      refine jy_getI hS rfl (by decide) g1 ?_
                      obtain ⟨g75, h⟩ := h
                      refine jy_iast hS rfl g22.1 (Nat.le_of_lt g22.2) g75 ?_
                      intro I76 e9
                      have h := h I76 e9
                      clear e9
                      refine jy_iload_n hS rfl rfl ?_
                      refine jy_bipush hS rfl (by decide) ?_
                      refine jy_icmp_ne hS rfl ⟨g7, ⟨by decide, by decide⟩⟩ (fun hq => ?_) (fun hq => ?_)
                      · have h := h.1 hq
                        refine jy_aload_n hS rfl rfl ?_
                        refine jy_iconst hS rfl ?_
                        refine jy_aload_n hS rfl rfl ?_
                        refine jy_getI hS rfl (by decide) g1 ?_
                        obtain ⟨g77, h⟩ := h
                        refine jy_iast hS rfl g22.1 (Nat.le_of_lt g22.2) g77 ?_
                        intro I78 e9
                        have h := h I78 e9
                        clear e9
                        refine jy_aload_n hS rfl rfl ?_
                        refine jy_bipush hS rfl (by decide) ?_
                        obtain ⟨g80, h⟩ := h
                        obtain ⟨Q79, h⟩ := h
                        obtain ⟨g81, h⟩ := h
                        refine jy_callV hS rfl rfl rfl (Nat.le_of_ble_eq_true rfl) (Or.inl g1) g81 g80 ⟨by decide, by decide⟩ (Nat.le_of_ble_eq_true rfl) ?_ ?_
                        rotate_left
                        · exact fun Ex Xx Ix Rx hp => hp.2.2.2.elim
                        intro rv Xx I82 Rx hp
                        obtain ⟨e1, e2, hp⟩ := hp
                        rw [e1, e2]
                        clear e1 e2
                        obtain ⟨e1, h⟩ := h rv I82 hp
                        rw [e1]
                        clear e1
                        change J 222 [] _ (0, 0) _ _ _
                        exact jy_ret hS rfl rfl ⟨rfl, rfl, h⟩
                      · have h := h.2 hq
                        refine jy_aload_n hS rfl rfl ?_
                        refine jy_iconst hS rfl ?_
                        refine jy_bipush hS rfl (by decide) ?_
                        refine jy_bipush hS rfl (by decide) ?_
                        refine jy_iconst hS rfl ?_
                        refine jy_iconst hS rfl ?_
                        refine jy_iconst hS rfl ?_
                        refine jy_iconst hS rfl ?_
                        obtain ⟨g85, h⟩ := h
                        obtain ⟨Q84, h⟩ := h
                        obtain ⟨g86, h⟩ := h
                        refine jy_callV hS rfl rfl rfl (Nat.le_of_ble_eq_true rfl) (Or.inl g1) g86 g85 ⟨by decide, by decide⟩ (Nat.le_of_ble_eq_true rfl) ?_ ?_
                        rotate_left
                        · exact fun Ex Xx Ix Rx hp => hp.2.2.2.elim
                        intro rv Xx I87 Rx hp
                        obtain ⟨e1, e2, hp⟩ := hp
                        rw [e1, e2]
                        clear e1 e2
                        obtain ⟨r88, e1, h⟩ := h rv I87 hp
                        rw [e1]
                        clear e1
                        change J 202 [jy r88] _ (0, 0) _ _ _
                        obtain ⟨g89, h⟩ := h
                        refine jy_if_eq hS rfl g89 (fun hq => ?_) (fun hq => ?_)
                        · have h := h.1 hq
                          refine jy_aload_n hS rfl rfl ?_
                          refine jy_iconst hS rfl ?_
                          refine jy_aload_n hS rfl rfl ?_
                          refine jy_getI hS rfl (by decide) g1 ?_
                          obtain ⟨g90, h⟩ := h
                          refine jy_iast hS rfl g22.1 (Nat.le_of_lt g22.2) g90 ?_
                          intro I91 e9
                          have h := h I91 e9
                          clear e9
                          refine jy_aload_n hS rfl rfl ?_
                          refine jy_bipush hS rfl (by decide) ?_
                          obtain ⟨g93, h⟩ := h
                          obtain ⟨Q92, h⟩ := h
                          obtain ⟨g94, h⟩ := h
                          refine jy_callV hS rfl rfl rfl (Nat.le_of_ble_eq_true rfl) (Or.inl g1) g94 g93 ⟨by decide, by decide⟩ (Nat.le_of_ble_eq_true rfl) ?_ ?_
                          rotate_left
                          · exact fun Ex Xx Ix Rx hp => hp.2.2.2.elim
                          intro rv Xx I95 Rx hp
                          obtain ⟨e1, e2, hp⟩ := hp
                          rw [e1, e2]
                          clear e1 e2
                          obtain ⟨e1, h⟩ := h rv I95 hp
                          rw [e1]
                          clear e1
                          change J 222 [] _ (0, 0) _ _ _
                          exact jy_ret hS rfl rfl ⟨rfl, rfl, h⟩
                        · have h := h.2 hq
                          refine jy_aload_n hS rfl rfl ?_
                          obtain ⟨d98, g99, h⟩ := h
                          obtain ⟨Q97, h⟩ := h
                          obtain ⟨g100, h⟩ := h
                          refine jy_callV hS rfl rfl rfl (Nat.le_of_ble_eq_true rfl) (Or.inl g1) g100 g99 ⟨by decide, by decide⟩ (Nat.le_of_ble_eq_true rfl) ?_ ?_
                          rotate_left
                          · exact fun Ex Xx Ix Rx hp => hp.2.2.2.elim
                          intro rv Xx I101 Rx hp
                          obtain ⟨e1, e2, hp⟩ := hp
                          rw [e1, e2]
                          clear e1 e2
                          obtain ⟨e1, h⟩ := h rv I101 hp
                          rw [e1]
                          clear e1
                          change J 209 [] _ (0, 0) _ _ _
                          exact jy_join hS h rfl (jy_sub_s (jy_sub_n (jy_sub_s jy_sub_0)))
                    · have h := h.2 hq
                      refine jy_aload_n hS rfl rfl ?_
                      obtain ⟨d104, g105, h⟩ := h
                      obtain ⟨Q103, h⟩ := h
                      obtain ⟨g106, h⟩ := h
                      refine jy_callV hS rfl rfl rfl (Nat.le_of_ble_eq_true rfl) (Or.inl g1) g106 g105 ⟨by decide, by decide⟩ (Nat.le_of_ble_eq_true rfl) ?_ ?_
                      rotate_left
                      · exact fun Ex Xx Ix Rx hp => hp.2.2.2.elim
                      intro rv Xx I107 Rx hp
                      obtain ⟨e1, e2, hp⟩ := hp
                      rw [e1, e2]
                      clear e1 e2
                      obtain ⟨e1, h⟩ := h rv I107 hp
                      rw [e1]
                      clear e1
                      change J 176 [] _ (0, 0) _ _ _
                      exact jy_join hS h rfl (jy_sub_s (jy_sub_s (jy_sub_s jy_sub_0)))
                  · have h := h.2 hq
                    refine jy_aload_n hS rfl rfl ?_
                    obtain ⟨g110, h⟩ := h
                    obtain ⟨Q109, h⟩ := h
                    obtain ⟨g111, h⟩ := h
                    refine jy_callV hS rfl rfl rfl (Nat.le_of_ble_eq_true rfl) (Or.inl g1) g111 g110 ⟨by decide, by decide⟩ (Nat.le_of_ble_eq_true rfl) ?_ ?_
                    rotate_left
                    · exact fun Ex Xx Ix Rx hp => hp.2.2.2.elim
                    intro rv Xx I112 Rx hp
                    obtain ⟨e1, e2, hp⟩ := hp
                    rw [e1, e2]
                    clear e1 e2
                    obtain ⟨e1, h⟩ := h rv I112 hp
                    rw [e1]
                    clear e1
                    change J 166 [] _ (0, 0) _ _ _
                    exact jy_join hS h rfl (jy_sub_s (jy_sub_s (jy_sub_s jy_sub_0)))
                · have h := h.2 hq
                  refine jy_aload_n hS rfl rfl ?_
                  refine jy_iconst hS rfl ?_
                  refine jy_aload_n hS rfl rfl ?_
                  refine jy_iconst hS rfl ?_
                  refine jy_bipush hS rfl (by decide) ?_
                  obtain ⟨g115, h⟩ := h
                  obtain ⟨Q114, h⟩ := h
                  obtain ⟨g116, h⟩ := h
                  refine jy_callV hS rfl rfl rfl (Nat.le_of_ble_eq_true rfl) (Or.inl g1) g116 g115 ⟨by decide, by decide⟩ (Nat.le_of_ble_eq_true rfl) ?_ ?_
                  rotate_left
                  · exact fun Ex Xx Ix Rx hp => hp.2.2.2.elim
                  intro rv Xx I117 Rx hp
                  obtain ⟨e1, e2, hp⟩ := hp
                  rw [e1, e2]
                  clear e1 e2
                  obtain ⟨r118, e1, h⟩ := h rv I117 hp
                  rw [e1]
                  clear e1
                  change J 152 [jy r118, jy 1, .ref q18] _ (0, 0) _ _ _
                  obtain ⟨g119, h⟩ := h
                  refine jy_iast hS rfl g22.1 (Nat.le_of_lt g22.2) g119 ?_
                  intro I120 e9
                  have h := h I120 e9
                  clear e9
                  refine jy_goto hS rfl ?_
                  exact jy_join hS h rfl (jy_sub_s (jy_sub_s (jy_sub_s jy_sub_0)))
              · have h := h.2 hq
                refine jy_aload_n hS rfl rfl ?_
                refine jy_iconst hS rfl ?_
                refine jy_aload_n hS rfl rfl ?_
                refine jy_iconst hS rfl ?_
                refine jy_aload_n hS rfl rfl ?_
                obtain ⟨q121, h⟩ := h
                obtain ⟨g122, h⟩ := h
                refine jy_getR hS rfl (by decide) g1 g122 ?_
                refine jy_iconst hS rfl ?_
                obtain ⟨n123, h⟩ := h
                obtain ⟨g124, h⟩ := h
                obtain ⟨g125, h⟩ := h
                refine jy_iald hS rfl g124.1 (Nat.le_of_lt g124.2) g125 ?_
                refine jy_iconst hS rfl ?_
                refine jy_isub hS rfl ?_
                obtain ⟨g127, h⟩ := h
                obtain ⟨Q126, h⟩ := h
                obtain ⟨g128, h⟩ := h
                refine jy_callV hS rfl rfl rfl (Nat.le_of_ble_eq_true rfl) (Or.inl g1) g128 g127 ⟨by decide, by decide⟩ (Nat.le_of_ble_eq_true rfl) ?_ ?_
                rotate_left
                · exact fun Ex Xx Ix Rx hp => hp.2.2.2.elim
                intro rv Xx I129 Rx hp
                obtain ⟨e1, e2, hp⟩ := hp
                rw [e1, e2]
                clear e1 e2
                obtain ⟨r130, e1, h⟩ := h rv I129 hp
                rw [e1]
                clear e1
                change J 133 [jy r130, jy 1, .ref q18] _ (0, 0) _ _ _
                obtain ⟨g131, h⟩ := h
                refine jy_iast hS rfl g22.1 (Nat.le_of_lt g22.2) g131 ?_
                intro I132 e9
                have h := h I132 e9
                clear e9
                refine jy_goto hS rfl ?_
                exact jy_join hS h rfl (jy_sub_s (jy_sub_s (jy_sub_s jy_sub_0)))
          · have h := h.2 hq
            refine jy_aload_n hS rfl rfl ?_
            refine jy_iconst hS rfl ?_
            refine jy_aload_n hS rfl rfl ?_
            refine jy_iconst hS rfl ?_
            refine jy_bipush hS rfl (by decide) ?_
            obtain ⟨g134, h⟩ := h
            obtain ⟨Q133, h⟩ := h
            obtain ⟨g135, h⟩ := h
            refine jy_callV hS rfl rfl rfl (Nat.le_of_ble_eq_true rfl) (Or.inl g1) g135 g134 ⟨by decide, by decide⟩ (Nat.le_of_ble_eq_true rfl) ?_ ?_
            rotate_left
            · exact fun Ex Xx Ix Rx hp => hp.2.2.2.elim
            intro rv Xx I136 Rx hp
            obtain ⟨e1, e2, hp⟩ := hp
            rw [e1, e2]
            clear e1 e2
            obtain ⟨r137, e1, h⟩ := h rv I136 hp
            rw [e1]
            clear e1
            change J 103 [jy r137, jy 1, .ref q18] _ (0, 0) _ _ _
            obtain ⟨g138, h⟩ := h
            refine jy_iast hS rfl g22.1 (Nat.le_of_lt g22.2) g138 ?_
            intro I139 e9
            have h := h I139 e9
            clear e9
            refine jy_goto hS rfl ?_
            exact jy_join hS h rfl (jy_sub_s (jy_sub_s (jy_sub_s jy_sub_0)))
        · have h := h.2 hq
          refine jy_aload_n hS rfl rfl ?_
          refine jy_iconst hS rfl ?_
          refine jy_aload_n hS rfl rfl ?_
          refine jy_iconst hS rfl ?_
          refine jy_aload_n hS rfl rfl ?_
          obtain ⟨q140, h⟩ := h
          obtain ⟨g141, h⟩ := h
          refine jy_getR hS rfl (by decide) g1 g141 ?_
          refine jy_iconst hS rfl ?_
          obtain ⟨n142, h⟩ := h
          obtain ⟨g143, h⟩ := h
          obtain ⟨g144, h⟩ := h
          refine jy_iald hS rfl g143.1 (Nat.le_of_lt g143.2) g144 ?_
          refine jy_iconst hS rfl ?_
          refine jy_isub hS rfl ?_
          obtain ⟨g146, h⟩ := h
          obtain ⟨Q145, h⟩ := h
          obtain ⟨g147, h⟩ := h
          refine jy_callV hS rfl rfl rfl (Nat.le_of_ble_eq_true rfl) (Or.inl g1) g147 g146 ⟨by decide, by decide⟩ (Nat.le_of_ble_eq_true rfl) ?_ ?_
          rotate_left
          · exact fun Ex Xx Ix Rx hp => hp.2.2.2.elim
          intro rv Xx I148 Rx hp
          obtain ⟨e1, e2, hp⟩ := hp
          rw [e1, e2]
          clear e1 e2
          obtain ⟨r149, e1, h⟩ := h rv I148 hp
          rw [e1]
          clear e1
          change J 85 [jy r149, jy 1, .ref q18] _ (0, 0) _ _ _
          obtain ⟨g150, h⟩ := h
          refine jy_iast hS rfl g22.1 (Nat.le_of_lt g22.2) g150 ?_
          intro I151 e9
          have h := h I151 e9
          clear e9
          refine jy_goto hS rfl ?_
          exact jy_join hS h rfl (jy_sub_s (jy_sub_s (jy_sub_s jy_sub_0)))
      · have h := h.2 hq
        exact jy_ret hS rfl rfl ⟨rfl, rfl, h⟩
    · have h := h.2 hq
      refine jy_aload_n hS rfl rfl ?_
      refine jy_iconst hS rfl ?_
      refine jy_aload_n hS rfl rfl ?_
      refine jy_getI hS rfl (by decide) g1 ?_
      obtain ⟨g153, h⟩ := h
      obtain ⟨Q152, h⟩ := h
      obtain ⟨g154, h⟩ := h
      refine jy_callV hS rfl rfl rfl (Nat.le_of_ble_eq_true rfl) (Or.inl g1) g154 g153 ⟨by decide, by decide⟩ (Nat.le_of_ble_eq_true rfl) ?_ ?_
      rotate_left
      · exact fun Ex Xx Ix Rx hp => hp.2.2.2.elim
      intro rv Xx I155 Rx hp
      obtain ⟨e1, e2, hp⟩ := hp
      rw [e1, e2]
      clear e1 e2
      obtain ⟨e1, h⟩ := h rv I155 hp
      rw [e1]
      clear e1
      change J 19 [] _ (0, 0) _ _ _
      exact jy_join hS h rfl (jy_sub_s (jy_sub_s (jy_sub_n jy_sub_0)))
  refine ⟨?_, ?_, ?_, ?_⟩
  · intro l1 I h
    unfold wz_302_19 at h
    refine jy_aload_n hS rfl rfl ?_
    obtain ⟨g157, h⟩ := h
    refine jy_getI hS rfl (by decide) g157 ?_
    refine jy_if_eq hS rfl (jy_rng _) (fun hq => ?_) (fun hq => ?_)
    · have h := h.1 hq
      refine jy_aload_n hS rfl rfl ?_
      obtain ⟨g159, h⟩ := h
      obtain ⟨Q158, h⟩ := h
      obtain ⟨g160, h⟩ := h
      refine jy_callV hS rfl rfl rfl (Nat.le_of_ble_eq_true rfl) (Or.inl g157) g160 g159 ⟨by decide, by decide⟩ (Nat.le_of_ble_eq_true rfl) ?_ ?_
      rotate_left
      · exact fun Ex Xx Ix Rx hp => hp.2.2.2.elim
      intro rv Xx I161 Rx hp
      obtain ⟨e1, e2, hp⟩ := hp
      rw [e1, e2]
      clear e1 e2
      obtain ⟨e1, h⟩ := h rv I161 hp
      rw [e1]
      clear e1
      change J 31 [] _ (0, 0) _ _ _
      refine jy_aload_n hS rfl rfl ?_
      obtain ⟨q163, h⟩ := h
      obtain ⟨g164, h⟩ := h
      refine jy_getR hS rfl (by decide) g157 g164 ?_
      refine jy_aload_n hS rfl rfl ?_
      refine jy_getI hS rfl (by decide) g157 ?_
      obtain ⟨n165, h⟩ := h
      obtain ⟨g166, h⟩ := h
      obtain ⟨g167, h⟩ := h
      obtain ⟨q168, h⟩ := h
      obtain ⟨g169, h⟩ := h
      refine jy_aald hS rfl g166.1 (by decide) (Nat.le_of_lt g166.2) g167 g169 ?_
      refine jy_astore_n hS rfl (Nat.le_of_ble_eq_true rfl) (L' := [some (.ref a0), some (jy l1), some (.ref q168)]) rfl ?_
      refine jy_aload_n hS rfl rfl ?_
      refine jy_dup hS rfl rfl ?_
      refine jy_getI hS rfl (by decide) g157 ?_
      refine jy_iconst hS rfl ?_
      refine jy_iadd hS rfl ?_
      refine jy_putI hS rfl (by decide) g157 ?_
      intro I170 e9
      have h := h I170 e9
      clear e9
      refine jy_aload_n hS rfl rfl ?_
      refine jy_iconst hS rfl ?_
      refine jy_iload_n hS rfl rfl ?_
      obtain ⟨n171, h⟩ := h
      obtain ⟨g172, h⟩ := h
      obtain ⟨g173, h⟩ := h
      refine jy_iast hS rfl g172.1 (Nat.le_of_lt g172.2) g173 ?_
      intro I174 e9
      have h := h I174 e9
      clear e9
      refine jy_aload_n hS rfl rfl ?_
      refine jy_iconst hS rfl ?_
      refine jy_iconst hS rfl ?_
      obtain ⟨g175, h⟩ := h
      refine jy_iast hS rfl g172.1 (Nat.le_of_lt g172.2) g175 ?_
      intro I176 e9
      have h := h I176 e9
      clear e9
      refine jy_aload_n hS rfl rfl ?_
      refine jy_iconst hS rfl ?_
      refine jy_aload_n hS rfl rfl ?_
      refine jy_getI hS rfl (by decide) g157 ?_
      obtain ⟨g177, h⟩ := h
      refine jy_iast hS rfl g172.1 (Nat.le_of_lt g172.2) g177 ?_
      intro I178 e9
      have h := h I178 e9
      clear e9
      refine jy_iload_n hS rfl rfl ?_
      obtain ⟨g179, h⟩ := h
      refine jy_if_ne hS rfl g179 (fun hq => ?_) (fun hq => ?_)
      · have h := h.1 hq
        refine jy_iload_n hS rfl rfl ?_
        refine jy_iconst hS rfl ?_
        refine jy_icmp_ne hS rfl ⟨g179, ⟨by decide, by decide⟩⟩ (fun hq => ?_) (fun hq => ?_)
        · have h := h.1 hq
          refine jy_iload_n hS rfl rfl ?_
          refine jy_iconst hS rfl ?_
          refine jy_icmp_le hS rfl ⟨g179, ⟨by decide, by decide⟩⟩ (fun hq => ?_) (fun hq => ?_)
          · have h := h.1 hq
            refine jy_iload_n hS rfl rfl ?_
            refine jy_bipush hS rfl (by decide) ?_
            refine jy_icmp_ne hS rfl ⟨g179, ⟨by decide, by decide⟩⟩ (fun hq => ?_) (fun hq => ?_)
            · have h := h.1 hq
              refine jy_iload_n hS rfl rfl ?_
              refine jy_bipush hS rfl (by decide) ?_
              refine jy_icmp_le hS rfl ⟨g179, ⟨by decide, by decide⟩⟩ (fun hq => ?_) (fun hq => ?_)
              · have h := h.1 hq
                refine jy_iload_n hS rfl rfl ?_
                refine jy_bipush hS rfl (by decide) ?_
                refine jy_icmp_le hS rfl ⟨g179, ⟨by decide, by decide⟩⟩ (fun hq => ?_) (fun hq => ?_)
                · have h := h.1 hq
                  refine jy_aload_n hS rfl rfl ?_
                  refine jy_iconst hS rfl ?_
                  refine jy_aload_n hS rfl rfl ?_
                  refine jy_getI hS rfl (by decide) g157 ?_
                  obtain ⟨g180, h⟩ := h
                  refine jy_iast hS rfl g172.1 (Nat.le_of_lt g172.2) g180 ?_
                  intro I181 e9
                  have h := h I181 e9
                  clear e9
                  refine jy_iload_n hS rfl rfl ?_
                  refine jy_bipush hS rfl (by decide) ?_
                  refine jy_icmp_ne hS rfl ⟨g179, ⟨by decide, by decide⟩⟩ (fun hq => ?_) (fun hq => ?_)
                  · have h := h.1 hq
                    refine jy_aload_n hS rfl rfl ?_
                    refine jy_iconst hS rfl ?_
                    refine jy_aload_n hS rfl rfl ?_
                    refine jy_getI hS rfl (by decide) g157 ?_
                    obtain ⟨g182, h⟩ := h
                    refine jy_iast hS rfl g172.1 (Nat.le_of_lt g172.2) g182 ?_
                    intro I183 e9
                    have h := h I183 e9
                    clear e9
                    refine jy_aload_n hS rfl rfl ?_
                    refine jy_bipush hS rfl (by decide) ?_
                    obtain ⟨g185, h⟩ := h
                    obtain ⟨Q184, h⟩ := h
                    obtain ⟨g186, h⟩ := h
                    refine jy_callV hS rfl rfl rfl (Nat.le_of_ble_eq_true rfl) (Or.inl g157) g186 g185 ⟨by decide, by decide⟩ (Nat.le_of_ble_eq_true rfl) ?_ ?_
                    rotate_left
                    · exact fun Ex Xx Ix Rx hp => hp.2.2.2.elim
                    intro rv Xx I187 Rx hp
                    obtain ⟨e1, e2, hp⟩ := hp
                    rw [e1, e2]
                    clear e1 e2
                    obtain ⟨e1, h⟩ := h rv I187 hp
                    rw [e1]
                    clear e1
                    change J 222 [] _ (0, 0) _ _ _
                    exact jy_ret hS rfl rfl ⟨rfl, rfl, h⟩
                  · have h := h.2 hq
                    refine jy_aload_n hS rfl rfl ?_
                    refine jy_iconst hS rfl ?_
                    refine jy_bipush hS rfl (by decide) ?_
                    refine jy_bipush hS rfl (by decide) ?_
                    refine jy_iconst hS rfl ?_
                    refine jy_iconst hS rfl ?_
                    refine jy_iconst hS rfl ?_
                    refine jy_iconst hS rfl ?_
                    obtain ⟨g190, h⟩ := h
                    obtain ⟨Q189, h⟩ := h
                    obtain ⟨g191, h⟩ := h
                    refine jy_callV hS rfl rfl rfl (Nat.le_of_ble_eq_true rfl) (Or.inl g157) g191 g190 ⟨by decide, by decide⟩ (Nat.le_of_ble_eq_true rfl) ?_ ?_
                    rotate_left
                    · exact fun Ex Xx Ix Rx hp => hp.2.2.2.elim
                    intro rv Xx I192 Rx hp
                    obtain ⟨e1, e2, hp⟩ := hp
                    rw [e1, e2]
                    clear e1 e2
                    obtain ⟨r193, e1, h⟩ := h rv I192 hp
                    rw [e1]
                    clear e1
                    change J 202 [jy r193] _ (0, 0) _ _ _
                    obtain ⟨g194, h⟩ := h
                    refine jy_if_eq hS rfl g194 (fun hq => ?_) (fun hq => ?_)
                    · have h := h.1 hq
                      refine jy_aload_n hS rfl rfl ?_
                      refine jy_iconst hS rfl ?_
                      refine jy_aload_n hS rfl rfl ?_
                      refine jy_getI hS rfl (by decide) g157 ?_
                      obtain ⟨g195, h⟩ := h
                      refine jy_iast hS rfl g172.1 (Nat.le_of_lt g172.2) g195 ?_
                      intro I196 e9
                      have h := h I196 e9
                      clear e9
                      refine jy_aload_n hS rfl rfl ?_
                      refine jy_bipush hS rfl (by decide) ?_
                      obtain ⟨g198, h⟩ := h
                      obtain ⟨Q197, h⟩ := h
                      obtain ⟨g199, h⟩ := h
                      refine jy_callV hS rfl rfl rfl (Nat.le_of_ble_eq_true rfl) (Or.inl g157) g199 g198 ⟨by decide, by decide⟩ (Nat.le_of_ble_eq_true rfl) ?_ ?_
                      rotate_left
                      · exact fun Ex Xx Ix Rx hp => hp.2.2.2.elim
                      intro rv Xx I200 Rx hp
                      obtain ⟨e1, e2, hp⟩ := hp
                      rw [e1, e2]
                      clear e1 e2
                      obtain ⟨e1, h⟩ := h rv I200 hp
                      rw [e1]
                      clear e1
                      change J 222 [] _ (0, 0) _ _ _
                      exact jy_ret hS rfl rfl ⟨rfl, rfl, h⟩
                    · have h := h.2 hq
                      refine jy_aload_n hS rfl rfl ?_
                      obtain ⟨d203, g204, h⟩ := h
                      obtain ⟨Q202, h⟩ := h
                      obtain ⟨g205, h⟩ := h
                      refine jy_callV hS rfl rfl rfl (Nat.le_of_ble_eq_true rfl) (Or.inl g157) g205 g204 ⟨by decide, by decide⟩ (Nat.le_of_ble_eq_true rfl) ?_ ?_
                      rotate_left
                      · exact fun Ex Xx Ix Rx hp => hp.2.2.2.elim
                      intro rv Xx I206 Rx hp
                      obtain ⟨e1, e2, hp⟩ := hp
                      rw [e1, e2]
                      clear e1 e2
                      obtain ⟨e1, h⟩ := h rv I206 hp
                      rw [e1]
                      clear e1
                      change J 209 [] _ (0, 0) _ _ _
                      exact jy_join hS h rfl (jy_sub_s (jy_sub_n (jy_sub_s jy_sub_0)))
                · have h := h.2 hq
                  refine jy_aload_n hS rfl rfl ?_
                  obtain ⟨d209, g210, h⟩ := h
                  obtain ⟨Q208, h⟩ := h
                  obtain ⟨g211, h⟩ := h
                  refine jy_callV hS rfl rfl rfl (Nat.le_of_ble_eq_true rfl) (Or.inl g157) g211 g210 ⟨by decide, by decide⟩ (Nat.le_of_ble_eq_true rfl) ?_ ?_
                  rotate_left
                  · exact fun Ex Xx Ix Rx hp => hp.2.2.2.elim
                  intro rv Xx I212 Rx hp
                  obtain ⟨e1, e2, hp⟩ := hp
                  rw [e1, e2]
                  clear e1 e2
                  obtain ⟨e1, h⟩ := h rv I212 hp
                  rw [e1]
                  clear e1
                  change J 176 [] _ (0, 0) _ _ _
                  exact jy_join hS h rfl (jy_sub_s (jy_sub_s (jy_sub_s jy_sub_0)))
              · have h := h.2 hq
                refine jy_aload_n hS rfl rfl ?_
                obtain ⟨g215, h⟩ := h
                obtain ⟨Q214, h⟩ := h
                obtain ⟨g216, h⟩ := h
                refine jy_callV hS rfl rfl rfl (Nat.le_of_ble_eq_true rfl) (Or.inl g157) g216 g215 ⟨by decide, by decide⟩ (Nat.le_of_ble_eq_true rfl) ?_ ?_
                rotate_left
                · exact fun Ex Xx Ix Rx hp => hp.2.2.2.elim
                intro rv Xx I217 Rx hp
                obtain ⟨e1, e2, hp⟩ := hp
                rw [e1, e2]
                clear e1 e2
                obtain ⟨e1, h⟩ := h rv I217 hp
                rw [e1]
                clear e1
                change J 166 [] _ (0, 0) _ _ _
                exact jy_join hS h rfl (jy_sub_s (jy_sub_s (jy_sub_s jy_sub_0)))
            · have h := h.2 hq
              refine jy_aload_n hS rfl rfl ?_
              refine jy_iconst hS rfl ?_
              refine jy_aload_n hS rfl rfl ?_
              refine jy_iconst hS rfl ?_
              refine jy_bipush hS rfl (by decide) ?_
              obtain ⟨g220, h⟩ := h
              obtain ⟨Q219, h⟩ := h
              obtain ⟨g221, h⟩ := h
              refine jy_callV hS rfl rfl rfl (Nat.le_of_ble_eq_true rfl) (Or.inl g157) g221 g220 ⟨by decide, by decide⟩ (Nat.le_of_ble_eq_true rfl) ?_ ?_
              rotate_left
              · exact fun Ex Xx Ix Rx hp => hp.2.2.2.elim
              intro rv Xx I222 Rx hp
              obtain ⟨e1, e2, hp⟩ := hp
              rw [e1, e2]
              clear e1 e2
              obtain ⟨r223, e1, h⟩ := h rv I222 hp
              rw [e1]
              clear e1
              change J 152 [jy r223, jy 1, .ref q168] _ (0, 0) _ _ _
              obtain ⟨g224, h⟩ := h
              refine jy_iast hS rfl g172.1 (Nat.le_of_lt g172.2) g224 ?_
              intro I225 e9
              have h := h I225 e9
              clear e9
              refine jy_goto hS rfl ?_
              exact jy_join hS h rfl (jy_sub_s (jy_sub_s (jy_sub_s jy_sub_0)))
          · have h := h.2 hq
            refine jy_iload_n hS rfl rfl ?_
            refine jy_bipush hS rfl (by decide) ?_
            refine jy_icmp_ge hS rfl ⟨g179, ⟨by decide, by decide⟩⟩ (fun hq => ?_) (fun hq => ?_)
            · have h := h.1 hq
              refine jy_iload_n hS rfl rfl ?_
              refine jy_bipush hS rfl (by decide) ?_
              refine jy_icmp_ne hS rfl ⟨g179, ⟨by decide, by decide⟩⟩ (fun hq => ?_) (fun hq => ?_)
              · have h := h.1 hq
                refine jy_iload_n hS rfl rfl ?_
                refine jy_bipush hS rfl (by decide) ?_
                refine jy_icmp_le hS rfl ⟨g179, ⟨by decide, by decide⟩⟩ (fun hq => ?_) (fun hq => ?_)
                · have h := h.1 hq
                  refine jy_iload_n hS rfl rfl ?_
                  refine jy_bipush hS rfl (by decide) ?_
                  refine jy_icmp_le hS rfl ⟨g179, ⟨by decide, by decide⟩⟩ (fun hq => ?_) (fun hq => ?_)
                  · have h := h.1 hq
                    refine jy_aload_n hS rfl rfl ?_
                    refine jy_iconst hS rfl ?_
                    refine jy_aload_n hS rfl rfl ?_
                    refine jy_getI hS rfl (by decide) g157 ?_
                    obtain ⟨g226, h⟩ := h
                    refine jy_iast hS rfl g172.1 (Nat.le_of_lt g172.2) g226 ?_
                    intro I227 e9
                    have h := h I227 e9
                    clear e9
                    refine jy_iload_n hS rfl rfl ?_
                    refine jy_bipush hS rfl (by decide) ?_
                    refine jy_icmp_ne hS rfl ⟨g179, ⟨by decide, by decide⟩⟩ (fun hq => ?_) (fun hq => ?_)
                    · have h := h.1 hq
                      refine jy_aload_n hS rfl rfl ?_
                      refine jy_iconst hS rfl ?_
                      refine jy_aload_n hS rfl rfl ?_
                      refine jy_getI hS rfl (by decide) g157 ?_
                      obtain ⟨g228, h⟩ := h
                      refine jy_iast hS rfl g172.1 (Nat.le_of_lt g172.2) g228 ?_
                      intro I229 e9
                      have h := h I229 e9
                      clear e9
                      refine jy_aload_n hS rfl rfl ?_
                      refine jy_bipush hS rfl (by decide) ?_
                      obtain ⟨g231, h⟩ := h
                      obtain ⟨Q230, h⟩ := h
                      obtain ⟨g232, h⟩ := h
                      refine jy_callV hS rfl rfl rfl (Nat.le_of_ble_eq_true rfl) (Or.inl g157) g232 g231 ⟨by decide, by decide⟩ (Nat.le_of_ble_eq_true rfl) ?_ ?_
                      rotate_left
                      · exact fun Ex Xx Ix Rx hp => hp.2.2.2.elim
                      intro rv Xx I233 Rx hp
                      obtain ⟨e1, e2, hp⟩ := hp
                      rw [e1, e2]
                      clear e1 e2
                      obtain ⟨e1, h⟩ := h rv I233 hp
                      rw [e1]
                      clear e1
                      change J 222 [] _ (0, 0) _ _ _
                      exact jy_ret hS rfl rfl ⟨rfl, rfl, h⟩
                    · have h := h.2 hq
                      refine jy_aload_n hS rfl rfl ?_
                      refine jy_iconst hS rfl ?_
                      refine jy_bipush hS rfl (by decide) ?_
                      refine jy_bipush hS rfl (by decide) ?_
                      refine jy_iconst hS rfl ?_
                      refine jy_iconst hS rfl ?_
                      refine jy_iconst hS rfl ?_
                      refine jy_iconst hS rfl ?_
                      obtain ⟨g236, h⟩ := h
                      obtain ⟨Q235, h⟩ := h
                      obtain ⟨g237, h⟩ := h
                      refine jy_callV hS rfl rfl rfl (Nat.le_of_ble_eq_true rfl) (Or.inl g157) g237 g236 ⟨by decide, by decide⟩ (Nat.le_of_ble_eq_true rfl) ?_ ?_
                      rotate_left
                      · exact fun Ex Xx Ix Rx hp => hp.2.2.2.elim
                      intro rv Xx I238 Rx hp
                      obtain ⟨e1, e2, hp⟩ := hp
                      rw [e1, e2]
                      clear e1 e2
                      obtain ⟨r239, e1, h⟩ := h rv I238 hp
                      rw [e1]
                      clear e1
                      change J 202 [jy r239] _ (0, 0) _ _ _
                      obtain ⟨g240, h⟩ := h
                      refine jy_if_eq hS rfl g240 (fun hq => ?_) (fun hq => ?_)
                      · have h := h.1 hq
                        refine jy_aload_n hS rfl rfl ?_
                        refine jy_iconst hS rfl ?_
                        refine jy_aload_n hS rfl rfl ?_
                        refine jy_getI hS rfl (by decide) g157 ?_
                        obtain ⟨g241, h⟩ := h
                        refine jy_iast hS rfl g172.1 (Nat.le_of_lt g172.2) g241 ?_
                        intro I242 e9
                        have h := h I242 e9
                        clear e9
                        refine jy_aload_n hS rfl rfl ?_
                        refine jy_bipush hS rfl (by decide) ?_
                        obtain ⟨g244, h⟩ := h
                        obtain ⟨Q243, h⟩ := h
                        obtain ⟨g245, h⟩ := h
                        refine jy_callV hS rfl rfl rfl (Nat.le_of_ble_eq_true rfl) (Or.inl g157) g245 g244 ⟨by decide, by decide⟩ (Nat.le_of_ble_eq_true rfl) ?_ ?_
                        rotate_left
                        · exact fun Ex Xx Ix Rx hp => hp.2.2.2.elim
                        intro rv Xx I246 Rx hp
                        obtain ⟨e1, e2, hp⟩ := hp
                        rw [e1, e2]
                        clear e1 e2
                        obtain ⟨e1, h⟩ := h rv I246 hp
                        rw [e1]
                        clear e1
                        change J 222 [] _ (0, 0) _ _ _
                        exact jy_ret hS rfl rfl ⟨rfl, rfl, h⟩
                      · have h := h.2 hq
                        refine jy_aload_n hS rfl rfl ?_
                        obtain ⟨d249, g250, h⟩ := h
                        obtain ⟨Q248, h⟩ := h
                        obtain ⟨g251, h⟩ := h
                        refine jy_callV hS rfl rfl rfl (Nat.le_of_ble_eq_true rfl) (Or.inl g157) g251 g250 ⟨by decide, by decide⟩ (Nat.le_of_ble_eq_true rfl) ?_ ?_
                        rotate_left
                        · exact fun Ex Xx Ix Rx hp => hp.2.2.2.elim
                        intro rv Xx I252 Rx hp
                        obtain ⟨e1, e2, hp⟩ := hp
                        rw [e1, e2]
                        clear e1 e2
                        obtain ⟨e1, h⟩ := h rv I252 hp
                        rw [e1]
                        clear e1
                        change J 209 [] _ (0, 0) _ _ _
                        exact jy_join hS h rfl (jy_sub_s (jy_sub_n (jy_sub_s jy_sub_0)))
                  · have h := h.2 hq
                    refine jy_aload_n hS rfl rfl ?_
                    obtain ⟨d255, g256, h⟩ := h
                    obtain ⟨Q254, h⟩ := h
                    obtain ⟨g257, h⟩ := h
                    refine jy_callV hS rfl rfl rfl (Nat.le_of_ble_eq_true rfl) (Or.inl g157) g257 g256 ⟨by decide, by decide⟩ (Nat.le_of_ble_eq_true rfl) ?_ ?_
                    rotate_left
                    · exact fun Ex Xx Ix Rx hp => hp.2.2.2.elim
                    intro rv Xx I258 Rx hp
                    obtain ⟨e1, e2, hp⟩ := hp
                    rw [e1, e2]
                    clear e1 e2
                    obtain ⟨e1, h⟩ := h rv I258 hp
                    rw [e1]
                    clear e1
                    change J 176 [] _ (0, 0) _ _ _
                    exact jy_join hS h rfl (jy_sub_s (jy_sub_s (jy_sub_s jy_sub_0)))
                · have h := h.2 hq
                  refine jy_aload_n hS rfl rfl ?_
                  obtain ⟨g261, h⟩ := h
                  obtain ⟨Q260, h⟩ := h
                  obtain ⟨g262, h⟩ := h
                  refine jy_callV hS rfl rfl rfl (Nat.le_of_ble_eq_true rfl) (Or.inl g157) g262 g261 ⟨by decide, by decide⟩ (Nat.le_of_ble_eq_true rfl) ?_ ?_
                  rotate_left
                  · exact fun Ex Xx Ix Rx hp => hp.2.2.2.elim
                  intro rv Xx I263 Rx hp
                  obtain ⟨e1, e2, hp⟩ := hp
                  rw [e1, e2]
                  clear e1 e2
                  obtain ⟨e1, h⟩ := h rv I263 hp
                  rw [e1]
                  clear e1
                  change J 166 [] _ (0, 0) _ _ _
                  exact jy_join hS h rfl (jy_sub_s (jy_sub_s (jy_sub_s jy_sub_0)))
              · have h := h.2 hq
                refine jy_aload_n hS rfl rfl ?_
                refine jy_iconst hS rfl ?_
                refine jy_aload_n hS rfl rfl ?_
                refine jy_iconst hS rfl ?_
                refine jy_bipush hS rfl (by decide) ?_
                obtain ⟨g266, h⟩ := h
                obtain ⟨Q265, h⟩ := h
                obtain ⟨g267, h⟩ := h
                refine jy_callV hS rfl rfl rfl (Nat.le_of_ble_eq_true rfl) (Or.inl g157) g267 g266 ⟨by decide, by decide⟩ (Nat.le_of_ble_eq_true rfl) ?_ ?_
                rotate_left
                · exact fun Ex Xx Ix Rx hp => hp.2.2.2.elim
                intro rv Xx I268 Rx hp
                obtain ⟨e1, e2, hp⟩ := hp
                rw [e1, e2]
                clear e1 e2
                obtain ⟨r269, e1, h⟩ := h rv I268 hp
                rw [e1]
                clear e1
                change J 152 [jy r269, jy 1, .ref q168] _ (0, 0) _ _ _
                obtain ⟨g270, h⟩ := h
                refine jy_iast hS rfl g172.1 (Nat.le_of_lt g172.2) g270 ?_
                intro I271 e9
                have h := h I271 e9
                clear e9
                refine jy_goto hS rfl ?_
                exact jy_join hS h rfl (jy_sub_s (jy_sub_s (jy_sub_s jy_sub_0)))
            · have h := h.2 hq
              refine jy_aload_n hS rfl rfl ?_
              refine jy_iconst hS rfl ?_
              refine jy_aload_n hS rfl rfl ?_
              refine jy_iconst hS rfl ?_
              refine jy_aload_n hS rfl rfl ?_
              obtain ⟨q272, h⟩ := h
              obtain ⟨g273, h⟩ := h
              refine jy_getR hS rfl (by decide) g157 g273 ?_
              refine jy_iconst hS rfl ?_
              obtain ⟨n274, h⟩ := h
              obtain ⟨g275, h⟩ := h
              obtain ⟨g276, h⟩ := h
              refine jy_iald hS rfl g275.1 (Nat.le_of_lt g275.2) g276 ?_
              refine jy_iconst hS rfl ?_
              refine jy_isub hS rfl ?_
              obtain ⟨g278, h⟩ := h
              obtain ⟨Q277, h⟩ := h
              obtain ⟨g279, h⟩ := h
              refine jy_callV hS rfl rfl rfl (Nat.le_of_ble_eq_true rfl) (Or.inl g157) g279 g278 ⟨by decide, by decide⟩ (Nat.le_of_ble_eq_true rfl) ?_ ?_
              rotate_left
              · exact fun Ex Xx Ix Rx hp => hp.2.2.2.elim
              intro rv Xx I280 Rx hp
              obtain ⟨e1, e2, hp⟩ := hp
              rw [e1, e2]
              clear e1 e2
              obtain ⟨r281, e1, h⟩ := h rv I280 hp
              rw [e1]
              clear e1
              change J 133 [jy r281, jy 1, .ref q168] _ (0, 0) _ _ _
              obtain ⟨g282, h⟩ := h
              refine jy_iast hS rfl g172.1 (Nat.le_of_lt g172.2) g282 ?_
              intro I283 e9
              have h := h I283 e9
              clear e9
              refine jy_goto hS rfl ?_
              exact jy_join hS h rfl (jy_sub_s (jy_sub_s (jy_sub_s jy_sub_0)))
        · have h := h.2 hq
          refine jy_aload_n hS rfl rfl ?_
          refine jy_iconst hS rfl ?_
          refine jy_aload_n hS rfl rfl ?_
          refine jy_iconst hS rfl ?_
          refine jy_bipush hS rfl (by decide) ?_
          obtain ⟨g285, h⟩ := h
          obtain ⟨Q284, h⟩ := h
          obtain ⟨g286, h⟩ := h
          refine jy_callV hS rfl rfl rfl (Nat.le_of_ble_eq_true rfl) (Or.inl g157) g286 g285 ⟨by decide, by decide⟩ (Nat.le_of_ble_eq_true rfl) ?_ ?_
          rotate_left
          · exact fun Ex Xx Ix Rx hp => hp.2.2.2.elim
          intro rv Xx I287 Rx hp
          obtain ⟨e1, e2, hp⟩ := hp
          rw [e1, e2]
          clear e1 e2
          obtain ⟨r288, e1, h⟩ := h rv I287 hp
          rw [e1]
          clear e1
          change J 103 [jy r288, jy 1, .ref q168] _ (0, 0) _ _ _
          obtain ⟨g289, h⟩ := h
          refine jy_iast hS rfl g172.1 (Nat.le_of_lt g172.2) g289 ?_
          intro I290 e9
          have h := h I290 e9
          clear e9
          refine jy_goto hS rfl ?_
          exact jy_join hS h rfl (jy_sub_s (jy_sub_s (jy_sub_s jy_sub_0)))
      · have h := h.2 hq
        refine jy_aload_n hS rfl rfl ?_
        refine jy_iconst hS rfl ?_
        refine jy_aload_n hS rfl rfl ?_
        refine jy_iconst hS rfl ?_
        refine jy_aload_n hS rfl rfl ?_
        obtain ⟨q291, h⟩ := h
        obtain ⟨g292, h⟩ := h
        refine jy_getR hS rfl (by decide) g157 g292 ?_
        refine jy_iconst hS rfl ?_
        obtain ⟨n293, h⟩ := h
        obtain ⟨g294, h⟩ := h
        obtain ⟨g295, h⟩ := h
        refine jy_iald hS rfl g294.1 (Nat.le_of_lt g294.2) g295 ?_
        refine jy_iconst hS rfl ?_
        refine jy_isub hS rfl ?_
        obtain ⟨g297, h⟩ := h
        obtain ⟨Q296, h⟩ := h
        obtain ⟨g298, h⟩ := h
        refine jy_callV hS rfl rfl rfl (Nat.le_of_ble_eq_true rfl) (Or.inl g157) g298 g297 ⟨by decide, by decide⟩ (Nat.le_of_ble_eq_true rfl) ?_ ?_
        rotate_left
        · exact fun Ex Xx Ix Rx hp => hp.2.2.2.elim
        intro rv Xx I299 Rx hp
        obtain ⟨e1, e2, hp⟩ := hp
        rw [e1, e2]
        clear e1 e2
        obtain ⟨r300, e1, h⟩ := h rv I299 hp
        rw [e1]
        clear e1
        change J 85 [jy r300, jy 1, .ref q168] _ (0, 0) _ _ _
        obtain ⟨g301, h⟩ := h
        refine jy_iast hS rfl g172.1 (Nat.le_of_lt g172.2) g301 ?_
        intro I302 e9
        have h := h I302 e9
        clear e9
        refine jy_goto hS rfl ?_
        exact jy_join hS h rfl (jy_sub_s (jy_sub_s (jy_sub_s jy_sub_0)))
    · have h := h.2 hq
      exact jy_ret hS rfl rfl ⟨rfl, rfl, h⟩
  · intro l1 l2 I h
    unfold wz_302_166 at h
    refine jy_iload_n hS rfl rfl ?_
    refine jy_bipush hS rfl (by decide) ?_
    obtain ⟨g303, h⟩ := h
    refine jy_icmp_le hS rfl ⟨g303, ⟨by decide, by decide⟩⟩ (fun hq => ?_) (fun hq => ?_)
    · have h := h.1 hq
      refine jy_aload_n hS rfl rfl ?_
      refine jy_iconst hS rfl ?_
      refine jy_aload_n hS rfl rfl ?_
      obtain ⟨g304, h⟩ := h
      refine jy_getI hS rfl (by decide) g304 ?_
      obtain ⟨n305, h⟩ := h
      obtain ⟨g306, h⟩ := h
      obtain ⟨g307, h⟩ := h
      refine jy_iast hS rfl g306.1 (Nat.le_of_lt g306.2) g307 ?_
      intro I308 e9
      have h := h I308 e9
      clear e9
      refine jy_iload_n hS rfl rfl ?_
      refine jy_bipush hS rfl (by decide) ?_
      refine jy_icmp_ne hS rfl ⟨g303, ⟨by decide, by decide⟩⟩ (fun hq => ?_) (fun hq => ?_)
      · have h := h.1 hq
        refine jy_aload_n hS rfl rfl ?_
        refine jy_iconst hS rfl ?_
        refine jy_aload_n hS rfl rfl ?_
        refine jy_getI hS rfl (by decide) g304 ?_
        obtain ⟨g309, h⟩ := h
        refine jy_iast hS rfl g306.1 (Nat.le_of_lt g306.2) g309 ?_
        intro I310 e9
        have h := h I310 e9
        clear e9
        refine jy_aload_n hS rfl rfl ?_
        refine jy_bipush hS rfl (by decide) ?_
        obtain ⟨g312, h⟩ := h
        obtain ⟨Q311, h⟩ := h
        obtain ⟨g313, h⟩ := h
        refine jy_callV hS rfl rfl rfl (Nat.le_of_ble_eq_true rfl) (Or.inl g304) g313 g312 ⟨by decide, by decide⟩ (Nat.le_of_ble_eq_true rfl) ?_ ?_
        rotate_left
        · exact fun Ex Xx Ix Rx hp => hp.2.2.2.elim
        intro rv Xx I314 Rx hp
        obtain ⟨e1, e2, hp⟩ := hp
        rw [e1, e2]
        clear e1 e2
        obtain ⟨e1, h⟩ := h rv I314 hp
        rw [e1]
        clear e1
        change J 222 [] _ (0, 0) _ _ _
        exact jy_ret hS rfl rfl ⟨rfl, rfl, h⟩
      · have h := h.2 hq
        refine jy_aload_n hS rfl rfl ?_
        refine jy_iconst hS rfl ?_
        refine jy_bipush hS rfl (by decide) ?_
        refine jy_bipush hS rfl (by decide) ?_
        refine jy_iconst hS rfl ?_
        refine jy_iconst hS rfl ?_
        refine jy_iconst hS rfl ?_
        refine jy_iconst hS rfl ?_
        obtain ⟨g317, h⟩ := h
        obtain ⟨Q316, h⟩ := h
        obtain ⟨g318, h⟩ := h
        refine jy_callV hS rfl rfl rfl (Nat.le_of_ble_eq_true rfl) (Or.inl g304) g318 g317 ⟨by decide, by decide⟩ (Nat.le_of_ble_eq_true rfl) ?_ ?_
        rotate_left
        · exact fun Ex Xx Ix Rx hp => hp.2.2.2.elim
        intro rv Xx I319 Rx hp
        obtain ⟨e1, e2, hp⟩ := hp
        rw [e1, e2]
        clear e1 e2
        obtain ⟨r320, e1, h⟩ := h rv I319 hp
        rw [e1]
        clear e1
        change J 202 [jy r320] _ (0, 0) _ _ _
        obtain ⟨g321, h⟩ := h
        refine jy_if_eq hS rfl g321 (fun hq => ?_) (fun hq => ?_)
        · have h := h.1 hq
          refine jy_aload_n hS rfl rfl ?_
          refine jy_iconst hS rfl ?_
          refine jy_aload_n hS rfl rfl ?_
          refine jy_getI hS rfl (by decide) g304 ?_
          obtain ⟨g322, h⟩ := h
          refine jy_iast hS rfl g306.1 (Nat.le_of_lt g306.2) g322 ?_
          intro I323 e9
          have h := h I323 e9
          clear e9
          refine jy_aload_n hS rfl rfl ?_
          refine jy_bipush hS rfl (by decide) ?_
          obtain ⟨g325, h⟩ := h
          obtain ⟨Q324, h⟩ := h
          obtain ⟨g326, h⟩ := h
          refine jy_callV hS rfl rfl rfl (Nat.le_of_ble_eq_true rfl) (Or.inl g304) g326 g325 ⟨by decide, by decide⟩ (Nat.le_of_ble_eq_true rfl) ?_ ?_
          rotate_left
          · exact fun Ex Xx Ix Rx hp => hp.2.2.2.elim
          intro rv Xx I327 Rx hp
          obtain ⟨e1, e2, hp⟩ := hp
          rw [e1, e2]
          clear e1 e2
          obtain ⟨e1, h⟩ := h rv I327 hp
          rw [e1]
          clear e1
          change J 222 [] _ (0, 0) _ _ _
          exact jy_ret hS rfl rfl ⟨rfl, rfl, h⟩
        · have h := h.2 hq
          refine jy_aload_n hS rfl rfl ?_
          obtain ⟨d330, g331, h⟩ := h
          obtain ⟨Q329, h⟩ := h
          obtain ⟨g332, h⟩ := h
          refine jy_callV hS rfl rfl rfl (Nat.le_of_ble_eq_true rfl) (Or.inl g304) g332 g331 ⟨by decide, by decide⟩ (Nat.le_of_ble_eq_true rfl) ?_ ?_
          rotate_left
          · exact fun Ex Xx Ix Rx hp => hp.2.2.2.elim
          intro rv Xx I333 Rx hp
          obtain ⟨e1, e2, hp⟩ := hp
          rw [e1, e2]
          clear e1 e2
          obtain ⟨e1, h⟩ := h rv I333 hp
          rw [e1]
          clear e1
          change J 209 [] _ (0, 0) _ _ _
          exact jy_join hS h rfl (jy_sub_s (jy_sub_n (jy_sub_s jy_sub_0)))
    · have h := h.2 hq
      refine jy_aload_n hS rfl rfl ?_
      obtain ⟨g335, h⟩ := h
      obtain ⟨d337, g338, h⟩ := h
      obtain ⟨Q336, h⟩ := h
      obtain ⟨g339, h⟩ := h
      refine jy_callV hS rfl rfl rfl (Nat.le_of_ble_eq_true rfl) (Or.inl g335) g339 g338 ⟨by decide, by decide⟩ (Nat.le_of_ble_eq_true rfl) ?_ ?_
      rotate_left
      · exact fun Ex Xx Ix Rx hp => hp.2.2.2.elim
      intro rv Xx I340 Rx hp
      obtain ⟨e1, e2, hp⟩ := hp
      rw [e1, e2]
      clear e1 e2
      obtain ⟨e1, h⟩ := h rv I340 hp
      rw [e1]
      clear e1
      change J 176 [] _ (0, 0) _ _ _
      exact jy_join hS h rfl (jy_sub_s (jy_sub_s (jy_sub_s jy_sub_0)))
  · intro l1 l2 I h
    unfold wz_302_176 at h
    refine jy_aload_n hS rfl rfl ?_
    refine jy_iconst hS rfl ?_
    refine jy_aload_n hS rfl rfl ?_
    obtain ⟨g342, h⟩ := h
    refine jy_getI hS rfl (by decide) g342 ?_
    obtain ⟨n343, h⟩ := h
    obtain ⟨g344, h⟩ := h
    obtain ⟨g345, h⟩ := h
    refine jy_iast hS rfl g344.1 (Nat.le_of_lt g344.2) g345 ?_
    intro I346 e9
    have h := h I346 e9
    clear e9
    refine jy_iload_n hS rfl rfl ?_
    refine jy_bipush hS rfl (by decide) ?_
    obtain ⟨g347, h⟩ := h
    refine jy_icmp_ne hS rfl ⟨g347, ⟨by decide, by decide⟩⟩ (fun hq => ?_) (fun hq => ?_)
    · have h := h.1 hq
      refine jy_aload_n hS rfl rfl ?_
      refine jy_iconst hS rfl ?_
      refine jy_aload_n hS rfl rfl ?_
      refine jy_getI hS rfl (by decide) g342 ?_
      obtain ⟨g348, h⟩ := h
      refine jy_iast hS rfl g344.1 (Nat.le_of_lt g344.2) g348 ?_
      intro I349 e9
      have h := h I349 e9
      clear e9
      refine jy_aload_n hS rfl rfl ?_
      refine jy_bipush hS rfl (by decide) ?_
      obtain ⟨g351, h⟩ := h
      obtain ⟨Q350, h⟩ := h
      obtain ⟨g352, h⟩ := h
      refine jy_callV hS rfl rfl rfl (Nat.le_of_ble_eq_true rfl) (Or.inl g342) g352 g351 ⟨by decide, by decide⟩ (Nat.le_of_ble_eq_true rfl) ?_ ?_
      rotate_left
      · exact fun Ex Xx Ix Rx hp => hp.2.2.2.elim
      intro rv Xx I353 Rx hp
      obtain ⟨e1, e2, hp⟩ := hp
      rw [e1, e2]
      clear e1 e2
      obtain ⟨e1, h⟩ := h rv I353 hp
      rw [e1]
      clear e1
      change J 222 [] _ (0, 0) _ _ _
      exact jy_ret hS rfl rfl ⟨rfl, rfl, h⟩
    · have h := h.2 hq
      refine jy_aload_n hS rfl rfl ?_
      refine jy_iconst hS rfl ?_
      refine jy_bipush hS rfl (by decide) ?_
      refine jy_bipush hS rfl (by decide) ?_
      refine jy_iconst hS rfl ?_
      refine jy_iconst hS rfl ?_
      refine jy_iconst hS rfl ?_
      refine jy_iconst hS rfl ?_
      obtain ⟨g356, h⟩ := h
      obtain ⟨Q355, h⟩ := h
      obtain ⟨g357, h⟩ := h
      refine jy_callV hS rfl rfl rfl (Nat.le_of_ble_eq_true rfl) (Or.inl g342) g357 g356 ⟨by decide, by decide⟩ (Nat.le_of_ble_eq_true rfl) ?_ ?_
      rotate_left
      · exact fun Ex Xx Ix Rx hp => hp.2.2.2.elim
      intro rv Xx I358 Rx hp
      obtain ⟨e1, e2, hp⟩ := hp
      rw [e1, e2]
      clear e1 e2
      obtain ⟨r359, e1, h⟩ := h rv I358 hp
      rw [e1]
      clear e1
      change J 202 [jy r359] _ (0, 0) _ _ _
      obtain ⟨g360, h⟩ := h
      refine jy_if_eq hS rfl g360 (fun hq => ?_) (fun hq => ?_)
      · have h := h.1 hq
        refine jy_aload_n hS rfl rfl ?_
        refine jy_iconst hS rfl ?_
        refine jy_aload_n hS rfl rfl ?_
        refine jy_getI hS rfl (by decide) g342 ?_
        obtain ⟨g361, h⟩ := h
        refine jy_iast hS rfl g344.1 (Nat.le_of_lt g344.2) g361 ?_
        intro I362 e9
        have h := h I362 e9
        clear e9
        refine jy_aload_n hS rfl rfl ?_
        refine jy_bipush hS rfl (by decide) ?_
        obtain ⟨g364, h⟩ := h
        obtain ⟨Q363, h⟩ := h
        obtain ⟨g365, h⟩ := h
        refine jy_callV hS rfl rfl rfl (Nat.le_of_ble_eq_true rfl) (Or.inl g342) g365 g364 ⟨by decide, by decide⟩ (Nat.le_of_ble_eq_true rfl) ?_ ?_
        rotate_left
        · exact fun Ex Xx Ix Rx hp => hp.2.2.2.elim
        intro rv Xx I366 Rx hp
        obtain ⟨e1, e2, hp⟩ := hp
        rw [e1, e2]
        clear e1 e2
        obtain ⟨e1, h⟩ := h rv I366 hp
        rw [e1]
        clear e1
        change J 222 [] _ (0, 0) _ _ _
        exact jy_ret hS rfl rfl ⟨rfl, rfl, h⟩
      · have h := h.2 hq
        refine jy_aload_n hS rfl rfl ?_
        obtain ⟨d369, g370, h⟩ := h
        obtain ⟨Q368, h⟩ := h
        obtain ⟨g371, h⟩ := h
        refine jy_callV hS rfl rfl rfl (Nat.le_of_ble_eq_true rfl) (Or.inl g342) g371 g370 ⟨by decide, by decide⟩ (Nat.le_of_ble_eq_true rfl) ?_ ?_
        rotate_left
        · exact fun Ex Xx Ix Rx hp => hp.2.2.2.elim
        intro rv Xx I372 Rx hp
        obtain ⟨e1, e2, hp⟩ := hp
        rw [e1, e2]
        clear e1 e2
        obtain ⟨e1, h⟩ := h rv I372 hp
        rw [e1]
        clear e1
        change J 209 [] _ (0, 0) _ _ _
        exact jy_join hS h rfl (jy_sub_s (jy_sub_n (jy_sub_s jy_sub_0)))
  · intro l2 I h
    unfold wz_302_209 at h
    refine jy_aload_n hS rfl rfl ?_
    refine jy_iconst hS rfl ?_
    refine jy_aload_n hS rfl rfl ?_
    obtain ⟨g374, h⟩ := h
    refine jy_getI hS rfl (by decide) g374 ?_
    obtain ⟨n375, h⟩ := h
    obtain ⟨g376, h⟩ := h
    obtain ⟨g377, h⟩ := h
    refine jy_iast hS rfl g376.1 (Nat.le_of_lt g376.2) g377 ?_
    intro I378 e9
    have h := h I378 e9
    clear e9
    refine jy_aload_n hS rfl rfl ?_
    refine jy_bipush hS rfl (by decide) ?_
    obtain ⟨g380, h⟩ := h
    obtain ⟨Q379, h⟩ := h
    obtain ⟨g381, h⟩ := h
    refine jy_callV hS rfl rfl rfl (Nat.le_of_ble_eq_true rfl) (Or.inl g374) g381 g380 ⟨by decide, by decide⟩ (Nat.le_of_ble_eq_true rfl) ?_ ?_
    rotate_left
    · exact fun Ex Xx Ix Rx hp => hp.2.2.2.elim
    intro rv Xx I382 Rx hp
    obtain ⟨e1, e2, hp⟩ := hp
    rw [e1, e2]
    clear e1 e2
    obtain ⟨e1, h⟩ := h rv I382 hp
    rw [e1]
    clear e1
    change J 222 [] _ (0, 0) _ _ _
    exact jy_ret hS rfl rfl ⟨rfl, rfl, h⟩
theorem jt_303 : jx_ml 303 = 1 ∧ jx_rt 303 = none ∧ jx_hz 303 = [] ∧ decide ((jx_nm 303).name = "<init>") = false ∧ jx_code 303 = jx_c303 := by decide +kernel
/-- GCModel.block, from 55 -/
def wz_303_55 (d : Nat) (V : jx_V) (X : jx_X) (R : jx_R) (Q : Option Value → jx_I → Prop) (QE : String → jx_I → Prop) (J55 : jx_I → Prop) (J87 : jx_I → Prop) (a0 : Nat)  (I : jx_I) : Prop :=
  (X.2.1 a0 = some (12, 0)) ∧ (
  ((I a0 5).toInt = 0 → (
    ∀ I31 : jx_I, I31 = jx_u I a0 25 (Int32.ofInt ((I a0 25).toInt + 1)) → (
    ∀ I32 : jx_I, I32 = jx_u I31 a0 4 (Int32.ofInt ((I31 a0 4).toInt + 1)) → (
    (2 < d) ∧ (
    ∃ Q33 : Option Value → jx_I → Prop, (
    (jc V 2 207 (0, 0) [.ref a0] X I32 R Q33 (fun _ _ => False)) ∧ (
    ∀ rv I36, Q33 rv I36 → rv = none ∧ (
    J87 I36))))))
  )) ∧ (¬ (I a0 5).toInt = 0 → (
    Q none I
  )))
/-- GCModel.block, from 87 -/
def wz_303_87 (d : Nat) (V : jx_V) (X : jx_X) (R : jx_R) (Q : Option Value → jx_I → Prop) (QE : String → jx_I → Prop) (J55 : jx_I → Prop) (J87 : jx_I → Prop) (a0 : Nat)  (I : jx_I) : Prop :=
  (X.2.1 a0 = some (12, 0)) ∧ (
  ((I a0 5).toInt ≠ 0 → (
    (3 < d) ∧ (
    ∃ Q39 : Option Value → jx_I → Prop, (
    (jc V 3 217 (0, 0) [.ref a0, jy 93] X I R Q39 (fun _ _ => False)) ∧ (
    ∀ rv I42, Q39 rv I42 → rv = none ∧ (
    ∀ I44 : jx_I, I44 = jx_u I42 a0 25 (Int32.ofInt ((I42 a0 25).toInt - 1)) → (
    Q none I44)))))
  )) ∧ ((I a0 5).toInt = 0 → (
    (1 < d) ∧ (
    ∃ Q45 : Option Value → jx_I → Prop, (
    (jc V 1 206 (0, 0) [.ref a0, jy ((I a0 4).toInt)] X I R Q45 (fun _ _ => False)) ∧ (
    ∀ rv I48, Q45 rv I48 → ∃ r49 : Int, rv = some (jy r49) ∧ (
    (-2147483648 ≤ r49 ∧ r49 < 2147483648) ∧ (
    (r49 = 93 → (
      (3 < d) ∧ (
      ∃ Q51 : Option Value → jx_I → Prop, (
      (jc V 3 217 (0, 0) [.ref a0, jy 93] X I48 R Q51 (fun _ _ => False)) ∧ (
      ∀ rv I54, Q51 rv I54 → rv = none ∧ (
      ∀ I56 : jx_I, I56 = jx_u I54 a0 25 (Int32.ofInt ((I54 a0 25).toInt - 1)) → (
      Q none I56)))))
    )) ∧ (¬ r49 = 93 → (
      ∃ d58 : Nat, d58 < d ∧ (
      ∃ Q57 : Option Value → jx_I → Prop, (
      (jc V d58 302 (0, 0) [.ref a0] X I48 R Q57 (fun _ _ => False)) ∧ (
      ∀ rv I61, Q57 rv I61 → rv = none ∧ (
      (2 < d) ∧ (
      ∃ Q63 : Option Value → jx_I → Prop, (
      (jc V 2 207 (0, 0) [.ref a0] X I61 R Q63 (fun _ _ => False)) ∧ (
      ∀ rv I66, Q63 rv I66 → rv = none ∧ (
      J87 I66))))))))
    )))))))
  )))
/-- GCModel.block -/
def wz_303 (d : Nat) (V : jx_V) (X : jx_X) (R : jx_R) (Q : Option Value → jx_I → Prop) (QE : String → jx_I → Prop) (J55 : jx_I → Prop) (J87 : jx_I → Prop) (a0 : Nat) (I : jx_I) : Prop :=
  (X.2.1 a0 = some (12, 0)) ∧ (
  ((I a0 5).toInt = 0 → (
    (2 < d) ∧ (
    ∃ Q2 : Option Value → jx_I → Prop, (
    (jc V 2 207 (0, 0) [.ref a0] X I R Q2 (fun _ _ => False)) ∧ (
    ∀ rv I5, Q2 rv I5 → rv = none ∧ (
    (1 < d) ∧ (
    ∃ Q7 : Option Value → jx_I → Prop, (
    (jc V 1 206 (0, 0) [.ref a0, jy ((I5 a0 4).toInt)] X I5 R Q7 (fun _ _ => False)) ∧ (
    ∀ rv I10, Q7 rv I10 → ∃ r11 : Int, rv = some (jy r11) ∧ (
    (-2147483648 ≤ r11 ∧ r11 < 2147483648) ∧ (
    (r11 = 91 → (
      ((I10 a0 25).toInt ≠ 6 → (
        ((I10 a0 5).toInt = 0 → (
          ∀ I13 : jx_I, I13 = jx_u I10 a0 25 (Int32.ofInt ((I10 a0 25).toInt + 1)) → (
          ∀ I14 : jx_I, I14 = jx_u I13 a0 4 (Int32.ofInt ((I13 a0 4).toInt + 1)) → (
          (2 < d) ∧ (
          ∃ Q15 : Option Value → jx_I → Prop, (
          (jc V 2 207 (0, 0) [.ref a0] X I14 R Q15 (fun _ _ => False)) ∧ (
          ∀ rv I18, Q15 rv I18 → rv = none ∧ (
          J87 I18))))))
        )) ∧ (¬ (I10 a0 5).toInt = 0 → (
          Q none I10
        ))
      )) ∧ ((I10 a0 25).toInt = 6 → (
        (1 < d) ∧ (
        ∃ Q20 : Option Value → jx_I → Prop, (
        (jc V 1 208 (0, 0) [.ref a0, jy 3, jy ((I10 a0 4).toInt)] X I10 R Q20 (fun _ _ => False)) ∧ (
        ∀ rv I23, Q20 rv I23 → rv = none ∧ (
        J55 I23))))
      ))
    )) ∧ (¬ r11 = 91 → (
      (1 < d) ∧ (
      ∃ Q25 : Option Value → jx_I → Prop, (
      (jc V 1 208 (0, 0) [.ref a0, jy 1, jy ((I10 a0 4).toInt)] X I10 R Q25 (fun _ _ => False)) ∧ (
      ∀ rv I28, Q25 rv I28 → rv = none ∧ (
      J55 I28))))
    )))))))))))
  )) ∧ (¬ (I a0 5).toInt = 0 → (
    Q none I
  )))
set_option maxRecDepth 20000 in
theorem wm_303 {V : jx_V} (hV : V.1.stackTraces = false) {d : Nat} {X : jx_X} {R : jx_R} {I : jx_I} {Q : Option Value → jx_I → Prop} {QE : String → jx_I → Prop} {a0 : Nat}  
    (h : ∀ (J55 : jx_I → Prop) (J87 : jx_I → Prop), ((∀  I, wz_303_55 d V X R Q QE J55 J87 a0  I → J55  I) ∧ (∀  I, wz_303_87 d V X R Q QE J55 J87 a0  I → J87  I)) → wz_303 d V X R Q QE J55 J87 a0 I) : jc V d 303 (0, 0) [.ref a0] X I R Q QE := by
  refine jy_met hV (by decide) (n := 1) (rt := none) (hh := []) (ini := false) (C := jx_c303) (L := [some (.ref a0)]) jt_303 (Nat.le_of_ble_eq_true rfl) rfl ?_
  intro J hS
  have h := h (fun  I => J 55 [] [some (.ref a0)] (0, 0) X I R) (fun  I => J 87 [] [some (.ref a0)] (0, 0) X I R) ?_
  · unfold wz_303 at h
    refine jy_aload_n hS rfl rfl ?_
    obtain ⟨g1, h⟩ := h
    refine jy_getI hS rfl (by decide) g1 ?_
    refine jy_if_eq hS rfl (jy_rng _) (fun hq => ?_) (fun hq => ?_)
    · have h := h.1 hq
      refine jy_aload_n hS rfl rfl ?_
      obtain ⟨g3, h⟩ := h
      obtain ⟨Q2, h⟩ := h
      obtain ⟨g4, h⟩ := h
      refine jy_callV hS rfl rfl rfl (Nat.le_of_ble_eq_true rfl) (Or.inl g1) g4 g3 ⟨by decide, by decide⟩ (Nat.le_of_ble_eq_true rfl) ?_ ?_
      rotate_left
      · exact fun Ex Xx Ix Rx hp => hp.2.2.2.elim
      intro rv Xx I5 Rx hp
      obtain ⟨e1, e2, hp⟩ := hp
      rw [e1, e2]
      clear e1 e2
      obtain ⟨e1, h⟩ := h rv I5 hp
      rw [e1]
      clear e1
      change J 12 [] _ (0, 0) _ _ _
      refine jy_aload_n hS rfl rfl ?_
      refine jy_aload_n hS rfl rfl ?_
      refine jy_getI hS rfl (by decide) g1 ?_
      obtain ⟨g8, h⟩ := h
      obtain ⟨Q7, h⟩ := h
      obtain ⟨g9, h⟩ := h
      refine jy_callV hS rfl rfl rfl (Nat.le_of_ble_eq_true rfl) (Or.inl g1) g9 g8 ⟨by decide, by decide⟩ (Nat.le_of_ble_eq_true rfl) ?_ ?_
      rotate_left
      · exact fun Ex Xx Ix Rx hp => hp.2.2.2.elim
      intro rv Xx I10 Rx hp
      obtain ⟨e1, e2, hp⟩ := hp
      rw [e1, e2]
      clear e1 e2
      obtain ⟨r11, e1, h⟩ := h rv I10 hp
      rw [e1]
      clear e1
      change J 20 [jy r11] _ (0, 0) _ _ _
      refine jy_bipush hS rfl (by decide) ?_
      obtain ⟨g12, h⟩ := h
      refine jy_icmp_eq hS rfl ⟨g12, ⟨by decide, by decide⟩⟩ (fun hq => ?_) (fun hq => ?_)
      · have h := h.1 hq
        refine jy_aload_n hS rfl rfl ?_
        refine jy_getI hS rfl (by decide) g1 ?_
        refine jy_bipush hS rfl (by decide) ?_
        refine jy_icmp_ne hS rfl ⟨(jy_rng _), ⟨by decide, by decide⟩⟩ (fun hq => ?_) (fun hq => ?_)
        · have h := h.1 hq
          refine jy_aload_n hS rfl rfl ?_
          refine jy_getI hS rfl (by decide) g1 ?_
          refine jy_if_eq hS rfl (jy_rng _) (fun hq => ?_) (fun hq => ?_)
          · have h := h.1 hq
            refine jy_aload_n hS rfl rfl ?_
            refine jy_dup hS rfl rfl ?_
            refine jy_getI hS rfl (by decide) g1 ?_
            refine jy_iconst hS rfl ?_
            refine jy_iadd hS rfl ?_
            refine jy_putI hS rfl (by decide) g1 ?_
            intro I13 e9
            have h := h I13 e9
            clear e9
            refine jy_aload_n hS rfl rfl ?_
            refine jy_dup hS rfl rfl ?_
            refine jy_getI hS rfl (by decide) g1 ?_
            refine jy_iconst hS rfl ?_
            refine jy_iadd hS rfl ?_
            refine jy_putI hS rfl (by decide) g1 ?_
            intro I14 e9
            have h := h I14 e9
            clear e9
            refine jy_aload_n hS rfl rfl ?_
            obtain ⟨g16, h⟩ := h
            obtain ⟨Q15, h⟩ := h
            obtain ⟨g17, h⟩ := h
            refine jy_callV hS rfl rfl rfl (Nat.le_of_ble_eq_true rfl) (Or.inl g1) g17 g16 ⟨by decide, by decide⟩ (Nat.le_of_ble_eq_true rfl) ?_ ?_
            rotate_left
            · exact fun Ex Xx Ix Rx hp => hp.2.2.2.elim
            intro rv Xx I18 Rx hp
            obtain ⟨e1, e2, hp⟩ := hp
            rw [e1, e2]
            clear e1 e2
            obtain ⟨e1, h⟩ := h rv I18 hp
            rw [e1]
            clear e1
            change J 87 [] _ (0, 0) _ _ _
            exact jy_join hS h rfl (jy_sub_s jy_sub_0)
          · have h := h.2 hq
            exact jy_ret hS rfl rfl ⟨rfl, rfl, h⟩
        · have h := h.2 hq
          refine jy_aload_n hS rfl rfl ?_
          refine jy_iconst hS rfl ?_
          refine jy_aload_n hS rfl rfl ?_
          refine jy_getI hS rfl (by decide) g1 ?_
          obtain ⟨g21, h⟩ := h
          obtain ⟨Q20, h⟩ := h
          obtain ⟨g22, h⟩ := h
          refine jy_callV hS rfl rfl rfl (Nat.le_of_ble_eq_true rfl) (Or.inl g1) g22 g21 ⟨by decide, by decide⟩ (Nat.le_of_ble_eq_true rfl) ?_ ?_
          rotate_left
          · exact fun Ex Xx Ix Rx hp => hp.2.2.2.elim
          intro rv Xx I23 Rx hp
          obtain ⟨e1, e2, hp⟩ := hp
          rw [e1, e2]
          clear e1 e2
          obtain ⟨e1, h⟩ := h rv I23 hp
          rw [e1]
          clear e1
          change J 55 [] _ (0, 0) _ _ _
          exact jy_join hS h rfl (jy_sub_s jy_sub_0)
      · have h := h.2 hq
        refine jy_aload_n hS rfl rfl ?_
        refine jy_iconst hS rfl ?_
        refine jy_aload_n hS rfl rfl ?_
        refine jy_getI hS rfl (by decide) g1 ?_
        obtain ⟨g26, h⟩ := h
        obtain ⟨Q25, h⟩ := h
        obtain ⟨g27, h⟩ := h
        refine jy_callV hS rfl rfl rfl (Nat.le_of_ble_eq_true rfl) (Or.inl g1) g27 g26 ⟨by decide, by decide⟩ (Nat.le_of_ble_eq_true rfl) ?_ ?_
        rotate_left
        · exact fun Ex Xx Ix Rx hp => hp.2.2.2.elim
        intro rv Xx I28 Rx hp
        obtain ⟨e1, e2, hp⟩ := hp
        rw [e1, e2]
        clear e1 e2
        obtain ⟨e1, h⟩ := h rv I28 hp
        rw [e1]
        clear e1
        change J 34 [] _ (0, 0) _ _ _
        refine jy_goto hS rfl ?_
        exact jy_join hS h rfl (jy_sub_s jy_sub_0)
    · have h := h.2 hq
      exact jy_ret hS rfl rfl ⟨rfl, rfl, h⟩
  refine ⟨?_, ?_⟩
  · intro  I h
    unfold wz_303_55 at h
    refine jy_aload_n hS rfl rfl ?_
    obtain ⟨g30, h⟩ := h
    refine jy_getI hS rfl (by decide) g30 ?_
    refine jy_if_eq hS rfl (jy_rng _) (fun hq => ?_) (fun hq => ?_)
    · have h := h.1 hq
      refine jy_aload_n hS rfl rfl ?_
      refine jy_dup hS rfl rfl ?_
      refine jy_getI hS rfl (by decide) g30 ?_
      refine jy_iconst hS rfl ?_
      refine jy_iadd hS rfl ?_
      refine jy_putI hS rfl (by decide) g30 ?_
      intro I31 e9
      have h := h I31 e9
      clear e9
      refine jy_aload_n hS rfl rfl ?_
      refine jy_dup hS rfl rfl ?_
      refine jy_getI hS rfl (by decide) g30 ?_
      refine jy_iconst hS rfl ?_
      refine jy_iadd hS rfl ?_
      refine jy_putI hS rfl (by decide) g30 ?_
      intro I32 e9
      have h := h I32 e9
      clear e9
      refine jy_aload_n hS rfl rfl ?_
      obtain ⟨g34, h⟩ := h
      obtain ⟨Q33, h⟩ := h
      obtain ⟨g35, h⟩ := h
      refine jy_callV hS rfl rfl rfl (Nat.le_of_ble_eq_true rfl) (Or.inl g30) g35 g34 ⟨by decide, by decide⟩ (Nat.le_of_ble_eq_true rfl) ?_ ?_
      rotate_left
      · exact fun Ex Xx Ix Rx hp => hp.2.2.2.elim
      intro rv Xx I36 Rx hp
      obtain ⟨e1, e2, hp⟩ := hp
      rw [e1, e2]
      clear e1 e2
      obtain ⟨e1, h⟩ := h rv I36 hp
      rw [e1]
      clear e1
      change J 87 [] _ (0, 0) _ _ _
      exact jy_join hS h rfl (jy_sub_s jy_sub_0)
    · have h := h.2 hq
      exact jy_ret hS rfl rfl ⟨rfl, rfl, h⟩
  · intro  I h
    unfold wz_303_87 at h
    refine jy_aload_n hS rfl rfl ?_
    obtain ⟨g38, h⟩ := h
    refine jy_getI hS rfl (by decide) g38 ?_
    refine jy_if_ne hS rfl (jy_rng _) (fun hq => ?_) (fun hq => ?_)
    · have h := h.1 hq
      refine jy_aload_n hS rfl rfl ?_
      refine jy_bipush hS rfl (by decide) ?_
      obtain ⟨g40, h⟩ := h
      obtain ⟨Q39, h⟩ := h
      obtain ⟨g41, h⟩ := h
      refine jy_callV hS rfl rfl rfl (Nat.le_of_ble_eq_true rfl) (Or.inl g38) g41 g40 ⟨by decide, by decide⟩ (Nat.le_of_ble_eq_true rfl) ?_ ?_
      rotate_left
      · exact fun Ex Xx Ix Rx hp => hp.2.2.2.elim
      intro rv Xx I42 Rx hp
      obtain ⟨e1, e2, hp⟩ := hp
      rw [e1, e2]
      clear e1 e2
      obtain ⟨e1, h⟩ := h rv I42 hp
      rw [e1]
      clear e1
      change J 124 [] _ (0, 0) _ _ _
      refine jy_aload_n hS rfl rfl ?_
      refine jy_dup hS rfl rfl ?_
      refine jy_getI hS rfl (by decide) g38 ?_
      refine jy_iconst hS rfl ?_
      refine jy_isub hS rfl ?_
      refine jy_putI hS rfl (by decide) g38 ?_
      intro I44 e9
      have h := h I44 e9
      clear e9
      exact jy_ret hS rfl rfl ⟨rfl, rfl, h⟩
    · have h := h.2 hq
      refine jy_aload_n hS rfl rfl ?_
      refine jy_aload_n hS rfl rfl ?_
      refine jy_getI hS rfl (by decide) g38 ?_
      obtain ⟨g46, h⟩ := h
      obtain ⟨Q45, h⟩ := h
      obtain ⟨g47, h⟩ := h
      refine jy_callV hS rfl rfl rfl (Nat.le_of_ble_eq_true rfl) (Or.inl g38) g47 g46 ⟨by decide, by decide⟩ (Nat.le_of_ble_eq_true rfl) ?_ ?_
      rotate_left
      · exact fun Ex Xx Ix Rx hp => hp.2.2.2.elim
      intro rv Xx I48 Rx hp
      obtain ⟨e1, e2, hp⟩ := hp
      rw [e1, e2]
      clear e1 e2
      obtain ⟨r49, e1, h⟩ := h rv I48 hp
      rw [e1]
      clear e1
      change J 102 [jy r49] _ (0, 0) _ _ _
      refine jy_bipush hS rfl (by decide) ?_
      obtain ⟨g50, h⟩ := h
      refine jy_icmp_eq hS rfl ⟨g50, ⟨by decide, by decide⟩⟩ (fun hq => ?_) (fun hq => ?_)
      · have h := h.1 hq
        refine jy_aload_n hS rfl rfl ?_
        refine jy_bipush hS rfl (by decide) ?_
        obtain ⟨g52, h⟩ := h
        obtain ⟨Q51, h⟩ := h
        obtain ⟨g53, h⟩ := h
        refine jy_callV hS rfl rfl rfl (Nat.le_of_ble_eq_true rfl) (Or.inl g38) g53 g52 ⟨by decide, by decide⟩ (Nat.le_of_ble_eq_true rfl) ?_ ?_
        rotate_left
        · exact fun Ex Xx Ix Rx hp => hp.2.2.2.elim
        intro rv Xx I54 Rx hp
        obtain ⟨e1, e2, hp⟩ := hp
        rw [e1, e2]
        clear e1 e2
        obtain ⟨e1, h⟩ := h rv I54 hp
        rw [e1]
        clear e1
        change J 124 [] _ (0, 0) _ _ _
        refine jy_aload_n hS rfl rfl ?_
        refine jy_dup hS rfl rfl ?_
        refine jy_getI hS rfl (by decide) g38 ?_
        refine jy_iconst hS rfl ?_
        refine jy_isub hS rfl ?_
        refine jy_putI hS rfl (by decide) g38 ?_
        intro I56 e9
        have h := h I56 e9
        clear e9
        exact jy_ret hS rfl rfl ⟨rfl, rfl, h⟩
      · have h := h.2 hq
        refine jy_aload_n hS rfl rfl ?_
        obtain ⟨d58, g59, h⟩ := h
        obtain ⟨Q57, h⟩ := h
        obtain ⟨g60, h⟩ := h
        refine jy_callV hS rfl rfl rfl (Nat.le_of_ble_eq_true rfl) (Or.inl g38) g60 g59 ⟨by decide, by decide⟩ (Nat.le_of_ble_eq_true rfl) ?_ ?_
        rotate_left
        · exact fun Ex Xx Ix Rx hp => hp.2.2.2.elim
        intro rv Xx I61 Rx hp
        obtain ⟨e1, e2, hp⟩ := hp
        rw [e1, e2]
        clear e1 e2
        obtain ⟨e1, h⟩ := h rv I61 hp
        rw [e1]
        clear e1
        change J 111 [] _ (0, 0) _ _ _
        refine jy_aload_n hS rfl rfl ?_
        obtain ⟨g64, h⟩ := h
        obtain ⟨Q63, h⟩ := h
        obtain ⟨g65, h⟩ := h
        refine jy_callV hS rfl rfl rfl (Nat.le_of_ble_eq_true rfl) (Or.inl g38) g65 g64 ⟨by decide, by decide⟩ (Nat.le_of_ble_eq_true rfl) ?_ ?_
        rotate_left
        · exact fun Ex Xx Ix Rx hp => hp.2.2.2.elim
        intro rv Xx I66 Rx hp
        obtain ⟨e1, e2, hp⟩ := hp
        rw [e1, e2]
        clear e1 e2
        obtain ⟨e1, h⟩ := h rv I66 hp
        rw [e1]
        clear e1
        change J 115 [] _ (0, 0) _ _ _
        refine jy_goto hS rfl ?_
        exact jy_join hS h rfl (jy_sub_s jy_sub_0)
theorem jt_304 : jx_ml 304 = 2 ∧ jx_rt 304 = none ∧ jx_hz 304 = [] ∧ decide ((jx_nm 304).name = "<init>") = false ∧ jx_code 304 = jx_c304 := by decide +kernel
/-- GCModel.readsTest, from 73 -/
def wz_304_73 (V : jx_V) (X : jx_X) (R : jx_R) (Q : Option Value → jx_I → Prop) (QE : String → jx_I → Prop) (J73 : Nat → Int → Int → Nat → jx_I → Prop) (J90 : Nat → jx_I → Prop) (a0 : Nat) (s0 : Nat) (s1 : Int) (s2 : Int) (l1 : Nat) (I : jx_I) : Prop :=
  ∃ n33 : Nat, (
  (X.2.1 s0 = some (100, n33) ∧ n33 < 2147483648) ∧ (
  (0 ≤ s1 ∧ s1 < n33) ∧ (
  ∀ I36 : jx_I, I36 = jx_u I s0 s1.toNat (Int32.ofInt s2) → (
  ∃ n37 : Nat, (
  (X.2.1 l1 = some (100, n37) ∧ n37 < 2147483648) ∧ (
  (0 ≤ (1 : Int) ∧ (1 : Int) < n37) ∧ (
  ((I36 l1 (1 : Int).toNat).toInt ≠ (-1) → (
    (X.2.1 a0 = some (12, 0)) ∧ (
    (0 ≤ (2 : Int) ∧ (2 : Int) < n37) ∧ (
    ∀ I42 : jx_I, I42 = jx_u I36 l1 (2 : Int).toNat (Int32.ofInt ((I36 a0 59).toInt)) → (
    ∃ Q43 : Option Value → jx_I → Prop, (
    (jc V 7 305 (0, 0) [.ref a0] X I42 R Q43 (fun _ _ => False)) ∧ (
    ∀ rv I45, Q43 rv I45 → rv = none ∧ (
    (0 ≤ (3 : Int) ∧ (3 : Int) < n37) ∧ (
    ∀ I48 : jx_I, I48 = jx_u I45 l1 (3 : Int).toNat (Int32.ofInt ((I45 a0 59).toInt)) → (
    Q none I48))))))))
  )) ∧ ((I36 l1 (1 : Int).toNat).toInt = (-1) → (
    (X.2.1 a0 = some (12, 0)) ∧ (
    ∃ Q50 : Option Value → jx_I → Prop, (
    (jc V 1 208 (0, 0) [.ref a0, jy 1, jy ((I36 a0 4).toInt)] X I36 R Q50 (fun _ _ => False)) ∧ (
    ∀ rv I52, Q50 rv I52 → rv = none ∧ (
    J90 l1 I52))))
  )))))))))
/-- GCModel.readsTest, from 90 -/
def wz_304_90 (V : jx_V) (X : jx_X) (R : jx_R) (Q : Option Value → jx_I → Prop) (QE : String → jx_I → Prop) (J73 : Nat → Int → Int → Nat → jx_I → Prop) (J90 : Nat → jx_I → Prop) (a0 : Nat) (l1 : Nat) (I : jx_I) : Prop :=
  (X.2.1 a0 = some (12, 0)) ∧ (
  ∃ n55 : Nat, (
  (X.2.1 l1 = some (100, n55) ∧ n55 < 2147483648) ∧ (
  (0 ≤ (2 : Int) ∧ (2 : Int) < n55) ∧ (
  ∀ I58 : jx_I, I58 = jx_u I l1 (2 : Int).toNat (Int32.ofInt ((I a0 59).toInt)) → (
  ∃ Q59 : Option Value → jx_I → Prop, (
  (jc V 7 305 (0, 0) [.ref a0] X I58 R Q59 (fun _ _ => False)) ∧ (
  ∀ rv I61, Q59 rv I61 → rv = none ∧ (
  (0 ≤ (3 : Int) ∧ (3 : Int) < n55) ∧ (
  ∀ I64 : jx_I, I64 = jx_u I61 l1 (3 : Int).toNat (Int32.ofInt ((I61 a0 59).toInt)) → (
  Q none I64))))))))))
/-- GCModel.readsTest -/
def wz_304 (V : jx_V) (X : jx_X) (R : jx_R) (Q : Option Value → jx_I → Prop) (QE : String → jx_I → Prop) (J73 : Nat → Int → Int → Nat → jx_I → Prop) (J90 : Nat → jx_I → Prop) (a0 : Nat) (I : jx_I) : Prop :=
  (X.2.1 a0 = some (12, 0)) ∧ (
  ∃ q2 : Nat, (
  (R a0 63 = some q2) ∧ (
  ∃ n4 : Nat, (
  (X.2.1 q2 = some (104, n4) ∧ n4 < 2147483648) ∧ (
  (0 ≤ (I a0 58).toInt ∧ (I a0 58).toInt < n4) ∧ (
  ∃ q7 : Nat, (
  (R q2 ((I a0 58).toInt).toNat = some q7) ∧ (
  ∀ I9 : jx_I, I9 = jx_u I a0 58 (Int32.ofInt ((I a0 58).toInt + 1)) → (
  ∃ n10 : Nat, (
  (X.2.1 q7 = some (100, n10) ∧ n10 < 2147483648) ∧ (
  (0 ≤ (0 : Int) ∧ (0 : Int) < n10) ∧ (
  ∀ I13 : jx_I, I13 = jx_u I9 q7 (0 : Int).toNat (Int32.ofInt ((I9 a0 59).toInt)) → (
  ∃ Q14 : Option Value → jx_I → Prop, (
  (jc V 7 305 (0, 0) [.ref a0] X I13 R Q14 (fun _ _ => False)) ∧ (
  ∀ rv I16, Q14 rv I16 → rv = none ∧ (
  ∃ Q18 : Option Value → jx_I → Prop, (
  (jc V 3 218 (0, 0) [.ref a0, jy 60] X I16 R Q18 (fun _ _ => False)) ∧ (
  ∀ rv I20, Q18 rv I20 → ∃ r21 : Int, rv = some (jy r21) ∧ (
  (-2147483648 ≤ r21 ∧ r21 < 2147483648) ∧ (
  (r21 = 0 → (
    ∃ Q23 : Option Value → jx_I → Prop, (
    (jc V 3 218 (0, 0) [.ref a0, jy 62] X I20 R Q23 (fun _ _ => False)) ∧ (
    ∀ rv I25, Q23 rv I25 → ∃ r26 : Int, rv = some (jy r26) ∧ (
    (-2147483648 ≤ r26 ∧ r26 < 2147483648) ∧ (
    (r26 = 0 → (
      ∃ Q28 : Option Value → jx_I → Prop, (
      (jc V 3 218 (0, 0) [.ref a0, jy 61] X I25 R Q28 (fun _ _ => False)) ∧ (
      ∀ rv I30, Q28 rv I30 → ∃ r31 : Int, rv = some (jy r31) ∧ (
      (-2147483648 ≤ r31 ∧ r31 < 2147483648) ∧ (
      (r31 = 0 → (
        J73 q7 1 (-1) q7 I30
      )) ∧ (¬ r31 = 0 → (
        J73 q7 1 2 q7 I30
      ))))))
    )) ∧ (¬ r26 = 0 → (
      J73 q7 1 1 q7 I25
    ))))))
  )) ∧ (¬ r21 = 0 → (
    J73 q7 1 0 q7 I20
  ))))))))))))))))))))))
set_option maxRecDepth 20000 in
theorem wm_304 {V : jx_V} (hV : V.1.stackTraces = false) {X : jx_X} {R : jx_R} {I : jx_I} {Q : Option Value → jx_I → Prop} {QE : String → jx_I → Prop} {a0 : Nat}  
    (h : ∀ (J73 : Nat → Int → Int → Nat → jx_I → Prop) (J90 : Nat → jx_I → Prop), ((∀ (s0 : Nat) (s1 : Int) (s2 : Int) (l1 : Nat) I, wz_304_73 V X R Q QE J73 J90 a0 s0 s1 s2 l1 I → J73 s0 s1 s2 l1 I) ∧ (∀ (l1 : Nat) I, wz_304_90 V X R Q QE J73 J90 a0 l1 I → J90 l1 I)) → wz_304 V X R Q QE J73 J90 a0 I) : jc V 8 304 (0, 0) [.ref a0] X I R Q QE := by
  refine jy_met hV (by decide) (n := 2) (rt := none) (hh := []) (ini := false) (C := jx_c304) (L := [some (.ref a0), none]) jt_304 (Nat.le_of_ble_eq_true rfl) rfl ?_
  intro J hS
  have h := h (fun s0 s1 s2 l1 I => J 73 [jy s2, jy s1, .ref s0] [some (.ref a0), some (.ref l1)] (0, 0) X I R) (fun l1 I => J 90 [] [some (.ref a0), some (.ref l1)] (0, 0) X I R) ?_
  · unfold wz_304 at h
    refine jy_aload_n hS rfl rfl ?_
    obtain ⟨g1, h⟩ := h
    obtain ⟨q2, h⟩ := h
    obtain ⟨g3, h⟩ := h
    refine jy_getR hS rfl (by decide) g1 g3 ?_
    refine jy_aload_n hS rfl rfl ?_
    refine jy_getI hS rfl (by decide) g1 ?_
    obtain ⟨n4, h⟩ := h
    obtain ⟨g5, h⟩ := h
    obtain ⟨g6, h⟩ := h
    obtain ⟨q7, h⟩ := h
    obtain ⟨g8, h⟩ := h
    refine jy_aald hS rfl g5.1 (by decide) (Nat.le_of_lt g5.2) g6 g8 ?_
    refine jy_astore_n hS rfl (Nat.le_of_ble_eq_true rfl) (L' := [some (.ref a0), some (.ref q7)]) rfl ?_
    refine jy_aload_n hS rfl rfl ?_
    refine jy_dup hS rfl rfl ?_
    refine jy_getI hS rfl (by decide) g1 ?_
    refine jy_iconst hS rfl ?_
    refine jy_iadd hS rfl ?_
    refine jy_putI hS rfl (by decide) g1 ?_
    intro I9 e9
    have h := h I9 e9
    clear e9
    refine jy_aload_n hS rfl rfl ?_
    refine jy_iconst hS rfl ?_
    refine jy_aload_n hS rfl rfl ?_
    refine jy_getI hS rfl (by decide) g1 ?_
    obtain ⟨n10, h⟩ := h
    obtain ⟨g11, h⟩ := h
    obtain ⟨g12, h⟩ := h
    refine jy_iast hS rfl g11.1 (Nat.le_of_lt g11.2) g12 ?_
    intro I13 e9
    have h := h I13 e9
    clear e9
    refine jy_aload_n hS rfl rfl ?_
    obtain ⟨Q14, h⟩ := h
    obtain ⟨g15, h⟩ := h
    refine jy_callV hS rfl rfl rfl (Nat.le_of_ble_eq_true rfl) (Or.inl g1) g15 (by decide) ⟨by decide, by decide⟩ (Nat.le_of_ble_eq_true rfl) ?_ ?_
    rotate_left
    · exact fun Ex Xx Ix Rx hp => hp.2.2.2.elim
    intro rv Xx I16 Rx hp
    obtain ⟨e1, e2, hp⟩ := hp
    rw [e1, e2]
    clear e1 e2
    obtain ⟨e1, h⟩ := h rv I16 hp
    rw [e1]
    clear e1
    change J 31 [] _ (0, 0) _ _ _
    refine jy_aload_n hS rfl rfl ?_
    refine jy_iconst hS rfl ?_
    refine jy_aload_n hS rfl rfl ?_
    refine jy_bipush hS rfl (by decide) ?_
    obtain ⟨Q18, h⟩ := h
    obtain ⟨g19, h⟩ := h
    refine jy_callV hS rfl rfl rfl (Nat.le_of_ble_eq_true rfl) (Or.inl g1) g19 (by decide) ⟨by decide, by decide⟩ (Nat.le_of_ble_eq_true rfl) ?_ ?_
    rotate_left
    · exact fun Ex Xx Ix Rx hp => hp.2.2.2.elim
    intro rv Xx I20 Rx hp
    obtain ⟨e1, e2, hp⟩ := hp
    rw [e1, e2]
    clear e1 e2
    obtain ⟨r21, e1, h⟩ := h rv I20 hp
    rw [e1]
    clear e1
    change J 39 [jy r21, jy 1, .ref q7] _ (0, 0) _ _ _
    obtain ⟨g22, h⟩ := h
    refine jy_if_eq hS rfl g22 (fun hq => ?_) (fun hq => ?_)
    · have h := h.1 hq
      refine jy_aload_n hS rfl rfl ?_
      refine jy_bipush hS rfl (by decide) ?_
      obtain ⟨Q23, h⟩ := h
      obtain ⟨g24, h⟩ := h
      refine jy_callV hS rfl rfl rfl (Nat.le_of_ble_eq_true rfl) (Or.inl g1) g24 (by decide) ⟨by decide, by decide⟩ (Nat.le_of_ble_eq_true rfl) ?_ ?_
      rotate_left
      · exact fun Ex Xx Ix Rx hp => hp.2.2.2.elim
      intro rv Xx I25 Rx hp
      obtain ⟨e1, e2, hp⟩ := hp
      rw [e1, e2]
      clear e1 e2
      obtain ⟨r26, e1, h⟩ := h rv I25 hp
      rw [e1]
      clear e1
      change J 52 [jy r26, jy 1, .ref q7] _ (0, 0) _ _ _
      obtain ⟨g27, h⟩ := h
      refine jy_if_eq hS rfl g27 (fun hq => ?_) (fun hq => ?_)
      · have h := h.1 hq
        refine jy_aload_n hS rfl rfl ?_
        refine jy_bipush hS rfl (by decide) ?_
        obtain ⟨Q28, h⟩ := h
        obtain ⟨g29, h⟩ := h
        refine jy_callV hS rfl rfl rfl (Nat.le_of_ble_eq_true rfl) (Or.inl g1) g29 (by decide) ⟨by decide, by decide⟩ (Nat.le_of_ble_eq_true rfl) ?_ ?_
        rotate_left
        · exact fun Ex Xx Ix Rx hp => hp.2.2.2.elim
        intro rv Xx I30 Rx hp
        obtain ⟨e1, e2, hp⟩ := hp
        rw [e1, e2]
        clear e1 e2
        obtain ⟨r31, e1, h⟩ := h rv I30 hp
        rw [e1]
        clear e1
        change J 65 [jy r31, jy 1, .ref q7] _ (0, 0) _ _ _
        obtain ⟨g32, h⟩ := h
        refine jy_if_eq hS rfl g32 (fun hq => ?_) (fun hq => ?_)
        · have h := h.1 hq
          refine jy_iconst hS rfl ?_
          exact jy_join hS h rfl (jy_sub_s (jy_sub_s jy_sub_0))
        · have h := h.2 hq
          refine jy_iconst hS rfl ?_
          refine jy_goto hS rfl ?_
          exact jy_join hS h rfl (jy_sub_s (jy_sub_s jy_sub_0))
      · have h := h.2 hq
        refine jy_iconst hS rfl ?_
        refine jy_goto hS rfl ?_
        exact jy_join hS h rfl (jy_sub_s (jy_sub_s jy_sub_0))
    · have h := h.2 hq
      refine jy_iconst hS rfl ?_
      refine jy_goto hS rfl ?_
      exact jy_join hS h rfl (jy_sub_s (jy_sub_s jy_sub_0))
  refine ⟨?_, ?_⟩
  · intro s0 s1 s2 l1 I h
    unfold wz_304_73 at h
    obtain ⟨n33, h⟩ := h
    obtain ⟨g34, h⟩ := h
    obtain ⟨g35, h⟩ := h
    refine jy_iast hS rfl g34.1 (Nat.le_of_lt g34.2) g35 ?_
    intro I36 e9
    have h := h I36 e9
    clear e9
    refine jy_aload_n hS rfl rfl ?_
    refine jy_iconst hS rfl ?_
    obtain ⟨n37, h⟩ := h
    obtain ⟨g38, h⟩ := h
    obtain ⟨g39, h⟩ := h
    refine jy_iald hS rfl g38.1 (Nat.le_of_lt g38.2) g39 ?_
    refine jy_iconst hS rfl ?_
    refine jy_icmp_ne hS rfl ⟨(jy_rng _), ⟨by decide, by decide⟩⟩ (fun hq => ?_) (fun hq => ?_)
    · have h := h.1 hq
      refine jy_aload_n hS rfl rfl ?_
      refine jy_iconst hS rfl ?_
      refine jy_aload_n hS rfl rfl ?_
      obtain ⟨g40, h⟩ := h
      refine jy_getI hS rfl (by decide) g40 ?_
      obtain ⟨g41, h⟩ := h
      refine jy_iast hS rfl g38.1 (Nat.le_of_lt g38.2) g41 ?_
      intro I42 e9
      have h := h I42 e9
      clear e9
      refine jy_aload_n hS rfl rfl ?_
      obtain ⟨Q43, h⟩ := h
      obtain ⟨g44, h⟩ := h
      refine jy_callV hS rfl rfl rfl (Nat.le_of_ble_eq_true rfl) (Or.inl g40) g44 (by decide) ⟨by decide, by decide⟩ (Nat.le_of_ble_eq_true rfl) ?_ ?_
      rotate_left
      · exact fun Ex Xx Ix Rx hp => hp.2.2.2.elim
      intro rv Xx I45 Rx hp
      obtain ⟨e1, e2, hp⟩ := hp
      rw [e1, e2]
      clear e1 e2
      obtain ⟨e1, h⟩ := h rv I45 hp
      rw [e1]
      clear e1
      change J 101 [] _ (0, 0) _ _ _
      refine jy_aload_n hS rfl rfl ?_
      refine jy_iconst hS rfl ?_
      refine jy_aload_n hS rfl rfl ?_
      refine jy_getI hS rfl (by decide) g40 ?_
      obtain ⟨g47, h⟩ := h
      refine jy_iast hS rfl g38.1 (Nat.le_of_lt g38.2) g47 ?_
      intro I48 e9
      have h := h I48 e9
      clear e9
      exact jy_ret hS rfl rfl ⟨rfl, rfl, h⟩
    · have h := h.2 hq
      refine jy_aload_n hS rfl rfl ?_
      refine jy_iconst hS rfl ?_
      refine jy_aload_n hS rfl rfl ?_
      obtain ⟨g49, h⟩ := h
      refine jy_getI hS rfl (by decide) g49 ?_
      obtain ⟨Q50, h⟩ := h
      obtain ⟨g51, h⟩ := h
      refine jy_callV hS rfl rfl rfl (Nat.le_of_ble_eq_true rfl) (Or.inl g49) g51 (by decide) ⟨by decide, by decide⟩ (Nat.le_of_ble_eq_true rfl) ?_ ?_
      rotate_left
      · exact fun Ex Xx Ix Rx hp => hp.2.2.2.elim
      intro rv Xx I52 Rx hp
      obtain ⟨e1, e2, hp⟩ := hp
      rw [e1, e2]
      clear e1 e2
      obtain ⟨e1, h⟩ := h rv I52 hp
      rw [e1]
      clear e1
      change J 90 [] _ (0, 0) _ _ _
      exact jy_join hS h rfl (jy_sub_s (jy_sub_s jy_sub_0))
  · intro l1 I h
    unfold wz_304_90 at h
    refine jy_aload_n hS rfl rfl ?_
    refine jy_iconst hS rfl ?_
    refine jy_aload_n hS rfl rfl ?_
    obtain ⟨g54, h⟩ := h
    refine jy_getI hS rfl (by decide) g54 ?_
    obtain ⟨n55, h⟩ := h
    obtain ⟨g56, h⟩ := h
    obtain ⟨g57, h⟩ := h
    refine jy_iast hS rfl g56.1 (Nat.le_of_lt g56.2) g57 ?_
    intro I58 e9
    have h := h I58 e9
    clear e9
    refine jy_aload_n hS rfl rfl ?_
    obtain ⟨Q59, h⟩ := h
    obtain ⟨g60, h⟩ := h
    refine jy_callV hS rfl rfl rfl (Nat.le_of_ble_eq_true rfl) (Or.inl g54) g60 (by decide) ⟨by decide, by decide⟩ (Nat.le_of_ble_eq_true rfl) ?_ ?_
    rotate_left
    · exact fun Ex Xx Ix Rx hp => hp.2.2.2.elim
    intro rv Xx I61 Rx hp
    obtain ⟨e1, e2, hp⟩ := hp
    rw [e1, e2]
    clear e1 e2
    obtain ⟨e1, h⟩ := h rv I61 hp
    rw [e1]
    clear e1
    change J 101 [] _ (0, 0) _ _ _
    refine jy_aload_n hS rfl rfl ?_
    refine jy_iconst hS rfl ?_
    refine jy_aload_n hS rfl rfl ?_
    refine jy_getI hS rfl (by decide) g54 ?_
    obtain ⟨g63, h⟩ := h
    refine jy_iast hS rfl g56.1 (Nat.le_of_lt g56.2) g63 ?_
    intro I64 e9
    have h := h I64 e9
    clear e9
    exact jy_ret hS rfl rfl ⟨rfl, rfl, h⟩
theorem jt_305 : jx_ml 305 = 2 ∧ jx_rt 305 = none ∧ jx_hz 305 = [] ∧ decide ((jx_nm 305).name = "<init>") = false ∧ jx_code 305 = jx_c305 := by decide +kernel
/-- GCModel.values, from 2 -/
def wz_305_2 (V : jx_V) (X : jx_X) (R : jx_R) (Q : Option Value → jx_I → Prop) (QE : String → jx_I → Prop) (J2 : Int → jx_I → Prop) (J41 : Int → jx_I → Prop) (a0 : Nat) (l1 : Int) (I : jx_I) : Prop :=
  (X.2.1 a0 = some (12, 0)) ∧ (
  ((I a0 5).toInt ≠ 0 → (
    Q none I
  )) ∧ ((I a0 5).toInt = 0 → (
    ∃ Q2 : Option Value → jx_I → Prop, (
    (jc V 6 306 (0, 0) [.ref a0, jy l1] X I R Q2 (fun _ _ => False)) ∧ (
    ∀ rv I4, Q2 rv I4 → rv = none ∧ (
    ∃ Q6 : Option Value → jx_I → Prop, (
    (jc V 3 218 (0, 0) [.ref a0, jy 43] X I4 R Q6 (fun _ _ => False)) ∧ (
    ∀ rv I8, Q6 rv I8 → ∃ r9 : Int, rv = some (jy r9) ∧ (
    (-2147483648 ≤ r9 ∧ r9 < 2147483648) ∧ (
    (r9 = 0 → (
      ∃ Q11 : Option Value → jx_I → Prop, (
      (jc V 3 218 (0, 0) [.ref a0, jy 45] X I8 R Q11 (fun _ _ => False)) ∧ (
      ∀ rv I13, Q11 rv I13 → ∃ r14 : Int, rv = some (jy r14) ∧ (
      (-2147483648 ≤ r14 ∧ r14 < 2147483648) ∧ (
      (r14 = 0 → (
        J41 0 I13
      )) ∧ (¬ r14 = 0 → (
        J41 (-1) I13
      ))))))
    )) ∧ (¬ r9 = 0 → (
      J41 1 I8
    )))))))))
  )))
/-- GCModel.values, from 41 -/
def wz_305_41 (V : jx_V) (X : jx_X) (R : jx_R) (Q : Option Value → jx_I → Prop) (QE : String → jx_I → Prop) (J2 : Int → jx_I → Prop) (J41 : Int → jx_I → Prop) (a0 : Nat) (s0 : Int) (I : jx_I) : Prop :=
  (-2147483648 ≤ s0 ∧ s0 < 2147483648) ∧ (
  (s0 ≠ 0 → (
    (X.2.1 a0 = some (12, 0)) ∧ (
    ((I a0 5).toInt ≠ 0 → (
      Q none I
    )) ∧ ((I a0 5).toInt = 0 → (
      ∃ Q18 : Option Value → jx_I → Prop, (
      (jc V 6 306 (0, 0) [.ref a0, jy s0] X I R Q18 (fun _ _ => False)) ∧ (
      ∀ rv I20, Q18 rv I20 → rv = none ∧ (
      ∃ Q22 : Option Value → jx_I → Prop, (
      (jc V 3 218 (0, 0) [.ref a0, jy 43] X I20 R Q22 (fun _ _ => False)) ∧ (
      ∀ rv I24, Q22 rv I24 → ∃ r25 : Int, rv = some (jy r25) ∧ (
      (-2147483648 ≤ r25 ∧ r25 < 2147483648) ∧ (
      (r25 = 0 → (
        ∃ Q27 : Option Value → jx_I → Prop, (
        (jc V 3 218 (0, 0) [.ref a0, jy 45] X I24 R Q27 (fun _ _ => False)) ∧ (
        ∀ rv I29, Q27 rv I29 → ∃ r30 : Int, rv = some (jy r30) ∧ (
        (-2147483648 ≤ r30 ∧ r30 < 2147483648) ∧ (
        (r30 = 0 → (
          J41 0 I29
        )) ∧ (¬ r30 = 0 → (
          J41 (-1) I29
        ))))))
      )) ∧ (¬ r25 = 0 → (
        J41 1 I24
      )))))))))
    )))
  )) ∧ (s0 = 0 → (
    Q none I
  )))
/-- GCModel.values -/
def wz_305 (V : jx_V) (X : jx_X) (R : jx_R) (Q : Option Value → jx_I → Prop) (QE : String → jx_I → Prop) (J2 : Int → jx_I → Prop) (J41 : Int → jx_I → Prop) (a0 : Nat) (I : jx_I) : Prop :=
  J2 1 I
set_option maxRecDepth 20000 in
theorem wm_305 {V : jx_V} (hV : V.1.stackTraces = false) {X : jx_X} {R : jx_R} {I : jx_I} {Q : Option Value → jx_I → Prop} {QE : String → jx_I → Prop} {a0 : Nat}  
    (h : ∀ (J2 : Int → jx_I → Prop) (J41 : Int → jx_I → Prop), ((∀ (l1 : Int) I, wz_305_2 V X R Q QE J2 J41 a0 l1 I → J2 l1 I) ∧ (∀ (s0 : Int) I, wz_305_41 V X R Q QE J2 J41 a0 s0 I → J41 s0 I)) → wz_305 V X R Q QE J2 J41 a0 I) : jc V 7 305 (0, 0) [.ref a0] X I R Q QE := by
  refine jy_met hV (by decide) (n := 2) (rt := none) (hh := []) (ini := false) (C := jx_c305) (L := [some (.ref a0), none]) jt_305 (Nat.le_of_ble_eq_true rfl) rfl ?_
  intro J hS
  have h := h (fun l1 I => J 2 [] [some (.ref a0), some (jy l1)] (0, 0) X I R) (fun s0 I => J 41 [jy s0] [some (.ref a0), none] (0, 0) X I R) ?_
  · unfold wz_305 at h
    refine jy_iconst hS rfl ?_
    refine jy_istore_n hS rfl (Nat.le_of_ble_eq_true rfl) (L' := [some (.ref a0), some (jy 1)]) rfl ?_
    exact jy_join hS h rfl (jy_sub_s (jy_sub_s jy_sub_0))
  refine ⟨?_, ?_⟩
  · intro l1 I h
    unfold wz_305_2 at h
    refine jy_aload_n hS rfl rfl ?_
    obtain ⟨g1, h⟩ := h
    refine jy_getI hS rfl (by decide) g1 ?_
    refine jy_if_ne hS rfl (jy_rng _) (fun hq => ?_) (fun hq => ?_)
    · have h := h.1 hq
      exact jy_ret hS rfl rfl ⟨rfl, rfl, h⟩
    · have h := h.2 hq
      refine jy_aload_n hS rfl rfl ?_
      refine jy_iload_n hS rfl rfl ?_
      obtain ⟨Q2, h⟩ := h
      obtain ⟨g3, h⟩ := h
      refine jy_callV hS rfl rfl rfl (Nat.le_of_ble_eq_true rfl) (Or.inl g1) g3 (by decide) ⟨by decide, by decide⟩ (Nat.le_of_ble_eq_true rfl) ?_ ?_
      rotate_left
      · exact fun Ex Xx Ix Rx hp => hp.2.2.2.elim
      intro rv Xx I4 Rx hp
      obtain ⟨e1, e2, hp⟩ := hp
      rw [e1, e2]
      clear e1 e2
      obtain ⟨e1, h⟩ := h rv I4 hp
      rw [e1]
      clear e1
      change J 14 [] _ (0, 0) _ _ _
      refine jy_aload_n hS rfl rfl ?_
      refine jy_bipush hS rfl (by decide) ?_
      obtain ⟨Q6, h⟩ := h
      obtain ⟨g7, h⟩ := h
      refine jy_callV hS rfl rfl rfl (Nat.le_of_ble_eq_true rfl) (Or.inl g1) g7 (by decide) ⟨by decide, by decide⟩ (Nat.le_of_ble_eq_true rfl) ?_ ?_
      rotate_left
      · exact fun Ex Xx Ix Rx hp => hp.2.2.2.elim
      intro rv Xx I8 Rx hp
      obtain ⟨e1, e2, hp⟩ := hp
      rw [e1, e2]
      clear e1 e2
      obtain ⟨r9, e1, h⟩ := h rv I8 hp
      rw [e1]
      clear e1
      change J 20 [jy r9] _ (0, 0) _ _ _
      obtain ⟨g10, h⟩ := h
      refine jy_if_eq hS rfl g10 (fun hq => ?_) (fun hq => ?_)
      · have h := h.1 hq
        refine jy_aload_n hS rfl rfl ?_
        refine jy_bipush hS rfl (by decide) ?_
        obtain ⟨Q11, h⟩ := h
        obtain ⟨g12, h⟩ := h
        refine jy_callV hS rfl rfl rfl (Nat.le_of_ble_eq_true rfl) (Or.inl g1) g12 (by decide) ⟨by decide, by decide⟩ (Nat.le_of_ble_eq_true rfl) ?_ ?_
        rotate_left
        · exact fun Ex Xx Ix Rx hp => hp.2.2.2.elim
        intro rv Xx I13 Rx hp
        obtain ⟨e1, e2, hp⟩ := hp
        rw [e1, e2]
        clear e1 e2
        obtain ⟨r14, e1, h⟩ := h rv I13 hp
        rw [e1]
        clear e1
        change J 33 [jy r14] _ (0, 0) _ _ _
        obtain ⟨g15, h⟩ := h
        refine jy_if_eq hS rfl g15 (fun hq => ?_) (fun hq => ?_)
        · have h := h.1 hq
          refine jy_iconst hS rfl ?_
          exact jy_join hS h rfl (jy_sub_s (jy_sub_n jy_sub_0))
        · have h := h.2 hq
          refine jy_iconst hS rfl ?_
          refine jy_goto hS rfl ?_
          exact jy_join hS h rfl (jy_sub_s (jy_sub_n jy_sub_0))
      · have h := h.2 hq
        refine jy_iconst hS rfl ?_
        refine jy_goto hS rfl ?_
        exact jy_join hS h rfl (jy_sub_s (jy_sub_n jy_sub_0))
  · intro s0 I h
    unfold wz_305_41 at h
    refine jy_istore_n hS rfl (Nat.le_of_ble_eq_true rfl) (L' := [some (.ref a0), some (jy s0)]) rfl ?_
    refine jy_iload_n hS rfl rfl ?_
    obtain ⟨g16, h⟩ := h
    refine jy_if_ne hS rfl g16 (fun hq => ?_) (fun hq => ?_)
    · have h := h.1 hq
      refine jy_aload_n hS rfl rfl ?_
      obtain ⟨g17, h⟩ := h
      refine jy_getI hS rfl (by decide) g17 ?_
      refine jy_if_ne hS rfl (jy_rng _) (fun hq => ?_) (fun hq => ?_)
      · have h := h.1 hq
        exact jy_ret hS rfl rfl ⟨rfl, rfl, h⟩
      · have h := h.2 hq
        refine jy_aload_n hS rfl rfl ?_
        refine jy_iload_n hS rfl rfl ?_
        obtain ⟨Q18, h⟩ := h
        obtain ⟨g19, h⟩ := h
        refine jy_callV hS rfl rfl rfl (Nat.le_of_ble_eq_true rfl) (Or.inl g17) g19 (by decide) ⟨by decide, by decide⟩ (Nat.le_of_ble_eq_true rfl) ?_ ?_
        rotate_left
        · exact fun Ex Xx Ix Rx hp => hp.2.2.2.elim
        intro rv Xx I20 Rx hp
        obtain ⟨e1, e2, hp⟩ := hp
        rw [e1, e2]
        clear e1 e2
        obtain ⟨e1, h⟩ := h rv I20 hp
        rw [e1]
        clear e1
        change J 14 [] _ (0, 0) _ _ _
        refine jy_aload_n hS rfl rfl ?_
        refine jy_bipush hS rfl (by decide) ?_
        obtain ⟨Q22, h⟩ := h
        obtain ⟨g23, h⟩ := h
        refine jy_callV hS rfl rfl rfl (Nat.le_of_ble_eq_true rfl) (Or.inl g17) g23 (by decide) ⟨by decide, by decide⟩ (Nat.le_of_ble_eq_true rfl) ?_ ?_
        rotate_left
        · exact fun Ex Xx Ix Rx hp => hp.2.2.2.elim
        intro rv Xx I24 Rx hp
        obtain ⟨e1, e2, hp⟩ := hp
        rw [e1, e2]
        clear e1 e2
        obtain ⟨r25, e1, h⟩ := h rv I24 hp
        rw [e1]
        clear e1
        change J 20 [jy r25] _ (0, 0) _ _ _
        obtain ⟨g26, h⟩ := h
        refine jy_if_eq hS rfl g26 (fun hq => ?_) (fun hq => ?_)
        · have h := h.1 hq
          refine jy_aload_n hS rfl rfl ?_
          refine jy_bipush hS rfl (by decide) ?_
          obtain ⟨Q27, h⟩ := h
          obtain ⟨g28, h⟩ := h
          refine jy_callV hS rfl rfl rfl (Nat.le_of_ble_eq_true rfl) (Or.inl g17) g28 (by decide) ⟨by decide, by decide⟩ (Nat.le_of_ble_eq_true rfl) ?_ ?_
          rotate_left
          · exact fun Ex Xx Ix Rx hp => hp.2.2.2.elim
          intro rv Xx I29 Rx hp
          obtain ⟨e1, e2, hp⟩ := hp
          rw [e1, e2]
          clear e1 e2
          obtain ⟨r30, e1, h⟩ := h rv I29 hp
          rw [e1]
          clear e1
          change J 33 [jy r30] _ (0, 0) _ _ _
          obtain ⟨g31, h⟩ := h
          refine jy_if_eq hS rfl g31 (fun hq => ?_) (fun hq => ?_)
          · have h := h.1 hq
            refine jy_iconst hS rfl ?_
            exact jy_join hS h rfl (jy_sub_s (jy_sub_n jy_sub_0))
          · have h := h.2 hq
            refine jy_iconst hS rfl ?_
            refine jy_goto hS rfl ?_
            exact jy_join hS h rfl (jy_sub_s (jy_sub_n jy_sub_0))
        · have h := h.2 hq
          refine jy_iconst hS rfl ?_
          refine jy_goto hS rfl ?_
          exact jy_join hS h rfl (jy_sub_s (jy_sub_n jy_sub_0))
    · have h := h.2 hq
      exact jy_ret hS rfl rfl ⟨rfl, rfl, h⟩
