theorem jt_315 : jx_ml 315 = 6 ∧ jx_rt 315 = none ∧ jx_hz 315 = [] ∧ decide ((jx_nm 315).name = "<init>") = false ∧ jx_code 315 = jx_c315 := by decide +kernel
/-- GCModel.runs, from 2 -/
def wz_315_2 (d : Nat) (V : jx_V) (X : jx_X) (R : jx_R) (Q : Option Value → jx_I → Prop) (QE : String → jx_I → Prop) (J2 : Int → jx_I → Prop) (J31 : Int → Nat → jx_I → Prop) (J213 : Int → Nat → Int → jx_I → Prop) (J286 : Int → jx_I → Prop) (a0 : Nat) (a1 : Int) (a2 : Int) (l3 : Int) (I : jx_I) : Prop :=
  (-2147483648 ≤ l3 ∧ l3 < 2147483648) ∧ (
  (a2 ≤ l3 → (
    Q none I
  )) ∧ (¬ a2 ≤ l3 → (
    (X.2.1 a0 = some (12, 0)) ∧ (
    ((I a0 70).toInt ≠ 0 → (
      Q none I
    )) ∧ ((I a0 70).toInt = 0 → (
      ∃ q3 : Nat, (
      (R a0 60 = some q3) ∧ (
      ∃ n5 : Nat, (
      (X.2.1 q3 = some (104, n5) ∧ n5 < 2147483648) ∧ (
      (0 ≤ l3 ∧ l3 < n5) ∧ (
      ∃ q8 : Nat, (
      (R q3 l3.toNat = some q8) ∧ (
      ∃ n10 : Nat, (
      (X.2.1 q8 = some (100, n10) ∧ n10 < 2147483648) ∧ (
      (0 ≤ (0 : Int) ∧ (0 : Int) < n10) ∧ (
      ((I q8 (0 : Int).toNat).toInt ≠ 8 → (
        (1 < d) ∧ (
        ∃ Q13 : Option Value → jx_I → Prop, (
        (jc V 1 308 (0, 0) [.ref a0] X I R Q13 (fun _ _ => False)) ∧ (
        ∀ rv I16, Q13 rv I16 → ∃ r17 : Int, rv = some (jy r17) ∧ (
        (-2147483648 ≤ r17 ∧ r17 < 2147483648) ∧ (
        (r17 ≠ 0 → (
          (0 ≤ (0 : Int) ∧ (0 : Int) < n10) ∧ (
          ((I16 q8 (0 : Int).toNat).toInt ≠ 0 → (
            (0 ≤ (0 : Int) ∧ (0 : Int) < n10) ∧ (
            ((I16 q8 (0 : Int).toNat).toInt ≠ 1 → (
              (0 ≤ (0 : Int) ∧ (0 : Int) < n10) ∧ (
              ((I16 q8 (0 : Int).toNat).toInt ≠ 2 → (
                (0 ≤ (0 : Int) ∧ (0 : Int) < n10) ∧ (
                ((I16 q8 (0 : Int).toNat).toInt ≠ 3 → (
                  (0 ≤ (0 : Int) ∧ (0 : Int) < n10) ∧ (
                  ((I16 q8 (0 : Int).toNat).toInt ≠ 4 → (
                    (0 ≤ (0 : Int) ∧ (0 : Int) < n10) ∧ (
                    ((I16 q8 (0 : Int).toNat).toInt ≠ 5 → (
                      (0 ≤ (0 : Int) ∧ (0 : Int) < n10) ∧ (
                      ((I16 q8 (0 : Int).toNat).toInt ≠ 6 → (
                        (0 ≤ (0 : Int) ∧ (0 : Int) < n10) ∧ (
                        ((I16 q8 (0 : Int).toNat).toInt ≠ 7 → (
                          (0 ≤ (2 : Int) ∧ (2 : Int) < n10) ∧ (
                          (5 < d) ∧ (
                          ∃ Q28 : Option Value → jx_I → Prop, (
                          (jc V 5 310 (0, 0) [.ref a0, jy ((I16 q8 (2 : Int).toNat).toInt)] X I16 R Q28 (fun _ _ => False)) ∧ (
                          ∀ rv I31, Q28 rv I31 → ∃ r32 : Int, rv = some (jy r32) ∧ (
                          (-2147483648 ≤ r32 ∧ r32 < 2147483648) ∧ (
                          (r32 = 0 → (
                            (0 ≤ (3 : Int) ∧ (3 : Int) < n10) ∧ (
                            (0 ≤ (4 : Int) ∧ (4 : Int) < n10) ∧ (
                            ∃ d37 : Nat, d37 < d ∧ (
                            ∃ Q36 : Option Value → jx_I → Prop, (
                            (jc V d37 315 (0, 0) [.ref a0, jy ((I31 q8 (3 : Int).toNat).toInt), jy ((I31 q8 (4 : Int).toNat).toInt)] X I31 R Q36 (fun _ _ => False)) ∧ (
                            ∀ rv I40, Q36 rv I40 → rv = none ∧ (
                            J286 l3 I40))))))
                          )) ∧ (¬ r32 = 0 → (
                            (0 ≤ (3 : Int) ∧ (3 : Int) < n10) ∧ (
                            ∃ d44 : Nat, d44 < d ∧ (
                            ∃ Q43 : Option Value → jx_I → Prop, (
                            (jc V d44 315 (0, 0) [.ref a0, jy (l3 + 1), jy ((I31 q8 (3 : Int).toNat).toInt)] X I31 R Q43 (fun _ _ => False)) ∧ (
                            ∀ rv I47, Q43 rv I47 → rv = none ∧ (
                            J286 l3 I47)))))
                          ))))))))
                        )) ∧ ((I16 q8 (0 : Int).toNat).toInt = 7 → (
                          J213 l3 q8 0 I16
                        )))
                      )) ∧ ((I16 q8 (0 : Int).toNat).toInt = 6 → (
                        (0 ≤ (1 : Int) ∧ (1 : Int) < n10) ∧ (
                        (2 < d) ∧ (
                        ∃ Q50 : Option Value → jx_I → Prop, (
                        (jc V 2 313 (0, 0) [.ref a0, jy ((I16 q8 (1 : Int).toNat).toInt)] X I16 R Q50 (fun _ _ => False)) ∧ (
                        ∀ rv I53, Q50 rv I53 → rv = none ∧ (
                        J286 l3 I53)))))
                      )))
                    )) ∧ ((I16 q8 (0 : Int).toNat).toInt = 5 → (
                      (0 ≤ (1 : Int) ∧ (1 : Int) < n10) ∧ (
                      (2 < d) ∧ (
                      ∃ Q56 : Option Value → jx_I → Prop, (
                      (jc V 2 312 (0, 0) [.ref a0, jy ((I16 q8 (1 : Int).toNat).toInt)] X I16 R Q56 (fun _ _ => False)) ∧ (
                      ∀ rv I59, Q56 rv I59 → rv = none ∧ (
                      J286 l3 I59)))))
                    )))
                  )) ∧ ((I16 q8 (0 : Int).toNat).toInt = 4 → (
                    (0 ≤ (1 : Int) ∧ (1 : Int) < n10) ∧ (
                    (1 < d) ∧ (
                    ∃ Q62 : Option Value → jx_I → Prop, (
                    (jc V 1 311 (0, 0) [.ref a0, jy ((I16 q8 (1 : Int).toNat).toInt)] X I16 R Q62 (fun _ _ => False)) ∧ (
                    ∀ rv I65, Q62 rv I65 → rv = none ∧ (
                    J286 l3 I65)))))
                  )))
                )) ∧ ((I16 q8 (0 : Int).toNat).toInt = 3 → (
                  (2 < d) ∧ (
                  ∃ Q67 : Option Value → jx_I → Prop, (
                  (jc V 2 254 (0, 0) [.ref a0] X I16 R Q67 (fun _ _ => False)) ∧ (
                  ∀ rv I70, Q67 rv I70 → rv = none ∧ (
                  J286 l3 I70))))
                )))
              )) ∧ ((I16 q8 (0 : Int).toNat).toInt = 2 → (
                (1 < d) ∧ (
                ∃ Q72 : Option Value → jx_I → Prop, (
                (jc V 1 253 (0, 0) [.ref a0] X I16 R Q72 (fun _ _ => False)) ∧ (
                ∀ rv I75, Q72 rv I75 → rv = none ∧ (
                J286 l3 I75))))
              )))
            )) ∧ ((I16 q8 (0 : Int).toNat).toInt = 1 → (
              (0 ≤ (1 : Int) ∧ (1 : Int) < n10) ∧ (
              ∀ I78 : jx_I, I78 = jx_u I16 a0 67 (Int32.ofInt ((I16 a0 67).toInt + (I16 q8 (1 : Int).toNat).toInt)) → (
              J286 l3 I78))
            )))
          )) ∧ ((I16 q8 (0 : Int).toNat).toInt = 0 → (
            (0 ≤ (1 : Int) ∧ (1 : Int) < n10) ∧ (
            (5 < d) ∧ (
            ∃ Q80 : Option Value → jx_I → Prop, (
            (jc V 5 314 (0, 0) [.ref a0, jy ((I16 q8 (1 : Int).toNat).toInt)] X I16 R Q80 (fun _ _ => False)) ∧ (
            ∀ rv I83, Q80 rv I83 → rv = none ∧ (
            J286 l3 I83)))))
          )))
        )) ∧ (r17 = 0 → (
          Q none I16
        )))))))
      )) ∧ ((I q8 (0 : Int).toNat).toInt = 8 → (
        (1 < d) ∧ (
        ∃ Q85 : Option Value → jx_I → Prop, (
        (jc V 1 308 (0, 0) [.ref a0] X I R Q85 (fun _ _ => False)) ∧ (
        ∀ rv I88, Q85 rv I88 → ∃ r89 : Int, rv = some (jy r89) ∧ (
        (-2147483648 ≤ r89 ∧ r89 < 2147483648) ∧ (
        (r89 = 0 → (
          (0 ≤ l3 ∧ l3 < n5) ∧ (
          ∃ q92 : Nat, (
          (R q3 l3.toNat = some q92) ∧ (
          ∃ n94 : Nat, (
          (X.2.1 q92 = some (100, n94) ∧ n94 < 2147483648) ∧ (
          (0 ≤ (4 : Int) ∧ (4 : Int) < n94) ∧ (
          J2 ((I88 q92 (4 : Int).toNat).toInt) I88))))))
        )) ∧ (¬ r89 = 0 → (
          (0 ≤ (2 : Int) ∧ (2 : Int) < n10) ∧ (
          (5 < d) ∧ (
          ∃ Q98 : Option Value → jx_I → Prop, (
          (jc V 5 310 (0, 0) [.ref a0, jy ((I88 q8 (2 : Int).toNat).toInt)] X I88 R Q98 (fun _ _ => False)) ∧ (
          ∀ rv I101, Q98 rv I101 → ∃ r102 : Int, rv = some (jy r102) ∧ (
          (-2147483648 ≤ r102 ∧ r102 < 2147483648) ∧ (
          (r102 = 0 → (
            (0 ≤ l3 ∧ l3 < n5) ∧ (
            ∃ q105 : Nat, (
            (R q3 l3.toNat = some q105) ∧ (
            ∃ n107 : Nat, (
            (X.2.1 q105 = some (100, n107) ∧ n107 < 2147483648) ∧ (
            (0 ≤ (4 : Int) ∧ (4 : Int) < n107) ∧ (
            J2 ((I101 q105 (4 : Int).toNat).toInt) I101))))))
          )) ∧ (¬ r102 = 0 → (
            (0 ≤ (3 : Int) ∧ (3 : Int) < n10) ∧ (
            ∃ d112 : Nat, d112 < d ∧ (
            ∃ Q111 : Option Value → jx_I → Prop, (
            (jc V d112 315 (0, 0) [.ref a0, jy (l3 + 1), jy ((I101 q8 (3 : Int).toNat).toInt)] X I101 R Q111 (fun _ _ => False)) ∧ (
            ∀ rv I115, Q111 rv I115 → rv = none ∧ (
            J31 l3 q8 I115)))))
          ))))))))
        )))))))
      ))))))))))))
    )))
  )))
/-- GCModel.runs, from 31 -/
def wz_315_31 (d : Nat) (V : jx_V) (X : jx_X) (R : jx_R) (Q : Option Value → jx_I → Prop) (QE : String → jx_I → Prop) (J2 : Int → jx_I → Prop) (J31 : Int → Nat → jx_I → Prop) (J213 : Int → Nat → Int → jx_I → Prop) (J286 : Int → jx_I → Prop) (a0 : Nat) (a1 : Int) (a2 : Int) (l3 : Int) (l4 : Nat) (I : jx_I) : Prop :=
  (X.2.1 a0 = some (12, 0)) ∧ (
  (1 < d) ∧ (
  ∃ Q118 : Option Value → jx_I → Prop, (
  (jc V 1 308 (0, 0) [.ref a0] X I R Q118 (fun _ _ => False)) ∧ (
  ∀ rv I121, Q118 rv I121 → ∃ r122 : Int, rv = some (jy r122) ∧ (
  (-2147483648 ≤ r122 ∧ r122 < 2147483648) ∧ (
  (r122 = 0 → (
    ∃ q124 : Nat, (
    (R a0 60 = some q124) ∧ (
    ∃ n126 : Nat, (
    (X.2.1 q124 = some (104, n126) ∧ n126 < 2147483648) ∧ (
    (0 ≤ l3 ∧ l3 < n126) ∧ (
    ∃ q129 : Nat, (
    (R q124 l3.toNat = some q129) ∧ (
    ∃ n131 : Nat, (
    (X.2.1 q129 = some (100, n131) ∧ n131 < 2147483648) ∧ (
    (0 ≤ (4 : Int) ∧ (4 : Int) < n131) ∧ (
    J2 ((I121 q129 (4 : Int).toNat).toInt) I121))))))))))
  )) ∧ (¬ r122 = 0 → (
    ∃ n134 : Nat, (
    (X.2.1 l4 = some (100, n134) ∧ n134 < 2147483648) ∧ (
    (0 ≤ (2 : Int) ∧ (2 : Int) < n134) ∧ (
    (5 < d) ∧ (
    ∃ Q137 : Option Value → jx_I → Prop, (
    (jc V 5 310 (0, 0) [.ref a0, jy ((I121 l4 (2 : Int).toNat).toInt)] X I121 R Q137 (fun _ _ => False)) ∧ (
    ∀ rv I140, Q137 rv I140 → ∃ r141 : Int, rv = some (jy r141) ∧ (
    (-2147483648 ≤ r141 ∧ r141 < 2147483648) ∧ (
    (r141 = 0 → (
      ∃ q143 : Nat, (
      (R a0 60 = some q143) ∧ (
      ∃ n145 : Nat, (
      (X.2.1 q143 = some (104, n145) ∧ n145 < 2147483648) ∧ (
      (0 ≤ l3 ∧ l3 < n145) ∧ (
      ∃ q148 : Nat, (
      (R q143 l3.toNat = some q148) ∧ (
      ∃ n150 : Nat, (
      (X.2.1 q148 = some (100, n150) ∧ n150 < 2147483648) ∧ (
      (0 ≤ (4 : Int) ∧ (4 : Int) < n150) ∧ (
      J2 ((I140 q148 (4 : Int).toNat).toInt) I140))))))))))
    )) ∧ (¬ r141 = 0 → (
      (0 ≤ (3 : Int) ∧ (3 : Int) < n134) ∧ (
      ∃ d155 : Nat, d155 < d ∧ (
      ∃ Q154 : Option Value → jx_I → Prop, (
      (jc V d155 315 (0, 0) [.ref a0, jy (l3 + 1), jy ((I140 l4 (3 : Int).toNat).toInt)] X I140 R Q154 (fun _ _ => False)) ∧ (
      ∀ rv I158, Q154 rv I158 → rv = none ∧ (
      J31 l3 l4 I158)))))
    ))))))))))
  ))))))))
/-- GCModel.runs, from 213 -/
def wz_315_213 (d : Nat) (V : jx_V) (X : jx_X) (R : jx_R) (Q : Option Value → jx_I → Prop) (QE : String → jx_I → Prop) (J2 : Int → jx_I → Prop) (J31 : Int → Nat → jx_I → Prop) (J213 : Int → Nat → Int → jx_I → Prop) (J286 : Int → jx_I → Prop) (a0 : Nat) (a1 : Int) (a2 : Int) (l3 : Int) (l4 : Nat) (l5 : Int) (I : jx_I) : Prop :=
  ∃ n160 : Nat, (
  (X.2.1 l4 = some (100, n160) ∧ n160 < 2147483648) ∧ (
  (0 ≤ (1 : Int) ∧ (1 : Int) < n160) ∧ (
  (-2147483648 ≤ l5 ∧ l5 < 2147483648) ∧ (
  ((I l4 (1 : Int).toNat).toInt ≤ l5 → (
    J286 l3 I
  )) ∧ (¬ (I l4 (1 : Int).toNat).toInt ≤ l5 → (
    (X.2.1 a0 = some (12, 0)) ∧ (
    ((I a0 70).toInt ≠ 0 → (
      J286 l3 I
    )) ∧ ((I a0 70).toInt = 0 → (
      (0 ≤ (3 : Int) ∧ (3 : Int) < n160) ∧ (
      ∃ d167 : Nat, d167 < d ∧ (
      ∃ Q166 : Option Value → jx_I → Prop, (
      (jc V d167 315 (0, 0) [.ref a0, jy (l3 + 1), jy ((I l4 (3 : Int).toNat).toInt)] X I R Q166 (fun _ _ => False)) ∧ (
      ∀ rv I170, Q166 rv I170 → rv = none ∧ (
      J213 l3 l4 (l5 + 1) I170)))))
    )))
  ))))))
/-- GCModel.runs, from 286 -/
def wz_315_286 (d : Nat) (V : jx_V) (X : jx_X) (R : jx_R) (Q : Option Value → jx_I → Prop) (QE : String → jx_I → Prop) (J2 : Int → jx_I → Prop) (J31 : Int → Nat → jx_I → Prop) (J213 : Int → Nat → Int → jx_I → Prop) (J286 : Int → jx_I → Prop) (a0 : Nat) (a1 : Int) (a2 : Int) (l3 : Int) (I : jx_I) : Prop :=
  (X.2.1 a0 = some (12, 0)) ∧ (
  ∃ q173 : Nat, (
  (R a0 60 = some q173) ∧ (
  ∃ n175 : Nat, (
  (X.2.1 q173 = some (104, n175) ∧ n175 < 2147483648) ∧ (
  (0 ≤ l3 ∧ l3 < n175) ∧ (
  ∃ q178 : Nat, (
  (R q173 l3.toNat = some q178) ∧ (
  ∃ n180 : Nat, (
  (X.2.1 q178 = some (100, n180) ∧ n180 < 2147483648) ∧ (
  (0 ≤ (4 : Int) ∧ (4 : Int) < n180) ∧ (
  J2 ((I q178 (4 : Int).toNat).toInt) I)))))))))))
/-- GCModel.runs -/
def wz_315 (d : Nat) (V : jx_V) (X : jx_X) (R : jx_R) (Q : Option Value → jx_I → Prop) (QE : String → jx_I → Prop) (J2 : Int → jx_I → Prop) (J31 : Int → Nat → jx_I → Prop) (J213 : Int → Nat → Int → jx_I → Prop) (J286 : Int → jx_I → Prop) (a0 : Nat) (a1 : Int) (a2 : Int) (I : jx_I) : Prop :=
  J2 a1 I
set_option maxRecDepth 20000 in
theorem wm_315 {V : jx_V} (hV : V.1.stackTraces = false) {d : Nat} {X : jx_X} {R : jx_R} {I : jx_I} {Q : Option Value → jx_I → Prop} {QE : String → jx_I → Prop} {a0 : Nat} {a1 : Int} {a2 : Int} (r_a1 : -2147483648 ≤ a1 ∧ a1 < 2147483648) (r_a2 : -2147483648 ≤ a2 ∧ a2 < 2147483648) 
    (h : ∀ (J2 : Int → jx_I → Prop) (J31 : Int → Nat → jx_I → Prop) (J213 : Int → Nat → Int → jx_I → Prop) (J286 : Int → jx_I → Prop), ((∀ (l3 : Int) I, wz_315_2 d V X R Q QE J2 J31 J213 J286 a0 a1 a2 l3 I → J2 l3 I) ∧ (∀ (l3 : Int) (l4 : Nat) I, wz_315_31 d V X R Q QE J2 J31 J213 J286 a0 a1 a2 l3 l4 I → J31 l3 l4 I) ∧ (∀ (l3 : Int) (l4 : Nat) (l5 : Int) I, wz_315_213 d V X R Q QE J2 J31 J213 J286 a0 a1 a2 l3 l4 l5 I → J213 l3 l4 l5 I) ∧ (∀ (l3 : Int) I, wz_315_286 d V X R Q QE J2 J31 J213 J286 a0 a1 a2 l3 I → J286 l3 I)) → wz_315 d V X R Q QE J2 J31 J213 J286 a0 a1 a2 I) : jc V d 315 (0, 0) [.ref a0, jy a1, jy a2] X I R Q QE := by
  refine jy_met hV (by decide) (n := 6) (rt := none) (hh := []) (ini := false) (C := jx_c315) (L := [some (.ref a0), some (jy a1), some (jy a2), none, none, none]) jt_315 (Nat.le_of_ble_eq_true rfl) rfl ?_
  intro J hS
  have h := h (fun l3 I => J 2 [] [some (.ref a0), none, some (jy a2), some (jy l3), none, none] (0, 0) X I R) (fun l3 l4 I => J 31 [] [some (.ref a0), none, some (jy a2), some (jy l3), some (.ref l4), none] (0, 0) X I R) (fun l3 l4 l5 I => J 213 [] [some (.ref a0), none, some (jy a2), some (jy l3), some (.ref l4), some (jy l5)] (0, 0) X I R) (fun l3 I => J 286 [] [some (.ref a0), none, some (jy a2), some (jy l3), none, none] (0, 0) X I R) ?_
  · unfold wz_315 at h
    refine jy_iload_n hS rfl rfl ?_
    refine jy_istore_n hS rfl (Nat.le_of_ble_eq_true rfl) (L' := [some (.ref a0), some (jy a1), some (jy a2), some (jy a1), none, none]) rfl ?_
    exact jy_join hS h rfl (jy_sub_s (jy_sub_n (jy_sub_s (jy_sub_s (jy_sub_n (jy_sub_n jy_sub_0))))))
  refine ⟨?_, ?_, ?_, ?_⟩
  · intro l3 I h
    unfold wz_315_2 at h
    refine jy_iload_n hS rfl rfl ?_
    refine jy_iload_n hS rfl rfl ?_
    obtain ⟨g1, h⟩ := h
    refine jy_icmp_ge hS rfl ⟨g1, r_a2⟩ (fun hq => ?_) (fun hq => ?_)
    · have h := h.1 hq
      exact jy_ret hS rfl rfl ⟨rfl, rfl, h⟩
    · have h := h.2 hq
      refine jy_aload_n hS rfl rfl ?_
      obtain ⟨g2, h⟩ := h
      refine jy_getI hS rfl (by decide) g2 ?_
      refine jy_if_ne hS rfl (jy_rng _) (fun hq => ?_) (fun hq => ?_)
      · have h := h.1 hq
        exact jy_ret hS rfl rfl ⟨rfl, rfl, h⟩
      · have h := h.2 hq
        refine jy_aload_n hS rfl rfl ?_
        obtain ⟨q3, h⟩ := h
        obtain ⟨g4, h⟩ := h
        refine jy_getR hS rfl (by decide) g2 g4 ?_
        refine jy_iload_n hS rfl rfl ?_
        obtain ⟨n5, h⟩ := h
        obtain ⟨g6, h⟩ := h
        obtain ⟨g7, h⟩ := h
        obtain ⟨q8, h⟩ := h
        obtain ⟨g9, h⟩ := h
        refine jy_aald hS rfl g6.1 (by decide) (Nat.le_of_lt g6.2) g7 g9 ?_
        refine jy_astore hS rfl (Nat.le_of_ble_eq_true rfl) (L' := [some (.ref a0), none, some (jy a2), some (jy l3), some (.ref q8), none]) rfl ?_
        refine jy_aload hS rfl rfl ?_
        refine jy_iconst hS rfl ?_
        obtain ⟨n10, h⟩ := h
        obtain ⟨g11, h⟩ := h
        obtain ⟨g12, h⟩ := h
        refine jy_iald hS rfl g11.1 (Nat.le_of_lt g11.2) g12 ?_
        refine jy_bipush hS rfl (by decide) ?_
        refine jy_icmp_ne hS rfl ⟨(jy_rng _), ⟨by decide, by decide⟩⟩ (fun hq => ?_) (fun hq => ?_)
        · have h := h.1 hq
          refine jy_aload_n hS rfl rfl ?_
          obtain ⟨g14, h⟩ := h
          obtain ⟨Q13, h⟩ := h
          obtain ⟨g15, h⟩ := h
          refine jy_callV hS rfl rfl rfl (Nat.le_of_ble_eq_true rfl) (Or.inl g2) g15 g14 ⟨by decide, by decide⟩ (Nat.le_of_ble_eq_true rfl) ?_ ?_
          rotate_left
          · exact fun Ex Xx Ix Rx hp => hp.2.2.2.elim
          intro rv Xx I16 Rx hp
          obtain ⟨e1, e2, hp⟩ := hp
          rw [e1, e2]
          clear e1 e2
          obtain ⟨r17, e1, h⟩ := h rv I16 hp
          rw [e1]
          clear e1
          change J 67 [jy r17] _ (0, 0) _ _ _
          obtain ⟨g18, h⟩ := h
          refine jy_if_ne hS rfl g18 (fun hq => ?_) (fun hq => ?_)
          · have h := h.1 hq
            refine jy_aload hS rfl rfl ?_
            refine jy_iconst hS rfl ?_
            obtain ⟨g19, h⟩ := h
            refine jy_iald hS rfl g11.1 (Nat.le_of_lt g11.2) g19 ?_
            refine jy_if_ne hS rfl (jy_rng _) (fun hq => ?_) (fun hq => ?_)
            · have h := h.1 hq
              refine jy_aload hS rfl rfl ?_
              refine jy_iconst hS rfl ?_
              obtain ⟨g20, h⟩ := h
              refine jy_iald hS rfl g11.1 (Nat.le_of_lt g11.2) g20 ?_
              refine jy_iconst hS rfl ?_
              refine jy_icmp_ne hS rfl ⟨(jy_rng _), ⟨by decide, by decide⟩⟩ (fun hq => ?_) (fun hq => ?_)
              · have h := h.1 hq
                refine jy_aload hS rfl rfl ?_
                refine jy_iconst hS rfl ?_
                obtain ⟨g21, h⟩ := h
                refine jy_iald hS rfl g11.1 (Nat.le_of_lt g11.2) g21 ?_
                refine jy_iconst hS rfl ?_
                refine jy_icmp_ne hS rfl ⟨(jy_rng _), ⟨by decide, by decide⟩⟩ (fun hq => ?_) (fun hq => ?_)
                · have h := h.1 hq
                  refine jy_aload hS rfl rfl ?_
                  refine jy_iconst hS rfl ?_
                  obtain ⟨g22, h⟩ := h
                  refine jy_iald hS rfl g11.1 (Nat.le_of_lt g11.2) g22 ?_
                  refine jy_iconst hS rfl ?_
                  refine jy_icmp_ne hS rfl ⟨(jy_rng _), ⟨by decide, by decide⟩⟩ (fun hq => ?_) (fun hq => ?_)
                  · have h := h.1 hq
                    refine jy_aload hS rfl rfl ?_
                    refine jy_iconst hS rfl ?_
                    obtain ⟨g23, h⟩ := h
                    refine jy_iald hS rfl g11.1 (Nat.le_of_lt g11.2) g23 ?_
                    refine jy_iconst hS rfl ?_
                    refine jy_icmp_ne hS rfl ⟨(jy_rng _), ⟨by decide, by decide⟩⟩ (fun hq => ?_) (fun hq => ?_)
                    · have h := h.1 hq
                      refine jy_aload hS rfl rfl ?_
                      refine jy_iconst hS rfl ?_
                      obtain ⟨g24, h⟩ := h
                      refine jy_iald hS rfl g11.1 (Nat.le_of_lt g11.2) g24 ?_
                      refine jy_iconst hS rfl ?_
                      refine jy_icmp_ne hS rfl ⟨(jy_rng _), ⟨by decide, by decide⟩⟩ (fun hq => ?_) (fun hq => ?_)
                      · have h := h.1 hq
                        refine jy_aload hS rfl rfl ?_
                        refine jy_iconst hS rfl ?_
                        obtain ⟨g25, h⟩ := h
                        refine jy_iald hS rfl g11.1 (Nat.le_of_lt g11.2) g25 ?_
                        refine jy_bipush hS rfl (by decide) ?_
                        refine jy_icmp_ne hS rfl ⟨(jy_rng _), ⟨by decide, by decide⟩⟩ (fun hq => ?_) (fun hq => ?_)
                        · have h := h.1 hq
                          refine jy_aload hS rfl rfl ?_
                          refine jy_iconst hS rfl ?_
                          obtain ⟨g26, h⟩ := h
                          refine jy_iald hS rfl g11.1 (Nat.le_of_lt g11.2) g26 ?_
                          refine jy_bipush hS rfl (by decide) ?_
                          refine jy_icmp_ne hS rfl ⟨(jy_rng _), ⟨by decide, by decide⟩⟩ (fun hq => ?_) (fun hq => ?_)
                          · have h := h.1 hq
                            refine jy_aload_n hS rfl rfl ?_
                            refine jy_aload hS rfl rfl ?_
                            refine jy_iconst hS rfl ?_
                            obtain ⟨g27, h⟩ := h
                            refine jy_iald hS rfl g11.1 (Nat.le_of_lt g11.2) g27 ?_
                            obtain ⟨g29, h⟩ := h
                            obtain ⟨Q28, h⟩ := h
                            obtain ⟨g30, h⟩ := h
                            refine jy_callV hS rfl rfl rfl (Nat.le_of_ble_eq_true rfl) (Or.inl g2) g30 g29 ⟨by decide, by decide⟩ (Nat.le_of_ble_eq_true rfl) ?_ ?_
                            rotate_left
                            · exact fun Ex Xx Ix Rx hp => hp.2.2.2.elim
                            intro rv Xx I31 Rx hp
                            obtain ⟨e1, e2, hp⟩ := hp
                            rw [e1, e2]
                            clear e1 e2
                            obtain ⟨r32, e1, h⟩ := h rv I31 hp
                            rw [e1]
                            clear e1
                            change J 257 [jy r32] _ (0, 0) _ _ _
                            obtain ⟨g33, h⟩ := h
                            refine jy_if_eq hS rfl g33 (fun hq => ?_) (fun hq => ?_)
                            · have h := h.1 hq
                              refine jy_aload_n hS rfl rfl ?_
                              refine jy_aload hS rfl rfl ?_
                              refine jy_iconst hS rfl ?_
                              obtain ⟨g34, h⟩ := h
                              refine jy_iald hS rfl g11.1 (Nat.le_of_lt g11.2) g34 ?_
                              refine jy_aload hS rfl rfl ?_
                              refine jy_iconst hS rfl ?_
                              obtain ⟨g35, h⟩ := h
                              refine jy_iald hS rfl g11.1 (Nat.le_of_lt g11.2) g35 ?_
                              obtain ⟨d37, g38, h⟩ := h
                              obtain ⟨Q36, h⟩ := h
                              obtain ⟨g39, h⟩ := h
                              refine jy_callV hS rfl rfl rfl (Nat.le_of_ble_eq_true rfl) (Or.inl g2) g39 g38 ⟨by decide, by decide⟩ (Nat.le_of_ble_eq_true rfl) ?_ ?_
                              rotate_left
                              · exact fun Ex Xx Ix Rx hp => hp.2.2.2.elim
                              intro rv Xx I40 Rx hp
                              obtain ⟨e1, e2, hp⟩ := hp
                              rw [e1, e2]
                              clear e1 e2
                              obtain ⟨e1, h⟩ := h rv I40 hp
                              rw [e1]
                              clear e1
                              change J 286 [] _ (0, 0) _ _ _
                              exact jy_join hS h rfl (jy_sub_s (jy_sub_n (jy_sub_s (jy_sub_s (jy_sub_n (jy_sub_n jy_sub_0))))))
                            · have h := h.2 hq
                              refine jy_aload_n hS rfl rfl ?_
                              refine jy_iload_n hS rfl rfl ?_
                              refine jy_iconst hS rfl ?_
                              refine jy_iadd hS rfl ?_
                              refine jy_aload hS rfl rfl ?_
                              refine jy_iconst hS rfl ?_
                              obtain ⟨g42, h⟩ := h
                              refine jy_iald hS rfl g11.1 (Nat.le_of_lt g11.2) g42 ?_
                              obtain ⟨d44, g45, h⟩ := h
                              obtain ⟨Q43, h⟩ := h
                              obtain ⟨g46, h⟩ := h
                              refine jy_callV hS rfl rfl rfl (Nat.le_of_ble_eq_true rfl) (Or.inl g2) g46 g45 ⟨by decide, by decide⟩ (Nat.le_of_ble_eq_true rfl) ?_ ?_
                              rotate_left
                              · exact fun Ex Xx Ix Rx hp => hp.2.2.2.elim
                              intro rv Xx I47 Rx hp
                              obtain ⟨e1, e2, hp⟩ := hp
                              rw [e1, e2]
                              clear e1 e2
                              obtain ⟨e1, h⟩ := h rv I47 hp
                              rw [e1]
                              clear e1
                              change J 271 [] _ (0, 0) _ _ _
                              refine jy_goto hS rfl ?_
                              exact jy_join hS h rfl (jy_sub_s (jy_sub_n (jy_sub_s (jy_sub_s (jy_sub_n (jy_sub_n jy_sub_0))))))
                          · have h := h.2 hq
                            refine jy_iconst hS rfl ?_
                            refine jy_istore hS rfl (Nat.le_of_ble_eq_true rfl) (L' := [some (.ref a0), none, some (jy a2), some (jy l3), some (.ref q8), some (jy 0)]) rfl ?_
                            exact jy_join hS h rfl (jy_sub_s (jy_sub_n (jy_sub_s (jy_sub_s (jy_sub_s (jy_sub_s jy_sub_0))))))
                        · have h := h.2 hq
                          refine jy_aload_n hS rfl rfl ?_
                          refine jy_aload hS rfl rfl ?_
                          refine jy_iconst hS rfl ?_
                          obtain ⟨g49, h⟩ := h
                          refine jy_iald hS rfl g11.1 (Nat.le_of_lt g11.2) g49 ?_
                          obtain ⟨g51, h⟩ := h
                          obtain ⟨Q50, h⟩ := h
                          obtain ⟨g52, h⟩ := h
                          refine jy_callV hS rfl rfl rfl (Nat.le_of_ble_eq_true rfl) (Or.inl g2) g52 g51 ⟨by decide, by decide⟩ (Nat.le_of_ble_eq_true rfl) ?_ ?_
                          rotate_left
                          · exact fun Ex Xx Ix Rx hp => hp.2.2.2.elim
                          intro rv Xx I53 Rx hp
                          obtain ⟨e1, e2, hp⟩ := hp
                          rw [e1, e2]
                          clear e1 e2
                          obtain ⟨e1, h⟩ := h rv I53 hp
                          rw [e1]
                          clear e1
                          change J 198 [] _ (0, 0) _ _ _
                          refine jy_goto hS rfl ?_
                          exact jy_join hS h rfl (jy_sub_s (jy_sub_n (jy_sub_s (jy_sub_s (jy_sub_n (jy_sub_n jy_sub_0))))))
                      · have h := h.2 hq
                        refine jy_aload_n hS rfl rfl ?_
                        refine jy_aload hS rfl rfl ?_
                        refine jy_iconst hS rfl ?_
                        obtain ⟨g55, h⟩ := h
                        refine jy_iald hS rfl g11.1 (Nat.le_of_lt g11.2) g55 ?_
                        obtain ⟨g57, h⟩ := h
                        obtain ⟨Q56, h⟩ := h
                        obtain ⟨g58, h⟩ := h
                        refine jy_callV hS rfl rfl rfl (Nat.le_of_ble_eq_true rfl) (Or.inl g2) g58 g57 ⟨by decide, by decide⟩ (Nat.le_of_ble_eq_true rfl) ?_ ?_
                        rotate_left
                        · exact fun Ex Xx Ix Rx hp => hp.2.2.2.elim
                        intro rv Xx I59 Rx hp
                        obtain ⟨e1, e2, hp⟩ := hp
                        rw [e1, e2]
                        clear e1 e2
                        obtain ⟨e1, h⟩ := h rv I59 hp
                        rw [e1]
                        clear e1
                        change J 178 [] _ (0, 0) _ _ _
                        refine jy_goto hS rfl ?_
                        exact jy_join hS h rfl (jy_sub_s (jy_sub_n (jy_sub_s (jy_sub_s (jy_sub_n (jy_sub_n jy_sub_0))))))
                    · have h := h.2 hq
                      refine jy_aload_n hS rfl rfl ?_
                      refine jy_aload hS rfl rfl ?_
                      refine jy_iconst hS rfl ?_
                      obtain ⟨g61, h⟩ := h
                      refine jy_iald hS rfl g11.1 (Nat.le_of_lt g11.2) g61 ?_
                      obtain ⟨g63, h⟩ := h
                      obtain ⟨Q62, h⟩ := h
                      obtain ⟨g64, h⟩ := h
                      refine jy_callV hS rfl rfl rfl (Nat.le_of_ble_eq_true rfl) (Or.inl g2) g64 g63 ⟨by decide, by decide⟩ (Nat.le_of_ble_eq_true rfl) ?_ ?_
                      rotate_left
                      · exact fun Ex Xx Ix Rx hp => hp.2.2.2.elim
                      intro rv Xx I65 Rx hp
                      obtain ⟨e1, e2, hp⟩ := hp
                      rw [e1, e2]
                      clear e1 e2
                      obtain ⟨e1, h⟩ := h rv I65 hp
                      rw [e1]
                      clear e1
                      change J 159 [] _ (0, 0) _ _ _
                      refine jy_goto hS rfl ?_
                      exact jy_join hS h rfl (jy_sub_s (jy_sub_n (jy_sub_s (jy_sub_s (jy_sub_n (jy_sub_n jy_sub_0))))))
                  · have h := h.2 hq
                    refine jy_aload_n hS rfl rfl ?_
                    obtain ⟨g68, h⟩ := h
                    obtain ⟨Q67, h⟩ := h
                    obtain ⟨g69, h⟩ := h
                    refine jy_callV hS rfl rfl rfl (Nat.le_of_ble_eq_true rfl) (Or.inl g2) g69 g68 ⟨by decide, by decide⟩ (Nat.le_of_ble_eq_true rfl) ?_ ?_
                    rotate_left
                    · exact fun Ex Xx Ix Rx hp => hp.2.2.2.elim
                    intro rv Xx I70 Rx hp
                    obtain ⟨e1, e2, hp⟩ := hp
                    rw [e1, e2]
                    clear e1 e2
                    obtain ⟨e1, h⟩ := h rv I70 hp
                    rw [e1]
                    clear e1
                    change J 140 [] _ (0, 0) _ _ _
                    refine jy_goto hS rfl ?_
                    exact jy_join hS h rfl (jy_sub_s (jy_sub_n (jy_sub_s (jy_sub_s (jy_sub_n (jy_sub_n jy_sub_0))))))
                · have h := h.2 hq
                  refine jy_aload_n hS rfl rfl ?_
                  obtain ⟨g73, h⟩ := h
                  obtain ⟨Q72, h⟩ := h
                  obtain ⟨g74, h⟩ := h
                  refine jy_callV hS rfl rfl rfl (Nat.le_of_ble_eq_true rfl) (Or.inl g2) g74 g73 ⟨by decide, by decide⟩ (Nat.le_of_ble_eq_true rfl) ?_ ?_
                  rotate_left
                  · exact fun Ex Xx Ix Rx hp => hp.2.2.2.elim
                  intro rv Xx I75 Rx hp
                  obtain ⟨e1, e2, hp⟩ := hp
                  rw [e1, e2]
                  clear e1 e2
                  obtain ⟨e1, h⟩ := h rv I75 hp
                  rw [e1]
                  clear e1
                  change J 125 [] _ (0, 0) _ _ _
                  refine jy_goto hS rfl ?_
                  exact jy_join hS h rfl (jy_sub_s (jy_sub_n (jy_sub_s (jy_sub_s (jy_sub_n (jy_sub_n jy_sub_0))))))
              · have h := h.2 hq
                refine jy_aload_n hS rfl rfl ?_
                refine jy_dup hS rfl rfl ?_
                refine jy_getI hS rfl (by decide) g2 ?_
                refine jy_aload hS rfl rfl ?_
                refine jy_iconst hS rfl ?_
                obtain ⟨g77, h⟩ := h
                refine jy_iald hS rfl g11.1 (Nat.le_of_lt g11.2) g77 ?_
                refine jy_iadd hS rfl ?_
                refine jy_putI hS rfl (by decide) g2 ?_
                intro I78 e9
                have h := h I78 e9
                clear e9
                refine jy_goto hS rfl ?_
                exact jy_join hS h rfl (jy_sub_s (jy_sub_n (jy_sub_s (jy_sub_s (jy_sub_n (jy_sub_n jy_sub_0))))))
            · have h := h.2 hq
              refine jy_aload_n hS rfl rfl ?_
              refine jy_aload hS rfl rfl ?_
              refine jy_iconst hS rfl ?_
              obtain ⟨g79, h⟩ := h
              refine jy_iald hS rfl g11.1 (Nat.le_of_lt g11.2) g79 ?_
              obtain ⟨g81, h⟩ := h
              obtain ⟨Q80, h⟩ := h
              obtain ⟨g82, h⟩ := h
              refine jy_callV hS rfl rfl rfl (Nat.le_of_ble_eq_true rfl) (Or.inl g2) g82 g81 ⟨by decide, by decide⟩ (Nat.le_of_ble_eq_true rfl) ?_ ?_
              rotate_left
              · exact fun Ex Xx Ix Rx hp => hp.2.2.2.elim
              intro rv Xx I83 Rx hp
              obtain ⟨e1, e2, hp⟩ := hp
              rw [e1, e2]
              clear e1 e2
              obtain ⟨e1, h⟩ := h rv I83 hp
              rw [e1]
              clear e1
              change J 86 [] _ (0, 0) _ _ _
              refine jy_goto hS rfl ?_
              exact jy_join hS h rfl (jy_sub_s (jy_sub_n (jy_sub_s (jy_sub_s (jy_sub_n (jy_sub_n jy_sub_0))))))
          · have h := h.2 hq
            exact jy_ret hS rfl rfl ⟨rfl, rfl, h⟩
        · have h := h.2 hq
          refine jy_aload_n hS rfl rfl ?_
          obtain ⟨g86, h⟩ := h
          obtain ⟨Q85, h⟩ := h
          obtain ⟨g87, h⟩ := h
          refine jy_callV hS rfl rfl rfl (Nat.le_of_ble_eq_true rfl) (Or.inl g2) g87 g86 ⟨by decide, by decide⟩ (Nat.le_of_ble_eq_true rfl) ?_ ?_
          rotate_left
          · exact fun Ex Xx Ix Rx hp => hp.2.2.2.elim
          intro rv Xx I88 Rx hp
          obtain ⟨e1, e2, hp⟩ := hp
          rw [e1, e2]
          clear e1 e2
          obtain ⟨r89, e1, h⟩ := h rv I88 hp
          rw [e1]
          clear e1
          change J 35 [jy r89] _ (0, 0) _ _ _
          obtain ⟨g90, h⟩ := h
          refine jy_if_eq hS rfl g90 (fun hq => ?_) (fun hq => ?_)
          · have h := h.1 hq
            refine jy_aload_n hS rfl rfl ?_
            refine jy_getR hS rfl (by decide) g2 g4 ?_
            refine jy_iload_n hS rfl rfl ?_
            obtain ⟨g91, h⟩ := h
            obtain ⟨q92, h⟩ := h
            obtain ⟨g93, h⟩ := h
            refine jy_aald hS rfl g6.1 (by decide) (Nat.le_of_lt g6.2) g91 g93 ?_
            refine jy_iconst hS rfl ?_
            obtain ⟨n94, h⟩ := h
            obtain ⟨g95, h⟩ := h
            obtain ⟨g96, h⟩ := h
            refine jy_iald hS rfl g95.1 (Nat.le_of_lt g95.2) g96 ?_
            refine jy_istore_n hS rfl (Nat.le_of_ble_eq_true rfl) (L' := [some (.ref a0), none, some (jy a2), some (jy ((I88 q92 (4 : Int).toNat).toInt)), some (.ref q8), none]) rfl ?_
            refine jy_goto hS rfl ?_
            exact jy_join hS h rfl (jy_sub_s (jy_sub_n (jy_sub_s (jy_sub_s (jy_sub_n (jy_sub_n jy_sub_0))))))
          · have h := h.2 hq
            refine jy_aload_n hS rfl rfl ?_
            refine jy_aload hS rfl rfl ?_
            refine jy_iconst hS rfl ?_
            obtain ⟨g97, h⟩ := h
            refine jy_iald hS rfl g11.1 (Nat.le_of_lt g11.2) g97 ?_
            obtain ⟨g99, h⟩ := h
            obtain ⟨Q98, h⟩ := h
            obtain ⟨g100, h⟩ := h
            refine jy_callV hS rfl rfl rfl (Nat.le_of_ble_eq_true rfl) (Or.inl g2) g100 g99 ⟨by decide, by decide⟩ (Nat.le_of_ble_eq_true rfl) ?_ ?_
            rotate_left
            · exact fun Ex Xx Ix Rx hp => hp.2.2.2.elim
            intro rv Xx I101 Rx hp
            obtain ⟨e1, e2, hp⟩ := hp
            rw [e1, e2]
            clear e1 e2
            obtain ⟨r102, e1, h⟩ := h rv I101 hp
            rw [e1]
            clear e1
            change J 46 [jy r102] _ (0, 0) _ _ _
            obtain ⟨g103, h⟩ := h
            refine jy_if_eq hS rfl g103 (fun hq => ?_) (fun hq => ?_)
            · have h := h.1 hq
              refine jy_aload_n hS rfl rfl ?_
              refine jy_getR hS rfl (by decide) g2 g4 ?_
              refine jy_iload_n hS rfl rfl ?_
              obtain ⟨g104, h⟩ := h
              obtain ⟨q105, h⟩ := h
              obtain ⟨g106, h⟩ := h
              refine jy_aald hS rfl g6.1 (by decide) (Nat.le_of_lt g6.2) g104 g106 ?_
              refine jy_iconst hS rfl ?_
              obtain ⟨n107, h⟩ := h
              obtain ⟨g108, h⟩ := h
              obtain ⟨g109, h⟩ := h
              refine jy_iald hS rfl g108.1 (Nat.le_of_lt g108.2) g109 ?_
              refine jy_istore_n hS rfl (Nat.le_of_ble_eq_true rfl) (L' := [some (.ref a0), none, some (jy a2), some (jy ((I101 q105 (4 : Int).toNat).toInt)), some (.ref q8), none]) rfl ?_
              refine jy_goto hS rfl ?_
              exact jy_join hS h rfl (jy_sub_s (jy_sub_n (jy_sub_s (jy_sub_s (jy_sub_n (jy_sub_n jy_sub_0))))))
            · have h := h.2 hq
              refine jy_aload_n hS rfl rfl ?_
              refine jy_iload_n hS rfl rfl ?_
              refine jy_iconst hS rfl ?_
              refine jy_iadd hS rfl ?_
              refine jy_aload hS rfl rfl ?_
              refine jy_iconst hS rfl ?_
              obtain ⟨g110, h⟩ := h
              refine jy_iald hS rfl g11.1 (Nat.le_of_lt g11.2) g110 ?_
              obtain ⟨d112, g113, h⟩ := h
              obtain ⟨Q111, h⟩ := h
              obtain ⟨g114, h⟩ := h
              refine jy_callV hS rfl rfl rfl (Nat.le_of_ble_eq_true rfl) (Or.inl g2) g114 g113 ⟨by decide, by decide⟩ (Nat.le_of_ble_eq_true rfl) ?_ ?_
              rotate_left
              · exact fun Ex Xx Ix Rx hp => hp.2.2.2.elim
              intro rv Xx I115 Rx hp
              obtain ⟨e1, e2, hp⟩ := hp
              rw [e1, e2]
              clear e1 e2
              obtain ⟨e1, h⟩ := h rv I115 hp
              rw [e1]
              clear e1
              change J 60 [] _ (0, 0) _ _ _
              refine jy_goto hS rfl ?_
              exact jy_join hS h rfl (jy_sub_s (jy_sub_n (jy_sub_s (jy_sub_s (jy_sub_s (jy_sub_n jy_sub_0))))))
  · intro l3 l4 I h
    unfold wz_315_31 at h
    refine jy_aload_n hS rfl rfl ?_
    obtain ⟨g117, h⟩ := h
    obtain ⟨g119, h⟩ := h
    obtain ⟨Q118, h⟩ := h
    obtain ⟨g120, h⟩ := h
    refine jy_callV hS rfl rfl rfl (Nat.le_of_ble_eq_true rfl) (Or.inl g117) g120 g119 ⟨by decide, by decide⟩ (Nat.le_of_ble_eq_true rfl) ?_ ?_
    rotate_left
    · exact fun Ex Xx Ix Rx hp => hp.2.2.2.elim
    intro rv Xx I121 Rx hp
    obtain ⟨e1, e2, hp⟩ := hp
    rw [e1, e2]
    clear e1 e2
    obtain ⟨r122, e1, h⟩ := h rv I121 hp
    rw [e1]
    clear e1
    change J 35 [jy r122] _ (0, 0) _ _ _
    obtain ⟨g123, h⟩ := h
    refine jy_if_eq hS rfl g123 (fun hq => ?_) (fun hq => ?_)
    · have h := h.1 hq
      refine jy_aload_n hS rfl rfl ?_
      obtain ⟨q124, h⟩ := h
      obtain ⟨g125, h⟩ := h
      refine jy_getR hS rfl (by decide) g117 g125 ?_
      refine jy_iload_n hS rfl rfl ?_
      obtain ⟨n126, h⟩ := h
      obtain ⟨g127, h⟩ := h
      obtain ⟨g128, h⟩ := h
      obtain ⟨q129, h⟩ := h
      obtain ⟨g130, h⟩ := h
      refine jy_aald hS rfl g127.1 (by decide) (Nat.le_of_lt g127.2) g128 g130 ?_
      refine jy_iconst hS rfl ?_
      obtain ⟨n131, h⟩ := h
      obtain ⟨g132, h⟩ := h
      obtain ⟨g133, h⟩ := h
      refine jy_iald hS rfl g132.1 (Nat.le_of_lt g132.2) g133 ?_
      refine jy_istore_n hS rfl (Nat.le_of_ble_eq_true rfl) (L' := [some (.ref a0), none, some (jy a2), some (jy ((I121 q129 (4 : Int).toNat).toInt)), some (.ref l4), none]) rfl ?_
      refine jy_goto hS rfl ?_
      exact jy_join hS h rfl (jy_sub_s (jy_sub_n (jy_sub_s (jy_sub_s (jy_sub_n (jy_sub_n jy_sub_0))))))
    · have h := h.2 hq
      refine jy_aload_n hS rfl rfl ?_
      refine jy_aload hS rfl rfl ?_
      refine jy_iconst hS rfl ?_
      obtain ⟨n134, h⟩ := h
      obtain ⟨g135, h⟩ := h
      obtain ⟨g136, h⟩ := h
      refine jy_iald hS rfl g135.1 (Nat.le_of_lt g135.2) g136 ?_
      obtain ⟨g138, h⟩ := h
      obtain ⟨Q137, h⟩ := h
      obtain ⟨g139, h⟩ := h
      refine jy_callV hS rfl rfl rfl (Nat.le_of_ble_eq_true rfl) (Or.inl g117) g139 g138 ⟨by decide, by decide⟩ (Nat.le_of_ble_eq_true rfl) ?_ ?_
      rotate_left
      · exact fun Ex Xx Ix Rx hp => hp.2.2.2.elim
      intro rv Xx I140 Rx hp
      obtain ⟨e1, e2, hp⟩ := hp
      rw [e1, e2]
      clear e1 e2
      obtain ⟨r141, e1, h⟩ := h rv I140 hp
      rw [e1]
      clear e1
      change J 46 [jy r141] _ (0, 0) _ _ _
      obtain ⟨g142, h⟩ := h
      refine jy_if_eq hS rfl g142 (fun hq => ?_) (fun hq => ?_)
      · have h := h.1 hq
        refine jy_aload_n hS rfl rfl ?_
        obtain ⟨q143, h⟩ := h
        obtain ⟨g144, h⟩ := h
        refine jy_getR hS rfl (by decide) g117 g144 ?_
        refine jy_iload_n hS rfl rfl ?_
        obtain ⟨n145, h⟩ := h
        obtain ⟨g146, h⟩ := h
        obtain ⟨g147, h⟩ := h
        obtain ⟨q148, h⟩ := h
        obtain ⟨g149, h⟩ := h
        refine jy_aald hS rfl g146.1 (by decide) (Nat.le_of_lt g146.2) g147 g149 ?_
        refine jy_iconst hS rfl ?_
        obtain ⟨n150, h⟩ := h
        obtain ⟨g151, h⟩ := h
        obtain ⟨g152, h⟩ := h
        refine jy_iald hS rfl g151.1 (Nat.le_of_lt g151.2) g152 ?_
        refine jy_istore_n hS rfl (Nat.le_of_ble_eq_true rfl) (L' := [some (.ref a0), none, some (jy a2), some (jy ((I140 q148 (4 : Int).toNat).toInt)), some (.ref l4), none]) rfl ?_
        refine jy_goto hS rfl ?_
        exact jy_join hS h rfl (jy_sub_s (jy_sub_n (jy_sub_s (jy_sub_s (jy_sub_n (jy_sub_n jy_sub_0))))))
      · have h := h.2 hq
        refine jy_aload_n hS rfl rfl ?_
        refine jy_iload_n hS rfl rfl ?_
        refine jy_iconst hS rfl ?_
        refine jy_iadd hS rfl ?_
        refine jy_aload hS rfl rfl ?_
        refine jy_iconst hS rfl ?_
        obtain ⟨g153, h⟩ := h
        refine jy_iald hS rfl g135.1 (Nat.le_of_lt g135.2) g153 ?_
        obtain ⟨d155, g156, h⟩ := h
        obtain ⟨Q154, h⟩ := h
        obtain ⟨g157, h⟩ := h
        refine jy_callV hS rfl rfl rfl (Nat.le_of_ble_eq_true rfl) (Or.inl g117) g157 g156 ⟨by decide, by decide⟩ (Nat.le_of_ble_eq_true rfl) ?_ ?_
        rotate_left
        · exact fun Ex Xx Ix Rx hp => hp.2.2.2.elim
        intro rv Xx I158 Rx hp
        obtain ⟨e1, e2, hp⟩ := hp
        rw [e1, e2]
        clear e1 e2
        obtain ⟨e1, h⟩ := h rv I158 hp
        rw [e1]
        clear e1
        change J 60 [] _ (0, 0) _ _ _
        refine jy_goto hS rfl ?_
        exact jy_join hS h rfl (jy_sub_s (jy_sub_n (jy_sub_s (jy_sub_s (jy_sub_s (jy_sub_n jy_sub_0))))))
  · intro l3 l4 l5 I h
    unfold wz_315_213 at h
    refine jy_iload hS rfl rfl ?_
    refine jy_aload hS rfl rfl ?_
    refine jy_iconst hS rfl ?_
    obtain ⟨n160, h⟩ := h
    obtain ⟨g161, h⟩ := h
    obtain ⟨g162, h⟩ := h
    refine jy_iald hS rfl g161.1 (Nat.le_of_lt g161.2) g162 ?_
    obtain ⟨g163, h⟩ := h
    refine jy_icmp_ge hS rfl ⟨g163, (jy_rng _)⟩ (fun hq => ?_) (fun hq => ?_)
    · have h := h.1 hq
      refine jy_goto hS rfl ?_
      exact jy_join hS h rfl (jy_sub_s (jy_sub_n (jy_sub_s (jy_sub_s (jy_sub_n (jy_sub_n jy_sub_0))))))
    · have h := h.2 hq
      refine jy_aload_n hS rfl rfl ?_
      obtain ⟨g164, h⟩ := h
      refine jy_getI hS rfl (by decide) g164 ?_
      refine jy_if_ne hS rfl (jy_rng _) (fun hq => ?_) (fun hq => ?_)
      · have h := h.1 hq
        refine jy_goto hS rfl ?_
        exact jy_join hS h rfl (jy_sub_s (jy_sub_n (jy_sub_s (jy_sub_s (jy_sub_n (jy_sub_n jy_sub_0))))))
      · have h := h.2 hq
        refine jy_aload_n hS rfl rfl ?_
        refine jy_iload_n hS rfl rfl ?_
        refine jy_iconst hS rfl ?_
        refine jy_iadd hS rfl ?_
        refine jy_aload hS rfl rfl ?_
        refine jy_iconst hS rfl ?_
        obtain ⟨g165, h⟩ := h
        refine jy_iald hS rfl g161.1 (Nat.le_of_lt g161.2) g165 ?_
        obtain ⟨d167, g168, h⟩ := h
        obtain ⟨Q166, h⟩ := h
        obtain ⟨g169, h⟩ := h
        refine jy_callV hS rfl rfl rfl (Nat.le_of_ble_eq_true rfl) (Or.inl g164) g169 g168 ⟨by decide, by decide⟩ (Nat.le_of_ble_eq_true rfl) ?_ ?_
        rotate_left
        · exact fun Ex Xx Ix Rx hp => hp.2.2.2.elim
        intro rv Xx I170 Rx hp
        obtain ⟨e1, e2, hp⟩ := hp
        rw [e1, e2]
        clear e1 e2
        obtain ⟨e1, h⟩ := h rv I170 hp
        rw [e1]
        clear e1
        change J 240 [] _ (0, 0) _ _ _
        refine jy_iinc hS rfl rfl (L' := [some (.ref a0), none, some (jy a2), some (jy l3), some (.ref l4), some (jy (l5 + 1))]) rfl ?_
        refine jy_goto hS rfl ?_
        exact jy_join hS h rfl (jy_sub_s (jy_sub_n (jy_sub_s (jy_sub_s (jy_sub_s (jy_sub_s jy_sub_0))))))
  · intro l3 I h
    unfold wz_315_286 at h
    refine jy_aload_n hS rfl rfl ?_
    obtain ⟨g172, h⟩ := h
    obtain ⟨q173, h⟩ := h
    obtain ⟨g174, h⟩ := h
    refine jy_getR hS rfl (by decide) g172 g174 ?_
    refine jy_iload_n hS rfl rfl ?_
    obtain ⟨n175, h⟩ := h
    obtain ⟨g176, h⟩ := h
    obtain ⟨g177, h⟩ := h
    obtain ⟨q178, h⟩ := h
    obtain ⟨g179, h⟩ := h
    refine jy_aald hS rfl g176.1 (by decide) (Nat.le_of_lt g176.2) g177 g179 ?_
    refine jy_iconst hS rfl ?_
    obtain ⟨n180, h⟩ := h
    obtain ⟨g181, h⟩ := h
    obtain ⟨g182, h⟩ := h
    refine jy_iald hS rfl g181.1 (Nat.le_of_lt g181.2) g182 ?_
    refine jy_istore_n hS rfl (Nat.le_of_ble_eq_true rfl) (L' := [some (.ref a0), none, some (jy a2), some (jy ((I q178 (4 : Int).toNat).toInt)), none, none]) rfl ?_
    refine jy_goto hS rfl ?_
    exact jy_join hS h rfl (jy_sub_s (jy_sub_n (jy_sub_s (jy_sub_s (jy_sub_n (jy_sub_n jy_sub_0))))))
theorem jt_316 : jx_ml 316 = 2 ∧ jx_rt 316 = none ∧ jx_hz 316 = [] ∧ decide ((jx_nm 316).name = "<init>") = false ∧ jx_code 316 = jx_c316 := by decide +kernel
/-- GCModel.runsFrom -/
def wz_316 (V : jx_V) (X : jx_X) (R : jx_R) (Q : Option Value → jx_I → Prop) (QE : String → jx_I → Prop)  (a0 : Nat) (a1 : Int) (I : jx_I) : Prop :=
  (X.2.1 a0 = some (12, 0)) ∧ (
  ∃ Q2 : Option Value → jx_I → Prop, (
  (jc V 1 243 (0, 0) [.ref a0] X I R Q2 (fun _ _ => False)) ∧ (
  ∀ rv I4, Q2 rv I4 → rv = none ∧ (
  ∀ I6 : jx_I, I6 = jx_u I4 a0 66 (Int32.ofInt a1) → (
  ∀ I7 : jx_I, I7 = jx_u I6 a0 67 (Int32.ofInt 0) → (
  ∀ I8 : jx_I, I8 = jx_u I7 a0 68 (Int32.ofInt 0) → (
  ∀ I9 : jx_I, I9 = jx_u I8 a0 69 (Int32.ofInt 0) → (
  ∀ I10 : jx_I, I10 = jx_u I9 a0 70 (Int32.ofInt 0) → (
  ∃ d12 : Nat, d12 < 201 ∧ (
  ∃ Q11 : Option Value → jx_I → Prop, (
  (jc V d12 315 (0, 0) [.ref a0, jy 0, jy ((I10 a0 56).toInt)] X I10 R Q11 (fun _ _ => False)) ∧ (
  ∀ rv I15, Q11 rv I15 → rv = none ∧ (
  Q none I15)))))))))))))
set_option maxRecDepth 20000 in
theorem wm_316 {V : jx_V} (hV : V.1.stackTraces = false) {X : jx_X} {R : jx_R} {I : jx_I} {Q : Option Value → jx_I → Prop} {QE : String → jx_I → Prop} {a0 : Nat} {a1 : Int} (r_a1 : -2147483648 ≤ a1 ∧ a1 < 2147483648) 
    (h : wz_316 V X R Q QE  a0 a1 I) : jc V 201 316 (0, 0) [.ref a0, jy a1] X I R Q QE := by
  refine jy_met hV (by decide) (n := 2) (rt := none) (hh := []) (ini := false) (C := jx_c316) (L := [some (.ref a0), some (jy a1)]) jt_316 (Nat.le_of_ble_eq_true rfl) rfl ?_
  intro J hS
  unfold wz_316 at h
  refine jy_aload_n hS rfl rfl ?_
  obtain ⟨g1, h⟩ := h
  obtain ⟨Q2, h⟩ := h
  obtain ⟨g3, h⟩ := h
  refine jy_callV hS rfl rfl rfl (Nat.le_of_ble_eq_true rfl) (Or.inl g1) g3 (by decide) ⟨by decide, by decide⟩ (Nat.le_of_ble_eq_true rfl) ?_ ?_
  rotate_left
  · exact fun Ex Xx Ix Rx hp => hp.2.2.2.elim
  intro rv Xx I4 Rx hp
  obtain ⟨e1, e2, hp⟩ := hp
  rw [e1, e2]
  clear e1 e2
  obtain ⟨e1, h⟩ := h rv I4 hp
  rw [e1]
  clear e1
  change J 4 [] _ (0, 0) _ _ _
  refine jy_aload_n hS rfl rfl ?_
  refine jy_iload_n hS rfl rfl ?_
  refine jy_putI hS rfl (by decide) g1 ?_
  intro I6 e9
  have h := h I6 e9
  clear e9
  refine jy_aload_n hS rfl rfl ?_
  refine jy_iconst hS rfl ?_
  refine jy_putI hS rfl (by decide) g1 ?_
  intro I7 e9
  have h := h I7 e9
  clear e9
  refine jy_aload_n hS rfl rfl ?_
  refine jy_iconst hS rfl ?_
  refine jy_putI hS rfl (by decide) g1 ?_
  intro I8 e9
  have h := h I8 e9
  clear e9
  refine jy_aload_n hS rfl rfl ?_
  refine jy_iconst hS rfl ?_
  refine jy_putI hS rfl (by decide) g1 ?_
  intro I9 e9
  have h := h I9 e9
  clear e9
  refine jy_aload_n hS rfl rfl ?_
  refine jy_iconst hS rfl ?_
  refine jy_putB hS rfl (by decide) (Or.inl rfl) g1 ?_
  intro I10 e9
  have h := h I10 e9
  clear e9
  refine jy_aload_n hS rfl rfl ?_
  refine jy_iconst hS rfl ?_
  refine jy_aload_n hS rfl rfl ?_
  refine jy_getI hS rfl (by decide) g1 ?_
  obtain ⟨d12, g13, h⟩ := h
  obtain ⟨Q11, h⟩ := h
  obtain ⟨g14, h⟩ := h
  refine jy_callV hS rfl rfl rfl (Nat.le_of_ble_eq_true rfl) (Or.inl g1) g14 g13 ⟨by decide, by decide⟩ (Nat.le_of_ble_eq_true rfl) ?_ ?_
  rotate_left
  · exact fun Ex Xx Ix Rx hp => hp.2.2.2.elim
  intro rv Xx I15 Rx hp
  obtain ⟨e1, e2, hp⟩ := hp
  rw [e1, e2]
  clear e1 e2
  obtain ⟨e1, h⟩ := h rv I15 hp
  rw [e1]
  clear e1
  change J 38 [] _ (0, 0) _ _ _
  exact jy_ret hS rfl rfl ⟨rfl, rfl, h⟩
theorem jt_317 : jx_ml 317 = 3 ∧ jx_rt 317 = some .int ∧ jx_hz 317 = [] ∧ decide ((jx_nm 317).name = "<init>") = false ∧ jx_code 317 = jx_c317 := by decide +kernel
/-- GCModel.run, from 19 -/
def wz_317_19 (V : jx_V) (X : jx_X) (R : jx_R) (Q : Option Value → jx_I → Prop) (QE : String → jx_I → Prop) (J19 : Nat → Int → jx_I → Prop) (J42 : Nat → Int → jx_I → Prop) (a0 : Nat) (a1 : Int) (a2 : Int) (s0 : Nat) (s1 : Int) (I : jx_I) : Prop :=
  (X.2.1 s0 = some (12, 0)) ∧ (
  ∃ Q9 : Option Value → jx_I → Prop, (
  (jc V 1 202 (0, 0) [.ref s0, jy s1, jy 1, jy 0] X I R Q9 (fun _ _ => False)) ∧ (
  ∀ rv I11, Q9 rv I11 → ∃ r12 : Int, rv = some (jy r12) ∧ (
  (-2147483648 ≤ r12 ∧ r12 < 2147483648) ∧ (
  (r12 ≠ 0 → (
    Q (some (jy 0)) I11
  )) ∧ (r12 = 0 → (
    ∃ Q14 : Option Value → jx_I → Prop, (
    (jc V 1 203 (0, 0) [jy a2, jy 0, jy 5] X I11 R Q14 (fun _ _ => False)) ∧ (
    ∀ rv I16, Q14 rv I16 → ∃ r17 : Int, rv = some (jy r17) ∧ (
    (-2147483648 ≤ r17 ∧ r17 < 2147483648) ∧ (
    (r17 ≠ 0 → (
      J42 a0 0 I16
    )) ∧ (r17 = 0 → (
      J42 a0 1 I16
    ))))))
  )))))))
/-- GCModel.run, from 42 -/
def wz_317_42 (V : jx_V) (X : jx_X) (R : jx_R) (Q : Option Value → jx_I → Prop) (QE : String → jx_I → Prop) (J19 : Nat → Int → jx_I → Prop) (J42 : Nat → Int → jx_I → Prop) (a0 : Nat) (a1 : Int) (a2 : Int) (s0 : Nat) (s1 : Int) (I : jx_I) : Prop :=
  (X.2.1 s0 = some (12, 0)) ∧ (
  ∃ Q20 : Option Value → jx_I → Prop, (
  (jc V 1 202 (0, 0) [.ref s0, jy s1, jy 2, jy 2] X I R Q20 (fun _ _ => False)) ∧ (
  ∀ rv I22, Q20 rv I22 → ∃ r23 : Int, rv = some (jy r23) ∧ (
  (-2147483648 ≤ r23 ∧ r23 < 2147483648) ∧ (
  (r23 = 0 → (
    (X.2.1 a0 = some (12, 0)) ∧ (
    ∃ Q26 : Option Value → jx_I → Prop, (
    (jc V 201 316 (0, 0) [.ref a0, jy a1] X I22 R Q26 (fun _ _ => False)) ∧ (
    ∀ rv I28, Q26 rv I28 → rv = none ∧ (
    ((a2 < 0 ∨ 4 < a2) → (
      Q (some (jy ((I28 a0 46).toInt))) I28
    ))
    ∧ (a2 = 0 → (
      Q (some (jy ((I28 a0 67).toInt))) I28
    ))
    ∧ (a2 = 1 → (
      Q (some (jy ((I28 a0 66).toInt))) I28
    ))
    ∧ (a2 = 2 → (
      Q (some (jy ((I28 a0 68).toInt))) I28
    ))
    ∧ (a2 = 3 → (
      Q (some (jy ((I28 a0 69).toInt))) I28
    ))
    ∧ (a2 = 4 → (
      ((I28 a0 70).toInt = 0 → (
        Q (some (jy 0)) I28
      )) ∧ (¬ (I28 a0 70).toInt = 0 → (
        Q (some (jy 1)) I28
      ))
    ))))))
  )) ∧ (¬ r23 = 0 → (
    Q (some (jy 0)) I22
  )))))))
/-- GCModel.run -/
def wz_317 (V : jx_V) (X : jx_X) (R : jx_R) (Q : Option Value → jx_I → Prop) (QE : String → jx_I → Prop) (J19 : Nat → Int → jx_I → Prop) (J42 : Nat → Int → jx_I → Prop) (a0 : Nat) (a1 : Int) (a2 : Int) (I : jx_I) : Prop :=
  (X.2.1 a0 = some (12, 0)) ∧ (
  ∀ I2 : jx_I, I2 = jx_u I a0 0 (Int32.ofInt 0) → (
  ∃ Q3 : Option Value → jx_I → Prop, (
  (jc V 2 232 (0, 0) [.ref a0, jy a1] X I2 R Q3 (fun _ _ => False)) ∧ (
  ∀ rv I5, Q3 rv I5 → ∃ r6 : Int, rv = some (jy r6) ∧ (
  (-2147483648 ≤ r6 ∧ r6 < 2147483648) ∧ (
  (r6 ≠ 0 → (
    J19 a0 0 I5
  )) ∧ (r6 = 0 → (
    J19 a0 1 I5
  ))))))))
set_option maxRecDepth 20000 in
theorem wm_317 {V : jx_V} (hV : V.1.stackTraces = false) {X : jx_X} {R : jx_R} {I : jx_I} {Q : Option Value → jx_I → Prop} {QE : String → jx_I → Prop} {a0 : Nat} {a1 : Int} {a2 : Int} (r_a1 : -2147483648 ≤ a1 ∧ a1 < 2147483648) (r_a2 : -2147483648 ≤ a2 ∧ a2 < 2147483648) 
    (h : ∀ (J19 : Nat → Int → jx_I → Prop) (J42 : Nat → Int → jx_I → Prop), ((∀ (s0 : Nat) (s1 : Int) I, wz_317_19 V X R Q QE J19 J42 a0 a1 a2 s0 s1 I → J19 s0 s1 I) ∧ (∀ (s0 : Nat) (s1 : Int) I, wz_317_42 V X R Q QE J19 J42 a0 a1 a2 s0 s1 I → J42 s0 s1 I)) → wz_317 V X R Q QE J19 J42 a0 a1 a2 I) : jc V 202 317 (0, 0) [.ref a0, jy a1, jy a2] X I R Q QE := by
  refine jy_met hV (by decide) (n := 3) (rt := some .int) (hh := []) (ini := false) (C := jx_c317) (L := [some (.ref a0), some (jy a1), some (jy a2)]) jt_317 (Nat.le_of_ble_eq_true rfl) rfl ?_
  intro J hS
  have h := h (fun s0 s1 I => J 19 [jy s1, .ref s0] [some (.ref a0), some (jy a1), some (jy a2)] (0, 0) X I R) (fun s0 s1 I => J 42 [jy s1, .ref s0] [some (.ref a0), some (jy a1), some (jy a2)] (0, 0) X I R) ?_
  · unfold wz_317 at h
    refine jy_aload_n hS rfl rfl ?_
    refine jy_iconst hS rfl ?_
    obtain ⟨g1, h⟩ := h
    refine jy_putI hS rfl (by decide) g1 ?_
    intro I2 e9
    have h := h I2 e9
    clear e9
    refine jy_aload_n hS rfl rfl ?_
    refine jy_aload_n hS rfl rfl ?_
    refine jy_iload_n hS rfl rfl ?_
    obtain ⟨Q3, h⟩ := h
    obtain ⟨g4, h⟩ := h
    refine jy_callV hS rfl rfl rfl (Nat.le_of_ble_eq_true rfl) (Or.inl g1) g4 (by decide) ⟨by decide, by decide⟩ (Nat.le_of_ble_eq_true rfl) ?_ ?_
    rotate_left
    · exact fun Ex Xx Ix Rx hp => hp.2.2.2.elim
    intro rv Xx I5 Rx hp
    obtain ⟨e1, e2, hp⟩ := hp
    rw [e1, e2]
    clear e1 e2
    obtain ⟨r6, e1, h⟩ := h rv I5 hp
    rw [e1]
    clear e1
    change J 11 [jy r6, .ref a0] _ (0, 0) _ _ _
    obtain ⟨g7, h⟩ := h
    refine jy_if_ne hS rfl g7 (fun hq => ?_) (fun hq => ?_)
    · have h := h.1 hq
      refine jy_iconst hS rfl ?_
      exact jy_join hS h rfl (jy_sub_s (jy_sub_s (jy_sub_s jy_sub_0)))
    · have h := h.2 hq
      refine jy_iconst hS rfl ?_
      refine jy_goto hS rfl ?_
      exact jy_join hS h rfl (jy_sub_s (jy_sub_s (jy_sub_s jy_sub_0)))
  refine ⟨?_, ?_⟩
  · intro s0 s1 I h
    unfold wz_317_19 at h
    refine jy_iconst hS rfl ?_
    refine jy_iconst hS rfl ?_
    obtain ⟨g8, h⟩ := h
    obtain ⟨Q9, h⟩ := h
    obtain ⟨g10, h⟩ := h
    refine jy_callV hS rfl rfl rfl (Nat.le_of_ble_eq_true rfl) (Or.inl g8) g10 (by decide) ⟨by decide, by decide⟩ (Nat.le_of_ble_eq_true rfl) ?_ ?_
    rotate_left
    · exact fun Ex Xx Ix Rx hp => hp.2.2.2.elim
    intro rv Xx I11 Rx hp
    obtain ⟨e1, e2, hp⟩ := hp
    rw [e1, e2]
    clear e1 e2
    obtain ⟨r12, e1, h⟩ := h rv I11 hp
    rw [e1]
    clear e1
    change J 24 [jy r12] _ (0, 0) _ _ _
    obtain ⟨g13, h⟩ := h
    refine jy_if_ne hS rfl g13 (fun hq => ?_) (fun hq => ?_)
    · have h := h.1 hq
      refine jy_iconst hS rfl ?_
      exact jy_iret hS rfl rfl ⟨rfl, rfl, h⟩
    · have h := h.2 hq
      refine jy_aload_n hS rfl rfl ?_
      refine jy_iload_n hS rfl rfl ?_
      refine jy_iconst hS rfl ?_
      refine jy_iconst hS rfl ?_
      obtain ⟨Q14, h⟩ := h
      obtain ⟨g15, h⟩ := h
      refine jy_callS hS rfl rfl rfl (Nat.le_of_ble_eq_true rfl) g15 (by decide) ⟨by decide, by decide⟩ (Nat.le_of_ble_eq_true rfl) ?_ ?_
      rotate_left
      · exact fun Ex Xx Ix Rx hp => hp.2.2.2.elim
      intro rv Xx I16 Rx hp
      obtain ⟨e1, e2, hp⟩ := hp
      rw [e1, e2]
      clear e1 e2
      obtain ⟨r17, e1, h⟩ := h rv I16 hp
      rw [e1]
      clear e1
      change J 34 [jy r17, .ref a0] _ (0, 0) _ _ _
      obtain ⟨g18, h⟩ := h
      refine jy_if_ne hS rfl g18 (fun hq => ?_) (fun hq => ?_)
      · have h := h.1 hq
        refine jy_iconst hS rfl ?_
        exact jy_join hS h rfl (jy_sub_s (jy_sub_s (jy_sub_s jy_sub_0)))
      · have h := h.2 hq
        refine jy_iconst hS rfl ?_
        refine jy_goto hS rfl ?_
        exact jy_join hS h rfl (jy_sub_s (jy_sub_s (jy_sub_s jy_sub_0)))
  · intro s0 s1 I h
    unfold wz_317_42 at h
    refine jy_iconst hS rfl ?_
    refine jy_iconst hS rfl ?_
    obtain ⟨g19, h⟩ := h
    obtain ⟨Q20, h⟩ := h
    obtain ⟨g21, h⟩ := h
    refine jy_callV hS rfl rfl rfl (Nat.le_of_ble_eq_true rfl) (Or.inl g19) g21 (by decide) ⟨by decide, by decide⟩ (Nat.le_of_ble_eq_true rfl) ?_ ?_
    rotate_left
    · exact fun Ex Xx Ix Rx hp => hp.2.2.2.elim
    intro rv Xx I22 Rx hp
    obtain ⟨e1, e2, hp⟩ := hp
    rw [e1, e2]
    clear e1 e2
    obtain ⟨r23, e1, h⟩ := h rv I22 hp
    rw [e1]
    clear e1
    change J 47 [jy r23] _ (0, 0) _ _ _
    obtain ⟨g24, h⟩ := h
    refine jy_if_eq hS rfl g24 (fun hq => ?_) (fun hq => ?_)
    · have h := h.1 hq
      refine jy_aload_n hS rfl rfl ?_
      refine jy_iload_n hS rfl rfl ?_
      obtain ⟨g25, h⟩ := h
      obtain ⟨Q26, h⟩ := h
      obtain ⟨g27, h⟩ := h
      refine jy_callV hS rfl rfl rfl (Nat.le_of_ble_eq_true rfl) (Or.inl g25) g27 (by decide) ⟨by decide, by decide⟩ (Nat.le_of_ble_eq_true rfl) ?_ ?_
      rotate_left
      · exact fun Ex Xx Ix Rx hp => hp.2.2.2.elim
      intro rv Xx I28 Rx hp
      obtain ⟨e1, e2, hp⟩ := hp
      rw [e1, e2]
      clear e1 e2
      obtain ⟨e1, h⟩ := h rv I28 hp
      rw [e1]
      clear e1
      change J 57 [] _ (0, 0) _ _ _
      refine jy_iload_n hS rfl rfl ?_
      refine jy_tsw hS rfl r_a2 (fun hq => ?_) (fun hq8 hq => ?_)
      · have h := h.1 hq
        refine ⟨by decide, ?_⟩
        change J 125 _ _ _ _ _ _
        refine jy_aload_n hS rfl rfl ?_
        refine jy_getI hS rfl (by decide) g25 ?_
        exact jy_iret hS rfl rfl ⟨rfl, rfl, h⟩
      · have h := h.2
        have hq7 : a2 = 0 ∨ a2 = 1 ∨ a2 = 2 ∨ a2 = 3 ∨ a2 = 4 := by omega
        rcases hq7 with hq7 | hq7 | hq7 | hq7 | hq7
        · have h := h.1 hq7
          refine ⟨34, by rw [hq7]; rfl, by decide, ?_⟩
          change J 92 _ _ _ _ _ _
          refine jy_aload_n hS rfl rfl ?_
          refine jy_getI hS rfl (by decide) g25 ?_
          exact jy_iret hS rfl rfl ⟨rfl, rfl, h⟩
        · have h := h.2.1 hq7
          refine ⟨39, by rw [hq7]; rfl, by decide, ?_⟩
          change J 97 _ _ _ _ _ _
          refine jy_aload_n hS rfl rfl ?_
          refine jy_getI hS rfl (by decide) g25 ?_
          exact jy_iret hS rfl rfl ⟨rfl, rfl, h⟩
        · have h := h.2.2.1 hq7
          refine ⟨44, by rw [hq7]; rfl, by decide, ?_⟩
          change J 102 _ _ _ _ _ _
          refine jy_aload_n hS rfl rfl ?_
          refine jy_getI hS rfl (by decide) g25 ?_
          exact jy_iret hS rfl rfl ⟨rfl, rfl, h⟩
        · have h := h.2.2.2.1 hq7
          refine ⟨49, by rw [hq7]; rfl, by decide, ?_⟩
          change J 107 _ _ _ _ _ _
          refine jy_aload_n hS rfl rfl ?_
          refine jy_getI hS rfl (by decide) g25 ?_
          exact jy_iret hS rfl rfl ⟨rfl, rfl, h⟩
        · have h := h.2.2.2.2 hq7
          refine ⟨54, by rw [hq7]; rfl, by decide, ?_⟩
          change J 112 _ _ _ _ _ _
          refine jy_aload_n hS rfl rfl ?_
          refine jy_getI hS rfl (by decide) g25 ?_
          refine jy_if_eq hS rfl (jy_rng _) (fun hq => ?_) (fun hq => ?_)
          · have h := h.1 hq
            refine jy_iconst hS rfl ?_
            exact jy_iret hS rfl rfl ⟨rfl, rfl, h⟩
          · have h := h.2 hq
            refine jy_iconst hS rfl ?_
            refine jy_goto hS rfl ?_
            exact jy_iret hS rfl rfl ⟨rfl, rfl, h⟩
    · have h := h.2 hq
      refine jy_iconst hS rfl ?_
      exact jy_iret hS rfl rfl ⟨rfl, rfl, h⟩
theorem jt_318 : jx_ml 318 = 4 ∧ jx_rt 318 = some .int ∧ jx_hz 318 = [] ∧ decide ((jx_nm 318).name = "<init>") = false ∧ jx_code 318 = jx_c318 := by decide +kernel
/-- GCModel.ran, from 27 -/
def wz_318_27 (V : jx_V) (X : jx_X) (R : jx_R) (Q : Option Value → jx_I → Prop) (QE : String → jx_I → Prop) (J27 : Nat → Int → jx_I → Prop) (J49 : Nat → Int → jx_I → Prop) (a0 : Nat) (a1 : Int) (a2 : Int) (a3 : Int) (s0 : Nat) (s1 : Int) (I : jx_I) : Prop :=
  (X.2.1 s0 = some (12, 0)) ∧ (
  ∃ Q14 : Option Value → jx_I → Prop, (
  (jc V 1 202 (0, 0) [.ref s0, jy s1, jy 1, jy 0] X I R Q14 (fun _ _ => False)) ∧ (
  ∀ rv I16, Q14 rv I16 → ∃ r17 : Int, rv = some (jy r17) ∧ (
  (-2147483648 ≤ r17 ∧ r17 < 2147483648) ∧ (
  (r17 ≠ 0 → (
    Q (some (jy 0)) I16
  )) ∧ (r17 = 0 → (
    (X.2.1 a0 = some (12, 0)) ∧ (
    ∃ Q20 : Option Value → jx_I → Prop, (
    (jc V 2 233 (0, 0) [.ref a0, jy a3] X I16 R Q20 (fun _ _ => False)) ∧ (
    ∀ rv I22, Q20 rv I22 → ∃ r23 : Int, rv = some (jy r23) ∧ (
    (-2147483648 ≤ r23 ∧ r23 < 2147483648) ∧ (
    (r23 ≠ 0 → (
      J49 a0 0 I22
    )) ∧ (r23 = 0 → (
      J49 a0 1 I22
    )))))))
  )))))))
/-- GCModel.ran, from 49 -/
def wz_318_49 (V : jx_V) (X : jx_X) (R : jx_R) (Q : Option Value → jx_I → Prop) (QE : String → jx_I → Prop) (J27 : Nat → Int → jx_I → Prop) (J49 : Nat → Int → jx_I → Prop) (a0 : Nat) (a1 : Int) (a2 : Int) (a3 : Int) (s0 : Nat) (s1 : Int) (I : jx_I) : Prop :=
  (X.2.1 s0 = some (12, 0)) ∧ (
  ∃ Q26 : Option Value → jx_I → Prop, (
  (jc V 1 202 (0, 0) [.ref s0, jy s1, jy 2, jy 1] X I R Q26 (fun _ _ => False)) ∧ (
  ∀ rv I28, Q26 rv I28 → ∃ r29 : Int, rv = some (jy r29) ∧ (
  (-2147483648 ≤ r29 ∧ r29 < 2147483648) ∧ (
  (r29 = 0 → (
    (X.2.1 a0 = some (12, 0)) ∧ (
    ∃ Q32 : Option Value → jx_I → Prop, (
    (jc V 201 316 (0, 0) [.ref a0, jy a1] X I28 R Q32 (fun _ _ => False)) ∧ (
    ∀ rv I34, Q32 rv I34 → rv = none ∧ (
    ∃ q36 : Nat, (
    (R a0 42 = some q36) ∧ (
    ∃ n38 : Nat, (
    (X.2.1 q36 = some (104, n38) ∧ n38 < 2147483648) ∧ (
    (0 ≤ a3 ∧ a3 < n38) ∧ (
    ∃ q41 : Nat, (
    (R q36 a3.toNat = some q41) ∧ (
    ∃ n43 : Nat, (
    (X.2.1 q41 = some (100, n43) ∧ n43 < 2147483648) ∧ (
    (0 ≤ a2 ∧ a2 < n43) ∧ (
    Q (some (jy ((I34 q41 a2.toNat).toInt))) I34))))))))))))))
  )) ∧ (¬ r29 = 0 → (
    Q (some (jy 0)) I28
  )))))))
/-- GCModel.ran -/
def wz_318 (V : jx_V) (X : jx_X) (R : jx_R) (Q : Option Value → jx_I → Prop) (QE : String → jx_I → Prop) (J27 : Nat → Int → jx_I → Prop) (J49 : Nat → Int → jx_I → Prop) (a0 : Nat) (a1 : Int) (a2 : Int) (a3 : Int) (I : jx_I) : Prop :=
  (X.2.1 a0 = some (12, 0)) ∧ (
  ∀ I2 : jx_I, I2 = jx_u I a0 0 (Int32.ofInt 0) → (
  ∃ Q3 : Option Value → jx_I → Prop, (
  (jc V 2 232 (0, 0) [.ref a0, jy a1] X I2 R Q3 (fun _ _ => False)) ∧ (
  ∀ rv I5, Q3 rv I5 → ∃ r6 : Int, rv = some (jy r6) ∧ (
  (-2147483648 ≤ r6 ∧ r6 < 2147483648) ∧ (
  (r6 = 0 → (
    J27 a0 1 I5
  )) ∧ (¬ r6 = 0 → (
    ∃ Q8 : Option Value → jx_I → Prop, (
    (jc V 2 232 (0, 0) [.ref a0, jy a2] X I5 R Q8 (fun _ _ => False)) ∧ (
    ∀ rv I10, Q8 rv I10 → ∃ r11 : Int, rv = some (jy r11) ∧ (
    (-2147483648 ≤ r11 ∧ r11 < 2147483648) ∧ (
    (r11 ≠ 0 → (
      J27 a0 0 I10
    )) ∧ (r11 = 0 → (
      J27 a0 1 I10
    ))))))
  ))))))))
set_option maxRecDepth 20000 in
theorem wm_318 {V : jx_V} (hV : V.1.stackTraces = false) {X : jx_X} {R : jx_R} {I : jx_I} {Q : Option Value → jx_I → Prop} {QE : String → jx_I → Prop} {a0 : Nat} {a1 : Int} {a2 : Int} {a3 : Int} (r_a1 : -2147483648 ≤ a1 ∧ a1 < 2147483648) (r_a2 : -2147483648 ≤ a2 ∧ a2 < 2147483648) (r_a3 : -2147483648 ≤ a3 ∧ a3 < 2147483648) 
    (h : ∀ (J27 : Nat → Int → jx_I → Prop) (J49 : Nat → Int → jx_I → Prop), ((∀ (s0 : Nat) (s1 : Int) I, wz_318_27 V X R Q QE J27 J49 a0 a1 a2 a3 s0 s1 I → J27 s0 s1 I) ∧ (∀ (s0 : Nat) (s1 : Int) I, wz_318_49 V X R Q QE J27 J49 a0 a1 a2 a3 s0 s1 I → J49 s0 s1 I)) → wz_318 V X R Q QE J27 J49 a0 a1 a2 a3 I) : jc V 202 318 (0, 0) [.ref a0, jy a1, jy a2, jy a3] X I R Q QE := by
  refine jy_met hV (by decide) (n := 4) (rt := some .int) (hh := []) (ini := false) (C := jx_c318) (L := [some (.ref a0), some (jy a1), some (jy a2), some (jy a3)]) jt_318 (Nat.le_of_ble_eq_true rfl) rfl ?_
  intro J hS
  have h := h (fun s0 s1 I => J 27 [jy s1, .ref s0] [some (.ref a0), some (jy a1), some (jy a2), some (jy a3)] (0, 0) X I R) (fun s0 s1 I => J 49 [jy s1, .ref s0] [some (.ref a0), some (jy a1), some (jy a2), some (jy a3)] (0, 0) X I R) ?_
  · unfold wz_318 at h
    refine jy_aload_n hS rfl rfl ?_
    refine jy_iconst hS rfl ?_
    obtain ⟨g1, h⟩ := h
    refine jy_putI hS rfl (by decide) g1 ?_
    intro I2 e9
    have h := h I2 e9
    clear e9
    refine jy_aload_n hS rfl rfl ?_
    refine jy_aload_n hS rfl rfl ?_
    refine jy_iload_n hS rfl rfl ?_
    obtain ⟨Q3, h⟩ := h
    obtain ⟨g4, h⟩ := h
    refine jy_callV hS rfl rfl rfl (Nat.le_of_ble_eq_true rfl) (Or.inl g1) g4 (by decide) ⟨by decide, by decide⟩ (Nat.le_of_ble_eq_true rfl) ?_ ?_
    rotate_left
    · exact fun Ex Xx Ix Rx hp => hp.2.2.2.elim
    intro rv Xx I5 Rx hp
    obtain ⟨e1, e2, hp⟩ := hp
    rw [e1, e2]
    clear e1 e2
    obtain ⟨r6, e1, h⟩ := h rv I5 hp
    rw [e1]
    clear e1
    change J 11 [jy r6, .ref a0] _ (0, 0) _ _ _
    obtain ⟨g7, h⟩ := h
    refine jy_if_eq hS rfl g7 (fun hq => ?_) (fun hq => ?_)
    · have h := h.1 hq
      refine jy_iconst hS rfl ?_
      refine jy_goto hS rfl ?_
      exact jy_join hS h rfl (jy_sub_s (jy_sub_s (jy_sub_s (jy_sub_s jy_sub_0))))
    · have h := h.2 hq
      refine jy_aload_n hS rfl rfl ?_
      refine jy_iload_n hS rfl rfl ?_
      obtain ⟨Q8, h⟩ := h
      obtain ⟨g9, h⟩ := h
      refine jy_callV hS rfl rfl rfl (Nat.le_of_ble_eq_true rfl) (Or.inl g1) g9 (by decide) ⟨by decide, by decide⟩ (Nat.le_of_ble_eq_true rfl) ?_ ?_
      rotate_left
      · exact fun Ex Xx Ix Rx hp => hp.2.2.2.elim
      intro rv Xx I10 Rx hp
      obtain ⟨e1, e2, hp⟩ := hp
      rw [e1, e2]
      clear e1 e2
      obtain ⟨r11, e1, h⟩ := h rv I10 hp
      rw [e1]
      clear e1
      change J 19 [jy r11, .ref a0] _ (0, 0) _ _ _
      obtain ⟨g12, h⟩ := h
      refine jy_if_ne hS rfl g12 (fun hq => ?_) (fun hq => ?_)
      · have h := h.1 hq
        refine jy_iconst hS rfl ?_
        exact jy_join hS h rfl (jy_sub_s (jy_sub_s (jy_sub_s (jy_sub_s jy_sub_0))))
      · have h := h.2 hq
        refine jy_iconst hS rfl ?_
        refine jy_goto hS rfl ?_
        exact jy_join hS h rfl (jy_sub_s (jy_sub_s (jy_sub_s (jy_sub_s jy_sub_0))))
  refine ⟨?_, ?_⟩
  · intro s0 s1 I h
    unfold wz_318_27 at h
    refine jy_iconst hS rfl ?_
    refine jy_iconst hS rfl ?_
    obtain ⟨g13, h⟩ := h
    obtain ⟨Q14, h⟩ := h
    obtain ⟨g15, h⟩ := h
    refine jy_callV hS rfl rfl rfl (Nat.le_of_ble_eq_true rfl) (Or.inl g13) g15 (by decide) ⟨by decide, by decide⟩ (Nat.le_of_ble_eq_true rfl) ?_ ?_
    rotate_left
    · exact fun Ex Xx Ix Rx hp => hp.2.2.2.elim
    intro rv Xx I16 Rx hp
    obtain ⟨e1, e2, hp⟩ := hp
    rw [e1, e2]
    clear e1 e2
    obtain ⟨r17, e1, h⟩ := h rv I16 hp
    rw [e1]
    clear e1
    change J 32 [jy r17] _ (0, 0) _ _ _
    obtain ⟨g18, h⟩ := h
    refine jy_if_ne hS rfl g18 (fun hq => ?_) (fun hq => ?_)
    · have h := h.1 hq
      refine jy_iconst hS rfl ?_
      exact jy_iret hS rfl rfl ⟨rfl, rfl, h⟩
    · have h := h.2 hq
      refine jy_aload_n hS rfl rfl ?_
      refine jy_aload_n hS rfl rfl ?_
      refine jy_iload_n hS rfl rfl ?_
      obtain ⟨g19, h⟩ := h
      obtain ⟨Q20, h⟩ := h
      obtain ⟨g21, h⟩ := h
      refine jy_callV hS rfl rfl rfl (Nat.le_of_ble_eq_true rfl) (Or.inl g19) g21 (by decide) ⟨by decide, by decide⟩ (Nat.le_of_ble_eq_true rfl) ?_ ?_
      rotate_left
      · exact fun Ex Xx Ix Rx hp => hp.2.2.2.elim
      intro rv Xx I22 Rx hp
      obtain ⟨e1, e2, hp⟩ := hp
      rw [e1, e2]
      clear e1 e2
      obtain ⟨r23, e1, h⟩ := h rv I22 hp
      rw [e1]
      clear e1
      change J 41 [jy r23, .ref a0] _ (0, 0) _ _ _
      obtain ⟨g24, h⟩ := h
      refine jy_if_ne hS rfl g24 (fun hq => ?_) (fun hq => ?_)
      · have h := h.1 hq
        refine jy_iconst hS rfl ?_
        exact jy_join hS h rfl (jy_sub_s (jy_sub_s (jy_sub_s (jy_sub_s jy_sub_0))))
      · have h := h.2 hq
        refine jy_iconst hS rfl ?_
        refine jy_goto hS rfl ?_
        exact jy_join hS h rfl (jy_sub_s (jy_sub_s (jy_sub_s (jy_sub_s jy_sub_0))))
  · intro s0 s1 I h
    unfold wz_318_49 at h
    refine jy_iconst hS rfl ?_
    refine jy_iconst hS rfl ?_
    obtain ⟨g25, h⟩ := h
    obtain ⟨Q26, h⟩ := h
    obtain ⟨g27, h⟩ := h
    refine jy_callV hS rfl rfl rfl (Nat.le_of_ble_eq_true rfl) (Or.inl g25) g27 (by decide) ⟨by decide, by decide⟩ (Nat.le_of_ble_eq_true rfl) ?_ ?_
    rotate_left
    · exact fun Ex Xx Ix Rx hp => hp.2.2.2.elim
    intro rv Xx I28 Rx hp
    obtain ⟨e1, e2, hp⟩ := hp
    rw [e1, e2]
    clear e1 e2
    obtain ⟨r29, e1, h⟩ := h rv I28 hp
    rw [e1]
    clear e1
    change J 54 [jy r29] _ (0, 0) _ _ _
    obtain ⟨g30, h⟩ := h
    refine jy_if_eq hS rfl g30 (fun hq => ?_) (fun hq => ?_)
    · have h := h.1 hq
      refine jy_aload_n hS rfl rfl ?_
      refine jy_iload_n hS rfl rfl ?_
      obtain ⟨g31, h⟩ := h
      obtain ⟨Q32, h⟩ := h
      obtain ⟨g33, h⟩ := h
      refine jy_callV hS rfl rfl rfl (Nat.le_of_ble_eq_true rfl) (Or.inl g31) g33 (by decide) ⟨by decide, by decide⟩ (Nat.le_of_ble_eq_true rfl) ?_ ?_
      rotate_left
      · exact fun Ex Xx Ix Rx hp => hp.2.2.2.elim
      intro rv Xx I34 Rx hp
      obtain ⟨e1, e2, hp⟩ := hp
      rw [e1, e2]
      clear e1 e2
      obtain ⟨e1, h⟩ := h rv I34 hp
      rw [e1]
      clear e1
      change J 64 [] _ (0, 0) _ _ _
      refine jy_aload_n hS rfl rfl ?_
      obtain ⟨q36, h⟩ := h
      obtain ⟨g37, h⟩ := h
      refine jy_getR hS rfl (by decide) g31 g37 ?_
      refine jy_iload_n hS rfl rfl ?_
      obtain ⟨n38, h⟩ := h
      obtain ⟨g39, h⟩ := h
      obtain ⟨g40, h⟩ := h
      obtain ⟨q41, h⟩ := h
      obtain ⟨g42, h⟩ := h
      refine jy_aald hS rfl g39.1 (by decide) (Nat.le_of_lt g39.2) g40 g42 ?_
      refine jy_iload_n hS rfl rfl ?_
      obtain ⟨n43, h⟩ := h
      obtain ⟨g44, h⟩ := h
      obtain ⟨g45, h⟩ := h
      refine jy_iald hS rfl g44.1 (Nat.le_of_lt g44.2) g45 ?_
      exact jy_iret hS rfl rfl ⟨rfl, rfl, h⟩
    · have h := h.2 hq
      refine jy_iconst hS rfl ?_
      exact jy_iret hS rfl rfl ⟨rfl, rfl, h⟩
theorem jt_319 : jx_ml 319 = 3 ∧ jx_rt 319 = some .int ∧ jx_hz 319 = [] ∧ decide ((jx_nm 319).name = "<init>") = false ∧ jx_code 319 = jx_c319 := by decide +kernel
/-- GCModel.ranRow, from 19 -/
def wz_319_19 (V : jx_V) (X : jx_X) (R : jx_R) (Q : Option Value → jx_I → Prop) (QE : String → jx_I → Prop) (J19 : Nat → Int → jx_I → Prop) (a0 : Nat) (a1 : Int) (a2 : Int) (s0 : Nat) (s1 : Int) (I : jx_I) : Prop :=
  (X.2.1 s0 = some (12, 0)) ∧ (
  ∃ Q9 : Option Value → jx_I → Prop, (
  (jc V 1 202 (0, 0) [.ref s0, jy s1, jy 1, jy 0] X I R Q9 (fun _ _ => False)) ∧ (
  ∀ rv I11, Q9 rv I11 → ∃ r12 : Int, rv = some (jy r12) ∧ (
  (-2147483648 ≤ r12 ∧ r12 < 2147483648) ∧ (
  (r12 = 0 → (
    (X.2.1 a0 = some (12, 0)) ∧ (
    ∃ Q15 : Option Value → jx_I → Prop, (
    (jc V 201 316 (0, 0) [.ref a0, jy a1] X I11 R Q15 (fun _ _ => False)) ∧ (
    ∀ rv I17, Q15 rv I17 → rv = none ∧ (
    ∃ Q19 : Option Value → jx_I → Prop, (
    (jc V 1 203 (0, 0) [jy a2, jy 0, jy ((I17 a0 46).toInt - 1)] X I17 R Q19 (fun _ _ => False)) ∧ (
    ∀ rv I21, Q19 rv I21 → ∃ r22 : Int, rv = some (jy r22) ∧ (
    (-2147483648 ≤ r22 ∧ r22 < 2147483648) ∧ (
    (r22 = 0 → (
      Q (some (jy (-1))) I21
    )) ∧ (¬ r22 = 0 → (
      ∃ q24 : Nat, (
      (R a0 44 = some q24) ∧ (
      ∃ n26 : Nat, (
      (X.2.1 q24 = some (100, n26) ∧ n26 < 2147483648) ∧ (
      (0 ≤ a2 ∧ a2 < n26) ∧ (
      Q (some (jy ((I21 q24 a2.toNat).toInt))) I21)))))
    ))))))))))
  )) ∧ (¬ r12 = 0 → (
    Q (some (jy 0)) I11
  )))))))
/-- GCModel.ranRow -/
def wz_319 (V : jx_V) (X : jx_X) (R : jx_R) (Q : Option Value → jx_I → Prop) (QE : String → jx_I → Prop) (J19 : Nat → Int → jx_I → Prop) (a0 : Nat) (a1 : Int) (a2 : Int) (I : jx_I) : Prop :=
  (X.2.1 a0 = some (12, 0)) ∧ (
  ∀ I2 : jx_I, I2 = jx_u I a0 0 (Int32.ofInt 0) → (
  ∃ Q3 : Option Value → jx_I → Prop, (
  (jc V 2 232 (0, 0) [.ref a0, jy a1] X I2 R Q3 (fun _ _ => False)) ∧ (
  ∀ rv I5, Q3 rv I5 → ∃ r6 : Int, rv = some (jy r6) ∧ (
  (-2147483648 ≤ r6 ∧ r6 < 2147483648) ∧ (
  (r6 ≠ 0 → (
    J19 a0 0 I5
  )) ∧ (r6 = 0 → (
    J19 a0 1 I5
  ))))))))
set_option maxRecDepth 20000 in
theorem wm_319 {V : jx_V} (hV : V.1.stackTraces = false) {X : jx_X} {R : jx_R} {I : jx_I} {Q : Option Value → jx_I → Prop} {QE : String → jx_I → Prop} {a0 : Nat} {a1 : Int} {a2 : Int} (r_a1 : -2147483648 ≤ a1 ∧ a1 < 2147483648) (r_a2 : -2147483648 ≤ a2 ∧ a2 < 2147483648) 
    (h : ∀ (J19 : Nat → Int → jx_I → Prop), ((∀ (s0 : Nat) (s1 : Int) I, wz_319_19 V X R Q QE J19 a0 a1 a2 s0 s1 I → J19 s0 s1 I)) → wz_319 V X R Q QE J19 a0 a1 a2 I) : jc V 202 319 (0, 0) [.ref a0, jy a1, jy a2] X I R Q QE := by
  refine jy_met hV (by decide) (n := 3) (rt := some .int) (hh := []) (ini := false) (C := jx_c319) (L := [some (.ref a0), some (jy a1), some (jy a2)]) jt_319 (Nat.le_of_ble_eq_true rfl) rfl ?_
  intro J hS
  have h := h (fun s0 s1 I => J 19 [jy s1, .ref s0] [some (.ref a0), some (jy a1), some (jy a2)] (0, 0) X I R) ?_
  · unfold wz_319 at h
    refine jy_aload_n hS rfl rfl ?_
    refine jy_iconst hS rfl ?_
    obtain ⟨g1, h⟩ := h
    refine jy_putI hS rfl (by decide) g1 ?_
    intro I2 e9
    have h := h I2 e9
    clear e9
    refine jy_aload_n hS rfl rfl ?_
    refine jy_aload_n hS rfl rfl ?_
    refine jy_iload_n hS rfl rfl ?_
    obtain ⟨Q3, h⟩ := h
    obtain ⟨g4, h⟩ := h
    refine jy_callV hS rfl rfl rfl (Nat.le_of_ble_eq_true rfl) (Or.inl g1) g4 (by decide) ⟨by decide, by decide⟩ (Nat.le_of_ble_eq_true rfl) ?_ ?_
    rotate_left
    · exact fun Ex Xx Ix Rx hp => hp.2.2.2.elim
    intro rv Xx I5 Rx hp
    obtain ⟨e1, e2, hp⟩ := hp
    rw [e1, e2]
    clear e1 e2
    obtain ⟨r6, e1, h⟩ := h rv I5 hp
    rw [e1]
    clear e1
    change J 11 [jy r6, .ref a0] _ (0, 0) _ _ _
    obtain ⟨g7, h⟩ := h
    refine jy_if_ne hS rfl g7 (fun hq => ?_) (fun hq => ?_)
    · have h := h.1 hq
      refine jy_iconst hS rfl ?_
      exact jy_join hS h rfl (jy_sub_s (jy_sub_s (jy_sub_s jy_sub_0)))
    · have h := h.2 hq
      refine jy_iconst hS rfl ?_
      refine jy_goto hS rfl ?_
      exact jy_join hS h rfl (jy_sub_s (jy_sub_s (jy_sub_s jy_sub_0)))
  · intro s0 s1 I h
    unfold wz_319_19 at h
    refine jy_iconst hS rfl ?_
    refine jy_iconst hS rfl ?_
    obtain ⟨g8, h⟩ := h
    obtain ⟨Q9, h⟩ := h
    obtain ⟨g10, h⟩ := h
    refine jy_callV hS rfl rfl rfl (Nat.le_of_ble_eq_true rfl) (Or.inl g8) g10 (by decide) ⟨by decide, by decide⟩ (Nat.le_of_ble_eq_true rfl) ?_ ?_
    rotate_left
    · exact fun Ex Xx Ix Rx hp => hp.2.2.2.elim
    intro rv Xx I11 Rx hp
    obtain ⟨e1, e2, hp⟩ := hp
    rw [e1, e2]
    clear e1 e2
    obtain ⟨r12, e1, h⟩ := h rv I11 hp
    rw [e1]
    clear e1
    change J 24 [jy r12] _ (0, 0) _ _ _
    obtain ⟨g13, h⟩ := h
    refine jy_if_eq hS rfl g13 (fun hq => ?_) (fun hq => ?_)
    · have h := h.1 hq
      refine jy_aload_n hS rfl rfl ?_
      refine jy_iload_n hS rfl rfl ?_
      obtain ⟨g14, h⟩ := h
      obtain ⟨Q15, h⟩ := h
      obtain ⟨g16, h⟩ := h
      refine jy_callV hS rfl rfl rfl (Nat.le_of_ble_eq_true rfl) (Or.inl g14) g16 (by decide) ⟨by decide, by decide⟩ (Nat.le_of_ble_eq_true rfl) ?_ ?_
      rotate_left
      · exact fun Ex Xx Ix Rx hp => hp.2.2.2.elim
      intro rv Xx I17 Rx hp
      obtain ⟨e1, e2, hp⟩ := hp
      rw [e1, e2]
      clear e1 e2
      obtain ⟨e1, h⟩ := h rv I17 hp
      rw [e1]
      clear e1
      change J 34 [] _ (0, 0) _ _ _
      refine jy_iload_n hS rfl rfl ?_
      refine jy_iconst hS rfl ?_
      refine jy_aload_n hS rfl rfl ?_
      refine jy_getI hS rfl (by decide) g14 ?_
      refine jy_iconst hS rfl ?_
      refine jy_isub hS rfl ?_
      obtain ⟨Q19, h⟩ := h
      obtain ⟨g20, h⟩ := h
      refine jy_callS hS rfl rfl rfl (Nat.le_of_ble_eq_true rfl) g20 (by decide) ⟨by decide, by decide⟩ (Nat.le_of_ble_eq_true rfl) ?_ ?_
      rotate_left
      · exact fun Ex Xx Ix Rx hp => hp.2.2.2.elim
      intro rv Xx I21 Rx hp
      obtain ⟨e1, e2, hp⟩ := hp
      rw [e1, e2]
      clear e1 e2
      obtain ⟨r22, e1, h⟩ := h rv I21 hp
      rw [e1]
      clear e1
      change J 45 [jy r22] _ (0, 0) _ _ _
      obtain ⟨g23, h⟩ := h
      refine jy_if_eq hS rfl g23 (fun hq => ?_) (fun hq => ?_)
      · have h := h.1 hq
        refine jy_iconst hS rfl ?_
        exact jy_iret hS rfl rfl ⟨rfl, rfl, h⟩
      · have h := h.2 hq
        refine jy_aload_n hS rfl rfl ?_
        obtain ⟨q24, h⟩ := h
        obtain ⟨g25, h⟩ := h
        refine jy_getR hS rfl (by decide) g14 g25 ?_
        refine jy_iload_n hS rfl rfl ?_
        obtain ⟨n26, h⟩ := h
        obtain ⟨g27, h⟩ := h
        obtain ⟨g28, h⟩ := h
        refine jy_iald hS rfl g27.1 (Nat.le_of_lt g27.2) g28 ?_
        refine jy_goto hS rfl ?_
        exact jy_iret hS rfl rfl ⟨rfl, rfl, h⟩
    · have h := h.2 hq
      refine jy_iconst hS rfl ?_
      exact jy_iret hS rfl rfl ⟨rfl, rfl, h⟩
theorem jt_320 : jx_ml 320 = 4 ∧ jx_rt 320 = some .int ∧ jx_hz 320 = [] ∧ decide ((jx_nm 320).name = "<init>") = false ∧ jx_code 320 = jx_c320 := by decide +kernel
/-- GCModel.begin, from 11 -/
def wz_320_11 (V : jx_V) (X : jx_X) (R : jx_R) (Q : Option Value → jx_I → Prop) (QE : String → jx_I → Prop) (J11 : Int → Int → Int → jx_I → Prop) (J49 : Int → Int → Int → jx_I → Prop) (a0 : Nat) (l1 : Int) (l2 : Int) (l3 : Int) (I : jx_I) : Prop :=
  (X.2.1 a0 = some (12, 0)) ∧ (
  ∃ q4 : Nat, (
  (R a0 11 = some q4) ∧ (
  ∃ n6 : Nat, (
  (X.2.1 q4 = some (100, n6) ∧ n6 < 2147483648) ∧ (
  (0 ≤ (0 : Int) ∧ (0 : Int) < n6) ∧ (
  (-2147483648 ≤ l3 ∧ l3 < 2147483648) ∧ (
  ((I q4 (0 : Int).toNat).toInt ≤ l3 → (
    Q (some (jy l1)) I
  )) ∧ (¬ (I q4 (0 : Int).toNat).toInt ≤ l3 → (
    ∃ Q10 : Option Value → jx_I → Prop, (
    (jc V 201 316 (0, 0) [.ref a0, jy l3] X I R Q10 (fun _ _ => False)) ∧ (
    ∀ rv I12, Q10 rv I12 → rv = none ∧ (
    (-2147483648 ≤ l1 ∧ l1 < 2147483648) ∧ (
    (l1 = (-1) → (
      J49 l3 ((I12 a0 67).toInt) l3 I12
    )) ∧ (¬ l1 = (-1) → (
      (-2147483648 ≤ l2 ∧ l2 < 2147483648) ∧ (
      ((I12 a0 67).toInt < l2 → (
        J49 l3 ((I12 a0 67).toInt) l3 I12
      )) ∧ (¬ (I12 a0 67).toInt < l2 → (
        J49 l1 l2 l3 I12
      )))
    ))))))
  )))))))))
/-- GCModel.begin, from 49 -/
def wz_320_49 (V : jx_V) (X : jx_X) (R : jx_R) (Q : Option Value → jx_I → Prop) (QE : String → jx_I → Prop) (J11 : Int → Int → Int → jx_I → Prop) (J49 : Int → Int → Int → jx_I → Prop) (a0 : Nat) (l1 : Int) (l2 : Int) (l3 : Int) (I : jx_I) : Prop :=
  J11 l1 l2 (l3 + 1) I
/-- GCModel.begin -/
def wz_320 (V : jx_V) (X : jx_X) (R : jx_R) (Q : Option Value → jx_I → Prop) (QE : String → jx_I → Prop) (J11 : Int → Int → Int → jx_I → Prop) (J49 : Int → Int → Int → jx_I → Prop) (a0 : Nat) (I : jx_I) : Prop :=
  (X.2.1 a0 = some (12, 0)) ∧ (
  ∀ I2 : jx_I, I2 = jx_u I a0 0 (Int32.ofInt 0) → (
  J11 (-1) 0 0 I2))
set_option maxRecDepth 20000 in
theorem wm_320 {V : jx_V} (hV : V.1.stackTraces = false) {X : jx_X} {R : jx_R} {I : jx_I} {Q : Option Value → jx_I → Prop} {QE : String → jx_I → Prop} {a0 : Nat}  
    (h : ∀ (J11 : Int → Int → Int → jx_I → Prop) (J49 : Int → Int → Int → jx_I → Prop), ((∀ (l1 : Int) (l2 : Int) (l3 : Int) I, wz_320_11 V X R Q QE J11 J49 a0 l1 l2 l3 I → J11 l1 l2 l3 I) ∧ (∀ (l1 : Int) (l2 : Int) (l3 : Int) I, wz_320_49 V X R Q QE J11 J49 a0 l1 l2 l3 I → J49 l1 l2 l3 I)) → wz_320 V X R Q QE J11 J49 a0 I) : jc V 202 320 (0, 0) [.ref a0] X I R Q QE := by
  refine jy_met hV (by decide) (n := 4) (rt := some .int) (hh := []) (ini := false) (C := jx_c320) (L := [some (.ref a0), none, none, none]) jt_320 (Nat.le_of_ble_eq_true rfl) rfl ?_
  intro J hS
  have h := h (fun l1 l2 l3 I => J 11 [] [some (.ref a0), some (jy l1), some (jy l2), some (jy l3)] (0, 0) X I R) (fun l1 l2 l3 I => J 49 [] [some (.ref a0), some (jy l1), some (jy l2), some (jy l3)] (0, 0) X I R) ?_
  · unfold wz_320 at h
    refine jy_aload_n hS rfl rfl ?_
    refine jy_iconst hS rfl ?_
    obtain ⟨g1, h⟩ := h
    refine jy_putI hS rfl (by decide) g1 ?_
    intro I2 e9
    have h := h I2 e9
    clear e9
    refine jy_iconst hS rfl ?_
    refine jy_istore_n hS rfl (Nat.le_of_ble_eq_true rfl) (L' := [some (.ref a0), some (jy (-1)), none, none]) rfl ?_
    refine jy_iconst hS rfl ?_
    refine jy_istore_n hS rfl (Nat.le_of_ble_eq_true rfl) (L' := [some (.ref a0), some (jy (-1)), some (jy 0), none]) rfl ?_
    refine jy_iconst hS rfl ?_
    refine jy_istore_n hS rfl (Nat.le_of_ble_eq_true rfl) (L' := [some (.ref a0), some (jy (-1)), some (jy 0), some (jy 0)]) rfl ?_
    exact jy_join hS h rfl (jy_sub_s (jy_sub_s (jy_sub_s (jy_sub_s jy_sub_0))))
  refine ⟨?_, ?_⟩
  · intro l1 l2 l3 I h
    unfold wz_320_11 at h
    refine jy_iload_n hS rfl rfl ?_
    refine jy_aload_n hS rfl rfl ?_
    obtain ⟨g3, h⟩ := h
    obtain ⟨q4, h⟩ := h
    obtain ⟨g5, h⟩ := h
    refine jy_getR hS rfl (by decide) g3 g5 ?_
    refine jy_iconst hS rfl ?_
    obtain ⟨n6, h⟩ := h
    obtain ⟨g7, h⟩ := h
    obtain ⟨g8, h⟩ := h
    refine jy_iald hS rfl g7.1 (Nat.le_of_lt g7.2) g8 ?_
    obtain ⟨g9, h⟩ := h
    refine jy_icmp_ge hS rfl ⟨g9, (jy_rng _)⟩ (fun hq => ?_) (fun hq => ?_)
    · have h := h.1 hq
      refine jy_iload_n hS rfl rfl ?_
      exact jy_iret hS rfl rfl ⟨rfl, rfl, h⟩
    · have h := h.2 hq
      refine jy_aload_n hS rfl rfl ?_
      refine jy_iload_n hS rfl rfl ?_
      obtain ⟨Q10, h⟩ := h
      obtain ⟨g11, h⟩ := h
      refine jy_callV hS rfl rfl rfl (Nat.le_of_ble_eq_true rfl) (Or.inl g3) g11 (by decide) ⟨by decide, by decide⟩ (Nat.le_of_ble_eq_true rfl) ?_ ?_
      rotate_left
      · exact fun Ex Xx Ix Rx hp => hp.2.2.2.elim
      intro rv Xx I12 Rx hp
      obtain ⟨e1, e2, hp⟩ := hp
      rw [e1, e2]
      clear e1 e2
      obtain ⟨e1, h⟩ := h rv I12 hp
      rw [e1]
      clear e1
      change J 26 [] _ (0, 0) _ _ _
      refine jy_iload_n hS rfl rfl ?_
      refine jy_iconst hS rfl ?_
      obtain ⟨g14, h⟩ := h
      refine jy_icmp_eq hS rfl ⟨g14, ⟨by decide, by decide⟩⟩ (fun hq => ?_) (fun hq => ?_)
      · have h := h.1 hq
        refine jy_iload_n hS rfl rfl ?_
        refine jy_istore_n hS rfl (Nat.le_of_ble_eq_true rfl) (L' := [some (.ref a0), some (jy l3), some (jy l2), some (jy l3)]) rfl ?_
        refine jy_aload_n hS rfl rfl ?_
        refine jy_getI hS rfl (by decide) g3 ?_
        refine jy_istore_n hS rfl (Nat.le_of_ble_eq_true rfl) (L' := [some (.ref a0), some (jy l3), some (jy ((I12 a0 67).toInt)), some (jy l3)]) rfl ?_
        exact jy_join hS h rfl (jy_sub_s (jy_sub_s (jy_sub_s (jy_sub_s jy_sub_0))))
      · have h := h.2 hq
        refine jy_aload_n hS rfl rfl ?_
        refine jy_getI hS rfl (by decide) g3 ?_
        refine jy_iload_n hS rfl rfl ?_
        obtain ⟨g15, h⟩ := h
        refine jy_icmp_lt hS rfl ⟨(jy_rng _), g15⟩ (fun hq => ?_) (fun hq => ?_)
        · have h := h.1 hq
          refine jy_iload_n hS rfl rfl ?_
          refine jy_istore_n hS rfl (Nat.le_of_ble_eq_true rfl) (L' := [some (.ref a0), some (jy l3), some (jy l2), some (jy l3)]) rfl ?_
          refine jy_aload_n hS rfl rfl ?_
          refine jy_getI hS rfl (by decide) g3 ?_
          refine jy_istore_n hS rfl (Nat.le_of_ble_eq_true rfl) (L' := [some (.ref a0), some (jy l3), some (jy ((I12 a0 67).toInt)), some (jy l3)]) rfl ?_
          exact jy_join hS h rfl (jy_sub_s (jy_sub_s (jy_sub_s (jy_sub_s jy_sub_0))))
        · have h := h.2 hq
          refine jy_goto hS rfl ?_
          exact jy_join hS h rfl (jy_sub_s (jy_sub_s (jy_sub_s (jy_sub_s jy_sub_0))))
  · intro l1 l2 l3 I h
    unfold wz_320_49 at h
    refine jy_iinc hS rfl rfl (L' := [some (.ref a0), some (jy l1), some (jy l2), some (jy (l3 + 1))]) rfl ?_
    refine jy_goto hS rfl ?_
    exact jy_join hS h rfl (jy_sub_s (jy_sub_s (jy_sub_s (jy_sub_s jy_sub_0))))
theorem jt_321 : jx_ml 321 = 4 ∧ jx_rt 321 = some .int ∧ jx_hz 321 = [] ∧ decide ((jx_nm 321).name = "<init>") = false ∧ jx_code 321 = jx_c321 := by decide +kernel
/-- GCModel.moves, from 11 -/
def wz_321_11 (V : jx_V) (X : jx_X) (R : jx_R) (Q : Option Value → jx_I → Prop) (QE : String → jx_I → Prop) (J11 : jx_I → Prop) (a0 : Nat) (a1 : Nat) (a2 : Int) (a3 : Int)  (I : jx_I) : Prop :=
  (X.2.1 a0 = some (12, 0)) ∧ (
  ∀ I12 : jx_I, I12 = jx_u I a0 41 (Int32.ofInt ((I a0 41).toInt + 1)) → (
  ∃ n13 : Nat, (
  (X.2.1 a1 = some (100, n13) ∧ n13 < 2147483648) ∧ (
  (0 ≤ ((I12 a0 41).toInt - 1) ∧ ((I12 a0 41).toInt - 1) < n13) ∧ (
  Q (some (jy ((I12 a1 ((I12 a0 41).toInt - 1).toNat).toInt))) I12)))))
/-- GCModel.moves -/
def wz_321 (V : jx_V) (X : jx_X) (R : jx_R) (Q : Option Value → jx_I → Prop) (QE : String → jx_I → Prop) (J11 : jx_I → Prop) (a0 : Nat) (a1 : Nat) (a2 : Int) (a3 : Int) (I : jx_I) : Prop :=
  (a3 ≠ 0 → (
    (X.2.1 a0 = some (12, 0)) ∧ (
    ∀ I2 : jx_I, I2 = jx_u I a0 41 (Int32.ofInt ((I a0 41).toInt + 1)) → (
    ∃ n3 : Nat, (
    (X.2.1 a1 = some (100, n3) ∧ n3 < 2147483648) ∧ (
    (0 ≤ ((I2 a0 41).toInt - 1) ∧ ((I2 a0 41).toInt - 1) < n3) ∧ (
    Q (some (jy ((I2 a1 ((I2 a0 41).toInt - 1).toNat).toInt))) I2)))))
  )) ∧ (a3 = 0 → (
    (X.2.1 a0 = some (12, 0)) ∧ (
    ∃ n7 : Nat, (
    (X.2.1 a1 = some (100, n7) ∧ n7 < 2147483648) ∧ (
    (0 ≤ (I a0 41).toInt ∧ (I a0 41).toInt < n7) ∧ (
    ∀ I10 : jx_I, I10 = jx_u I a1 ((I a0 41).toInt).toNat (Int32.ofInt a2) → (
    J11 I10)))))
  ))
set_option maxRecDepth 20000 in
theorem wm_321 {V : jx_V} (hV : V.1.stackTraces = false) {X : jx_X} {R : jx_R} {I : jx_I} {Q : Option Value → jx_I → Prop} {QE : String → jx_I → Prop} {a0 : Nat} {a1 : Nat} {a2 : Int} {a3 : Int} (r_a2 : -2147483648 ≤ a2 ∧ a2 < 2147483648) (r_a3 : -2147483648 ≤ a3 ∧ a3 < 2147483648) 
    (h : ∀ (J11 : jx_I → Prop), ((∀  I, wz_321_11 V X R Q QE J11 a0 a1 a2 a3  I → J11  I)) → wz_321 V X R Q QE J11 a0 a1 a2 a3 I) : jc V 1 321 (0, 0) [.ref a0, .ref a1, jy a2, jy a3] X I R Q QE := by
  refine jy_met hV (by decide) (n := 4) (rt := some .int) (hh := []) (ini := false) (C := jx_c321) (L := [some (.ref a0), some (.ref a1), some (jy a2), some (jy a3)]) jt_321 (Nat.le_of_ble_eq_true rfl) rfl ?_
  intro J hS
  have h := h (fun  I => J 11 [] [some (.ref a0), some (.ref a1), none, none] (0, 0) X I R) ?_
  · unfold wz_321 at h
    refine jy_iload_n hS rfl rfl ?_
    refine jy_if_ne hS rfl r_a3 (fun hq => ?_) (fun hq => ?_)
    · have h := h.1 hq
      refine jy_aload_n hS rfl rfl ?_
      refine jy_dup hS rfl rfl ?_
      obtain ⟨g1, h⟩ := h
      refine jy_getI hS rfl (by decide) g1 ?_
      refine jy_iconst hS rfl ?_
      refine jy_iadd hS rfl ?_
      refine jy_putI hS rfl (by decide) g1 ?_
      intro I2 e9
      have h := h I2 e9
      clear e9
      refine jy_aload_n hS rfl rfl ?_
      refine jy_aload_n hS rfl rfl ?_
      refine jy_getI hS rfl (by decide) g1 ?_
      refine jy_iconst hS rfl ?_
      refine jy_isub hS rfl ?_
      obtain ⟨n3, h⟩ := h
      obtain ⟨g4, h⟩ := h
      obtain ⟨g5, h⟩ := h
      refine jy_iald hS rfl g4.1 (Nat.le_of_lt g4.2) g5 ?_
      exact jy_iret hS rfl rfl ⟨rfl, rfl, h⟩
    · have h := h.2 hq
      refine jy_aload_n hS rfl rfl ?_
      refine jy_aload_n hS rfl rfl ?_
      obtain ⟨g6, h⟩ := h
      refine jy_getI hS rfl (by decide) g6 ?_
      refine jy_iload_n hS rfl rfl ?_
      obtain ⟨n7, h⟩ := h
      obtain ⟨g8, h⟩ := h
      obtain ⟨g9, h⟩ := h
      refine jy_iast hS rfl g8.1 (Nat.le_of_lt g8.2) g9 ?_
      intro I10 e9
      have h := h I10 e9
      clear e9
      exact jy_join hS h rfl (jy_sub_s (jy_sub_s (jy_sub_n (jy_sub_n jy_sub_0))))
  · intro  I h
    unfold wz_321_11 at h
    refine jy_aload_n hS rfl rfl ?_
    refine jy_dup hS rfl rfl ?_
    obtain ⟨g11, h⟩ := h
    refine jy_getI hS rfl (by decide) g11 ?_
    refine jy_iconst hS rfl ?_
    refine jy_iadd hS rfl ?_
    refine jy_putI hS rfl (by decide) g11 ?_
    intro I12 e9
    have h := h I12 e9
    clear e9
    refine jy_aload_n hS rfl rfl ?_
    refine jy_aload_n hS rfl rfl ?_
    refine jy_getI hS rfl (by decide) g11 ?_
    refine jy_iconst hS rfl ?_
    refine jy_isub hS rfl ?_
    obtain ⟨n13, h⟩ := h
    obtain ⟨g14, h⟩ := h
    obtain ⟨g15, h⟩ := h
    refine jy_iald hS rfl g14.1 (Nat.le_of_lt g14.2) g15 ?_
    exact jy_iret hS rfl rfl ⟨rfl, rfl, h⟩
theorem jt_322 : jx_ml 322 = 5 ∧ jx_rt 322 = none ∧ jx_hz 322 = [] ∧ decide ((jx_nm 322).name = "<init>") = false ∧ jx_code 322 = jx_c322 := by decide +kernel
/-- GCModel.movesAll, from 63 -/
def wz_322_63 (V : jx_V) (X : jx_X) (R : jx_R) (Q : Option Value → jx_I → Prop) (QE : String → jx_I → Prop) (J63 : Int → jx_I → Prop) (J95 : Int → jx_I → Prop) (J127 : Int → jx_I → Prop) (J136 : Int → Int → jx_I → Prop) (J180 : Int → jx_I → Prop) (J189 : Int → Int → jx_I → Prop) (J258 : Int → jx_I → Prop) (J267 : Int → Int → jx_I → Prop) (a0 : Nat) (a1 : Nat) (a2 : Int) (l3 : Int) (I : jx_I) : Prop :=
  (-2147483648 ≤ l3 ∧ l3 < 2147483648) ∧ (
  (8 ≤ l3 → (
    J95 0 I
  )) ∧ (¬ 8 ≤ l3 → (
    (X.2.1 a0 = some (12, 0)) ∧ (
    ∃ q25 : Nat, (
    (R a0 34 = some q25) ∧ (
    ∃ n27 : Nat, (
    (X.2.1 q25 = some (100, n27) ∧ n27 < 2147483648) ∧ (
    (0 ≤ l3 ∧ l3 < n27) ∧ (
    ∃ Q30 : Option Value → jx_I → Prop, (
    (jc V 1 321 (0, 0) [.ref a0, .ref a1, jy ((I q25 l3.toNat).toInt), jy a2] X I R Q30 (fun _ _ => False)) ∧ (
    ∀ rv I32, Q30 rv I32 → ∃ r33 : Int, rv = some (jy r33) ∧ (
    (0 ≤ l3 ∧ l3 < n27) ∧ (
    ∀ I35 : jx_I, I35 = jx_u I32 q25 l3.toNat (Int32.ofInt r33) → (
    J63 (l3 + 1) I35)))))))))))
  )))
/-- GCModel.movesAll, from 95 -/
def wz_322_95 (V : jx_V) (X : jx_X) (R : jx_R) (Q : Option Value → jx_I → Prop) (QE : String → jx_I → Prop) (J63 : Int → jx_I → Prop) (J95 : Int → jx_I → Prop) (J127 : Int → jx_I → Prop) (J136 : Int → Int → jx_I → Prop) (J180 : Int → jx_I → Prop) (J189 : Int → Int → jx_I → Prop) (J258 : Int → jx_I → Prop) (J267 : Int → Int → jx_I → Prop) (a0 : Nat) (a1 : Nat) (a2 : Int) (l3 : Int) (I : jx_I) : Prop :=
  (-2147483648 ≤ l3 ∧ l3 < 2147483648) ∧ (
  (12 ≤ l3 → (
    J127 0 I
  )) ∧ (¬ 12 ≤ l3 → (
    (X.2.1 a0 = some (12, 0)) ∧ (
    ∃ q38 : Nat, (
    (R a0 35 = some q38) ∧ (
    ∃ n40 : Nat, (
    (X.2.1 q38 = some (100, n40) ∧ n40 < 2147483648) ∧ (
    (0 ≤ l3 ∧ l3 < n40) ∧ (
    ∃ Q43 : Option Value → jx_I → Prop, (
    (jc V 1 321 (0, 0) [.ref a0, .ref a1, jy ((I q38 l3.toNat).toInt), jy a2] X I R Q43 (fun _ _ => False)) ∧ (
    ∀ rv I45, Q43 rv I45 → ∃ r46 : Int, rv = some (jy r46) ∧ (
    (0 ≤ l3 ∧ l3 < n40) ∧ (
    ∀ I48 : jx_I, I48 = jx_u I45 q38 l3.toNat (Int32.ofInt r46) → (
    J95 (l3 + 1) I48)))))))))))
  )))
/-- GCModel.movesAll, from 127 -/
def wz_322_127 (V : jx_V) (X : jx_X) (R : jx_R) (Q : Option Value → jx_I → Prop) (QE : String → jx_I → Prop) (J63 : Int → jx_I → Prop) (J95 : Int → jx_I → Prop) (J127 : Int → jx_I → Prop) (J136 : Int → Int → jx_I → Prop) (J180 : Int → jx_I → Prop) (J189 : Int → Int → jx_I → Prop) (J258 : Int → jx_I → Prop) (J267 : Int → Int → jx_I → Prop) (a0 : Nat) (a1 : Nat) (a2 : Int) (l3 : Int) (I : jx_I) : Prop :=
  (-2147483648 ≤ l3 ∧ l3 < 2147483648) ∧ (
  (9 ≤ l3 → (
    J180 0 I
  )) ∧ (¬ 9 ≤ l3 → (
    J136 l3 0 I
  )))
/-- GCModel.movesAll, from 136 -/
def wz_322_136 (V : jx_V) (X : jx_X) (R : jx_R) (Q : Option Value → jx_I → Prop) (QE : String → jx_I → Prop) (J63 : Int → jx_I → Prop) (J95 : Int → jx_I → Prop) (J127 : Int → jx_I → Prop) (J136 : Int → Int → jx_I → Prop) (J180 : Int → jx_I → Prop) (J189 : Int → Int → jx_I → Prop) (J258 : Int → jx_I → Prop) (J267 : Int → Int → jx_I → Prop) (a0 : Nat) (a1 : Nat) (a2 : Int) (l3 : Int) (l4 : Int) (I : jx_I) : Prop :=
  (-2147483648 ≤ l4 ∧ l4 < 2147483648) ∧ (
  (2 ≤ l4 → (
    J127 (l3 + 1) I
  )) ∧ (¬ 2 ≤ l4 → (
    (X.2.1 a0 = some (12, 0)) ∧ (
    ∃ q52 : Nat, (
    (R a0 31 = some q52) ∧ (
    ∃ n54 : Nat, (
    (X.2.1 q52 = some (104, n54) ∧ n54 < 2147483648) ∧ (
    (0 ≤ l3 ∧ l3 < n54) ∧ (
    ∃ q57 : Nat, (
    (R q52 l3.toNat = some q57) ∧ (
    (0 ≤ l3 ∧ l3 < n54) ∧ (
    ∃ q60 : Nat, (
    (R q52 l3.toNat = some q60) ∧ (
    ∃ n62 : Nat, (
    (X.2.1 q60 = some (100, n62) ∧ n62 < 2147483648) ∧ (
    (0 ≤ l4 ∧ l4 < n62) ∧ (
    ∃ Q65 : Option Value → jx_I → Prop, (
    (jc V 1 321 (0, 0) [.ref a0, .ref a1, jy ((I q60 l4.toNat).toInt), jy a2] X I R Q65 (fun _ _ => False)) ∧ (
    ∀ rv I67, Q65 rv I67 → ∃ r68 : Int, rv = some (jy r68) ∧ (
    ∃ n69 : Nat, (
    (X.2.1 q57 = some (100, n69) ∧ n69 < 2147483648) ∧ (
    (0 ≤ l4 ∧ l4 < n69) ∧ (
    ∀ I72 : jx_I, I72 = jx_u I67 q57 l4.toNat (Int32.ofInt r68) → (
    J136 l3 (l4 + 1) I72)))))))))))))))))))))
  )))
/-- GCModel.movesAll, from 180 -/
def wz_322_180 (V : jx_V) (X : jx_X) (R : jx_R) (Q : Option Value → jx_I → Prop) (QE : String → jx_I → Prop) (J63 : Int → jx_I → Prop) (J95 : Int → jx_I → Prop) (J127 : Int → jx_I → Prop) (J136 : Int → Int → jx_I → Prop) (J180 : Int → jx_I → Prop) (J189 : Int → Int → jx_I → Prop) (J258 : Int → jx_I → Prop) (J267 : Int → Int → jx_I → Prop) (a0 : Nat) (a1 : Nat) (a2 : Int) (l3 : Int) (I : jx_I) : Prop :=
  (-2147483648 ≤ l3 ∧ l3 < 2147483648) ∧ (
  (8 ≤ l3 → (
    J258 0 I
  )) ∧ (¬ 8 ≤ l3 → (
    J189 l3 0 I
  )))
/-- GCModel.movesAll, from 189 -/
def wz_322_189 (V : jx_V) (X : jx_X) (R : jx_R) (Q : Option Value → jx_I → Prop) (QE : String → jx_I → Prop) (J63 : Int → jx_I → Prop) (J95 : Int → jx_I → Prop) (J127 : Int → jx_I → Prop) (J136 : Int → Int → jx_I → Prop) (J180 : Int → jx_I → Prop) (J189 : Int → Int → jx_I → Prop) (J258 : Int → jx_I → Prop) (J267 : Int → Int → jx_I → Prop) (a0 : Nat) (a1 : Nat) (a2 : Int) (l3 : Int) (l4 : Int) (I : jx_I) : Prop :=
  (-2147483648 ≤ l4 ∧ l4 < 2147483648) ∧ (
  (10 ≤ l4 → (
    J180 (l3 + 1) I
  )) ∧ (¬ 10 ≤ l4 → (
    (X.2.1 a0 = some (12, 0)) ∧ (
    ∃ q76 : Nat, (
    (R a0 29 = some q76) ∧ (
    ∃ n78 : Nat, (
    (X.2.1 q76 = some (104, n78) ∧ n78 < 2147483648) ∧ (
    (0 ≤ l3 ∧ l3 < n78) ∧ (
    ∃ q81 : Nat, (
    (R q76 l3.toNat = some q81) ∧ (
    (0 ≤ l3 ∧ l3 < n78) ∧ (
    ∃ q84 : Nat, (
    (R q76 l3.toNat = some q84) ∧ (
    ∃ n86 : Nat, (
    (X.2.1 q84 = some (100, n86) ∧ n86 < 2147483648) ∧ (
    (0 ≤ l4 ∧ l4 < n86) ∧ (
    ∃ Q89 : Option Value → jx_I → Prop, (
    (jc V 1 321 (0, 0) [.ref a0, .ref a1, jy ((I q84 l4.toNat).toInt), jy a2] X I R Q89 (fun _ _ => False)) ∧ (
    ∀ rv I91, Q89 rv I91 → ∃ r92 : Int, rv = some (jy r92) ∧ (
    ∃ n93 : Nat, (
    (X.2.1 q81 = some (100, n93) ∧ n93 < 2147483648) ∧ (
    (0 ≤ l4 ∧ l4 < n93) ∧ (
    ∀ I96 : jx_I, I96 = jx_u I91 q81 l4.toNat (Int32.ofInt r92) → (
    ∃ q97 : Nat, (
    (R a0 30 = some q97) ∧ (
    ∃ n99 : Nat, (
    (X.2.1 q97 = some (104, n99) ∧ n99 < 2147483648) ∧ (
    (0 ≤ l3 ∧ l3 < n99) ∧ (
    ∃ q102 : Nat, (
    (R q97 l3.toNat = some q102) ∧ (
    (0 ≤ l3 ∧ l3 < n99) ∧ (
    ∃ q105 : Nat, (
    (R q97 l3.toNat = some q105) ∧ (
    ∃ n107 : Nat, (
    (X.2.1 q105 = some (100, n107) ∧ n107 < 2147483648) ∧ (
    (0 ≤ l4 ∧ l4 < n107) ∧ (
    ∃ Q110 : Option Value → jx_I → Prop, (
    (jc V 1 321 (0, 0) [.ref a0, .ref a1, jy ((I96 q105 l4.toNat).toInt), jy a2] X I96 R Q110 (fun _ _ => False)) ∧ (
    ∀ rv I112, Q110 rv I112 → ∃ r113 : Int, rv = some (jy r113) ∧ (
    ∃ n114 : Nat, (
    (X.2.1 q102 = some (100, n114) ∧ n114 < 2147483648) ∧ (
    (0 ≤ l4 ∧ l4 < n114) ∧ (
    ∀ I117 : jx_I, I117 = jx_u I112 q102 l4.toNat (Int32.ofInt r113) → (
    J189 l3 (l4 + 1) I117)))))))))))))))))))))))))))))))))))))))))
  )))
/-- GCModel.movesAll, from 258 -/
def wz_322_258 (V : jx_V) (X : jx_X) (R : jx_R) (Q : Option Value → jx_I → Prop) (QE : String → jx_I → Prop) (J63 : Int → jx_I → Prop) (J95 : Int → jx_I → Prop) (J127 : Int → jx_I → Prop) (J136 : Int → Int → jx_I → Prop) (J180 : Int → jx_I → Prop) (J189 : Int → Int → jx_I → Prop) (J258 : Int → jx_I → Prop) (J267 : Int → Int → jx_I → Prop) (a0 : Nat) (a1 : Nat) (a2 : Int) (l3 : Int) (I : jx_I) : Prop :=
  (-2147483648 ≤ l3 ∧ l3 < 2147483648) ∧ (
  (24 ≤ l3 → (
    Q none I
  )) ∧ (¬ 24 ≤ l3 → (
    J267 l3 0 I
  )))
/-- GCModel.movesAll, from 267 -/
def wz_322_267 (V : jx_V) (X : jx_X) (R : jx_R) (Q : Option Value → jx_I → Prop) (QE : String → jx_I → Prop) (J63 : Int → jx_I → Prop) (J95 : Int → jx_I → Prop) (J127 : Int → jx_I → Prop) (J136 : Int → Int → jx_I → Prop) (J180 : Int → jx_I → Prop) (J189 : Int → Int → jx_I → Prop) (J258 : Int → jx_I → Prop) (J267 : Int → Int → jx_I → Prop) (a0 : Nat) (a1 : Nat) (a2 : Int) (l3 : Int) (l4 : Int) (I : jx_I) : Prop :=
  (-2147483648 ≤ l4 ∧ l4 < 2147483648) ∧ (
  (160 ≤ l4 → (
    J258 (l3 + 1) I
  )) ∧ (¬ 160 ≤ l4 → (
    (X.2.1 a0 = some (12, 0)) ∧ (
    ∃ q121 : Nat, (
    (R a0 32 = some q121) ∧ (
    ∃ n123 : Nat, (
    (X.2.1 q121 = some (104, n123) ∧ n123 < 2147483648) ∧ (
    (0 ≤ l3 ∧ l3 < n123) ∧ (
    ∃ q126 : Nat, (
    (R q121 l3.toNat = some q126) ∧ (
    (0 ≤ l3 ∧ l3 < n123) ∧ (
    ∃ q129 : Nat, (
    (R q121 l3.toNat = some q129) ∧ (
    ∃ n131 : Nat, (
    (X.2.1 q129 = some (100, n131) ∧ n131 < 2147483648) ∧ (
    (0 ≤ l4 ∧ l4 < n131) ∧ (
    ∃ Q134 : Option Value → jx_I → Prop, (
    (jc V 1 321 (0, 0) [.ref a0, .ref a1, jy ((I q129 l4.toNat).toInt), jy a2] X I R Q134 (fun _ _ => False)) ∧ (
    ∀ rv I136, Q134 rv I136 → ∃ r137 : Int, rv = some (jy r137) ∧ (
    ∃ n138 : Nat, (
    (X.2.1 q126 = some (100, n138) ∧ n138 < 2147483648) ∧ (
    (0 ≤ l4 ∧ l4 < n138) ∧ (
    ∀ I141 : jx_I, I141 = jx_u I136 q126 l4.toNat (Int32.ofInt r137) → (
    J267 l3 (l4 + 1) I141)))))))))))))))))))))
  )))
/-- GCModel.movesAll -/
def wz_322 (V : jx_V) (X : jx_X) (R : jx_R) (Q : Option Value → jx_I → Prop) (QE : String → jx_I → Prop) (J63 : Int → jx_I → Prop) (J95 : Int → jx_I → Prop) (J127 : Int → jx_I → Prop) (J136 : Int → Int → jx_I → Prop) (J180 : Int → jx_I → Prop) (J189 : Int → Int → jx_I → Prop) (J258 : Int → jx_I → Prop) (J267 : Int → Int → jx_I → Prop) (a0 : Nat) (a1 : Nat) (a2 : Int) (I : jx_I) : Prop :=
  (X.2.1 a0 = some (12, 0)) ∧ (
  ∀ I2 : jx_I, I2 = jx_u I a0 41 (Int32.ofInt 0) → (
  ∃ Q3 : Option Value → jx_I → Prop, (
  (jc V 1 321 (0, 0) [.ref a0, .ref a1, jy ((I2 a0 36).toInt), jy a2] X I2 R Q3 (fun _ _ => False)) ∧ (
  ∀ rv I5, Q3 rv I5 → ∃ r6 : Int, rv = some (jy r6) ∧ (
  ∀ I7 : jx_I, I7 = jx_u I5 a0 36 (Int32.ofInt r6) → (
  ∃ Q8 : Option Value → jx_I → Prop, (
  (jc V 1 321 (0, 0) [.ref a0, .ref a1, jy ((I7 a0 37).toInt), jy a2] X I7 R Q8 (fun _ _ => False)) ∧ (
  ∀ rv I10, Q8 rv I10 → ∃ r11 : Int, rv = some (jy r11) ∧ (
  ∀ I12 : jx_I, I12 = jx_u I10 a0 37 (Int32.ofInt r11) → (
  ∃ Q13 : Option Value → jx_I → Prop, (
  (jc V 1 321 (0, 0) [.ref a0, .ref a1, jy ((I12 a0 38).toInt), jy a2] X I12 R Q13 (fun _ _ => False)) ∧ (
  ∀ rv I15, Q13 rv I15 → ∃ r16 : Int, rv = some (jy r16) ∧ (
  ∀ I17 : jx_I, I17 = jx_u I15 a0 38 (Int32.ofInt r16) → (
  ∃ Q18 : Option Value → jx_I → Prop, (
  (jc V 1 321 (0, 0) [.ref a0, .ref a1, jy ((I17 a0 39).toInt), jy a2] X I17 R Q18 (fun _ _ => False)) ∧ (
  ∀ rv I20, Q18 rv I20 → ∃ r21 : Int, rv = some (jy r21) ∧ (
  ∀ I22 : jx_I, I22 = jx_u I20 a0 39 (Int32.ofInt r21) → (
  J63 0 I22))))))))))))))))))
set_option maxRecDepth 20000 in
theorem wm_322 {V : jx_V} (hV : V.1.stackTraces = false) {X : jx_X} {R : jx_R} {I : jx_I} {Q : Option Value → jx_I → Prop} {QE : String → jx_I → Prop} {a0 : Nat} {a1 : Nat} {a2 : Int} (r_a2 : -2147483648 ≤ a2 ∧ a2 < 2147483648) 
    (h : ∀ (J63 : Int → jx_I → Prop) (J95 : Int → jx_I → Prop) (J127 : Int → jx_I → Prop) (J136 : Int → Int → jx_I → Prop) (J180 : Int → jx_I → Prop) (J189 : Int → Int → jx_I → Prop) (J258 : Int → jx_I → Prop) (J267 : Int → Int → jx_I → Prop), ((∀ (l3 : Int) I, wz_322_63 V X R Q QE J63 J95 J127 J136 J180 J189 J258 J267 a0 a1 a2 l3 I → J63 l3 I) ∧ (∀ (l3 : Int) I, wz_322_95 V X R Q QE J63 J95 J127 J136 J180 J189 J258 J267 a0 a1 a2 l3 I → J95 l3 I) ∧ (∀ (l3 : Int) I, wz_322_127 V X R Q QE J63 J95 J127 J136 J180 J189 J258 J267 a0 a1 a2 l3 I → J127 l3 I) ∧ (∀ (l3 : Int) (l4 : Int) I, wz_322_136 V X R Q QE J63 J95 J127 J136 J180 J189 J258 J267 a0 a1 a2 l3 l4 I → J136 l3 l4 I) ∧ (∀ (l3 : Int) I, wz_322_180 V X R Q QE J63 J95 J127 J136 J180 J189 J258 J267 a0 a1 a2 l3 I → J180 l3 I) ∧ (∀ (l3 : Int) (l4 : Int) I, wz_322_189 V X R Q QE J63 J95 J127 J136 J180 J189 J258 J267 a0 a1 a2 l3 l4 I → J189 l3 l4 I) ∧ (∀ (l3 : Int) I, wz_322_258 V X R Q QE J63 J95 J127 J136 J180 J189 J258 J267 a0 a1 a2 l3 I → J258 l3 I) ∧ (∀ (l3 : Int) (l4 : Int) I, wz_322_267 V X R Q QE J63 J95 J127 J136 J180 J189 J258 J267 a0 a1 a2 l3 l4 I → J267 l3 l4 I)) → wz_322 V X R Q QE J63 J95 J127 J136 J180 J189 J258 J267 a0 a1 a2 I) : jc V 2 322 (0, 0) [.ref a0, .ref a1, jy a2] X I R Q QE := by
  refine jy_met hV (by decide) (n := 5) (rt := none) (hh := []) (ini := false) (C := jx_c322) (L := [some (.ref a0), some (.ref a1), some (jy a2), none, none]) jt_322 (Nat.le_of_ble_eq_true rfl) rfl ?_
  intro J hS
  have h := h (fun l3 I => J 63 [] [some (.ref a0), some (.ref a1), some (jy a2), some (jy l3), none] (0, 0) X I R) (fun l3 I => J 95 [] [some (.ref a0), some (.ref a1), some (jy a2), some (jy l3), none] (0, 0) X I R) (fun l3 I => J 127 [] [some (.ref a0), some (.ref a1), some (jy a2), some (jy l3), none] (0, 0) X I R) (fun l3 l4 I => J 136 [] [some (.ref a0), some (.ref a1), some (jy a2), some (jy l3), some (jy l4)] (0, 0) X I R) (fun l3 I => J 180 [] [some (.ref a0), some (.ref a1), some (jy a2), some (jy l3), none] (0, 0) X I R) (fun l3 l4 I => J 189 [] [some (.ref a0), some (.ref a1), some (jy a2), some (jy l3), some (jy l4)] (0, 0) X I R) (fun l3 I => J 258 [] [some (.ref a0), some (.ref a1), some (jy a2), some (jy l3), none] (0, 0) X I R) (fun l3 l4 I => J 267 [] [some (.ref a0), some (.ref a1), some (jy a2), some (jy l3), some (jy l4)] (0, 0) X I R) ?_
  · unfold wz_322 at h
    refine jy_aload_n hS rfl rfl ?_
    refine jy_iconst hS rfl ?_
    obtain ⟨g1, h⟩ := h
    refine jy_putI hS rfl (by decide) g1 ?_
    intro I2 e9
    have h := h I2 e9
    clear e9
    refine jy_aload_n hS rfl rfl ?_
    refine jy_aload_n hS rfl rfl ?_
    refine jy_aload_n hS rfl rfl ?_
    refine jy_aload_n hS rfl rfl ?_
    refine jy_getI hS rfl (by decide) g1 ?_
    refine jy_iload_n hS rfl rfl ?_
    obtain ⟨Q3, h⟩ := h
    obtain ⟨g4, h⟩ := h
    refine jy_callV hS rfl rfl rfl (Nat.le_of_ble_eq_true rfl) (Or.inl g1) g4 (by decide) ⟨by decide, by decide⟩ (Nat.le_of_ble_eq_true rfl) ?_ ?_
    rotate_left
    · exact fun Ex Xx Ix Rx hp => hp.2.2.2.elim
    intro rv Xx I5 Rx hp
    obtain ⟨e1, e2, hp⟩ := hp
    rw [e1, e2]
    clear e1 e2
    obtain ⟨r6, e1, h⟩ := h rv I5 hp
    rw [e1]
    clear e1
    change J 16 [jy r6, .ref a0] _ (0, 0) _ _ _
    refine jy_putI hS rfl (by decide) g1 ?_
    intro I7 e9
    have h := h I7 e9
    clear e9
    refine jy_aload_n hS rfl rfl ?_
    refine jy_aload_n hS rfl rfl ?_
    refine jy_aload_n hS rfl rfl ?_
    refine jy_aload_n hS rfl rfl ?_
    refine jy_getI hS rfl (by decide) g1 ?_
    refine jy_iload_n hS rfl rfl ?_
    obtain ⟨Q8, h⟩ := h
    obtain ⟨g9, h⟩ := h
    refine jy_callV hS rfl rfl rfl (Nat.le_of_ble_eq_true rfl) (Or.inl g1) g9 (by decide) ⟨by decide, by decide⟩ (Nat.le_of_ble_eq_true rfl) ?_ ?_
    rotate_left
    · exact fun Ex Xx Ix Rx hp => hp.2.2.2.elim
    intro rv Xx I10 Rx hp
    obtain ⟨e1, e2, hp⟩ := hp
    rw [e1, e2]
    clear e1 e2
    obtain ⟨r11, e1, h⟩ := h rv I10 hp
    rw [e1]
    clear e1
    change J 30 [jy r11, .ref a0] _ (0, 0) _ _ _
    refine jy_putI hS rfl (by decide) g1 ?_
    intro I12 e9
    have h := h I12 e9
    clear e9
    refine jy_aload_n hS rfl rfl ?_
    refine jy_aload_n hS rfl rfl ?_
    refine jy_aload_n hS rfl rfl ?_
    refine jy_aload_n hS rfl rfl ?_
    refine jy_getI hS rfl (by decide) g1 ?_
    refine jy_iload_n hS rfl rfl ?_
    obtain ⟨Q13, h⟩ := h
    obtain ⟨g14, h⟩ := h
    refine jy_callV hS rfl rfl rfl (Nat.le_of_ble_eq_true rfl) (Or.inl g1) g14 (by decide) ⟨by decide, by decide⟩ (Nat.le_of_ble_eq_true rfl) ?_ ?_
    rotate_left
    · exact fun Ex Xx Ix Rx hp => hp.2.2.2.elim
    intro rv Xx I15 Rx hp
    obtain ⟨e1, e2, hp⟩ := hp
    rw [e1, e2]
    clear e1 e2
    obtain ⟨r16, e1, h⟩ := h rv I15 hp
    rw [e1]
    clear e1
    change J 44 [jy r16, .ref a0] _ (0, 0) _ _ _
    refine jy_putI hS rfl (by decide) g1 ?_
    intro I17 e9
    have h := h I17 e9
    clear e9
    refine jy_aload_n hS rfl rfl ?_
    refine jy_aload_n hS rfl rfl ?_
    refine jy_aload_n hS rfl rfl ?_
    refine jy_aload_n hS rfl rfl ?_
    refine jy_getI hS rfl (by decide) g1 ?_
    refine jy_iload_n hS rfl rfl ?_
    obtain ⟨Q18, h⟩ := h
    obtain ⟨g19, h⟩ := h
    refine jy_callV hS rfl rfl rfl (Nat.le_of_ble_eq_true rfl) (Or.inl g1) g19 (by decide) ⟨by decide, by decide⟩ (Nat.le_of_ble_eq_true rfl) ?_ ?_
    rotate_left
    · exact fun Ex Xx Ix Rx hp => hp.2.2.2.elim
    intro rv Xx I20 Rx hp
    obtain ⟨e1, e2, hp⟩ := hp
    rw [e1, e2]
    clear e1 e2
    obtain ⟨r21, e1, h⟩ := h rv I20 hp
    rw [e1]
    clear e1
    change J 58 [jy r21, .ref a0] _ (0, 0) _ _ _
    refine jy_putI hS rfl (by decide) g1 ?_
    intro I22 e9
    have h := h I22 e9
    clear e9
    refine jy_iconst hS rfl ?_
    refine jy_istore_n hS rfl (Nat.le_of_ble_eq_true rfl) (L' := [some (.ref a0), some (.ref a1), some (jy a2), some (jy 0), none]) rfl ?_
    exact jy_join hS h rfl (jy_sub_s (jy_sub_s (jy_sub_s (jy_sub_s (jy_sub_n jy_sub_0)))))
  refine ⟨?_, ?_, ?_, ?_, ?_, ?_, ?_, ?_⟩
  · intro l3 I h
    unfold wz_322_63 at h
    refine jy_iload_n hS rfl rfl ?_
    refine jy_bipush hS rfl (by decide) ?_
    obtain ⟨g23, h⟩ := h
    refine jy_icmp_ge hS rfl ⟨g23, ⟨by decide, by decide⟩⟩ (fun hq => ?_) (fun hq => ?_)
    · have h := h.1 hq
      refine jy_iconst hS rfl ?_
      refine jy_istore_n hS rfl (Nat.le_of_ble_eq_true rfl) (L' := [some (.ref a0), some (.ref a1), some (jy a2), some (jy 0), none]) rfl ?_
      exact jy_join hS h rfl (jy_sub_s (jy_sub_s (jy_sub_s (jy_sub_s (jy_sub_n jy_sub_0)))))
    · have h := h.2 hq
      refine jy_aload_n hS rfl rfl ?_
      obtain ⟨g24, h⟩ := h
      obtain ⟨q25, h⟩ := h
      obtain ⟨g26, h⟩ := h
      refine jy_getR hS rfl (by decide) g24 g26 ?_
      refine jy_iload_n hS rfl rfl ?_
      refine jy_aload_n hS rfl rfl ?_
      refine jy_aload_n hS rfl rfl ?_
      refine jy_aload_n hS rfl rfl ?_
      refine jy_getR hS rfl (by decide) g24 g26 ?_
      refine jy_iload_n hS rfl rfl ?_
      obtain ⟨n27, h⟩ := h
      obtain ⟨g28, h⟩ := h
      obtain ⟨g29, h⟩ := h
      refine jy_iald hS rfl g28.1 (Nat.le_of_lt g28.2) g29 ?_
      refine jy_iload_n hS rfl rfl ?_
      obtain ⟨Q30, h⟩ := h
      obtain ⟨g31, h⟩ := h
      refine jy_callV hS rfl rfl rfl (Nat.le_of_ble_eq_true rfl) (Or.inl g24) g31 (by decide) ⟨by decide, by decide⟩ (Nat.le_of_ble_eq_true rfl) ?_ ?_
      rotate_left
      · exact fun Ex Xx Ix Rx hp => hp.2.2.2.elim
      intro rv Xx I32 Rx hp
      obtain ⟨e1, e2, hp⟩ := hp
      rw [e1, e2]
      clear e1 e2
      obtain ⟨r33, e1, h⟩ := h rv I32 hp
      rw [e1]
      clear e1
      change J 86 [jy r33, jy l3, .ref q25] _ (0, 0) _ _ _
      obtain ⟨g34, h⟩ := h
      refine jy_iast hS rfl g28.1 (Nat.le_of_lt g28.2) g34 ?_
      intro I35 e9
      have h := h I35 e9
      clear e9
      refine jy_iinc hS rfl rfl (L' := [some (.ref a0), some (.ref a1), some (jy a2), some (jy (l3 + 1)), none]) rfl ?_
      refine jy_goto hS rfl ?_
      exact jy_join hS h rfl (jy_sub_s (jy_sub_s (jy_sub_s (jy_sub_s (jy_sub_n jy_sub_0)))))
  · intro l3 I h
    unfold wz_322_95 at h
    refine jy_iload_n hS rfl rfl ?_
    refine jy_bipush hS rfl (by decide) ?_
    obtain ⟨g36, h⟩ := h
    refine jy_icmp_ge hS rfl ⟨g36, ⟨by decide, by decide⟩⟩ (fun hq => ?_) (fun hq => ?_)
    · have h := h.1 hq
      refine jy_iconst hS rfl ?_
      refine jy_istore_n hS rfl (Nat.le_of_ble_eq_true rfl) (L' := [some (.ref a0), some (.ref a1), some (jy a2), some (jy 0), none]) rfl ?_
      exact jy_join hS h rfl (jy_sub_s (jy_sub_s (jy_sub_s (jy_sub_s (jy_sub_n jy_sub_0)))))
    · have h := h.2 hq
      refine jy_aload_n hS rfl rfl ?_
      obtain ⟨g37, h⟩ := h
      obtain ⟨q38, h⟩ := h
      obtain ⟨g39, h⟩ := h
      refine jy_getR hS rfl (by decide) g37 g39 ?_
      refine jy_iload_n hS rfl rfl ?_
      refine jy_aload_n hS rfl rfl ?_
      refine jy_aload_n hS rfl rfl ?_
      refine jy_aload_n hS rfl rfl ?_
      refine jy_getR hS rfl (by decide) g37 g39 ?_
      refine jy_iload_n hS rfl rfl ?_
      obtain ⟨n40, h⟩ := h
      obtain ⟨g41, h⟩ := h
      obtain ⟨g42, h⟩ := h
      refine jy_iald hS rfl g41.1 (Nat.le_of_lt g41.2) g42 ?_
      refine jy_iload_n hS rfl rfl ?_
      obtain ⟨Q43, h⟩ := h
      obtain ⟨g44, h⟩ := h
      refine jy_callV hS rfl rfl rfl (Nat.le_of_ble_eq_true rfl) (Or.inl g37) g44 (by decide) ⟨by decide, by decide⟩ (Nat.le_of_ble_eq_true rfl) ?_ ?_
      rotate_left
      · exact fun Ex Xx Ix Rx hp => hp.2.2.2.elim
      intro rv Xx I45 Rx hp
      obtain ⟨e1, e2, hp⟩ := hp
      rw [e1, e2]
      clear e1 e2
      obtain ⟨r46, e1, h⟩ := h rv I45 hp
      rw [e1]
      clear e1
      change J 118 [jy r46, jy l3, .ref q38] _ (0, 0) _ _ _
      obtain ⟨g47, h⟩ := h
      refine jy_iast hS rfl g41.1 (Nat.le_of_lt g41.2) g47 ?_
      intro I48 e9
      have h := h I48 e9
      clear e9
      refine jy_iinc hS rfl rfl (L' := [some (.ref a0), some (.ref a1), some (jy a2), some (jy (l3 + 1)), none]) rfl ?_
      refine jy_goto hS rfl ?_
      exact jy_join hS h rfl (jy_sub_s (jy_sub_s (jy_sub_s (jy_sub_s (jy_sub_n jy_sub_0)))))
  · intro l3 I h
    unfold wz_322_127 at h
    refine jy_iload_n hS rfl rfl ?_
    refine jy_bipush hS rfl (by decide) ?_
    obtain ⟨g49, h⟩ := h
    refine jy_icmp_ge hS rfl ⟨g49, ⟨by decide, by decide⟩⟩ (fun hq => ?_) (fun hq => ?_)
    · have h := h.1 hq
      refine jy_iconst hS rfl ?_
      refine jy_istore_n hS rfl (Nat.le_of_ble_eq_true rfl) (L' := [some (.ref a0), some (.ref a1), some (jy a2), some (jy 0), none]) rfl ?_
      exact jy_join hS h rfl (jy_sub_s (jy_sub_s (jy_sub_s (jy_sub_s (jy_sub_n jy_sub_0)))))
    · have h := h.2 hq
      refine jy_iconst hS rfl ?_
      refine jy_istore hS rfl (Nat.le_of_ble_eq_true rfl) (L' := [some (.ref a0), some (.ref a1), some (jy a2), some (jy l3), some (jy 0)]) rfl ?_
      exact jy_join hS h rfl (jy_sub_s (jy_sub_s (jy_sub_s (jy_sub_s (jy_sub_s jy_sub_0)))))
  · intro l3 l4 I h
    unfold wz_322_136 at h
    refine jy_iload hS rfl rfl ?_
    refine jy_iconst hS rfl ?_
    obtain ⟨g50, h⟩ := h
    refine jy_icmp_ge hS rfl ⟨g50, ⟨by decide, by decide⟩⟩ (fun hq => ?_) (fun hq => ?_)
    · have h := h.1 hq
      refine jy_iinc hS rfl rfl (L' := [some (.ref a0), some (.ref a1), some (jy a2), some (jy (l3 + 1)), some (jy l4)]) rfl ?_
      refine jy_goto hS rfl ?_
      exact jy_join hS h rfl (jy_sub_s (jy_sub_s (jy_sub_s (jy_sub_s (jy_sub_n jy_sub_0)))))
    · have h := h.2 hq
      refine jy_aload_n hS rfl rfl ?_
      obtain ⟨g51, h⟩ := h
      obtain ⟨q52, h⟩ := h
      obtain ⟨g53, h⟩ := h
      refine jy_getR hS rfl (by decide) g51 g53 ?_
      refine jy_iload_n hS rfl rfl ?_
      obtain ⟨n54, h⟩ := h
      obtain ⟨g55, h⟩ := h
      obtain ⟨g56, h⟩ := h
      obtain ⟨q57, h⟩ := h
      obtain ⟨g58, h⟩ := h
      refine jy_aald hS rfl g55.1 (by decide) (Nat.le_of_lt g55.2) g56 g58 ?_
      refine jy_iload hS rfl rfl ?_
      refine jy_aload_n hS rfl rfl ?_
      refine jy_aload_n hS rfl rfl ?_
      refine jy_aload_n hS rfl rfl ?_
      refine jy_getR hS rfl (by decide) g51 g53 ?_
      refine jy_iload_n hS rfl rfl ?_
      obtain ⟨g59, h⟩ := h
      obtain ⟨q60, h⟩ := h
      obtain ⟨g61, h⟩ := h
      refine jy_aald hS rfl g55.1 (by decide) (Nat.le_of_lt g55.2) g59 g61 ?_
      refine jy_iload hS rfl rfl ?_
      obtain ⟨n62, h⟩ := h
      obtain ⟨g63, h⟩ := h
      obtain ⟨g64, h⟩ := h
      refine jy_iald hS rfl g63.1 (Nat.le_of_lt g63.2) g64 ?_
      refine jy_iload_n hS rfl rfl ?_
      obtain ⟨Q65, h⟩ := h
      obtain ⟨g66, h⟩ := h
      refine jy_callV hS rfl rfl rfl (Nat.le_of_ble_eq_true rfl) (Or.inl g51) g66 (by decide) ⟨by decide, by decide⟩ (Nat.le_of_ble_eq_true rfl) ?_ ?_
      rotate_left
      · exact fun Ex Xx Ix Rx hp => hp.2.2.2.elim
      intro rv Xx I67 Rx hp
      obtain ⟨e1, e2, hp⟩ := hp
      rw [e1, e2]
      clear e1 e2
      obtain ⟨r68, e1, h⟩ := h rv I67 hp
      rw [e1]
      clear e1
      change J 165 [jy r68, jy l4, .ref q57] _ (0, 0) _ _ _
      obtain ⟨n69, h⟩ := h
      obtain ⟨g70, h⟩ := h
      obtain ⟨g71, h⟩ := h
      refine jy_iast hS rfl g70.1 (Nat.le_of_lt g70.2) g71 ?_
      intro I72 e9
      have h := h I72 e9
      clear e9
      refine jy_iinc hS rfl rfl (L' := [some (.ref a0), some (.ref a1), some (jy a2), some (jy l3), some (jy (l4 + 1))]) rfl ?_
      refine jy_goto hS rfl ?_
      exact jy_join hS h rfl (jy_sub_s (jy_sub_s (jy_sub_s (jy_sub_s (jy_sub_s jy_sub_0)))))
  · intro l3 I h
    unfold wz_322_180 at h
    refine jy_iload_n hS rfl rfl ?_
    refine jy_bipush hS rfl (by decide) ?_
    obtain ⟨g73, h⟩ := h
    refine jy_icmp_ge hS rfl ⟨g73, ⟨by decide, by decide⟩⟩ (fun hq => ?_) (fun hq => ?_)
    · have h := h.1 hq
      refine jy_iconst hS rfl ?_
      refine jy_istore_n hS rfl (Nat.le_of_ble_eq_true rfl) (L' := [some (.ref a0), some (.ref a1), some (jy a2), some (jy 0), none]) rfl ?_
      exact jy_join hS h rfl (jy_sub_s (jy_sub_s (jy_sub_s (jy_sub_s (jy_sub_n jy_sub_0)))))
    · have h := h.2 hq
      refine jy_iconst hS rfl ?_
      refine jy_istore hS rfl (Nat.le_of_ble_eq_true rfl) (L' := [some (.ref a0), some (.ref a1), some (jy a2), some (jy l3), some (jy 0)]) rfl ?_
      exact jy_join hS h rfl (jy_sub_s (jy_sub_s (jy_sub_s (jy_sub_s (jy_sub_s jy_sub_0)))))
  · intro l3 l4 I h
    unfold wz_322_189 at h
    refine jy_iload hS rfl rfl ?_
    refine jy_bipush hS rfl (by decide) ?_
    obtain ⟨g74, h⟩ := h
    refine jy_icmp_ge hS rfl ⟨g74, ⟨by decide, by decide⟩⟩ (fun hq => ?_) (fun hq => ?_)
    · have h := h.1 hq
      refine jy_iinc hS rfl rfl (L' := [some (.ref a0), some (.ref a1), some (jy a2), some (jy (l3 + 1)), some (jy l4)]) rfl ?_
      refine jy_goto hS rfl ?_
      exact jy_join hS h rfl (jy_sub_s (jy_sub_s (jy_sub_s (jy_sub_s (jy_sub_n jy_sub_0)))))
    · have h := h.2 hq
      refine jy_aload_n hS rfl rfl ?_
      obtain ⟨g75, h⟩ := h
      obtain ⟨q76, h⟩ := h
      obtain ⟨g77, h⟩ := h
      refine jy_getR hS rfl (by decide) g75 g77 ?_
      refine jy_iload_n hS rfl rfl ?_
      obtain ⟨n78, h⟩ := h
      obtain ⟨g79, h⟩ := h
      obtain ⟨g80, h⟩ := h
      obtain ⟨q81, h⟩ := h
      obtain ⟨g82, h⟩ := h
      refine jy_aald hS rfl g79.1 (by decide) (Nat.le_of_lt g79.2) g80 g82 ?_
      refine jy_iload hS rfl rfl ?_
      refine jy_aload_n hS rfl rfl ?_
      refine jy_aload_n hS rfl rfl ?_
      refine jy_aload_n hS rfl rfl ?_
      refine jy_getR hS rfl (by decide) g75 g77 ?_
      refine jy_iload_n hS rfl rfl ?_
      obtain ⟨g83, h⟩ := h
      obtain ⟨q84, h⟩ := h
      obtain ⟨g85, h⟩ := h
      refine jy_aald hS rfl g79.1 (by decide) (Nat.le_of_lt g79.2) g83 g85 ?_
      refine jy_iload hS rfl rfl ?_
      obtain ⟨n86, h⟩ := h
      obtain ⟨g87, h⟩ := h
      obtain ⟨g88, h⟩ := h
      refine jy_iald hS rfl g87.1 (Nat.le_of_lt g87.2) g88 ?_
      refine jy_iload_n hS rfl rfl ?_
      obtain ⟨Q89, h⟩ := h
      obtain ⟨g90, h⟩ := h
      refine jy_callV hS rfl rfl rfl (Nat.le_of_ble_eq_true rfl) (Or.inl g75) g90 (by decide) ⟨by decide, by decide⟩ (Nat.le_of_ble_eq_true rfl) ?_ ?_
      rotate_left
      · exact fun Ex Xx Ix Rx hp => hp.2.2.2.elim
      intro rv Xx I91 Rx hp
      obtain ⟨e1, e2, hp⟩ := hp
      rw [e1, e2]
      clear e1 e2
      obtain ⟨r92, e1, h⟩ := h rv I91 hp
      rw [e1]
      clear e1
      change J 219 [jy r92, jy l4, .ref q81] _ (0, 0) _ _ _
      obtain ⟨n93, h⟩ := h
      obtain ⟨g94, h⟩ := h
      obtain ⟨g95, h⟩ := h
      refine jy_iast hS rfl g94.1 (Nat.le_of_lt g94.2) g95 ?_
      intro I96 e9
      have h := h I96 e9
      clear e9
      refine jy_aload_n hS rfl rfl ?_
      obtain ⟨q97, h⟩ := h
      obtain ⟨g98, h⟩ := h
      refine jy_getR hS rfl (by decide) g75 g98 ?_
      refine jy_iload_n hS rfl rfl ?_
      obtain ⟨n99, h⟩ := h
      obtain ⟨g100, h⟩ := h
      obtain ⟨g101, h⟩ := h
      obtain ⟨q102, h⟩ := h
      obtain ⟨g103, h⟩ := h
      refine jy_aald hS rfl g100.1 (by decide) (Nat.le_of_lt g100.2) g101 g103 ?_
      refine jy_iload hS rfl rfl ?_
      refine jy_aload_n hS rfl rfl ?_
      refine jy_aload_n hS rfl rfl ?_
      refine jy_aload_n hS rfl rfl ?_
      refine jy_getR hS rfl (by decide) g75 g98 ?_
      refine jy_iload_n hS rfl rfl ?_
      obtain ⟨g104, h⟩ := h
      obtain ⟨q105, h⟩ := h
      obtain ⟨g106, h⟩ := h
      refine jy_aald hS rfl g100.1 (by decide) (Nat.le_of_lt g100.2) g104 g106 ?_
      refine jy_iload hS rfl rfl ?_
      obtain ⟨n107, h⟩ := h
      obtain ⟨g108, h⟩ := h
      obtain ⟨g109, h⟩ := h
      refine jy_iald hS rfl g108.1 (Nat.le_of_lt g108.2) g109 ?_
      refine jy_iload_n hS rfl rfl ?_
      obtain ⟨Q110, h⟩ := h
      obtain ⟨g111, h⟩ := h
      refine jy_callV hS rfl rfl rfl (Nat.le_of_ble_eq_true rfl) (Or.inl g75) g111 (by decide) ⟨by decide, by decide⟩ (Nat.le_of_ble_eq_true rfl) ?_ ?_
      rotate_left
      · exact fun Ex Xx Ix Rx hp => hp.2.2.2.elim
      intro rv Xx I112 Rx hp
      obtain ⟨e1, e2, hp⟩ := hp
      rw [e1, e2]
      clear e1 e2
      obtain ⟨r113, e1, h⟩ := h rv I112 hp
      rw [e1]
      clear e1
      change J 243 [jy r113, jy l4, .ref q102] _ (0, 0) _ _ _
      obtain ⟨n114, h⟩ := h
      obtain ⟨g115, h⟩ := h
      obtain ⟨g116, h⟩ := h
      refine jy_iast hS rfl g115.1 (Nat.le_of_lt g115.2) g116 ?_
      intro I117 e9
      have h := h I117 e9
      clear e9
      refine jy_iinc hS rfl rfl (L' := [some (.ref a0), some (.ref a1), some (jy a2), some (jy l3), some (jy (l4 + 1))]) rfl ?_
      refine jy_goto hS rfl ?_
      exact jy_join hS h rfl (jy_sub_s (jy_sub_s (jy_sub_s (jy_sub_s (jy_sub_s jy_sub_0)))))
  · intro l3 I h
    unfold wz_322_258 at h
    refine jy_iload_n hS rfl rfl ?_
    refine jy_bipush hS rfl (by decide) ?_
    obtain ⟨g118, h⟩ := h
    refine jy_icmp_ge hS rfl ⟨g118, ⟨by decide, by decide⟩⟩ (fun hq => ?_) (fun hq => ?_)
    · have h := h.1 hq
      exact jy_ret hS rfl rfl ⟨rfl, rfl, h⟩
    · have h := h.2 hq
      refine jy_iconst hS rfl ?_
      refine jy_istore hS rfl (Nat.le_of_ble_eq_true rfl) (L' := [some (.ref a0), some (.ref a1), some (jy a2), some (jy l3), some (jy 0)]) rfl ?_
      exact jy_join hS h rfl (jy_sub_s (jy_sub_s (jy_sub_s (jy_sub_s (jy_sub_s jy_sub_0)))))
  · intro l3 l4 I h
    unfold wz_322_267 at h
    refine jy_iload hS rfl rfl ?_
    refine jy_sipush hS rfl (by decide) ?_
    obtain ⟨g119, h⟩ := h
    refine jy_icmp_ge hS rfl ⟨g119, ⟨by decide, by decide⟩⟩ (fun hq => ?_) (fun hq => ?_)
    · have h := h.1 hq
      refine jy_iinc hS rfl rfl (L' := [some (.ref a0), some (.ref a1), some (jy a2), some (jy (l3 + 1)), some (jy l4)]) rfl ?_
      refine jy_goto hS rfl ?_
      exact jy_join hS h rfl (jy_sub_s (jy_sub_s (jy_sub_s (jy_sub_s (jy_sub_n jy_sub_0)))))
    · have h := h.2 hq
      refine jy_aload_n hS rfl rfl ?_
      obtain ⟨g120, h⟩ := h
      obtain ⟨q121, h⟩ := h
      obtain ⟨g122, h⟩ := h
      refine jy_getR hS rfl (by decide) g120 g122 ?_
      refine jy_iload_n hS rfl rfl ?_
      obtain ⟨n123, h⟩ := h
      obtain ⟨g124, h⟩ := h
      obtain ⟨g125, h⟩ := h
      obtain ⟨q126, h⟩ := h
      obtain ⟨g127, h⟩ := h
      refine jy_aald hS rfl g124.1 (by decide) (Nat.le_of_lt g124.2) g125 g127 ?_
      refine jy_iload hS rfl rfl ?_
      refine jy_aload_n hS rfl rfl ?_
      refine jy_aload_n hS rfl rfl ?_
      refine jy_aload_n hS rfl rfl ?_
      refine jy_getR hS rfl (by decide) g120 g122 ?_
      refine jy_iload_n hS rfl rfl ?_
      obtain ⟨g128, h⟩ := h
      obtain ⟨q129, h⟩ := h
      obtain ⟨g130, h⟩ := h
      refine jy_aald hS rfl g124.1 (by decide) (Nat.le_of_lt g124.2) g128 g130 ?_
      refine jy_iload hS rfl rfl ?_
      obtain ⟨n131, h⟩ := h
      obtain ⟨g132, h⟩ := h
      obtain ⟨g133, h⟩ := h
      refine jy_iald hS rfl g132.1 (Nat.le_of_lt g132.2) g133 ?_
      refine jy_iload_n hS rfl rfl ?_
      obtain ⟨Q134, h⟩ := h
      obtain ⟨g135, h⟩ := h
      refine jy_callV hS rfl rfl rfl (Nat.le_of_ble_eq_true rfl) (Or.inl g120) g135 (by decide) ⟨by decide, by decide⟩ (Nat.le_of_ble_eq_true rfl) ?_ ?_
      rotate_left
      · exact fun Ex Xx Ix Rx hp => hp.2.2.2.elim
      intro rv Xx I136 Rx hp
      obtain ⟨e1, e2, hp⟩ := hp
      rw [e1, e2]
      clear e1 e2
      obtain ⟨r137, e1, h⟩ := h rv I136 hp
      rw [e1]
      clear e1
      change J 298 [jy r137, jy l4, .ref q126] _ (0, 0) _ _ _
      obtain ⟨n138, h⟩ := h
      obtain ⟨g139, h⟩ := h
      obtain ⟨g140, h⟩ := h
      refine jy_iast hS rfl g139.1 (Nat.le_of_lt g139.2) g140 ?_
      intro I141 e9
      have h := h I141 e9
      clear e9
      refine jy_iinc hS rfl rfl (L' := [some (.ref a0), some (.ref a1), some (jy a2), some (jy l3), some (jy (l4 + 1))]) rfl ?_
      refine jy_goto hS rfl ?_
      exact jy_join hS h rfl (jy_sub_s (jy_sub_s (jy_sub_s (jy_sub_s (jy_sub_s jy_sub_0)))))
theorem jt_323 : jx_ml 323 = 1 ∧ jx_rt 323 = some .int ∧ jx_hz 323 = [] ∧ decide ((jx_nm 323).name = "<init>") = false ∧ jx_code 323 = jx_c323 := by decide +kernel
/-- GCModel.image -/
def wz_323 (V : jx_V) (X : jx_X) (R : jx_R) (Q : Option Value → jx_I → Prop) (QE : String → jx_I → Prop)  (a0 : Nat) (I : jx_I) : Prop :=
  (X.2.1 a0 = some (12, 0)) ∧ (
  ∀ I2 : jx_I, I2 = jx_u I a0 0 (Int32.ofInt 0) → (
  ((I2 a0 40).toInt ≠ 3 → (
    ∃ q3 : Nat, (
    (R a0 33 = some q3) ∧ (
    ∃ n5 : Nat, (
    (X.2.1 q3 = some (104, n5) ∧ n5 < 2147483648) ∧ (
    (0 ≤ (I2 a0 40).toInt ∧ (I2 a0 40).toInt < n5) ∧ (
    ∃ q8 : Nat, (
    (R q3 ((I2 a0 40).toInt).toNat = some q8) ∧ (
    ∃ Q10 : Option Value → jx_I → Prop, (
    (jc V 2 322 (0, 0) [.ref a0, .ref q8, jy 0] X I2 R Q10 (fun _ _ => False)) ∧ (
    ∀ rv I12, Q10 rv I12 → rv = none ∧ (
    ∀ I14 : jx_I, I14 = jx_u I12 a0 40 (Int32.ofInt ((I12 a0 40).toInt + 1)) → (
    Q (some (jy ((I14 a0 40).toInt))) I14)))))))))))
  )) ∧ ((I2 a0 40).toInt = 3 → (
    Q (some (jy (-1))) I2
  ))))
set_option maxRecDepth 20000 in
theorem wm_323 {V : jx_V} (hV : V.1.stackTraces = false) {X : jx_X} {R : jx_R} {I : jx_I} {Q : Option Value → jx_I → Prop} {QE : String → jx_I → Prop} {a0 : Nat}  
    (h : wz_323 V X R Q QE  a0 I) : jc V 3 323 (0, 0) [.ref a0] X I R Q QE := by
  refine jy_met hV (by decide) (n := 1) (rt := some .int) (hh := []) (ini := false) (C := jx_c323) (L := [some (.ref a0)]) jt_323 (Nat.le_of_ble_eq_true rfl) rfl ?_
  intro J hS
  unfold wz_323 at h
  refine jy_aload_n hS rfl rfl ?_
  refine jy_iconst hS rfl ?_
  obtain ⟨g1, h⟩ := h
  refine jy_putI hS rfl (by decide) g1 ?_
  intro I2 e9
  have h := h I2 e9
  clear e9
  refine jy_aload_n hS rfl rfl ?_
  refine jy_getI hS rfl (by decide) g1 ?_
  refine jy_iconst hS rfl ?_
  refine jy_icmp_ne hS rfl ⟨(jy_rng _), ⟨by decide, by decide⟩⟩ (fun hq => ?_) (fun hq => ?_)
  · have h := h.1 hq
    refine jy_aload_n hS rfl rfl ?_
    refine jy_aload_n hS rfl rfl ?_
    obtain ⟨q3, h⟩ := h
    obtain ⟨g4, h⟩ := h
    refine jy_getR hS rfl (by decide) g1 g4 ?_
    refine jy_aload_n hS rfl rfl ?_
    refine jy_getI hS rfl (by decide) g1 ?_
    obtain ⟨n5, h⟩ := h
    obtain ⟨g6, h⟩ := h
    obtain ⟨g7, h⟩ := h
    obtain ⟨q8, h⟩ := h
    obtain ⟨g9, h⟩ := h
    refine jy_aald hS rfl g6.1 (by decide) (Nat.le_of_lt g6.2) g7 g9 ?_
    refine jy_iconst hS rfl ?_
    obtain ⟨Q10, h⟩ := h
    obtain ⟨g11, h⟩ := h
    refine jy_callV hS rfl rfl rfl (Nat.le_of_ble_eq_true rfl) (Or.inl g1) g11 (by decide) ⟨by decide, by decide⟩ (Nat.le_of_ble_eq_true rfl) ?_ ?_
    rotate_left
    · exact fun Ex Xx Ix Rx hp => hp.2.2.2.elim
    intro rv Xx I12 Rx hp
    obtain ⟨e1, e2, hp⟩ := hp
    rw [e1, e2]
    clear e1 e2
    obtain ⟨e1, h⟩ := h rv I12 hp
    rw [e1]
    clear e1
    change J 29 [] _ (0, 0) _ _ _
    refine jy_aload_n hS rfl rfl ?_
    refine jy_dup hS rfl rfl ?_
    refine jy_getI hS rfl (by decide) g1 ?_
    refine jy_iconst hS rfl ?_
    refine jy_iadd hS rfl ?_
    refine jy_putI hS rfl (by decide) g1 ?_
    intro I14 e9
    have h := h I14 e9
    clear e9
    refine jy_aload_n hS rfl rfl ?_
    refine jy_getI hS rfl (by decide) g1 ?_
    exact jy_iret hS rfl rfl ⟨rfl, rfl, h⟩
  · have h := h.2 hq
    refine jy_iconst hS rfl ?_
    exact jy_iret hS rfl rfl ⟨rfl, rfl, h⟩
theorem jt_324 : jx_ml 324 = 1 ∧ jx_rt 324 = some .int ∧ jx_hz 324 = [] ∧ decide ((jx_nm 324).name = "<init>") = false ∧ jx_code 324 = jx_c324 := by decide +kernel
/-- GCModel.restore -/
def wz_324 (V : jx_V) (X : jx_X) (R : jx_R) (Q : Option Value → jx_I → Prop) (QE : String → jx_I → Prop)  (a0 : Nat) (I : jx_I) : Prop :=
  (X.2.1 a0 = some (12, 0)) ∧ (
  ∀ I2 : jx_I, I2 = jx_u I a0 0 (Int32.ofInt 0) → (
  ((I2 a0 40).toInt ≠ 0 → (
    ∀ I3 : jx_I, I3 = jx_u I2 a0 40 (Int32.ofInt ((I2 a0 40).toInt - 1)) → (
    ∃ q4 : Nat, (
    (R a0 33 = some q4) ∧ (
    ∃ n6 : Nat, (
    (X.2.1 q4 = some (104, n6) ∧ n6 < 2147483648) ∧ (
    (0 ≤ (I3 a0 40).toInt ∧ (I3 a0 40).toInt < n6) ∧ (
    ∃ q9 : Nat, (
    (R q4 ((I3 a0 40).toInt).toNat = some q9) ∧ (
    ∃ Q11 : Option Value → jx_I → Prop, (
    (jc V 2 322 (0, 0) [.ref a0, .ref q9, jy 1] X I3 R Q11 (fun _ _ => False)) ∧ (
    ∀ rv I13, Q11 rv I13 → rv = none ∧ (
    Q (some (jy ((I13 a0 40).toInt))) I13)))))))))))
  )) ∧ ((I2 a0 40).toInt = 0 → (
    Q (some (jy (-1))) I2
  ))))
set_option maxRecDepth 20000 in
theorem wm_324 {V : jx_V} (hV : V.1.stackTraces = false) {X : jx_X} {R : jx_R} {I : jx_I} {Q : Option Value → jx_I → Prop} {QE : String → jx_I → Prop} {a0 : Nat}  
    (h : wz_324 V X R Q QE  a0 I) : jc V 3 324 (0, 0) [.ref a0] X I R Q QE := by
  refine jy_met hV (by decide) (n := 1) (rt := some .int) (hh := []) (ini := false) (C := jx_c324) (L := [some (.ref a0)]) jt_324 (Nat.le_of_ble_eq_true rfl) rfl ?_
  intro J hS
  unfold wz_324 at h
  refine jy_aload_n hS rfl rfl ?_
  refine jy_iconst hS rfl ?_
  obtain ⟨g1, h⟩ := h
  refine jy_putI hS rfl (by decide) g1 ?_
  intro I2 e9
  have h := h I2 e9
  clear e9
  refine jy_aload_n hS rfl rfl ?_
  refine jy_getI hS rfl (by decide) g1 ?_
  refine jy_if_ne hS rfl (jy_rng _) (fun hq => ?_) (fun hq => ?_)
  · have h := h.1 hq
    refine jy_aload_n hS rfl rfl ?_
    refine jy_dup hS rfl rfl ?_
    refine jy_getI hS rfl (by decide) g1 ?_
    refine jy_iconst hS rfl ?_
    refine jy_isub hS rfl ?_
    refine jy_putI hS rfl (by decide) g1 ?_
    intro I3 e9
    have h := h I3 e9
    clear e9
    refine jy_aload_n hS rfl rfl ?_
    refine jy_aload_n hS rfl rfl ?_
    obtain ⟨q4, h⟩ := h
    obtain ⟨g5, h⟩ := h
    refine jy_getR hS rfl (by decide) g1 g5 ?_
    refine jy_aload_n hS rfl rfl ?_
    refine jy_getI hS rfl (by decide) g1 ?_
    obtain ⟨n6, h⟩ := h
    obtain ⟨g7, h⟩ := h
    obtain ⟨g8, h⟩ := h
    obtain ⟨q9, h⟩ := h
    obtain ⟨g10, h⟩ := h
    refine jy_aald hS rfl g7.1 (by decide) (Nat.le_of_lt g7.2) g8 g10 ?_
    refine jy_iconst hS rfl ?_
    obtain ⟨Q11, h⟩ := h
    obtain ⟨g12, h⟩ := h
    refine jy_callV hS rfl rfl rfl (Nat.le_of_ble_eq_true rfl) (Or.inl g1) g12 (by decide) ⟨by decide, by decide⟩ (Nat.le_of_ble_eq_true rfl) ?_ ?_
    rotate_left
    · exact fun Ex Xx Ix Rx hp => hp.2.2.2.elim
    intro rv Xx I13 Rx hp
    obtain ⟨e1, e2, hp⟩ := hp
    rw [e1, e2]
    clear e1 e2
    obtain ⟨e1, h⟩ := h rv I13 hp
    rw [e1]
    clear e1
    change J 38 [] _ (0, 0) _ _ _
    refine jy_aload_n hS rfl rfl ?_
    refine jy_getI hS rfl (by decide) g1 ?_
    exact jy_iret hS rfl rfl ⟨rfl, rfl, h⟩
  · have h := h.2 hq
    refine jy_iconst hS rfl ?_
    exact jy_iret hS rfl rfl ⟨rfl, rfl, h⟩
theorem jt_325 : jx_ml 325 = 2 ∧ jx_rt 325 = some .int ∧ jx_hz 325 = [] ∧ decide ((jx_nm 325).name = "<init>") = false ∧ jx_code 325 = jx_c325 := by decide +kernel
/-- GCModel.status -/
def wz_325 (V : jx_V) (X : jx_X) (R : jx_R) (Q : Option Value → jx_I → Prop) (QE : String → jx_I → Prop)  (a0 : Nat) (a1 : Int) (I : jx_I) : Prop :=
  (X.2.1 a0 = some (12, 0)) ∧ (
  ∀ I2 : jx_I, I2 = jx_u I a0 0 (Int32.ofInt 0) → (
  ∃ Q3 : Option Value → jx_I → Prop, (
  (jc V 1 203 (0, 0) [jy a1, jy 0, jy 3] X I2 R Q3 (fun _ _ => False)) ∧ (
  ∀ rv I5, Q3 rv I5 → ∃ r6 : Int, rv = some (jy r6) ∧ (
  (-2147483648 ≤ r6 ∧ r6 < 2147483648) ∧ (
  (r6 = 0 → (
    Q (some (jy (-1))) I5
  )) ∧ (¬ r6 = 0 → (
    ∃ q8 : Nat, (
    (R a0 9 = some q8) ∧ (
    ∃ n10 : Nat, (
    (X.2.1 q8 = some (100, n10) ∧ n10 < 2147483648) ∧ (
    (0 ≤ a1 ∧ a1 < n10) ∧ (
    Q (some (jy ((I5 q8 a1.toNat).toInt))) I5)))))
  ))))))))
set_option maxRecDepth 20000 in
theorem wm_325 {V : jx_V} (hV : V.1.stackTraces = false) {X : jx_X} {R : jx_R} {I : jx_I} {Q : Option Value → jx_I → Prop} {QE : String → jx_I → Prop} {a0 : Nat} {a1 : Int} (r_a1 : -2147483648 ≤ a1 ∧ a1 < 2147483648) 
    (h : wz_325 V X R Q QE  a0 a1 I) : jc V 2 325 (0, 0) [.ref a0, jy a1] X I R Q QE := by
  refine jy_met hV (by decide) (n := 2) (rt := some .int) (hh := []) (ini := false) (C := jx_c325) (L := [some (.ref a0), some (jy a1)]) jt_325 (Nat.le_of_ble_eq_true rfl) rfl ?_
  intro J hS
  unfold wz_325 at h
  refine jy_aload_n hS rfl rfl ?_
  refine jy_iconst hS rfl ?_
  obtain ⟨g1, h⟩ := h
  refine jy_putI hS rfl (by decide) g1 ?_
  intro I2 e9
  have h := h I2 e9
  clear e9
  refine jy_iload_n hS rfl rfl ?_
  refine jy_iconst hS rfl ?_
  refine jy_iconst hS rfl ?_
  obtain ⟨Q3, h⟩ := h
  obtain ⟨g4, h⟩ := h
  refine jy_callS hS rfl rfl rfl (Nat.le_of_ble_eq_true rfl) g4 (by decide) ⟨by decide, by decide⟩ (Nat.le_of_ble_eq_true rfl) ?_ ?_
  rotate_left
  · exact fun Ex Xx Ix Rx hp => hp.2.2.2.elim
  intro rv Xx I5 Rx hp
  obtain ⟨e1, e2, hp⟩ := hp
  rw [e1, e2]
  clear e1 e2
  obtain ⟨r6, e1, h⟩ := h rv I5 hp
  rw [e1]
  clear e1
  change J 11 [jy r6] _ (0, 0) _ _ _
  obtain ⟨g7, h⟩ := h
  refine jy_if_eq hS rfl g7 (fun hq => ?_) (fun hq => ?_)
  · have h := h.1 hq
    refine jy_iconst hS rfl ?_
    exact jy_iret hS rfl rfl ⟨rfl, rfl, h⟩
  · have h := h.2 hq
    refine jy_aload_n hS rfl rfl ?_
    obtain ⟨q8, h⟩ := h
    obtain ⟨g9, h⟩ := h
    refine jy_getR hS rfl (by decide) g1 g9 ?_
    refine jy_iload_n hS rfl rfl ?_
    obtain ⟨n10, h⟩ := h
    obtain ⟨g11, h⟩ := h
    obtain ⟨g12, h⟩ := h
    refine jy_iald hS rfl g11.1 (Nat.le_of_lt g11.2) g12 ?_
    refine jy_goto hS rfl ?_
    exact jy_iret hS rfl rfl ⟨rfl, rfl, h⟩
theorem jt_326 : jx_ml 326 = 2 ∧ jx_rt 326 = some .int ∧ jx_hz 326 = [] ∧ decide ((jx_nm 326).name = "<init>") = false ∧ jx_code 326 = jx_c326 := by decide +kernel
/-- GCModel.count -/
def wz_326 (V : jx_V) (X : jx_X) (R : jx_R) (Q : Option Value → jx_I → Prop) (QE : String → jx_I → Prop)  (a0 : Nat) (a1 : Int) (I : jx_I) : Prop :=
  (X.2.1 a0 = some (12, 0)) ∧ (
  ∀ I2 : jx_I, I2 = jx_u I a0 0 (Int32.ofInt 0) → (
  (a1 ≠ 0 → (
    (a1 ≠ 1 → (
      (a1 ≠ 2 → (
        Q (some (jy (-1))) I2
      )) ∧ (a1 = 2 → (
        Q (some (jy ((I2 a0 39).toInt))) I2
      ))
    )) ∧ (a1 = 1 → (
      Q (some (jy ((I2 a0 1).toInt))) I2
    ))
  )) ∧ (a1 = 0 → (
    Q (some (jy ((I2 a0 40).toInt))) I2
  ))))
set_option maxRecDepth 20000 in
theorem wm_326 {V : jx_V} (hV : V.1.stackTraces = false) {X : jx_X} {R : jx_R} {I : jx_I} {Q : Option Value → jx_I → Prop} {QE : String → jx_I → Prop} {a0 : Nat} {a1 : Int} (r_a1 : -2147483648 ≤ a1 ∧ a1 < 2147483648) 
    (h : wz_326 V X R Q QE  a0 a1 I) : jc V 1 326 (0, 0) [.ref a0, jy a1] X I R Q QE := by
  refine jy_met hV (by decide) (n := 2) (rt := some .int) (hh := []) (ini := false) (C := jx_c326) (L := [some (.ref a0), some (jy a1)]) jt_326 (Nat.le_of_ble_eq_true rfl) rfl ?_
  intro J hS
  unfold wz_326 at h
  refine jy_aload_n hS rfl rfl ?_
  refine jy_iconst hS rfl ?_
  obtain ⟨g1, h⟩ := h
  refine jy_putI hS rfl (by decide) g1 ?_
  intro I2 e9
  have h := h I2 e9
  clear e9
  refine jy_iload_n hS rfl rfl ?_
  refine jy_if_ne hS rfl r_a1 (fun hq => ?_) (fun hq => ?_)
  · have h := h.1 hq
    refine jy_iload_n hS rfl rfl ?_
    refine jy_iconst hS rfl ?_
    refine jy_icmp_ne hS rfl ⟨r_a1, ⟨by decide, by decide⟩⟩ (fun hq => ?_) (fun hq => ?_)
    · have h := h.1 hq
      refine jy_iload_n hS rfl rfl ?_
      refine jy_iconst hS rfl ?_
      refine jy_icmp_ne hS rfl ⟨r_a1, ⟨by decide, by decide⟩⟩ (fun hq => ?_) (fun hq => ?_)
      · have h := h.1 hq
        refine jy_iconst hS rfl ?_
        exact jy_iret hS rfl rfl ⟨rfl, rfl, h⟩
      · have h := h.2 hq
        refine jy_aload_n hS rfl rfl ?_
        refine jy_getI hS rfl (by decide) g1 ?_
        refine jy_goto hS rfl ?_
        exact jy_iret hS rfl rfl ⟨rfl, rfl, h⟩
    · have h := h.2 hq
      refine jy_aload_n hS rfl rfl ?_
      refine jy_getI hS rfl (by decide) g1 ?_
      refine jy_goto hS rfl ?_
      exact jy_iret hS rfl rfl ⟨rfl, rfl, h⟩
  · have h := h.2 hq
    refine jy_aload_n hS rfl rfl ?_
    refine jy_getI hS rfl (by decide) g1 ?_
    refine jy_goto hS rfl ?_
    exact jy_iret hS rfl rfl ⟨rfl, rfl, h⟩
