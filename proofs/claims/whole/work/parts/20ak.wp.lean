theorem jt_222 : jx_ml 222 = 5 ∧ jx_rt 222 = none ∧ jx_hz 222 = [] ∧ decide ((jx_nm 222).name = "<init>") = false ∧ jx_code 222 = jx_c222 := by decide +kernel
/-- GCModel.clause, from 71 -/
def wz_222_71 (V : jx_V) (X : jx_X) (R : jx_R) (Q : Option Value → jx_I → Prop) (QE : String → jx_I → Prop) (J71 : Int → jx_I → Prop) (J168 : Nat → Int → Int → Int → jx_I → Prop) (J413 : jx_I → Prop) (a0 : Nat) (l1 : Int) (I : jx_I) : Prop :=
  (X.2.1 a0 = some (12, 0)) ∧ (
  ((I a0 5).toInt = 0 → (
    ∃ Q612 : Option Value → jx_I → Prop, (
    (jc V 2 215 (0, 0) [.ref a0] X I R Q612 (fun _ _ => False)) ∧ (
    ∀ rv I614, Q612 rv I614 → rv = none ∧ (
    ∀ I616 : jx_I, I616 = jx_u I614 a0 7 (Int32.ofInt ((I614 a0 7).toInt + 1)) → (
    (-2147483648 ≤ l1 ∧ l1 < 2147483648) ∧ (
    ((l1 < 0 ∨ 5 < l1) → (
      ∀ I618 : jx_I, I618 = jx_u I616 a0 24 (Int32.ofInt 0) → (
      ∃ d620 : Nat, d620 < 201 ∧ (
      ∃ Q619 : Option Value → jx_I → Prop, (
      (jc V d620 225 (0, 0) [.ref a0] X I618 R Q619 (fun _ _ => False)) ∧ (
      ∀ rv I623, Q619 rv I623 → rv = none ∧ (
      J413 I623)))))
    ))
    ∧ (l1 = 0 → (
      ∃ q625 : Nat, (
      (R a0 12 = some q625) ∧ (
      ∃ q627 : Nat, (
      (R a0 10 = some q627) ∧ (
      ∃ n629 : Nat, (
      (X.2.1 q627 = some (100, n629) ∧ n629 < 2147483648) ∧ (
      (0 ≤ (0 : Int) ∧ (0 : Int) < n629) ∧ (
      ∃ Q632 : Option Value → jx_I → Prop, (
      (jc V 3 210 (0, 0) [.ref a0, jy 0, jy 3] X I616 R Q632 (fun _ _ => False)) ∧ (
      ∀ rv I634, Q632 rv I634 → ∃ r635 : Int, rv = some (jy r635) ∧ (
      ∃ n636 : Nat, (
      (X.2.1 q625 = some (100, n636) ∧ n636 < 2147483648) ∧ (
      (0 ≤ (I616 q627 (0 : Int).toNat).toInt ∧ (I616 q627 (0 : Int).toNat).toInt < n636) ∧ (
      ∀ I639 : jx_I, I639 = jx_u I634 q625 ((I616 q627 (0 : Int).toNat).toInt).toNat (Int32.ofInt r635) → (
      (0 ≤ (0 : Int) ∧ (0 : Int) < n629) ∧ (
      ((I639 a0 5).toInt ≠ 0 → (
        J168 q627 0 ((I639 q627 (0 : Int).toNat).toInt) 0 I639
      )) ∧ ((I639 a0 5).toInt = 0 → (
        J168 q627 0 ((I639 q627 (0 : Int).toNat).toInt) 1 I639
      )))))))))))))))))
    ))
    ∧ (l1 = 1 → (
      ∃ Q641 : Option Value → jx_I → Prop, (
      (jc V 4 223 (0, 0) [.ref a0] X I616 R Q641 (fun _ _ => False)) ∧ (
      ∀ rv I643, Q641 rv I643 → rv = none ∧ (
      J413 I643)))
    ))
    ∧ (l1 = 2 → (
      ∃ q645 : Nat, (
      (R a0 10 = some q645) ∧ (
      ∃ n647 : Nat, (
      (X.2.1 q645 = some (100, n647) ∧ n647 < 2147483648) ∧ (
      (0 ≤ (0 : Int) ∧ (0 : Int) < n647) ∧ (
      ∃ Q650 : Option Value → jx_I → Prop, (
      (jc V 3 210 (0, 0) [.ref a0, jy 0, jy ((I616 q645 (0 : Int).toNat).toInt - 1)] X I616 R Q650 (fun _ _ => False)) ∧ (
      ∀ rv I652, Q650 rv I652 → ∃ r653 : Int, rv = some (jy r653) ∧ (
      (0 ≤ (0 : Int) ∧ (0 : Int) < n647) ∧ (
      ∃ Q655 : Option Value → jx_I → Prop, (
      (jc V 4 211 (0, 0) [.ref a0, jy ((I652 q645 (0 : Int).toNat).toInt - 1), jy r653] X I652 R Q655 (fun _ _ => False)) ∧ (
      ∀ rv I657, Q655 rv I657 → ∃ r658 : Int, rv = some (jy r658) ∧ (
      ∃ Q659 : Option Value → jx_I → Prop, (
      (jc V 3 210 (0, 0) [.ref a0, jy 1, jy 24] X I657 R Q659 (fun _ _ => False)) ∧ (
      ∀ rv I661, Q659 rv I661 → ∃ r662 : Int, rv = some (jy r662) ∧ (
      ((I661 a0 5).toInt = 0 → (
        ∃ q663 : Nat, (
        (R a0 20 = some q663) ∧ (
        ∃ n665 : Nat, (
        (X.2.1 q663 = some (104, n665) ∧ n665 < 2147483648) ∧ (
        (0 ≤ r653 ∧ r653 < n665) ∧ (
        ∃ q668 : Nat, (
        (R q663 r653.toNat = some q668) ∧ (
        ∃ n670 : Nat, (
        (X.2.1 q668 = some (100, n670) ∧ n670 < 2147483648) ∧ (
        (0 ≤ r658 ∧ r658 < n670) ∧ (
        ∀ I673 : jx_I, I673 = jx_u I661 q668 r658.toNat (Int32.ofInt r662) → (
        (0 ≤ r658 ∧ r658 < n665) ∧ (
        ∃ q675 : Nat, (
        (R q663 r658.toNat = some q675) ∧ (
        ∃ n677 : Nat, (
        (X.2.1 q675 = some (100, n677) ∧ n677 < 2147483648) ∧ (
        (0 ≤ r653 ∧ r653 < n677) ∧ (
        ∀ I680 : jx_I, I680 = jx_u I673 q675 r653.toNat (Int32.ofInt r662) → (
        J413 I680))))))))))))))))))
      )) ∧ (¬ (I661 a0 5).toInt = 0 → (
        J413 I661
      )))))))))))))))))
    ))
    ∧ (l1 = 3 → (
      ∃ Q681 : Option Value → jx_I → Prop, (
      (jc V 4 221 (0, 0) [.ref a0] X I616 R Q681 (fun _ _ => False)) ∧ (
      ∀ rv I683, Q681 rv I683 → ∃ r684 : Int, rv = some (jy r684) ∧ (
      ∃ q685 : Nat, (
      (R a0 10 = some q685) ∧ (
      ∃ n687 : Nat, (
      (X.2.1 q685 = some (100, n687) ∧ n687 < 2147483648) ∧ (
      (0 ≤ (0 : Int) ∧ (0 : Int) < n687) ∧ (
      ∃ Q690 : Option Value → jx_I → Prop, (
      (jc V 3 210 (0, 0) [.ref a0, jy 0, jy ((I683 q685 (0 : Int).toNat).toInt - 1)] X I683 R Q690 (fun _ _ => False)) ∧ (
      ∀ rv I692, Q690 rv I692 → ∃ r693 : Int, rv = some (jy r693) ∧ (
      ∃ Q694 : Option Value → jx_I → Prop, (
      (jc V 3 210 (0, 0) [.ref a0, jy 1, jy 20] X I692 R Q694 (fun _ _ => False)) ∧ (
      ∀ rv I696, Q694 rv I696 → ∃ r697 : Int, rv = some (jy r697) ∧ (
      ((I696 a0 5).toInt ≠ 0 → (
        ∃ Q698 : Option Value → jx_I → Prop, (
        (jc V 3 217 (0, 0) [.ref a0, jy 59] X I696 R Q698 (fun _ _ => False)) ∧ (
        ∀ rv I700, Q698 rv I700 → rv = none ∧ (
        Q none I700)))
      )) ∧ ((I696 a0 5).toInt = 0 → (
        ∃ q702 : Nat, (
        (R a0 22 = some q702) ∧ (
        ∃ n704 : Nat, (
        (X.2.1 q702 = some (104, n704) ∧ n704 < 2147483648) ∧ (
        (0 ≤ r684 ∧ r684 < n704) ∧ (
        ∃ q707 : Nat, (
        (R q702 r684.toNat = some q707) ∧ (
        (0 ≤ r684 ∧ r684 < n704) ∧ (
        ∃ q710 : Nat, (
        (R q702 r684.toNat = some q710) ∧ (
        ∃ n712 : Nat, (
        (X.2.1 q710 = some (100, n712) ∧ n712 < 2147483648) ∧ (
        (0 ≤ r693 ∧ r693 < n712) ∧ (
        ∃ Q715 : Option Value → jx_I → Prop, (
        (jc V 1 204 (0, 0) [jy 20, jy ((I696 q710 r693.toNat).toInt + r697)] X I696 R Q715 (fun _ _ => False)) ∧ (
        ∀ rv I717, Q715 rv I717 → ∃ r718 : Int, rv = some (jy r718) ∧ (
        ∃ n719 : Nat, (
        (X.2.1 q707 = some (100, n719) ∧ n719 < 2147483648) ∧ (
        (0 ≤ r693 ∧ r693 < n719) ∧ (
        ∀ I722 : jx_I, I722 = jx_u I717 q707 r693.toNat (Int32.ofInt r718) → (
        J413 I722))))))))))))))))))))
      ))))))))))))))))
    ))
    ∧ (l1 = 4 → (
      ∃ Q723 : Option Value → jx_I → Prop, (
      (jc V 4 221 (0, 0) [.ref a0] X I616 R Q723 (fun _ _ => False)) ∧ (
      ∀ rv I725, Q723 rv I725 → ∃ r726 : Int, rv = some (jy r726) ∧ (
      ∃ q727 : Nat, (
      (R a0 10 = some q727) ∧ (
      ∃ n729 : Nat, (
      (X.2.1 q727 = some (100, n729) ∧ n729 < 2147483648) ∧ (
      (0 ≤ (1 : Int) ∧ (1 : Int) < n729) ∧ (
      ∃ Q732 : Option Value → jx_I → Prop, (
      (jc V 4 211 (0, 0) [.ref a0, jy ((I725 q727 (1 : Int).toNat).toInt - 1), jy r726] X I725 R Q732 (fun _ _ => False)) ∧ (
      ∀ rv I734, Q732 rv I734 → ∃ r735 : Int, rv = some (jy r735) ∧ (
      ((I734 a0 5).toInt ≠ 0 → (
        ∃ Q736 : Option Value → jx_I → Prop, (
        (jc V 3 217 (0, 0) [.ref a0, jy 59] X I734 R Q736 (fun _ _ => False)) ∧ (
        ∀ rv I738, Q736 rv I738 → rv = none ∧ (
        Q none I738)))
      )) ∧ ((I734 a0 5).toInt = 0 → (
        ∃ q740 : Nat, (
        (R a0 16 = some q740) ∧ (
        ∃ n742 : Nat, (
        (X.2.1 q740 = some (100, n742) ∧ n742 < 2147483648) ∧ (
        (0 ≤ r726 ∧ r726 < n742) ∧ (
        ∀ I745 : jx_I, I745 = jx_u I734 q740 r726.toNat (Int32.ofInt r735) → (
        J413 I745))))))
      )))))))))))))
    ))
    ∧ (l1 = 5 → (
      ∃ Q746 : Option Value → jx_I → Prop, (
      (jc V 4 221 (0, 0) [.ref a0] X I616 R Q746 (fun _ _ => False)) ∧ (
      ∀ rv I748, Q746 rv I748 → ∃ r749 : Int, rv = some (jy r749) ∧ (
      ∃ q750 : Nat, (
      (R a0 10 = some q750) ∧ (
      ∃ n752 : Nat, (
      (X.2.1 q750 = some (100, n752) ∧ n752 < 2147483648) ∧ (
      (0 ≤ (1 : Int) ∧ (1 : Int) < n752) ∧ (
      ∃ Q755 : Option Value → jx_I → Prop, (
      (jc V 4 211 (0, 0) [.ref a0, jy ((I748 q750 (1 : Int).toNat).toInt - 1), jy r749] X I748 R Q755 (fun _ _ => False)) ∧ (
      ∀ rv I757, Q755 rv I757 → ∃ r758 : Int, rv = some (jy r758) ∧ (
      ((I757 a0 5).toInt = 0 → (
        ∃ q759 : Nat, (
        (R a0 18 = some q759) ∧ (
        ∃ n761 : Nat, (
        (X.2.1 q759 = some (100, n761) ∧ n761 < 2147483648) ∧ (
        (0 ≤ r749 ∧ r749 < n761) ∧ (
        (0 ≤ r749 ∧ r749 < n761) ∧ (
        ∀ I765 : jx_I, I765 = jx_u I757 q759 r749.toNat (Int32.ofInt ((Int32.ofInt ((I757 q759 r749.toNat).toInt) ||| Int32.ofInt ((Int32.ofInt 1 <<< (Int32.ofInt r758 &&& 31)).toInt)).toInt)) → (
        (0 ≤ r758 ∧ r758 < n761) ∧ (
        (0 ≤ r758 ∧ r758 < n761) ∧ (
        ∀ I768 : jx_I, I768 = jx_u I765 q759 r758.toNat (Int32.ofInt ((Int32.ofInt ((I765 q759 r758.toNat).toInt) ||| Int32.ofInt ((Int32.ofInt 1 <<< (Int32.ofInt r749 &&& 31)).toInt)).toInt)) → (
        J413 I768))))))))))
      )) ∧ (¬ (I757 a0 5).toInt = 0 → (
        J413 I757
      )))))))))))))
    )))))))
  )) ∧ (¬ (I a0 5).toInt = 0 → (
    Q none I
  )))
/-- GCModel.clause, from 168 -/
def wz_222_168 (V : jx_V) (X : jx_X) (R : jx_R) (Q : Option Value → jx_I → Prop) (QE : String → jx_I → Prop) (J71 : Int → jx_I → Prop) (J168 : Nat → Int → Int → Int → jx_I → Prop) (J413 : jx_I → Prop) (a0 : Nat) (s0 : Nat) (s1 : Int) (s2 : Int) (s3 : Int) (I : jx_I) : Prop :=
  ∃ n602 : Nat, (
  (X.2.1 s0 = some (100, n602) ∧ n602 < 2147483648) ∧ (
  (0 ≤ s1 ∧ s1 < n602) ∧ (
  ∀ I605 : jx_I, I605 = jx_u I s0 s1.toNat (Int32.ofInt (s2 + s3)) → (
  J413 I605))))
/-- GCModel.clause, from 413 -/
def wz_222_413 (V : jx_V) (X : jx_X) (R : jx_R) (Q : Option Value → jx_I → Prop) (QE : String → jx_I → Prop) (J71 : Int → jx_I → Prop) (J168 : Nat → Int → Int → Int → jx_I → Prop) (J413 : jx_I → Prop) (a0 : Nat)  (I : jx_I) : Prop :=
  (X.2.1 a0 = some (12, 0)) ∧ (
  ∃ Q607 : Option Value → jx_I → Prop, (
  (jc V 3 217 (0, 0) [.ref a0, jy 59] X I R Q607 (fun _ _ => False)) ∧ (
  ∀ rv I609, Q607 rv I609 → rv = none ∧ (
  Q none I609))))
/-- GCModel.clause -/
def wz_222 (V : jx_V) (X : jx_X) (R : jx_R) (Q : Option Value → jx_I → Prop) (QE : String → jx_I → Prop) (J71 : Int → jx_I → Prop) (J168 : Nat → Int → Int → Int → jx_I → Prop) (J413 : jx_I → Prop) (a0 : Nat) (I : jx_I) : Prop :=
  (X.2.1 a0 = some (12, 0)) ∧ (
  ∃ Q2 : Option Value → jx_I → Prop, (
  (jc V 5 220 (0, 0) [.ref a0] X I R Q2 (fun _ _ => False)) ∧ (
  ∀ rv I4, Q2 rv I4 → ∃ r5 : Int, rv = some (jy r5) ∧ (
  (-2147483648 ≤ r5 ∧ r5 < 2147483648) ∧ (
  (r5 ≠ (-1) → (
    ((I4 a0 7).toInt = 60 → (
      ∃ Q7 : Option Value → jx_I → Prop, (
      (jc V 1 208 (0, 0) [.ref a0, jy 3, jy ((I4 a0 4).toInt)] X I4 R Q7 (fun _ _ => False)) ∧ (
      ∀ rv I9, Q7 rv I9 → rv = none ∧ (
      J71 r5 I9)))
    )) ∧ (¬ (I4 a0 7).toInt = 60 → (
      (r5 ≠ 0 → (
        (r5 ≠ 1 → (
          ((I4 a0 5).toInt = 0 → (
            ∃ Q11 : Option Value → jx_I → Prop, (
            (jc V 2 215 (0, 0) [.ref a0] X I4 R Q11 (fun _ _ => False)) ∧ (
            ∀ rv I13, Q11 rv I13 → rv = none ∧ (
            ∀ I15 : jx_I, I15 = jx_u I13 a0 7 (Int32.ofInt ((I13 a0 7).toInt + 1)) → (
            ((r5 < 0 ∨ 5 < r5) → (
              ∀ I16 : jx_I, I16 = jx_u I15 a0 24 (Int32.ofInt 0) → (
              ∃ d18 : Nat, d18 < 201 ∧ (
              ∃ Q17 : Option Value → jx_I → Prop, (
              (jc V d18 225 (0, 0) [.ref a0] X I16 R Q17 (fun _ _ => False)) ∧ (
              ∀ rv I21, Q17 rv I21 → rv = none ∧ (
              J413 I21)))))
            ))
            ∧ (r5 = 0 → (
              ∃ q23 : Nat, (
              (R a0 12 = some q23) ∧ (
              ∃ q25 : Nat, (
              (R a0 10 = some q25) ∧ (
              ∃ n27 : Nat, (
              (X.2.1 q25 = some (100, n27) ∧ n27 < 2147483648) ∧ (
              (0 ≤ (0 : Int) ∧ (0 : Int) < n27) ∧ (
              ∃ Q30 : Option Value → jx_I → Prop, (
              (jc V 3 210 (0, 0) [.ref a0, jy 0, jy 3] X I15 R Q30 (fun _ _ => False)) ∧ (
              ∀ rv I32, Q30 rv I32 → ∃ r33 : Int, rv = some (jy r33) ∧ (
              ∃ n34 : Nat, (
              (X.2.1 q23 = some (100, n34) ∧ n34 < 2147483648) ∧ (
              (0 ≤ (I15 q25 (0 : Int).toNat).toInt ∧ (I15 q25 (0 : Int).toNat).toInt < n34) ∧ (
              ∀ I37 : jx_I, I37 = jx_u I32 q23 ((I15 q25 (0 : Int).toNat).toInt).toNat (Int32.ofInt r33) → (
              (0 ≤ (0 : Int) ∧ (0 : Int) < n27) ∧ (
              ((I37 a0 5).toInt ≠ 0 → (
                J168 q25 0 ((I37 q25 (0 : Int).toNat).toInt) 0 I37
              )) ∧ ((I37 a0 5).toInt = 0 → (
                J168 q25 0 ((I37 q25 (0 : Int).toNat).toInt) 1 I37
              )))))))))))))))))
            ))
            ∧ (r5 = 1 → (
              ∃ Q39 : Option Value → jx_I → Prop, (
              (jc V 4 223 (0, 0) [.ref a0] X I15 R Q39 (fun _ _ => False)) ∧ (
              ∀ rv I41, Q39 rv I41 → rv = none ∧ (
              J413 I41)))
            ))
            ∧ (r5 = 2 → (
              ∃ q43 : Nat, (
              (R a0 10 = some q43) ∧ (
              ∃ n45 : Nat, (
              (X.2.1 q43 = some (100, n45) ∧ n45 < 2147483648) ∧ (
              (0 ≤ (0 : Int) ∧ (0 : Int) < n45) ∧ (
              ∃ Q48 : Option Value → jx_I → Prop, (
              (jc V 3 210 (0, 0) [.ref a0, jy 0, jy ((I15 q43 (0 : Int).toNat).toInt - 1)] X I15 R Q48 (fun _ _ => False)) ∧ (
              ∀ rv I50, Q48 rv I50 → ∃ r51 : Int, rv = some (jy r51) ∧ (
              (0 ≤ (0 : Int) ∧ (0 : Int) < n45) ∧ (
              ∃ Q53 : Option Value → jx_I → Prop, (
              (jc V 4 211 (0, 0) [.ref a0, jy ((I50 q43 (0 : Int).toNat).toInt - 1), jy r51] X I50 R Q53 (fun _ _ => False)) ∧ (
              ∀ rv I55, Q53 rv I55 → ∃ r56 : Int, rv = some (jy r56) ∧ (
              ∃ Q57 : Option Value → jx_I → Prop, (
              (jc V 3 210 (0, 0) [.ref a0, jy 1, jy 24] X I55 R Q57 (fun _ _ => False)) ∧ (
              ∀ rv I59, Q57 rv I59 → ∃ r60 : Int, rv = some (jy r60) ∧ (
              ((I59 a0 5).toInt = 0 → (
                ∃ q61 : Nat, (
                (R a0 20 = some q61) ∧ (
                ∃ n63 : Nat, (
                (X.2.1 q61 = some (104, n63) ∧ n63 < 2147483648) ∧ (
                (0 ≤ r51 ∧ r51 < n63) ∧ (
                ∃ q66 : Nat, (
                (R q61 r51.toNat = some q66) ∧ (
                ∃ n68 : Nat, (
                (X.2.1 q66 = some (100, n68) ∧ n68 < 2147483648) ∧ (
                (0 ≤ r56 ∧ r56 < n68) ∧ (
                ∀ I71 : jx_I, I71 = jx_u I59 q66 r56.toNat (Int32.ofInt r60) → (
                (0 ≤ r56 ∧ r56 < n63) ∧ (
                ∃ q73 : Nat, (
                (R q61 r56.toNat = some q73) ∧ (
                ∃ n75 : Nat, (
                (X.2.1 q73 = some (100, n75) ∧ n75 < 2147483648) ∧ (
                (0 ≤ r51 ∧ r51 < n75) ∧ (
                ∀ I78 : jx_I, I78 = jx_u I71 q73 r51.toNat (Int32.ofInt r60) → (
                J413 I78))))))))))))))))))
              )) ∧ (¬ (I59 a0 5).toInt = 0 → (
                J413 I59
              )))))))))))))))))
            ))
            ∧ (r5 = 3 → (
              ∃ Q79 : Option Value → jx_I → Prop, (
              (jc V 4 221 (0, 0) [.ref a0] X I15 R Q79 (fun _ _ => False)) ∧ (
              ∀ rv I81, Q79 rv I81 → ∃ r82 : Int, rv = some (jy r82) ∧ (
              ∃ q83 : Nat, (
              (R a0 10 = some q83) ∧ (
              ∃ n85 : Nat, (
              (X.2.1 q83 = some (100, n85) ∧ n85 < 2147483648) ∧ (
              (0 ≤ (0 : Int) ∧ (0 : Int) < n85) ∧ (
              ∃ Q88 : Option Value → jx_I → Prop, (
              (jc V 3 210 (0, 0) [.ref a0, jy 0, jy ((I81 q83 (0 : Int).toNat).toInt - 1)] X I81 R Q88 (fun _ _ => False)) ∧ (
              ∀ rv I90, Q88 rv I90 → ∃ r91 : Int, rv = some (jy r91) ∧ (
              ∃ Q92 : Option Value → jx_I → Prop, (
              (jc V 3 210 (0, 0) [.ref a0, jy 1, jy 20] X I90 R Q92 (fun _ _ => False)) ∧ (
              ∀ rv I94, Q92 rv I94 → ∃ r95 : Int, rv = some (jy r95) ∧ (
              ((I94 a0 5).toInt ≠ 0 → (
                ∃ Q96 : Option Value → jx_I → Prop, (
                (jc V 3 217 (0, 0) [.ref a0, jy 59] X I94 R Q96 (fun _ _ => False)) ∧ (
                ∀ rv I98, Q96 rv I98 → rv = none ∧ (
                Q none I98)))
              )) ∧ ((I94 a0 5).toInt = 0 → (
                ∃ q100 : Nat, (
                (R a0 22 = some q100) ∧ (
                ∃ n102 : Nat, (
                (X.2.1 q100 = some (104, n102) ∧ n102 < 2147483648) ∧ (
                (0 ≤ r82 ∧ r82 < n102) ∧ (
                ∃ q105 : Nat, (
                (R q100 r82.toNat = some q105) ∧ (
                (0 ≤ r82 ∧ r82 < n102) ∧ (
                ∃ q108 : Nat, (
                (R q100 r82.toNat = some q108) ∧ (
                ∃ n110 : Nat, (
                (X.2.1 q108 = some (100, n110) ∧ n110 < 2147483648) ∧ (
                (0 ≤ r91 ∧ r91 < n110) ∧ (
                ∃ Q113 : Option Value → jx_I → Prop, (
                (jc V 1 204 (0, 0) [jy 20, jy ((I94 q108 r91.toNat).toInt + r95)] X I94 R Q113 (fun _ _ => False)) ∧ (
                ∀ rv I115, Q113 rv I115 → ∃ r116 : Int, rv = some (jy r116) ∧ (
                ∃ n117 : Nat, (
                (X.2.1 q105 = some (100, n117) ∧ n117 < 2147483648) ∧ (
                (0 ≤ r91 ∧ r91 < n117) ∧ (
                ∀ I120 : jx_I, I120 = jx_u I115 q105 r91.toNat (Int32.ofInt r116) → (
                J413 I120))))))))))))))))))))
              ))))))))))))))))
            ))
            ∧ (r5 = 4 → (
              ∃ Q121 : Option Value → jx_I → Prop, (
              (jc V 4 221 (0, 0) [.ref a0] X I15 R Q121 (fun _ _ => False)) ∧ (
              ∀ rv I123, Q121 rv I123 → ∃ r124 : Int, rv = some (jy r124) ∧ (
              ∃ q125 : Nat, (
              (R a0 10 = some q125) ∧ (
              ∃ n127 : Nat, (
              (X.2.1 q125 = some (100, n127) ∧ n127 < 2147483648) ∧ (
              (0 ≤ (1 : Int) ∧ (1 : Int) < n127) ∧ (
              ∃ Q130 : Option Value → jx_I → Prop, (
              (jc V 4 211 (0, 0) [.ref a0, jy ((I123 q125 (1 : Int).toNat).toInt - 1), jy r124] X I123 R Q130 (fun _ _ => False)) ∧ (
              ∀ rv I132, Q130 rv I132 → ∃ r133 : Int, rv = some (jy r133) ∧ (
              ((I132 a0 5).toInt ≠ 0 → (
                ∃ Q134 : Option Value → jx_I → Prop, (
                (jc V 3 217 (0, 0) [.ref a0, jy 59] X I132 R Q134 (fun _ _ => False)) ∧ (
                ∀ rv I136, Q134 rv I136 → rv = none ∧ (
                Q none I136)))
              )) ∧ ((I132 a0 5).toInt = 0 → (
                ∃ q138 : Nat, (
                (R a0 16 = some q138) ∧ (
                ∃ n140 : Nat, (
                (X.2.1 q138 = some (100, n140) ∧ n140 < 2147483648) ∧ (
                (0 ≤ r124 ∧ r124 < n140) ∧ (
                ∀ I143 : jx_I, I143 = jx_u I132 q138 r124.toNat (Int32.ofInt r133) → (
                J413 I143))))))
              )))))))))))))
            ))
            ∧ (r5 = 5 → (
              ∃ Q144 : Option Value → jx_I → Prop, (
              (jc V 4 221 (0, 0) [.ref a0] X I15 R Q144 (fun _ _ => False)) ∧ (
              ∀ rv I146, Q144 rv I146 → ∃ r147 : Int, rv = some (jy r147) ∧ (
              ∃ q148 : Nat, (
              (R a0 10 = some q148) ∧ (
              ∃ n150 : Nat, (
              (X.2.1 q148 = some (100, n150) ∧ n150 < 2147483648) ∧ (
              (0 ≤ (1 : Int) ∧ (1 : Int) < n150) ∧ (
              ∃ Q153 : Option Value → jx_I → Prop, (
              (jc V 4 211 (0, 0) [.ref a0, jy ((I146 q148 (1 : Int).toNat).toInt - 1), jy r147] X I146 R Q153 (fun _ _ => False)) ∧ (
              ∀ rv I155, Q153 rv I155 → ∃ r156 : Int, rv = some (jy r156) ∧ (
              ((I155 a0 5).toInt = 0 → (
                ∃ q157 : Nat, (
                (R a0 18 = some q157) ∧ (
                ∃ n159 : Nat, (
                (X.2.1 q157 = some (100, n159) ∧ n159 < 2147483648) ∧ (
                (0 ≤ r147 ∧ r147 < n159) ∧ (
                (0 ≤ r147 ∧ r147 < n159) ∧ (
                ∀ I163 : jx_I, I163 = jx_u I155 q157 r147.toNat (Int32.ofInt ((Int32.ofInt ((I155 q157 r147.toNat).toInt) ||| Int32.ofInt ((Int32.ofInt 1 <<< (Int32.ofInt r156 &&& 31)).toInt)).toInt)) → (
                (0 ≤ r156 ∧ r156 < n159) ∧ (
                (0 ≤ r156 ∧ r156 < n159) ∧ (
                ∀ I166 : jx_I, I166 = jx_u I163 q157 r156.toNat (Int32.ofInt ((Int32.ofInt ((I163 q157 r156.toNat).toInt) ||| Int32.ofInt ((Int32.ofInt 1 <<< (Int32.ofInt r147 &&& 31)).toInt)).toInt)) → (
                J413 I166))))))))))
              )) ∧ (¬ (I155 a0 5).toInt = 0 → (
                J413 I155
              )))))))))))))
            ))))))
          )) ∧ (¬ (I4 a0 5).toInt = 0 → (
            Q none I4
          ))
        )) ∧ (r5 = 1 → (
          ∃ q167 : Nat, (
          (R a0 10 = some q167) ∧ (
          ∃ n169 : Nat, (
          (X.2.1 q167 = some (100, n169) ∧ n169 < 2147483648) ∧ (
          (0 ≤ (1 : Int) ∧ (1 : Int) < n169) ∧ (
          ((I4 q167 (1 : Int).toNat).toInt ≠ 8 → (
            ((I4 a0 5).toInt = 0 → (
              ∃ Q172 : Option Value → jx_I → Prop, (
              (jc V 2 215 (0, 0) [.ref a0] X I4 R Q172 (fun _ _ => False)) ∧ (
              ∀ rv I174, Q172 rv I174 → rv = none ∧ (
              ∀ I176 : jx_I, I176 = jx_u I174 a0 7 (Int32.ofInt ((I174 a0 7).toInt + 1)) → (
              ((r5 < 0 ∨ 5 < r5) → (
                ∀ I177 : jx_I, I177 = jx_u I176 a0 24 (Int32.ofInt 0) → (
                ∃ d179 : Nat, d179 < 201 ∧ (
                ∃ Q178 : Option Value → jx_I → Prop, (
                (jc V d179 225 (0, 0) [.ref a0] X I177 R Q178 (fun _ _ => False)) ∧ (
                ∀ rv I182, Q178 rv I182 → rv = none ∧ (
                J413 I182)))))
              ))
              ∧ (r5 = 0 → (
                ∃ q184 : Nat, (
                (R a0 12 = some q184) ∧ (
                (0 ≤ (0 : Int) ∧ (0 : Int) < n169) ∧ (
                ∃ Q187 : Option Value → jx_I → Prop, (
                (jc V 3 210 (0, 0) [.ref a0, jy 0, jy 3] X I176 R Q187 (fun _ _ => False)) ∧ (
                ∀ rv I189, Q187 rv I189 → ∃ r190 : Int, rv = some (jy r190) ∧ (
                ∃ n191 : Nat, (
                (X.2.1 q184 = some (100, n191) ∧ n191 < 2147483648) ∧ (
                (0 ≤ (I176 q167 (0 : Int).toNat).toInt ∧ (I176 q167 (0 : Int).toNat).toInt < n191) ∧ (
                ∀ I194 : jx_I, I194 = jx_u I189 q184 ((I176 q167 (0 : Int).toNat).toInt).toNat (Int32.ofInt r190) → (
                (0 ≤ (0 : Int) ∧ (0 : Int) < n169) ∧ (
                ((I194 a0 5).toInt ≠ 0 → (
                  J168 q167 0 ((I194 q167 (0 : Int).toNat).toInt) 0 I194
                )) ∧ ((I194 a0 5).toInt = 0 → (
                  J168 q167 0 ((I194 q167 (0 : Int).toNat).toInt) 1 I194
                )))))))))))))
              ))
              ∧ (r5 = 1 → (
                ∃ Q196 : Option Value → jx_I → Prop, (
                (jc V 4 223 (0, 0) [.ref a0] X I176 R Q196 (fun _ _ => False)) ∧ (
                ∀ rv I198, Q196 rv I198 → rv = none ∧ (
                J413 I198)))
              ))
              ∧ (r5 = 2 → (
                (0 ≤ (0 : Int) ∧ (0 : Int) < n169) ∧ (
                ∃ Q201 : Option Value → jx_I → Prop, (
                (jc V 3 210 (0, 0) [.ref a0, jy 0, jy ((I176 q167 (0 : Int).toNat).toInt - 1)] X I176 R Q201 (fun _ _ => False)) ∧ (
                ∀ rv I203, Q201 rv I203 → ∃ r204 : Int, rv = some (jy r204) ∧ (
                (0 ≤ (0 : Int) ∧ (0 : Int) < n169) ∧ (
                ∃ Q206 : Option Value → jx_I → Prop, (
                (jc V 4 211 (0, 0) [.ref a0, jy ((I203 q167 (0 : Int).toNat).toInt - 1), jy r204] X I203 R Q206 (fun _ _ => False)) ∧ (
                ∀ rv I208, Q206 rv I208 → ∃ r209 : Int, rv = some (jy r209) ∧ (
                ∃ Q210 : Option Value → jx_I → Prop, (
                (jc V 3 210 (0, 0) [.ref a0, jy 1, jy 24] X I208 R Q210 (fun _ _ => False)) ∧ (
                ∀ rv I212, Q210 rv I212 → ∃ r213 : Int, rv = some (jy r213) ∧ (
                ((I212 a0 5).toInt = 0 → (
                  ∃ q214 : Nat, (
                  (R a0 20 = some q214) ∧ (
                  ∃ n216 : Nat, (
                  (X.2.1 q214 = some (104, n216) ∧ n216 < 2147483648) ∧ (
                  (0 ≤ r204 ∧ r204 < n216) ∧ (
                  ∃ q219 : Nat, (
                  (R q214 r204.toNat = some q219) ∧ (
                  ∃ n221 : Nat, (
                  (X.2.1 q219 = some (100, n221) ∧ n221 < 2147483648) ∧ (
                  (0 ≤ r209 ∧ r209 < n221) ∧ (
                  ∀ I224 : jx_I, I224 = jx_u I212 q219 r209.toNat (Int32.ofInt r213) → (
                  (0 ≤ r209 ∧ r209 < n216) ∧ (
                  ∃ q226 : Nat, (
                  (R q214 r209.toNat = some q226) ∧ (
                  ∃ n228 : Nat, (
                  (X.2.1 q226 = some (100, n228) ∧ n228 < 2147483648) ∧ (
                  (0 ≤ r204 ∧ r204 < n228) ∧ (
                  ∀ I231 : jx_I, I231 = jx_u I224 q226 r204.toNat (Int32.ofInt r213) → (
                  J413 I231))))))))))))))))))
                )) ∧ (¬ (I212 a0 5).toInt = 0 → (
                  J413 I212
                )))))))))))))
              ))
              ∧ (r5 = 3 → (
                ∃ Q232 : Option Value → jx_I → Prop, (
                (jc V 4 221 (0, 0) [.ref a0] X I176 R Q232 (fun _ _ => False)) ∧ (
                ∀ rv I234, Q232 rv I234 → ∃ r235 : Int, rv = some (jy r235) ∧ (
                (0 ≤ (0 : Int) ∧ (0 : Int) < n169) ∧ (
                ∃ Q237 : Option Value → jx_I → Prop, (
                (jc V 3 210 (0, 0) [.ref a0, jy 0, jy ((I234 q167 (0 : Int).toNat).toInt - 1)] X I234 R Q237 (fun _ _ => False)) ∧ (
                ∀ rv I239, Q237 rv I239 → ∃ r240 : Int, rv = some (jy r240) ∧ (
                ∃ Q241 : Option Value → jx_I → Prop, (
                (jc V 3 210 (0, 0) [.ref a0, jy 1, jy 20] X I239 R Q241 (fun _ _ => False)) ∧ (
                ∀ rv I243, Q241 rv I243 → ∃ r244 : Int, rv = some (jy r244) ∧ (
                ((I243 a0 5).toInt ≠ 0 → (
                  ∃ Q245 : Option Value → jx_I → Prop, (
                  (jc V 3 217 (0, 0) [.ref a0, jy 59] X I243 R Q245 (fun _ _ => False)) ∧ (
                  ∀ rv I247, Q245 rv I247 → rv = none ∧ (
                  Q none I247)))
                )) ∧ ((I243 a0 5).toInt = 0 → (
                  ∃ q249 : Nat, (
                  (R a0 22 = some q249) ∧ (
                  ∃ n251 : Nat, (
                  (X.2.1 q249 = some (104, n251) ∧ n251 < 2147483648) ∧ (
                  (0 ≤ r235 ∧ r235 < n251) ∧ (
                  ∃ q254 : Nat, (
                  (R q249 r235.toNat = some q254) ∧ (
                  (0 ≤ r235 ∧ r235 < n251) ∧ (
                  ∃ q257 : Nat, (
                  (R q249 r235.toNat = some q257) ∧ (
                  ∃ n259 : Nat, (
                  (X.2.1 q257 = some (100, n259) ∧ n259 < 2147483648) ∧ (
                  (0 ≤ r240 ∧ r240 < n259) ∧ (
                  ∃ Q262 : Option Value → jx_I → Prop, (
                  (jc V 1 204 (0, 0) [jy 20, jy ((I243 q257 r240.toNat).toInt + r244)] X I243 R Q262 (fun _ _ => False)) ∧ (
                  ∀ rv I264, Q262 rv I264 → ∃ r265 : Int, rv = some (jy r265) ∧ (
                  ∃ n266 : Nat, (
                  (X.2.1 q254 = some (100, n266) ∧ n266 < 2147483648) ∧ (
                  (0 ≤ r240 ∧ r240 < n266) ∧ (
                  ∀ I269 : jx_I, I269 = jx_u I264 q254 r240.toNat (Int32.ofInt r265) → (
                  J413 I269))))))))))))))))))))
                ))))))))))))
              ))
              ∧ (r5 = 4 → (
                ∃ Q270 : Option Value → jx_I → Prop, (
                (jc V 4 221 (0, 0) [.ref a0] X I176 R Q270 (fun _ _ => False)) ∧ (
                ∀ rv I272, Q270 rv I272 → ∃ r273 : Int, rv = some (jy r273) ∧ (
                (0 ≤ (1 : Int) ∧ (1 : Int) < n169) ∧ (
                ∃ Q275 : Option Value → jx_I → Prop, (
                (jc V 4 211 (0, 0) [.ref a0, jy ((I272 q167 (1 : Int).toNat).toInt - 1), jy r273] X I272 R Q275 (fun _ _ => False)) ∧ (
                ∀ rv I277, Q275 rv I277 → ∃ r278 : Int, rv = some (jy r278) ∧ (
                ((I277 a0 5).toInt ≠ 0 → (
                  ∃ Q279 : Option Value → jx_I → Prop, (
                  (jc V 3 217 (0, 0) [.ref a0, jy 59] X I277 R Q279 (fun _ _ => False)) ∧ (
                  ∀ rv I281, Q279 rv I281 → rv = none ∧ (
                  Q none I281)))
                )) ∧ ((I277 a0 5).toInt = 0 → (
                  ∃ q283 : Nat, (
                  (R a0 16 = some q283) ∧ (
                  ∃ n285 : Nat, (
                  (X.2.1 q283 = some (100, n285) ∧ n285 < 2147483648) ∧ (
                  (0 ≤ r273 ∧ r273 < n285) ∧ (
                  ∀ I288 : jx_I, I288 = jx_u I277 q283 r273.toNat (Int32.ofInt r278) → (
                  J413 I288))))))
                )))))))))
              ))
              ∧ (r5 = 5 → (
                ∃ Q289 : Option Value → jx_I → Prop, (
                (jc V 4 221 (0, 0) [.ref a0] X I176 R Q289 (fun _ _ => False)) ∧ (
                ∀ rv I291, Q289 rv I291 → ∃ r292 : Int, rv = some (jy r292) ∧ (
                (0 ≤ (1 : Int) ∧ (1 : Int) < n169) ∧ (
                ∃ Q294 : Option Value → jx_I → Prop, (
                (jc V 4 211 (0, 0) [.ref a0, jy ((I291 q167 (1 : Int).toNat).toInt - 1), jy r292] X I291 R Q294 (fun _ _ => False)) ∧ (
                ∀ rv I296, Q294 rv I296 → ∃ r297 : Int, rv = some (jy r297) ∧ (
                ((I296 a0 5).toInt = 0 → (
                  ∃ q298 : Nat, (
                  (R a0 18 = some q298) ∧ (
                  ∃ n300 : Nat, (
                  (X.2.1 q298 = some (100, n300) ∧ n300 < 2147483648) ∧ (
                  (0 ≤ r292 ∧ r292 < n300) ∧ (
                  (0 ≤ r292 ∧ r292 < n300) ∧ (
                  ∀ I304 : jx_I, I304 = jx_u I296 q298 r292.toNat (Int32.ofInt ((Int32.ofInt ((I296 q298 r292.toNat).toInt) ||| Int32.ofInt ((Int32.ofInt 1 <<< (Int32.ofInt r297 &&& 31)).toInt)).toInt)) → (
                  (0 ≤ r297 ∧ r297 < n300) ∧ (
                  (0 ≤ r297 ∧ r297 < n300) ∧ (
                  ∀ I307 : jx_I, I307 = jx_u I304 q298 r297.toNat (Int32.ofInt ((Int32.ofInt ((I304 q298 r297.toNat).toInt) ||| Int32.ofInt ((Int32.ofInt 1 <<< (Int32.ofInt r292 &&& 31)).toInt)).toInt)) → (
                  J413 I307))))))))))
                )) ∧ (¬ (I296 a0 5).toInt = 0 → (
                  J413 I296
                )))))))))
              ))))))
            )) ∧ (¬ (I4 a0 5).toInt = 0 → (
              Q none I4
            ))
          )) ∧ ((I4 q167 (1 : Int).toNat).toInt = 8 → (
            ∃ Q308 : Option Value → jx_I → Prop, (
            (jc V 1 208 (0, 0) [.ref a0, jy 3, jy ((I4 a0 4).toInt)] X I4 R Q308 (fun _ _ => False)) ∧ (
            ∀ rv I310, Q308 rv I310 → rv = none ∧ (
            J71 r5 I310)))
          )))))))
        ))
      )) ∧ (r5 = 0 → (
        ∃ q312 : Nat, (
        (R a0 10 = some q312) ∧ (
        ∃ n314 : Nat, (
        (X.2.1 q312 = some (100, n314) ∧ n314 < 2147483648) ∧ (
        (0 ≤ (0 : Int) ∧ (0 : Int) < n314) ∧ (
        ((I4 q312 (0 : Int).toNat).toInt = 10 → (
          ∃ Q317 : Option Value → jx_I → Prop, (
          (jc V 1 208 (0, 0) [.ref a0, jy 3, jy ((I4 a0 4).toInt)] X I4 R Q317 (fun _ _ => False)) ∧ (
          ∀ rv I319, Q317 rv I319 → rv = none ∧ (
          J71 r5 I319)))
        )) ∧ (¬ (I4 q312 (0 : Int).toNat).toInt = 10 → (
          (r5 ≠ 1 → (
            ((I4 a0 5).toInt = 0 → (
              ∃ Q321 : Option Value → jx_I → Prop, (
              (jc V 2 215 (0, 0) [.ref a0] X I4 R Q321 (fun _ _ => False)) ∧ (
              ∀ rv I323, Q321 rv I323 → rv = none ∧ (
              ∀ I325 : jx_I, I325 = jx_u I323 a0 7 (Int32.ofInt ((I323 a0 7).toInt + 1)) → (
              ((r5 < 0 ∨ 5 < r5) → (
                ∀ I326 : jx_I, I326 = jx_u I325 a0 24 (Int32.ofInt 0) → (
                ∃ d328 : Nat, d328 < 201 ∧ (
                ∃ Q327 : Option Value → jx_I → Prop, (
                (jc V d328 225 (0, 0) [.ref a0] X I326 R Q327 (fun _ _ => False)) ∧ (
                ∀ rv I331, Q327 rv I331 → rv = none ∧ (
                J413 I331)))))
              ))
              ∧ (r5 = 0 → (
                ∃ q333 : Nat, (
                (R a0 12 = some q333) ∧ (
                (0 ≤ (0 : Int) ∧ (0 : Int) < n314) ∧ (
                ∃ Q336 : Option Value → jx_I → Prop, (
                (jc V 3 210 (0, 0) [.ref a0, jy 0, jy 3] X I325 R Q336 (fun _ _ => False)) ∧ (
                ∀ rv I338, Q336 rv I338 → ∃ r339 : Int, rv = some (jy r339) ∧ (
                ∃ n340 : Nat, (
                (X.2.1 q333 = some (100, n340) ∧ n340 < 2147483648) ∧ (
                (0 ≤ (I325 q312 (0 : Int).toNat).toInt ∧ (I325 q312 (0 : Int).toNat).toInt < n340) ∧ (
                ∀ I343 : jx_I, I343 = jx_u I338 q333 ((I325 q312 (0 : Int).toNat).toInt).toNat (Int32.ofInt r339) → (
                (0 ≤ (0 : Int) ∧ (0 : Int) < n314) ∧ (
                ((I343 a0 5).toInt ≠ 0 → (
                  J168 q312 0 ((I343 q312 (0 : Int).toNat).toInt) 0 I343
                )) ∧ ((I343 a0 5).toInt = 0 → (
                  J168 q312 0 ((I343 q312 (0 : Int).toNat).toInt) 1 I343
                )))))))))))))
              ))
              ∧ (r5 = 1 → (
                ∃ Q345 : Option Value → jx_I → Prop, (
                (jc V 4 223 (0, 0) [.ref a0] X I325 R Q345 (fun _ _ => False)) ∧ (
                ∀ rv I347, Q345 rv I347 → rv = none ∧ (
                J413 I347)))
              ))
              ∧ (r5 = 2 → (
                (0 ≤ (0 : Int) ∧ (0 : Int) < n314) ∧ (
                ∃ Q350 : Option Value → jx_I → Prop, (
                (jc V 3 210 (0, 0) [.ref a0, jy 0, jy ((I325 q312 (0 : Int).toNat).toInt - 1)] X I325 R Q350 (fun _ _ => False)) ∧ (
                ∀ rv I352, Q350 rv I352 → ∃ r353 : Int, rv = some (jy r353) ∧ (
                (0 ≤ (0 : Int) ∧ (0 : Int) < n314) ∧ (
                ∃ Q355 : Option Value → jx_I → Prop, (
                (jc V 4 211 (0, 0) [.ref a0, jy ((I352 q312 (0 : Int).toNat).toInt - 1), jy r353] X I352 R Q355 (fun _ _ => False)) ∧ (
                ∀ rv I357, Q355 rv I357 → ∃ r358 : Int, rv = some (jy r358) ∧ (
                ∃ Q359 : Option Value → jx_I → Prop, (
                (jc V 3 210 (0, 0) [.ref a0, jy 1, jy 24] X I357 R Q359 (fun _ _ => False)) ∧ (
                ∀ rv I361, Q359 rv I361 → ∃ r362 : Int, rv = some (jy r362) ∧ (
                ((I361 a0 5).toInt = 0 → (
                  ∃ q363 : Nat, (
                  (R a0 20 = some q363) ∧ (
                  ∃ n365 : Nat, (
                  (X.2.1 q363 = some (104, n365) ∧ n365 < 2147483648) ∧ (
                  (0 ≤ r353 ∧ r353 < n365) ∧ (
                  ∃ q368 : Nat, (
                  (R q363 r353.toNat = some q368) ∧ (
                  ∃ n370 : Nat, (
                  (X.2.1 q368 = some (100, n370) ∧ n370 < 2147483648) ∧ (
                  (0 ≤ r358 ∧ r358 < n370) ∧ (
                  ∀ I373 : jx_I, I373 = jx_u I361 q368 r358.toNat (Int32.ofInt r362) → (
                  (0 ≤ r358 ∧ r358 < n365) ∧ (
                  ∃ q375 : Nat, (
                  (R q363 r358.toNat = some q375) ∧ (
                  ∃ n377 : Nat, (
                  (X.2.1 q375 = some (100, n377) ∧ n377 < 2147483648) ∧ (
                  (0 ≤ r353 ∧ r353 < n377) ∧ (
                  ∀ I380 : jx_I, I380 = jx_u I373 q375 r353.toNat (Int32.ofInt r362) → (
                  J413 I380))))))))))))))))))
                )) ∧ (¬ (I361 a0 5).toInt = 0 → (
                  J413 I361
                )))))))))))))
              ))
              ∧ (r5 = 3 → (
                ∃ Q381 : Option Value → jx_I → Prop, (
                (jc V 4 221 (0, 0) [.ref a0] X I325 R Q381 (fun _ _ => False)) ∧ (
                ∀ rv I383, Q381 rv I383 → ∃ r384 : Int, rv = some (jy r384) ∧ (
                (0 ≤ (0 : Int) ∧ (0 : Int) < n314) ∧ (
                ∃ Q386 : Option Value → jx_I → Prop, (
                (jc V 3 210 (0, 0) [.ref a0, jy 0, jy ((I383 q312 (0 : Int).toNat).toInt - 1)] X I383 R Q386 (fun _ _ => False)) ∧ (
                ∀ rv I388, Q386 rv I388 → ∃ r389 : Int, rv = some (jy r389) ∧ (
                ∃ Q390 : Option Value → jx_I → Prop, (
                (jc V 3 210 (0, 0) [.ref a0, jy 1, jy 20] X I388 R Q390 (fun _ _ => False)) ∧ (
                ∀ rv I392, Q390 rv I392 → ∃ r393 : Int, rv = some (jy r393) ∧ (
                ((I392 a0 5).toInt ≠ 0 → (
                  ∃ Q394 : Option Value → jx_I → Prop, (
                  (jc V 3 217 (0, 0) [.ref a0, jy 59] X I392 R Q394 (fun _ _ => False)) ∧ (
                  ∀ rv I396, Q394 rv I396 → rv = none ∧ (
                  Q none I396)))
                )) ∧ ((I392 a0 5).toInt = 0 → (
                  ∃ q398 : Nat, (
                  (R a0 22 = some q398) ∧ (
                  ∃ n400 : Nat, (
                  (X.2.1 q398 = some (104, n400) ∧ n400 < 2147483648) ∧ (
                  (0 ≤ r384 ∧ r384 < n400) ∧ (
                  ∃ q403 : Nat, (
                  (R q398 r384.toNat = some q403) ∧ (
                  (0 ≤ r384 ∧ r384 < n400) ∧ (
                  ∃ q406 : Nat, (
                  (R q398 r384.toNat = some q406) ∧ (
                  ∃ n408 : Nat, (
                  (X.2.1 q406 = some (100, n408) ∧ n408 < 2147483648) ∧ (
                  (0 ≤ r389 ∧ r389 < n408) ∧ (
                  ∃ Q411 : Option Value → jx_I → Prop, (
                  (jc V 1 204 (0, 0) [jy 20, jy ((I392 q406 r389.toNat).toInt + r393)] X I392 R Q411 (fun _ _ => False)) ∧ (
                  ∀ rv I413, Q411 rv I413 → ∃ r414 : Int, rv = some (jy r414) ∧ (
                  ∃ n415 : Nat, (
                  (X.2.1 q403 = some (100, n415) ∧ n415 < 2147483648) ∧ (
                  (0 ≤ r389 ∧ r389 < n415) ∧ (
                  ∀ I418 : jx_I, I418 = jx_u I413 q403 r389.toNat (Int32.ofInt r414) → (
                  J413 I418))))))))))))))))))))
                ))))))))))))
              ))
              ∧ (r5 = 4 → (
                ∃ Q419 : Option Value → jx_I → Prop, (
                (jc V 4 221 (0, 0) [.ref a0] X I325 R Q419 (fun _ _ => False)) ∧ (
                ∀ rv I421, Q419 rv I421 → ∃ r422 : Int, rv = some (jy r422) ∧ (
                (0 ≤ (1 : Int) ∧ (1 : Int) < n314) ∧ (
                ∃ Q424 : Option Value → jx_I → Prop, (
                (jc V 4 211 (0, 0) [.ref a0, jy ((I421 q312 (1 : Int).toNat).toInt - 1), jy r422] X I421 R Q424 (fun _ _ => False)) ∧ (
                ∀ rv I426, Q424 rv I426 → ∃ r427 : Int, rv = some (jy r427) ∧ (
                ((I426 a0 5).toInt ≠ 0 → (
                  ∃ Q428 : Option Value → jx_I → Prop, (
                  (jc V 3 217 (0, 0) [.ref a0, jy 59] X I426 R Q428 (fun _ _ => False)) ∧ (
                  ∀ rv I430, Q428 rv I430 → rv = none ∧ (
                  Q none I430)))
                )) ∧ ((I426 a0 5).toInt = 0 → (
                  ∃ q432 : Nat, (
                  (R a0 16 = some q432) ∧ (
                  ∃ n434 : Nat, (
                  (X.2.1 q432 = some (100, n434) ∧ n434 < 2147483648) ∧ (
                  (0 ≤ r422 ∧ r422 < n434) ∧ (
                  ∀ I437 : jx_I, I437 = jx_u I426 q432 r422.toNat (Int32.ofInt r427) → (
                  J413 I437))))))
                )))))))))
              ))
              ∧ (r5 = 5 → (
                ∃ Q438 : Option Value → jx_I → Prop, (
                (jc V 4 221 (0, 0) [.ref a0] X I325 R Q438 (fun _ _ => False)) ∧ (
                ∀ rv I440, Q438 rv I440 → ∃ r441 : Int, rv = some (jy r441) ∧ (
                (0 ≤ (1 : Int) ∧ (1 : Int) < n314) ∧ (
                ∃ Q443 : Option Value → jx_I → Prop, (
                (jc V 4 211 (0, 0) [.ref a0, jy ((I440 q312 (1 : Int).toNat).toInt - 1), jy r441] X I440 R Q443 (fun _ _ => False)) ∧ (
                ∀ rv I445, Q443 rv I445 → ∃ r446 : Int, rv = some (jy r446) ∧ (
                ((I445 a0 5).toInt = 0 → (
                  ∃ q447 : Nat, (
                  (R a0 18 = some q447) ∧ (
                  ∃ n449 : Nat, (
                  (X.2.1 q447 = some (100, n449) ∧ n449 < 2147483648) ∧ (
                  (0 ≤ r441 ∧ r441 < n449) ∧ (
                  (0 ≤ r441 ∧ r441 < n449) ∧ (
                  ∀ I453 : jx_I, I453 = jx_u I445 q447 r441.toNat (Int32.ofInt ((Int32.ofInt ((I445 q447 r441.toNat).toInt) ||| Int32.ofInt ((Int32.ofInt 1 <<< (Int32.ofInt r446 &&& 31)).toInt)).toInt)) → (
                  (0 ≤ r446 ∧ r446 < n449) ∧ (
                  (0 ≤ r446 ∧ r446 < n449) ∧ (
                  ∀ I456 : jx_I, I456 = jx_u I453 q447 r446.toNat (Int32.ofInt ((Int32.ofInt ((I453 q447 r446.toNat).toInt) ||| Int32.ofInt ((Int32.ofInt 1 <<< (Int32.ofInt r441 &&& 31)).toInt)).toInt)) → (
                  J413 I456))))))))))
                )) ∧ (¬ (I445 a0 5).toInt = 0 → (
                  J413 I445
                )))))))))
              ))))))
            )) ∧ (¬ (I4 a0 5).toInt = 0 → (
              Q none I4
            ))
          )) ∧ (r5 = 1 → (
            (0 ≤ (1 : Int) ∧ (1 : Int) < n314) ∧ (
            ((I4 q312 (1 : Int).toNat).toInt ≠ 8 → (
              ((I4 a0 5).toInt = 0 → (
                ∃ Q458 : Option Value → jx_I → Prop, (
                (jc V 2 215 (0, 0) [.ref a0] X I4 R Q458 (fun _ _ => False)) ∧ (
                ∀ rv I460, Q458 rv I460 → rv = none ∧ (
                ∀ I462 : jx_I, I462 = jx_u I460 a0 7 (Int32.ofInt ((I460 a0 7).toInt + 1)) → (
                ((r5 < 0 ∨ 5 < r5) → (
                  ∀ I463 : jx_I, I463 = jx_u I462 a0 24 (Int32.ofInt 0) → (
                  ∃ d465 : Nat, d465 < 201 ∧ (
                  ∃ Q464 : Option Value → jx_I → Prop, (
                  (jc V d465 225 (0, 0) [.ref a0] X I463 R Q464 (fun _ _ => False)) ∧ (
                  ∀ rv I468, Q464 rv I468 → rv = none ∧ (
                  J413 I468)))))
                ))
                ∧ (r5 = 0 → (
                  ∃ q470 : Nat, (
                  (R a0 12 = some q470) ∧ (
                  (0 ≤ (0 : Int) ∧ (0 : Int) < n314) ∧ (
                  ∃ Q473 : Option Value → jx_I → Prop, (
                  (jc V 3 210 (0, 0) [.ref a0, jy 0, jy 3] X I462 R Q473 (fun _ _ => False)) ∧ (
                  ∀ rv I475, Q473 rv I475 → ∃ r476 : Int, rv = some (jy r476) ∧ (
                  ∃ n477 : Nat, (
                  (X.2.1 q470 = some (100, n477) ∧ n477 < 2147483648) ∧ (
                  (0 ≤ (I462 q312 (0 : Int).toNat).toInt ∧ (I462 q312 (0 : Int).toNat).toInt < n477) ∧ (
                  ∀ I480 : jx_I, I480 = jx_u I475 q470 ((I462 q312 (0 : Int).toNat).toInt).toNat (Int32.ofInt r476) → (
                  (0 ≤ (0 : Int) ∧ (0 : Int) < n314) ∧ (
                  ((I480 a0 5).toInt ≠ 0 → (
                    J168 q312 0 ((I480 q312 (0 : Int).toNat).toInt) 0 I480
                  )) ∧ ((I480 a0 5).toInt = 0 → (
                    J168 q312 0 ((I480 q312 (0 : Int).toNat).toInt) 1 I480
                  )))))))))))))
                ))
                ∧ (r5 = 1 → (
                  ∃ Q482 : Option Value → jx_I → Prop, (
                  (jc V 4 223 (0, 0) [.ref a0] X I462 R Q482 (fun _ _ => False)) ∧ (
                  ∀ rv I484, Q482 rv I484 → rv = none ∧ (
                  J413 I484)))
                ))
                ∧ (r5 = 2 → (
                  (0 ≤ (0 : Int) ∧ (0 : Int) < n314) ∧ (
                  ∃ Q487 : Option Value → jx_I → Prop, (
                  (jc V 3 210 (0, 0) [.ref a0, jy 0, jy ((I462 q312 (0 : Int).toNat).toInt - 1)] X I462 R Q487 (fun _ _ => False)) ∧ (
                  ∀ rv I489, Q487 rv I489 → ∃ r490 : Int, rv = some (jy r490) ∧ (
                  (0 ≤ (0 : Int) ∧ (0 : Int) < n314) ∧ (
                  ∃ Q492 : Option Value → jx_I → Prop, (
                  (jc V 4 211 (0, 0) [.ref a0, jy ((I489 q312 (0 : Int).toNat).toInt - 1), jy r490] X I489 R Q492 (fun _ _ => False)) ∧ (
                  ∀ rv I494, Q492 rv I494 → ∃ r495 : Int, rv = some (jy r495) ∧ (
                  ∃ Q496 : Option Value → jx_I → Prop, (
                  (jc V 3 210 (0, 0) [.ref a0, jy 1, jy 24] X I494 R Q496 (fun _ _ => False)) ∧ (
                  ∀ rv I498, Q496 rv I498 → ∃ r499 : Int, rv = some (jy r499) ∧ (
                  ((I498 a0 5).toInt = 0 → (
                    ∃ q500 : Nat, (
                    (R a0 20 = some q500) ∧ (
                    ∃ n502 : Nat, (
                    (X.2.1 q500 = some (104, n502) ∧ n502 < 2147483648) ∧ (
                    (0 ≤ r490 ∧ r490 < n502) ∧ (
                    ∃ q505 : Nat, (
                    (R q500 r490.toNat = some q505) ∧ (
                    ∃ n507 : Nat, (
                    (X.2.1 q505 = some (100, n507) ∧ n507 < 2147483648) ∧ (
                    (0 ≤ r495 ∧ r495 < n507) ∧ (
                    ∀ I510 : jx_I, I510 = jx_u I498 q505 r495.toNat (Int32.ofInt r499) → (
                    (0 ≤ r495 ∧ r495 < n502) ∧ (
                    ∃ q512 : Nat, (
                    (R q500 r495.toNat = some q512) ∧ (
                    ∃ n514 : Nat, (
                    (X.2.1 q512 = some (100, n514) ∧ n514 < 2147483648) ∧ (
                    (0 ≤ r490 ∧ r490 < n514) ∧ (
                    ∀ I517 : jx_I, I517 = jx_u I510 q512 r490.toNat (Int32.ofInt r499) → (
                    J413 I517))))))))))))))))))
                  )) ∧ (¬ (I498 a0 5).toInt = 0 → (
                    J413 I498
                  )))))))))))))
                ))
                ∧ (r5 = 3 → (
                  ∃ Q518 : Option Value → jx_I → Prop, (
                  (jc V 4 221 (0, 0) [.ref a0] X I462 R Q518 (fun _ _ => False)) ∧ (
                  ∀ rv I520, Q518 rv I520 → ∃ r521 : Int, rv = some (jy r521) ∧ (
                  (0 ≤ (0 : Int) ∧ (0 : Int) < n314) ∧ (
                  ∃ Q523 : Option Value → jx_I → Prop, (
                  (jc V 3 210 (0, 0) [.ref a0, jy 0, jy ((I520 q312 (0 : Int).toNat).toInt - 1)] X I520 R Q523 (fun _ _ => False)) ∧ (
                  ∀ rv I525, Q523 rv I525 → ∃ r526 : Int, rv = some (jy r526) ∧ (
                  ∃ Q527 : Option Value → jx_I → Prop, (
                  (jc V 3 210 (0, 0) [.ref a0, jy 1, jy 20] X I525 R Q527 (fun _ _ => False)) ∧ (
                  ∀ rv I529, Q527 rv I529 → ∃ r530 : Int, rv = some (jy r530) ∧ (
                  ((I529 a0 5).toInt ≠ 0 → (
                    ∃ Q531 : Option Value → jx_I → Prop, (
                    (jc V 3 217 (0, 0) [.ref a0, jy 59] X I529 R Q531 (fun _ _ => False)) ∧ (
                    ∀ rv I533, Q531 rv I533 → rv = none ∧ (
                    Q none I533)))
                  )) ∧ ((I529 a0 5).toInt = 0 → (
                    ∃ q535 : Nat, (
                    (R a0 22 = some q535) ∧ (
                    ∃ n537 : Nat, (
                    (X.2.1 q535 = some (104, n537) ∧ n537 < 2147483648) ∧ (
                    (0 ≤ r521 ∧ r521 < n537) ∧ (
                    ∃ q540 : Nat, (
                    (R q535 r521.toNat = some q540) ∧ (
                    (0 ≤ r521 ∧ r521 < n537) ∧ (
                    ∃ q543 : Nat, (
                    (R q535 r521.toNat = some q543) ∧ (
                    ∃ n545 : Nat, (
                    (X.2.1 q543 = some (100, n545) ∧ n545 < 2147483648) ∧ (
                    (0 ≤ r526 ∧ r526 < n545) ∧ (
                    ∃ Q548 : Option Value → jx_I → Prop, (
                    (jc V 1 204 (0, 0) [jy 20, jy ((I529 q543 r526.toNat).toInt + r530)] X I529 R Q548 (fun _ _ => False)) ∧ (
                    ∀ rv I550, Q548 rv I550 → ∃ r551 : Int, rv = some (jy r551) ∧ (
                    ∃ n552 : Nat, (
                    (X.2.1 q540 = some (100, n552) ∧ n552 < 2147483648) ∧ (
                    (0 ≤ r526 ∧ r526 < n552) ∧ (
                    ∀ I555 : jx_I, I555 = jx_u I550 q540 r526.toNat (Int32.ofInt r551) → (
                    J413 I555))))))))))))))))))))
                  ))))))))))))
                ))
                ∧ (r5 = 4 → (
                  ∃ Q556 : Option Value → jx_I → Prop, (
                  (jc V 4 221 (0, 0) [.ref a0] X I462 R Q556 (fun _ _ => False)) ∧ (
                  ∀ rv I558, Q556 rv I558 → ∃ r559 : Int, rv = some (jy r559) ∧ (
                  (0 ≤ (1 : Int) ∧ (1 : Int) < n314) ∧ (
                  ∃ Q561 : Option Value → jx_I → Prop, (
                  (jc V 4 211 (0, 0) [.ref a0, jy ((I558 q312 (1 : Int).toNat).toInt - 1), jy r559] X I558 R Q561 (fun _ _ => False)) ∧ (
                  ∀ rv I563, Q561 rv I563 → ∃ r564 : Int, rv = some (jy r564) ∧ (
                  ((I563 a0 5).toInt ≠ 0 → (
                    ∃ Q565 : Option Value → jx_I → Prop, (
                    (jc V 3 217 (0, 0) [.ref a0, jy 59] X I563 R Q565 (fun _ _ => False)) ∧ (
                    ∀ rv I567, Q565 rv I567 → rv = none ∧ (
                    Q none I567)))
                  )) ∧ ((I563 a0 5).toInt = 0 → (
                    ∃ q569 : Nat, (
                    (R a0 16 = some q569) ∧ (
                    ∃ n571 : Nat, (
                    (X.2.1 q569 = some (100, n571) ∧ n571 < 2147483648) ∧ (
                    (0 ≤ r559 ∧ r559 < n571) ∧ (
                    ∀ I574 : jx_I, I574 = jx_u I563 q569 r559.toNat (Int32.ofInt r564) → (
                    J413 I574))))))
                  )))))))))
                ))
                ∧ (r5 = 5 → (
                  ∃ Q575 : Option Value → jx_I → Prop, (
                  (jc V 4 221 (0, 0) [.ref a0] X I462 R Q575 (fun _ _ => False)) ∧ (
                  ∀ rv I577, Q575 rv I577 → ∃ r578 : Int, rv = some (jy r578) ∧ (
                  (0 ≤ (1 : Int) ∧ (1 : Int) < n314) ∧ (
                  ∃ Q580 : Option Value → jx_I → Prop, (
                  (jc V 4 211 (0, 0) [.ref a0, jy ((I577 q312 (1 : Int).toNat).toInt - 1), jy r578] X I577 R Q580 (fun _ _ => False)) ∧ (
                  ∀ rv I582, Q580 rv I582 → ∃ r583 : Int, rv = some (jy r583) ∧ (
                  ((I582 a0 5).toInt = 0 → (
                    ∃ q584 : Nat, (
                    (R a0 18 = some q584) ∧ (
                    ∃ n586 : Nat, (
                    (X.2.1 q584 = some (100, n586) ∧ n586 < 2147483648) ∧ (
                    (0 ≤ r578 ∧ r578 < n586) ∧ (
                    (0 ≤ r578 ∧ r578 < n586) ∧ (
                    ∀ I590 : jx_I, I590 = jx_u I582 q584 r578.toNat (Int32.ofInt ((Int32.ofInt ((I582 q584 r578.toNat).toInt) ||| Int32.ofInt ((Int32.ofInt 1 <<< (Int32.ofInt r583 &&& 31)).toInt)).toInt)) → (
                    (0 ≤ r583 ∧ r583 < n586) ∧ (
                    (0 ≤ r583 ∧ r583 < n586) ∧ (
                    ∀ I593 : jx_I, I593 = jx_u I590 q584 r583.toNat (Int32.ofInt ((Int32.ofInt ((I590 q584 r583.toNat).toInt) ||| Int32.ofInt ((Int32.ofInt 1 <<< (Int32.ofInt r578 &&& 31)).toInt)).toInt)) → (
                    J413 I593))))))))))
                  )) ∧ (¬ (I582 a0 5).toInt = 0 → (
                    J413 I582
                  )))))))))
                ))))))
              )) ∧ (¬ (I4 a0 5).toInt = 0 → (
                Q none I4
              ))
            )) ∧ ((I4 q312 (1 : Int).toNat).toInt = 8 → (
              ∃ Q594 : Option Value → jx_I → Prop, (
              (jc V 1 208 (0, 0) [.ref a0, jy 3, jy ((I4 a0 4).toInt)] X I4 R Q594 (fun _ _ => False)) ∧ (
              ∀ rv I596, Q594 rv I596 → rv = none ∧ (
              J71 r5 I596)))
            )))
          ))
        )))))))
      ))
    ))
  )) ∧ (r5 = (-1) → (
    ∃ Q598 : Option Value → jx_I → Prop, (
    (jc V 1 208 (0, 0) [.ref a0, jy 1, jy ((I4 a0 4).toInt)] X I4 R Q598 (fun _ _ => False)) ∧ (
    ∀ rv I600, Q598 rv I600 → rv = none ∧ (
    J71 r5 I600)))
  )))))))
set_option maxRecDepth 20000 in
theorem wm_222 {V : jx_V} (hV : V.1.stackTraces = false) {X : jx_X} {R : jx_R} {I : jx_I} {Q : Option Value → jx_I → Prop} {QE : String → jx_I → Prop} {a0 : Nat}  
    (h : ∀ (J71 : Int → jx_I → Prop) (J168 : Nat → Int → Int → Int → jx_I → Prop) (J413 : jx_I → Prop), ((∀ (l1 : Int) I, wz_222_71 V X R Q QE J71 J168 J413 a0 l1 I → J71 l1 I) ∧ (∀ (s0 : Nat) (s1 : Int) (s2 : Int) (s3 : Int) I, wz_222_168 V X R Q QE J71 J168 J413 a0 s0 s1 s2 s3 I → J168 s0 s1 s2 s3 I) ∧ (∀  I, wz_222_413 V X R Q QE J71 J168 J413 a0  I → J413  I)) → wz_222 V X R Q QE J71 J168 J413 a0 I) : jc V 201 222 (0, 0) [.ref a0] X I R Q QE := by
  refine jy_met hV (by decide) (n := 5) (rt := none) (hh := []) (ini := false) (C := jx_c222) (L := [some (.ref a0), none, none, none, none]) jt_222 (Nat.le_of_ble_eq_true rfl) rfl ?_
  intro J hS
  have h := h (fun l1 I => J 71 [] [some (.ref a0), some (jy l1), none, none, none] (0, 0) X I R) (fun s0 s1 s2 s3 I => J 168 [jy s3, jy s2, jy s1, .ref s0] [some (.ref a0), none, none, none, none] (0, 0) X I R) (fun  I => J 413 [] [some (.ref a0), none, none, none, none] (0, 0) X I R) ?_
  · unfold wz_222 at h
    refine jy_aload_n hS rfl rfl ?_
    obtain ⟨g1, h⟩ := h
    obtain ⟨Q2, h⟩ := h
    obtain ⟨g3, h⟩ := h
    refine jy_callV hS rfl rfl rfl (Nat.le_of_ble_eq_true rfl) (Or.inl g1) g3 (by decide) ⟨by decide, by decide⟩ (Nat.le_of_ble_eq_true rfl) ?_ ?_
    rotate_left
    · exact fun Ex Xx Ix Rx hp => hp.2.2.2.elim
    intro rv Xx I4 Rx hp
    obtain ⟨e1, e2, hp⟩ := hp
    rw [e1, e2]
    clear e1 e2
    obtain ⟨r5, e1, h⟩ := h rv I4 hp
    rw [e1]
    clear e1
    change J 4 [jy r5] _ (0, 0) _ _ _
    refine jy_istore_n hS rfl (Nat.le_of_ble_eq_true rfl) (L' := [some (.ref a0), some (jy r5), none, none, none]) rfl ?_
    refine jy_iload_n hS rfl rfl ?_
    refine jy_iconst hS rfl ?_
    obtain ⟨g6, h⟩ := h
    refine jy_icmp_ne hS rfl ⟨g6, ⟨by decide, by decide⟩⟩ (fun hq => ?_) (fun hq => ?_)
    · have h := h.1 hq
      refine jy_aload_n hS rfl rfl ?_
      refine jy_getI hS rfl (by decide) g1 ?_
      refine jy_bipush hS rfl (by decide) ?_
      refine jy_icmp_eq hS rfl ⟨(jy_rng _), ⟨by decide, by decide⟩⟩ (fun hq => ?_) (fun hq => ?_)
      · have h := h.1 hq
        refine jy_aload_n hS rfl rfl ?_
        refine jy_iconst hS rfl ?_
        refine jy_aload_n hS rfl rfl ?_
        refine jy_getI hS rfl (by decide) g1 ?_
        obtain ⟨Q7, h⟩ := h
        obtain ⟨g8, h⟩ := h
        refine jy_callV hS rfl rfl rfl (Nat.le_of_ble_eq_true rfl) (Or.inl g1) g8 (by decide) ⟨by decide, by decide⟩ (Nat.le_of_ble_eq_true rfl) ?_ ?_
        rotate_left
        · exact fun Ex Xx Ix Rx hp => hp.2.2.2.elim
        intro rv Xx I9 Rx hp
        obtain ⟨e1, e2, hp⟩ := hp
        rw [e1, e2]
        clear e1 e2
        obtain ⟨e1, h⟩ := h rv I9 hp
        rw [e1]
        clear e1
        change J 71 [] _ (0, 0) _ _ _
        exact jy_join hS h rfl (jy_sub_s (jy_sub_s (jy_sub_n (jy_sub_n (jy_sub_n jy_sub_0)))))
      · have h := h.2 hq
        refine jy_iload_n hS rfl rfl ?_
        refine jy_if_ne hS rfl g6 (fun hq => ?_) (fun hq => ?_)
        · have h := h.1 hq
          refine jy_iload_n hS rfl rfl ?_
          refine jy_iconst hS rfl ?_
          refine jy_icmp_ne hS rfl ⟨g6, ⟨by decide, by decide⟩⟩ (fun hq => ?_) (fun hq => ?_)
          · have h := h.1 hq
            refine jy_aload_n hS rfl rfl ?_
            refine jy_getI hS rfl (by decide) g1 ?_
            refine jy_if_eq hS rfl (jy_rng _) (fun hq => ?_) (fun hq => ?_)
            · have h := h.1 hq
              refine jy_aload_n hS rfl rfl ?_
              obtain ⟨Q11, h⟩ := h
              obtain ⟨g12, h⟩ := h
              refine jy_callV hS rfl rfl rfl (Nat.le_of_ble_eq_true rfl) (Or.inl g1) g12 (by decide) ⟨by decide, by decide⟩ (Nat.le_of_ble_eq_true rfl) ?_ ?_
              rotate_left
              · exact fun Ex Xx Ix Rx hp => hp.2.2.2.elim
              intro rv Xx I13 Rx hp
              obtain ⟨e1, e2, hp⟩ := hp
              rw [e1, e2]
              clear e1 e2
              obtain ⟨e1, h⟩ := h rv I13 hp
              rw [e1]
              clear e1
              change J 83 [] _ (0, 0) _ _ _
              refine jy_aload_n hS rfl rfl ?_
              refine jy_dup hS rfl rfl ?_
              refine jy_getI hS rfl (by decide) g1 ?_
              refine jy_iconst hS rfl ?_
              refine jy_iadd hS rfl ?_
              refine jy_putI hS rfl (by decide) g1 ?_
              intro I15 e9
              have h := h I15 e9
              clear e9
              refine jy_iload_n hS rfl rfl ?_
              refine jy_tsw hS rfl g6 (fun hq => ?_) (fun hq8 hq => ?_)
              · have h := h.1 hq
                refine ⟨by decide, ?_⟩
                change J 404 _ _ _ _ _ _
                refine jy_aload_n hS rfl rfl ?_
                refine jy_iconst hS rfl ?_
                refine jy_putI hS rfl (by decide) g1 ?_
                intro I16 e9
                have h := h I16 e9
                clear e9
                refine jy_aload_n hS rfl rfl ?_
                obtain ⟨d18, g19, h⟩ := h
                obtain ⟨Q17, h⟩ := h
                obtain ⟨g20, h⟩ := h
                refine jy_callV hS rfl rfl rfl (Nat.le_of_ble_eq_true rfl) (Or.inl g1) g20 g19 ⟨by decide, by decide⟩ (Nat.le_of_ble_eq_true rfl) ?_ ?_
                rotate_left
                · exact fun Ex Xx Ix Rx hp => hp.2.2.2.elim
                intro rv Xx I21 Rx hp
                obtain ⟨e1, e2, hp⟩ := hp
                rw [e1, e2]
                clear e1 e2
                obtain ⟨e1, h⟩ := h rv I21 hp
                rw [e1]
                clear e1
                change J 413 [] _ (0, 0) _ _ _
                exact jy_join hS h rfl (jy_sub_s (jy_sub_n (jy_sub_n (jy_sub_n (jy_sub_n jy_sub_0)))))
              · have h := h.2
                have hq7 : r5 = 0 ∨ r5 = 1 ∨ r5 = 2 ∨ r5 = 3 ∨ r5 = 4 ∨ r5 = 5 := by omega
                rcases hq7 with hq7 | hq7 | hq7 | hq7 | hq7 | hq7
                · have h := h.1 hq7
                  refine ⟨38, by rw [hq7]; rfl, by decide, ?_⟩
                  change J 132 _ _ _ _ _ _
                  refine jy_aload_n hS rfl rfl ?_
                  obtain ⟨q23, h⟩ := h
                  obtain ⟨g24, h⟩ := h
                  refine jy_getR hS rfl (by decide) g1 g24 ?_
                  refine jy_aload_n hS rfl rfl ?_
                  obtain ⟨q25, h⟩ := h
                  obtain ⟨g26, h⟩ := h
                  refine jy_getR hS rfl (by decide) g1 g26 ?_
                  refine jy_iconst hS rfl ?_
                  obtain ⟨n27, h⟩ := h
                  obtain ⟨g28, h⟩ := h
                  obtain ⟨g29, h⟩ := h
                  refine jy_iald hS rfl g28.1 (Nat.le_of_lt g28.2) g29 ?_
                  refine jy_aload_n hS rfl rfl ?_
                  refine jy_iconst hS rfl ?_
                  refine jy_iconst hS rfl ?_
                  obtain ⟨Q30, h⟩ := h
                  obtain ⟨g31, h⟩ := h
                  refine jy_callV hS rfl rfl rfl (Nat.le_of_ble_eq_true rfl) (Or.inl g1) g31 (by decide) ⟨by decide, by decide⟩ (Nat.le_of_ble_eq_true rfl) ?_ ?_
                  rotate_left
                  · exact fun Ex Xx Ix Rx hp => hp.2.2.2.elim
                  intro rv Xx I32 Rx hp
                  obtain ⟨e1, e2, hp⟩ := hp
                  rw [e1, e2]
                  clear e1 e2
                  obtain ⟨r33, e1, h⟩ := h rv I32 hp
                  rw [e1]
                  clear e1
                  change J 148 [jy r33, jy ((I15 q25 (0 : Int).toNat).toInt), .ref q23] _ (0, 0) _ _ _
                  obtain ⟨n34, h⟩ := h
                  obtain ⟨g35, h⟩ := h
                  obtain ⟨g36, h⟩ := h
                  refine jy_iast hS rfl g35.1 (Nat.le_of_lt g35.2) g36 ?_
                  intro I37 e9
                  have h := h I37 e9
                  clear e9
                  refine jy_aload_n hS rfl rfl ?_
                  refine jy_getR hS rfl (by decide) g1 g26 ?_
                  refine jy_iconst hS rfl ?_
                  refine jy_dup2 hS rfl rfl rfl ?_
                  obtain ⟨g38, h⟩ := h
                  refine jy_iald hS rfl g28.1 (Nat.le_of_lt g28.2) g38 ?_
                  refine jy_aload_n hS rfl rfl ?_
                  refine jy_getI hS rfl (by decide) g1 ?_
                  refine jy_if_ne hS rfl (jy_rng _) (fun hq => ?_) (fun hq => ?_)
                  · have h := h.1 hq
                    refine jy_iconst hS rfl ?_
                    exact jy_join hS h rfl (jy_sub_s (jy_sub_n (jy_sub_n (jy_sub_n (jy_sub_n jy_sub_0)))))
                  · have h := h.2 hq
                    refine jy_iconst hS rfl ?_
                    refine jy_goto hS rfl ?_
                    exact jy_join hS h rfl (jy_sub_s (jy_sub_n (jy_sub_n (jy_sub_n (jy_sub_n jy_sub_0)))))
                · have h := h.2.1 hq7
                  refine ⟨79, by rw [hq7]; rfl, by decide, ?_⟩
                  change J 173 _ _ _ _ _ _
                  refine jy_aload_n hS rfl rfl ?_
                  obtain ⟨Q39, h⟩ := h
                  obtain ⟨g40, h⟩ := h
                  refine jy_callV hS rfl rfl rfl (Nat.le_of_ble_eq_true rfl) (Or.inl g1) g40 (by decide) ⟨by decide, by decide⟩ (Nat.le_of_ble_eq_true rfl) ?_ ?_
                  rotate_left
                  · exact fun Ex Xx Ix Rx hp => hp.2.2.2.elim
                  intro rv Xx I41 Rx hp
                  obtain ⟨e1, e2, hp⟩ := hp
                  rw [e1, e2]
                  clear e1 e2
                  obtain ⟨e1, h⟩ := h rv I41 hp
                  rw [e1]
                  clear e1
                  change J 177 [] _ (0, 0) _ _ _
                  refine jy_goto hS rfl ?_
                  exact jy_join hS h rfl (jy_sub_s (jy_sub_n (jy_sub_n (jy_sub_n (jy_sub_n jy_sub_0)))))
                · have h := h.2.2.1 hq7
                  refine ⟨86, by rw [hq7]; rfl, by decide, ?_⟩
                  change J 180 _ _ _ _ _ _
                  refine jy_aload_n hS rfl rfl ?_
                  refine jy_iconst hS rfl ?_
                  refine jy_aload_n hS rfl rfl ?_
                  obtain ⟨q43, h⟩ := h
                  obtain ⟨g44, h⟩ := h
                  refine jy_getR hS rfl (by decide) g1 g44 ?_
                  refine jy_iconst hS rfl ?_
                  obtain ⟨n45, h⟩ := h
                  obtain ⟨g46, h⟩ := h
                  obtain ⟨g47, h⟩ := h
                  refine jy_iald hS rfl g46.1 (Nat.le_of_lt g46.2) g47 ?_
                  refine jy_iconst hS rfl ?_
                  refine jy_isub hS rfl ?_
                  obtain ⟨Q48, h⟩ := h
                  obtain ⟨g49, h⟩ := h
                  refine jy_callV hS rfl rfl rfl (Nat.le_of_ble_eq_true rfl) (Or.inl g1) g49 (by decide) ⟨by decide, by decide⟩ (Nat.le_of_ble_eq_true rfl) ?_ ?_
                  rotate_left
                  · exact fun Ex Xx Ix Rx hp => hp.2.2.2.elim
                  intro rv Xx I50 Rx hp
                  obtain ⟨e1, e2, hp⟩ := hp
                  rw [e1, e2]
                  clear e1 e2
                  obtain ⟨r51, e1, h⟩ := h rv I50 hp
                  rw [e1]
                  clear e1
                  change J 193 [jy r51] _ (0, 0) _ _ _
                  refine jy_istore_n hS rfl (Nat.le_of_ble_eq_true rfl) (L' := [some (.ref a0), some (jy r5), some (jy r51), none, none]) rfl ?_
                  refine jy_aload_n hS rfl rfl ?_
                  refine jy_aload_n hS rfl rfl ?_
                  refine jy_getR hS rfl (by decide) g1 g44 ?_
                  refine jy_iconst hS rfl ?_
                  obtain ⟨g52, h⟩ := h
                  refine jy_iald hS rfl g46.1 (Nat.le_of_lt g46.2) g52 ?_
                  refine jy_iconst hS rfl ?_
                  refine jy_isub hS rfl ?_
                  refine jy_iload_n hS rfl rfl ?_
                  obtain ⟨Q53, h⟩ := h
                  obtain ⟨g54, h⟩ := h
                  refine jy_callV hS rfl rfl rfl (Nat.le_of_ble_eq_true rfl) (Or.inl g1) g54 (by decide) ⟨by decide, by decide⟩ (Nat.le_of_ble_eq_true rfl) ?_ ?_
                  rotate_left
                  · exact fun Ex Xx Ix Rx hp => hp.2.2.2.elim
                  intro rv Xx I55 Rx hp
                  obtain ⟨e1, e2, hp⟩ := hp
                  rw [e1, e2]
                  clear e1 e2
                  obtain ⟨r56, e1, h⟩ := h rv I55 hp
                  rw [e1]
                  clear e1
                  change J 207 [jy r56] _ (0, 0) _ _ _
                  refine jy_istore_n hS rfl (Nat.le_of_ble_eq_true rfl) (L' := [some (.ref a0), some (jy r5), some (jy r51), some (jy r56), none]) rfl ?_
                  refine jy_aload_n hS rfl rfl ?_
                  refine jy_iconst hS rfl ?_
                  refine jy_bipush hS rfl (by decide) ?_
                  obtain ⟨Q57, h⟩ := h
                  obtain ⟨g58, h⟩ := h
                  refine jy_callV hS rfl rfl rfl (Nat.le_of_ble_eq_true rfl) (Or.inl g1) g58 (by decide) ⟨by decide, by decide⟩ (Nat.le_of_ble_eq_true rfl) ?_ ?_
                  rotate_left
                  · exact fun Ex Xx Ix Rx hp => hp.2.2.2.elim
                  intro rv Xx I59 Rx hp
                  obtain ⟨e1, e2, hp⟩ := hp
                  rw [e1, e2]
                  clear e1 e2
                  obtain ⟨r60, e1, h⟩ := h rv I59 hp
                  rw [e1]
                  clear e1
                  change J 215 [jy r60] _ (0, 0) _ _ _
                  refine jy_istore hS rfl (Nat.le_of_ble_eq_true rfl) (L' := [some (.ref a0), some (jy r5), some (jy r51), some (jy r56), some (jy r60)]) rfl ?_
                  refine jy_aload_n hS rfl rfl ?_
                  refine jy_getI hS rfl (by decide) g1 ?_
                  refine jy_if_eq hS rfl (jy_rng _) (fun hq => ?_) (fun hq => ?_)
                  · have h := h.1 hq
                    refine jy_aload_n hS rfl rfl ?_
                    obtain ⟨q61, h⟩ := h
                    obtain ⟨g62, h⟩ := h
                    refine jy_getR hS rfl (by decide) g1 g62 ?_
                    refine jy_iload_n hS rfl rfl ?_
                    obtain ⟨n63, h⟩ := h
                    obtain ⟨g64, h⟩ := h
                    obtain ⟨g65, h⟩ := h
                    obtain ⟨q66, h⟩ := h
                    obtain ⟨g67, h⟩ := h
                    refine jy_aald hS rfl g64.1 (by decide) (Nat.le_of_lt g64.2) g65 g67 ?_
                    refine jy_iload_n hS rfl rfl ?_
                    refine jy_iload hS rfl rfl ?_
                    obtain ⟨n68, h⟩ := h
                    obtain ⟨g69, h⟩ := h
                    obtain ⟨g70, h⟩ := h
                    refine jy_iast hS rfl g69.1 (Nat.le_of_lt g69.2) g70 ?_
                    intro I71 e9
                    have h := h I71 e9
                    clear e9
                    refine jy_aload_n hS rfl rfl ?_
                    refine jy_getR hS rfl (by decide) g1 g62 ?_
                    refine jy_iload_n hS rfl rfl ?_
                    obtain ⟨g72, h⟩ := h
                    obtain ⟨q73, h⟩ := h
                    obtain ⟨g74, h⟩ := h
                    refine jy_aald hS rfl g64.1 (by decide) (Nat.le_of_lt g64.2) g72 g74 ?_
                    refine jy_iload_n hS rfl rfl ?_
                    refine jy_iload hS rfl rfl ?_
                    obtain ⟨n75, h⟩ := h
                    obtain ⟨g76, h⟩ := h
                    obtain ⟨g77, h⟩ := h
                    refine jy_iast hS rfl g76.1 (Nat.le_of_lt g76.2) g77 ?_
                    intro I78 e9
                    have h := h I78 e9
                    clear e9
                    refine jy_goto hS rfl ?_
                    exact jy_join hS h rfl (jy_sub_s (jy_sub_n (jy_sub_n (jy_sub_n (jy_sub_n jy_sub_0)))))
                  · have h := h.2 hq
                    refine jy_goto hS rfl ?_
                    exact jy_join hS h rfl (jy_sub_s (jy_sub_n (jy_sub_n (jy_sub_n (jy_sub_n jy_sub_0)))))
                · have h := h.2.2.2.1 hq7
                  refine ⟨156, by rw [hq7]; rfl, by decide, ?_⟩
                  change J 250 _ _ _ _ _ _
                  refine jy_aload_n hS rfl rfl ?_
                  obtain ⟨Q79, h⟩ := h
                  obtain ⟨g80, h⟩ := h
                  refine jy_callV hS rfl rfl rfl (Nat.le_of_ble_eq_true rfl) (Or.inl g1) g80 (by decide) ⟨by decide, by decide⟩ (Nat.le_of_ble_eq_true rfl) ?_ ?_
                  rotate_left
                  · exact fun Ex Xx Ix Rx hp => hp.2.2.2.elim
                  intro rv Xx I81 Rx hp
                  obtain ⟨e1, e2, hp⟩ := hp
                  rw [e1, e2]
                  clear e1 e2
                  obtain ⟨r82, e1, h⟩ := h rv I81 hp
                  rw [e1]
                  clear e1
                  change J 254 [jy r82] _ (0, 0) _ _ _
                  refine jy_istore_n hS rfl (Nat.le_of_ble_eq_true rfl) (L' := [some (.ref a0), some (jy r5), some (jy r82), none, none]) rfl ?_
                  refine jy_aload_n hS rfl rfl ?_
                  refine jy_iconst hS rfl ?_
                  refine jy_aload_n hS rfl rfl ?_
                  obtain ⟨q83, h⟩ := h
                  obtain ⟨g84, h⟩ := h
                  refine jy_getR hS rfl (by decide) g1 g84 ?_
                  refine jy_iconst hS rfl ?_
                  obtain ⟨n85, h⟩ := h
                  obtain ⟨g86, h⟩ := h
                  obtain ⟨g87, h⟩ := h
                  refine jy_iald hS rfl g86.1 (Nat.le_of_lt g86.2) g87 ?_
                  refine jy_iconst hS rfl ?_
                  refine jy_isub hS rfl ?_
                  obtain ⟨Q88, h⟩ := h
                  obtain ⟨g89, h⟩ := h
                  refine jy_callV hS rfl rfl rfl (Nat.le_of_ble_eq_true rfl) (Or.inl g1) g89 (by decide) ⟨by decide, by decide⟩ (Nat.le_of_ble_eq_true rfl) ?_ ?_
                  rotate_left
                  · exact fun Ex Xx Ix Rx hp => hp.2.2.2.elim
                  intro rv Xx I90 Rx hp
                  obtain ⟨e1, e2, hp⟩ := hp
                  rw [e1, e2]
                  clear e1 e2
                  obtain ⟨r91, e1, h⟩ := h rv I90 hp
                  rw [e1]
                  clear e1
                  change J 268 [jy r91] _ (0, 0) _ _ _
                  refine jy_istore_n hS rfl (Nat.le_of_ble_eq_true rfl) (L' := [some (.ref a0), some (jy r5), some (jy r82), some (jy r91), none]) rfl ?_
                  refine jy_aload_n hS rfl rfl ?_
                  refine jy_iconst hS rfl ?_
                  refine jy_bipush hS rfl (by decide) ?_
                  obtain ⟨Q92, h⟩ := h
                  obtain ⟨g93, h⟩ := h
                  refine jy_callV hS rfl rfl rfl (Nat.le_of_ble_eq_true rfl) (Or.inl g1) g93 (by decide) ⟨by decide, by decide⟩ (Nat.le_of_ble_eq_true rfl) ?_ ?_
                  rotate_left
                  · exact fun Ex Xx Ix Rx hp => hp.2.2.2.elim
                  intro rv Xx I94 Rx hp
                  obtain ⟨e1, e2, hp⟩ := hp
                  rw [e1, e2]
                  clear e1 e2
                  obtain ⟨r95, e1, h⟩ := h rv I94 hp
                  rw [e1]
                  clear e1
                  change J 276 [jy r95] _ (0, 0) _ _ _
                  refine jy_istore hS rfl (Nat.le_of_ble_eq_true rfl) (L' := [some (.ref a0), some (jy r5), some (jy r82), some (jy r91), some (jy r95)]) rfl ?_
                  refine jy_aload_n hS rfl rfl ?_
                  refine jy_getI hS rfl (by decide) g1 ?_
                  refine jy_if_ne hS rfl (jy_rng _) (fun hq => ?_) (fun hq => ?_)
                  · have h := h.1 hq
                    refine jy_aload_n hS rfl rfl ?_
                    refine jy_bipush hS rfl (by decide) ?_
                    obtain ⟨Q96, h⟩ := h
                    obtain ⟨g97, h⟩ := h
                    refine jy_callV hS rfl rfl rfl (Nat.le_of_ble_eq_true rfl) (Or.inl g1) g97 (by decide) ⟨by decide, by decide⟩ (Nat.le_of_ble_eq_true rfl) ?_ ?_
                    rotate_left
                    · exact fun Ex Xx Ix Rx hp => hp.2.2.2.elim
                    intro rv Xx I98 Rx hp
                    obtain ⟨e1, e2, hp⟩ := hp
                    rw [e1, e2]
                    clear e1 e2
                    obtain ⟨e1, h⟩ := h rv I98 hp
                    rw [e1]
                    clear e1
                    change J 419 [] _ (0, 0) _ _ _
                    exact jy_ret hS rfl rfl ⟨rfl, rfl, h⟩
                  · have h := h.2 hq
                    refine jy_aload_n hS rfl rfl ?_
                    obtain ⟨q100, h⟩ := h
                    obtain ⟨g101, h⟩ := h
                    refine jy_getR hS rfl (by decide) g1 g101 ?_
                    refine jy_iload_n hS rfl rfl ?_
                    obtain ⟨n102, h⟩ := h
                    obtain ⟨g103, h⟩ := h
                    obtain ⟨g104, h⟩ := h
                    obtain ⟨q105, h⟩ := h
                    obtain ⟨g106, h⟩ := h
                    refine jy_aald hS rfl g103.1 (by decide) (Nat.le_of_lt g103.2) g104 g106 ?_
                    refine jy_iload_n hS rfl rfl ?_
                    refine jy_bipush hS rfl (by decide) ?_
                    refine jy_aload_n hS rfl rfl ?_
                    refine jy_getR hS rfl (by decide) g1 g101 ?_
                    refine jy_iload_n hS rfl rfl ?_
                    obtain ⟨g107, h⟩ := h
                    obtain ⟨q108, h⟩ := h
                    obtain ⟨g109, h⟩ := h
                    refine jy_aald hS rfl g103.1 (by decide) (Nat.le_of_lt g103.2) g107 g109 ?_
                    refine jy_iload_n hS rfl rfl ?_
                    obtain ⟨n110, h⟩ := h
                    obtain ⟨g111, h⟩ := h
                    obtain ⟨g112, h⟩ := h
                    refine jy_iald hS rfl g111.1 (Nat.le_of_lt g111.2) g112 ?_
                    refine jy_iload hS rfl rfl ?_
                    refine jy_iadd hS rfl ?_
                    obtain ⟨Q113, h⟩ := h
                    obtain ⟨g114, h⟩ := h
                    refine jy_callS hS rfl rfl rfl (Nat.le_of_ble_eq_true rfl) g114 (by decide) ⟨by decide, by decide⟩ (Nat.le_of_ble_eq_true rfl) ?_ ?_
                    rotate_left
                    · exact fun Ex Xx Ix Rx hp => hp.2.2.2.elim
                    intro rv Xx I115 Rx hp
                    obtain ⟨e1, e2, hp⟩ := hp
                    rw [e1, e2]
                    clear e1 e2
                    obtain ⟨r116, e1, h⟩ := h rv I115 hp
                    rw [e1]
                    clear e1
                    change J 308 [jy r116, jy r91, .ref q105] _ (0, 0) _ _ _
                    obtain ⟨n117, h⟩ := h
                    obtain ⟨g118, h⟩ := h
                    obtain ⟨g119, h⟩ := h
                    refine jy_iast hS rfl g118.1 (Nat.le_of_lt g118.2) g119 ?_
                    intro I120 e9
                    have h := h I120 e9
                    clear e9
                    refine jy_goto hS rfl ?_
                    exact jy_join hS h rfl (jy_sub_s (jy_sub_n (jy_sub_n (jy_sub_n (jy_sub_n jy_sub_0)))))
                · have h := h.2.2.2.2.1 hq7
                  refine ⟨218, by rw [hq7]; rfl, by decide, ?_⟩
                  change J 312 _ _ _ _ _ _
                  refine jy_aload_n hS rfl rfl ?_
                  obtain ⟨Q121, h⟩ := h
                  obtain ⟨g122, h⟩ := h
                  refine jy_callV hS rfl rfl rfl (Nat.le_of_ble_eq_true rfl) (Or.inl g1) g122 (by decide) ⟨by decide, by decide⟩ (Nat.le_of_ble_eq_true rfl) ?_ ?_
                  rotate_left
                  · exact fun Ex Xx Ix Rx hp => hp.2.2.2.elim
                  intro rv Xx I123 Rx hp
                  obtain ⟨e1, e2, hp⟩ := hp
                  rw [e1, e2]
                  clear e1 e2
                  obtain ⟨r124, e1, h⟩ := h rv I123 hp
                  rw [e1]
                  clear e1
                  change J 316 [jy r124] _ (0, 0) _ _ _
                  refine jy_istore_n hS rfl (Nat.le_of_ble_eq_true rfl) (L' := [some (.ref a0), some (jy r5), some (jy r124), none, none]) rfl ?_
                  refine jy_aload_n hS rfl rfl ?_
                  refine jy_aload_n hS rfl rfl ?_
                  obtain ⟨q125, h⟩ := h
                  obtain ⟨g126, h⟩ := h
                  refine jy_getR hS rfl (by decide) g1 g126 ?_
                  refine jy_iconst hS rfl ?_
                  obtain ⟨n127, h⟩ := h
                  obtain ⟨g128, h⟩ := h
                  obtain ⟨g129, h⟩ := h
                  refine jy_iald hS rfl g128.1 (Nat.le_of_lt g128.2) g129 ?_
                  refine jy_iconst hS rfl ?_
                  refine jy_isub hS rfl ?_
                  refine jy_iload_n hS rfl rfl ?_
                  obtain ⟨Q130, h⟩ := h
                  obtain ⟨g131, h⟩ := h
                  refine jy_callV hS rfl rfl rfl (Nat.le_of_ble_eq_true rfl) (Or.inl g1) g131 (by decide) ⟨by decide, by decide⟩ (Nat.le_of_ble_eq_true rfl) ?_ ?_
                  rotate_left
                  · exact fun Ex Xx Ix Rx hp => hp.2.2.2.elim
                  intro rv Xx I132 Rx hp
                  obtain ⟨e1, e2, hp⟩ := hp
                  rw [e1, e2]
                  clear e1 e2
                  obtain ⟨r133, e1, h⟩ := h rv I132 hp
                  rw [e1]
                  clear e1
                  change J 330 [jy r133] _ (0, 0) _ _ _
                  refine jy_istore_n hS rfl (Nat.le_of_ble_eq_true rfl) (L' := [some (.ref a0), some (jy r5), some (jy r124), some (jy r133), none]) rfl ?_
                  refine jy_aload_n hS rfl rfl ?_
                  refine jy_getI hS rfl (by decide) g1 ?_
                  refine jy_if_ne hS rfl (jy_rng _) (fun hq => ?_) (fun hq => ?_)
                  · have h := h.1 hq
                    refine jy_aload_n hS rfl rfl ?_
                    refine jy_bipush hS rfl (by decide) ?_
                    obtain ⟨Q134, h⟩ := h
                    obtain ⟨g135, h⟩ := h
                    refine jy_callV hS rfl rfl rfl (Nat.le_of_ble_eq_true rfl) (Or.inl g1) g135 (by decide) ⟨by decide, by decide⟩ (Nat.le_of_ble_eq_true rfl) ?_ ?_
                    rotate_left
                    · exact fun Ex Xx Ix Rx hp => hp.2.2.2.elim
                    intro rv Xx I136 Rx hp
                    obtain ⟨e1, e2, hp⟩ := hp
                    rw [e1, e2]
                    clear e1 e2
                    obtain ⟨e1, h⟩ := h rv I136 hp
                    rw [e1]
                    clear e1
                    change J 419 [] _ (0, 0) _ _ _
                    exact jy_ret hS rfl rfl ⟨rfl, rfl, h⟩
                  · have h := h.2 hq
                    refine jy_aload_n hS rfl rfl ?_
                    obtain ⟨q138, h⟩ := h
                    obtain ⟨g139, h⟩ := h
                    refine jy_getR hS rfl (by decide) g1 g139 ?_
                    refine jy_iload_n hS rfl rfl ?_
                    refine jy_iload_n hS rfl rfl ?_
                    obtain ⟨n140, h⟩ := h
                    obtain ⟨g141, h⟩ := h
                    obtain ⟨g142, h⟩ := h
                    refine jy_iast hS rfl g141.1 (Nat.le_of_lt g141.2) g142 ?_
                    intro I143 e9
                    have h := h I143 e9
                    clear e9
                    refine jy_goto hS rfl ?_
                    exact jy_join hS h rfl (jy_sub_s (jy_sub_n (jy_sub_n (jy_sub_n (jy_sub_n jy_sub_0)))))
                · have h := h.2.2.2.2.2 hq7
                  refine ⟨254, by rw [hq7]; rfl, by decide, ?_⟩
                  change J 348 _ _ _ _ _ _
                  refine jy_aload_n hS rfl rfl ?_
                  obtain ⟨Q144, h⟩ := h
                  obtain ⟨g145, h⟩ := h
                  refine jy_callV hS rfl rfl rfl (Nat.le_of_ble_eq_true rfl) (Or.inl g1) g145 (by decide) ⟨by decide, by decide⟩ (Nat.le_of_ble_eq_true rfl) ?_ ?_
                  rotate_left
                  · exact fun Ex Xx Ix Rx hp => hp.2.2.2.elim
                  intro rv Xx I146 Rx hp
                  obtain ⟨e1, e2, hp⟩ := hp
                  rw [e1, e2]
                  clear e1 e2
                  obtain ⟨r147, e1, h⟩ := h rv I146 hp
                  rw [e1]
                  clear e1
                  change J 352 [jy r147] _ (0, 0) _ _ _
                  refine jy_istore_n hS rfl (Nat.le_of_ble_eq_true rfl) (L' := [some (.ref a0), some (jy r5), some (jy r147), none, none]) rfl ?_
                  refine jy_aload_n hS rfl rfl ?_
                  refine jy_aload_n hS rfl rfl ?_
                  obtain ⟨q148, h⟩ := h
                  obtain ⟨g149, h⟩ := h
                  refine jy_getR hS rfl (by decide) g1 g149 ?_
                  refine jy_iconst hS rfl ?_
                  obtain ⟨n150, h⟩ := h
                  obtain ⟨g151, h⟩ := h
                  obtain ⟨g152, h⟩ := h
                  refine jy_iald hS rfl g151.1 (Nat.le_of_lt g151.2) g152 ?_
                  refine jy_iconst hS rfl ?_
                  refine jy_isub hS rfl ?_
                  refine jy_iload_n hS rfl rfl ?_
                  obtain ⟨Q153, h⟩ := h
                  obtain ⟨g154, h⟩ := h
                  refine jy_callV hS rfl rfl rfl (Nat.le_of_ble_eq_true rfl) (Or.inl g1) g154 (by decide) ⟨by decide, by decide⟩ (Nat.le_of_ble_eq_true rfl) ?_ ?_
                  rotate_left
                  · exact fun Ex Xx Ix Rx hp => hp.2.2.2.elim
                  intro rv Xx I155 Rx hp
                  obtain ⟨e1, e2, hp⟩ := hp
                  rw [e1, e2]
                  clear e1 e2
                  obtain ⟨r156, e1, h⟩ := h rv I155 hp
                  rw [e1]
                  clear e1
                  change J 366 [jy r156] _ (0, 0) _ _ _
                  refine jy_istore_n hS rfl (Nat.le_of_ble_eq_true rfl) (L' := [some (.ref a0), some (jy r5), some (jy r147), some (jy r156), none]) rfl ?_
                  refine jy_aload_n hS rfl rfl ?_
                  refine jy_getI hS rfl (by decide) g1 ?_
                  refine jy_if_eq hS rfl (jy_rng _) (fun hq => ?_) (fun hq => ?_)
                  · have h := h.1 hq
                    refine jy_aload_n hS rfl rfl ?_
                    obtain ⟨q157, h⟩ := h
                    obtain ⟨g158, h⟩ := h
                    refine jy_getR hS rfl (by decide) g1 g158 ?_
                    refine jy_iload_n hS rfl rfl ?_
                    refine jy_dup2 hS rfl rfl rfl ?_
                    obtain ⟨n159, h⟩ := h
                    obtain ⟨g160, h⟩ := h
                    obtain ⟨g161, h⟩ := h
                    refine jy_iald hS rfl g160.1 (Nat.le_of_lt g160.2) g161 ?_
                    refine jy_iconst hS rfl ?_
                    refine jy_iload_n hS rfl rfl ?_
                    refine jy_ishlX hS rfl rfl ?_
                    refine jy_iorX hS rfl rfl ?_
                    obtain ⟨g162, h⟩ := h
                    refine jy_iast hS rfl g160.1 (Nat.le_of_lt g160.2) g162 ?_
                    intro I163 e9
                    have h := h I163 e9
                    clear e9
                    refine jy_aload_n hS rfl rfl ?_
                    refine jy_getR hS rfl (by decide) g1 g158 ?_
                    refine jy_iload_n hS rfl rfl ?_
                    refine jy_dup2 hS rfl rfl rfl ?_
                    obtain ⟨g164, h⟩ := h
                    refine jy_iald hS rfl g160.1 (Nat.le_of_lt g160.2) g164 ?_
                    refine jy_iconst hS rfl ?_
                    refine jy_iload_n hS rfl rfl ?_
                    refine jy_ishlX hS rfl rfl ?_
                    refine jy_iorX hS rfl rfl ?_
                    obtain ⟨g165, h⟩ := h
                    refine jy_iast hS rfl g160.1 (Nat.le_of_lt g160.2) g165 ?_
                    intro I166 e9
                    have h := h I166 e9
                    clear e9
                    refine jy_goto hS rfl ?_
                    exact jy_join hS h rfl (jy_sub_s (jy_sub_n (jy_sub_n (jy_sub_n (jy_sub_n jy_sub_0)))))
                  · have h := h.2 hq
                    refine jy_goto hS rfl ?_
                    exact jy_join hS h rfl (jy_sub_s (jy_sub_n (jy_sub_n (jy_sub_n (jy_sub_n jy_sub_0)))))
            · have h := h.2 hq
              exact jy_ret hS rfl rfl ⟨rfl, rfl, h⟩
          · have h := h.2 hq
            refine jy_aload_n hS rfl rfl ?_
            obtain ⟨q167, h⟩ := h
            obtain ⟨g168, h⟩ := h
            refine jy_getR hS rfl (by decide) g1 g168 ?_
            refine jy_iconst hS rfl ?_
            obtain ⟨n169, h⟩ := h
            obtain ⟨g170, h⟩ := h
            obtain ⟨g171, h⟩ := h
            refine jy_iald hS rfl g170.1 (Nat.le_of_lt g170.2) g171 ?_
            refine jy_bipush hS rfl (by decide) ?_
            refine jy_icmp_ne hS rfl ⟨(jy_rng _), ⟨by decide, by decide⟩⟩ (fun hq => ?_) (fun hq => ?_)
            · have h := h.1 hq
              refine jy_aload_n hS rfl rfl ?_
              refine jy_getI hS rfl (by decide) g1 ?_
              refine jy_if_eq hS rfl (jy_rng _) (fun hq => ?_) (fun hq => ?_)
              · have h := h.1 hq
                refine jy_aload_n hS rfl rfl ?_
                obtain ⟨Q172, h⟩ := h
                obtain ⟨g173, h⟩ := h
                refine jy_callV hS rfl rfl rfl (Nat.le_of_ble_eq_true rfl) (Or.inl g1) g173 (by decide) ⟨by decide, by decide⟩ (Nat.le_of_ble_eq_true rfl) ?_ ?_
                rotate_left
                · exact fun Ex Xx Ix Rx hp => hp.2.2.2.elim
                intro rv Xx I174 Rx hp
                obtain ⟨e1, e2, hp⟩ := hp
                rw [e1, e2]
                clear e1 e2
                obtain ⟨e1, h⟩ := h rv I174 hp
                rw [e1]
                clear e1
                change J 83 [] _ (0, 0) _ _ _
                refine jy_aload_n hS rfl rfl ?_
                refine jy_dup hS rfl rfl ?_
                refine jy_getI hS rfl (by decide) g1 ?_
                refine jy_iconst hS rfl ?_
                refine jy_iadd hS rfl ?_
                refine jy_putI hS rfl (by decide) g1 ?_
                intro I176 e9
                have h := h I176 e9
                clear e9
                refine jy_iload_n hS rfl rfl ?_
                refine jy_tsw hS rfl g6 (fun hq => ?_) (fun hq8 hq => ?_)
                · have h := h.1 hq
                  refine ⟨by decide, ?_⟩
                  change J 404 _ _ _ _ _ _
                  refine jy_aload_n hS rfl rfl ?_
                  refine jy_iconst hS rfl ?_
                  refine jy_putI hS rfl (by decide) g1 ?_
                  intro I177 e9
                  have h := h I177 e9
                  clear e9
                  refine jy_aload_n hS rfl rfl ?_
                  obtain ⟨d179, g180, h⟩ := h
                  obtain ⟨Q178, h⟩ := h
                  obtain ⟨g181, h⟩ := h
                  refine jy_callV hS rfl rfl rfl (Nat.le_of_ble_eq_true rfl) (Or.inl g1) g181 g180 ⟨by decide, by decide⟩ (Nat.le_of_ble_eq_true rfl) ?_ ?_
                  rotate_left
                  · exact fun Ex Xx Ix Rx hp => hp.2.2.2.elim
                  intro rv Xx I182 Rx hp
                  obtain ⟨e1, e2, hp⟩ := hp
                  rw [e1, e2]
                  clear e1 e2
                  obtain ⟨e1, h⟩ := h rv I182 hp
                  rw [e1]
                  clear e1
                  change J 413 [] _ (0, 0) _ _ _
                  exact jy_join hS h rfl (jy_sub_s (jy_sub_n (jy_sub_n (jy_sub_n (jy_sub_n jy_sub_0)))))
                · have h := h.2
                  have hq7 : r5 = 0 ∨ r5 = 1 ∨ r5 = 2 ∨ r5 = 3 ∨ r5 = 4 ∨ r5 = 5 := by omega
                  rcases hq7 with hq7 | hq7 | hq7 | hq7 | hq7 | hq7
                  · have h := h.1 hq7
                    refine ⟨38, by rw [hq7]; rfl, by decide, ?_⟩
                    change J 132 _ _ _ _ _ _
                    refine jy_aload_n hS rfl rfl ?_
                    obtain ⟨q184, h⟩ := h
                    obtain ⟨g185, h⟩ := h
                    refine jy_getR hS rfl (by decide) g1 g185 ?_
                    refine jy_aload_n hS rfl rfl ?_
                    refine jy_getR hS rfl (by decide) g1 g168 ?_
                    refine jy_iconst hS rfl ?_
                    obtain ⟨g186, h⟩ := h
                    refine jy_iald hS rfl g170.1 (Nat.le_of_lt g170.2) g186 ?_
                    refine jy_aload_n hS rfl rfl ?_
                    refine jy_iconst hS rfl ?_
                    refine jy_iconst hS rfl ?_
                    obtain ⟨Q187, h⟩ := h
                    obtain ⟨g188, h⟩ := h
                    refine jy_callV hS rfl rfl rfl (Nat.le_of_ble_eq_true rfl) (Or.inl g1) g188 (by decide) ⟨by decide, by decide⟩ (Nat.le_of_ble_eq_true rfl) ?_ ?_
                    rotate_left
                    · exact fun Ex Xx Ix Rx hp => hp.2.2.2.elim
                    intro rv Xx I189 Rx hp
                    obtain ⟨e1, e2, hp⟩ := hp
                    rw [e1, e2]
                    clear e1 e2
                    obtain ⟨r190, e1, h⟩ := h rv I189 hp
                    rw [e1]
                    clear e1
                    change J 148 [jy r190, jy ((I176 q167 (0 : Int).toNat).toInt), .ref q184] _ (0, 0) _ _ _
                    obtain ⟨n191, h⟩ := h
                    obtain ⟨g192, h⟩ := h
                    obtain ⟨g193, h⟩ := h
                    refine jy_iast hS rfl g192.1 (Nat.le_of_lt g192.2) g193 ?_
                    intro I194 e9
                    have h := h I194 e9
                    clear e9
                    refine jy_aload_n hS rfl rfl ?_
                    refine jy_getR hS rfl (by decide) g1 g168 ?_
                    refine jy_iconst hS rfl ?_
                    refine jy_dup2 hS rfl rfl rfl ?_
                    obtain ⟨g195, h⟩ := h
                    refine jy_iald hS rfl g170.1 (Nat.le_of_lt g170.2) g195 ?_
                    refine jy_aload_n hS rfl rfl ?_
                    refine jy_getI hS rfl (by decide) g1 ?_
                    refine jy_if_ne hS rfl (jy_rng _) (fun hq => ?_) (fun hq => ?_)
                    · have h := h.1 hq
                      refine jy_iconst hS rfl ?_
                      exact jy_join hS h rfl (jy_sub_s (jy_sub_n (jy_sub_n (jy_sub_n (jy_sub_n jy_sub_0)))))
                    · have h := h.2 hq
                      refine jy_iconst hS rfl ?_
                      refine jy_goto hS rfl ?_
                      exact jy_join hS h rfl (jy_sub_s (jy_sub_n (jy_sub_n (jy_sub_n (jy_sub_n jy_sub_0)))))
                  · have h := h.2.1 hq7
                    refine ⟨79, by rw [hq7]; rfl, by decide, ?_⟩
                    change J 173 _ _ _ _ _ _
                    refine jy_aload_n hS rfl rfl ?_
                    obtain ⟨Q196, h⟩ := h
                    obtain ⟨g197, h⟩ := h
                    refine jy_callV hS rfl rfl rfl (Nat.le_of_ble_eq_true rfl) (Or.inl g1) g197 (by decide) ⟨by decide, by decide⟩ (Nat.le_of_ble_eq_true rfl) ?_ ?_
                    rotate_left
                    · exact fun Ex Xx Ix Rx hp => hp.2.2.2.elim
                    intro rv Xx I198 Rx hp
                    obtain ⟨e1, e2, hp⟩ := hp
                    rw [e1, e2]
                    clear e1 e2
                    obtain ⟨e1, h⟩ := h rv I198 hp
                    rw [e1]
                    clear e1
                    change J 177 [] _ (0, 0) _ _ _
                    refine jy_goto hS rfl ?_
                    exact jy_join hS h rfl (jy_sub_s (jy_sub_n (jy_sub_n (jy_sub_n (jy_sub_n jy_sub_0)))))
                  · have h := h.2.2.1 hq7
                    refine ⟨86, by rw [hq7]; rfl, by decide, ?_⟩
                    change J 180 _ _ _ _ _ _
                    refine jy_aload_n hS rfl rfl ?_
                    refine jy_iconst hS rfl ?_
                    refine jy_aload_n hS rfl rfl ?_
                    refine jy_getR hS rfl (by decide) g1 g168 ?_
                    refine jy_iconst hS rfl ?_
                    obtain ⟨g200, h⟩ := h
                    refine jy_iald hS rfl g170.1 (Nat.le_of_lt g170.2) g200 ?_
                    refine jy_iconst hS rfl ?_
                    refine jy_isub hS rfl ?_
                    obtain ⟨Q201, h⟩ := h
                    obtain ⟨g202, h⟩ := h
                    refine jy_callV hS rfl rfl rfl (Nat.le_of_ble_eq_true rfl) (Or.inl g1) g202 (by decide) ⟨by decide, by decide⟩ (Nat.le_of_ble_eq_true rfl) ?_ ?_
                    rotate_left
                    · exact fun Ex Xx Ix Rx hp => hp.2.2.2.elim
                    intro rv Xx I203 Rx hp
                    obtain ⟨e1, e2, hp⟩ := hp
                    rw [e1, e2]
                    clear e1 e2
                    obtain ⟨r204, e1, h⟩ := h rv I203 hp
                    rw [e1]
                    clear e1
                    change J 193 [jy r204] _ (0, 0) _ _ _
                    refine jy_istore_n hS rfl (Nat.le_of_ble_eq_true rfl) (L' := [some (.ref a0), some (jy r5), some (jy r204), none, none]) rfl ?_
                    refine jy_aload_n hS rfl rfl ?_
                    refine jy_aload_n hS rfl rfl ?_
                    refine jy_getR hS rfl (by decide) g1 g168 ?_
                    refine jy_iconst hS rfl ?_
                    obtain ⟨g205, h⟩ := h
                    refine jy_iald hS rfl g170.1 (Nat.le_of_lt g170.2) g205 ?_
                    refine jy_iconst hS rfl ?_
                    refine jy_isub hS rfl ?_
                    refine jy_iload_n hS rfl rfl ?_
                    obtain ⟨Q206, h⟩ := h
                    obtain ⟨g207, h⟩ := h
                    refine jy_callV hS rfl rfl rfl (Nat.le_of_ble_eq_true rfl) (Or.inl g1) g207 (by decide) ⟨by decide, by decide⟩ (Nat.le_of_ble_eq_true rfl) ?_ ?_
                    rotate_left
                    · exact fun Ex Xx Ix Rx hp => hp.2.2.2.elim
                    intro rv Xx I208 Rx hp
                    obtain ⟨e1, e2, hp⟩ := hp
                    rw [e1, e2]
                    clear e1 e2
                    obtain ⟨r209, e1, h⟩ := h rv I208 hp
                    rw [e1]
                    clear e1
                    change J 207 [jy r209] _ (0, 0) _ _ _
                    refine jy_istore_n hS rfl (Nat.le_of_ble_eq_true rfl) (L' := [some (.ref a0), some (jy r5), some (jy r204), some (jy r209), none]) rfl ?_
                    refine jy_aload_n hS rfl rfl ?_
                    refine jy_iconst hS rfl ?_
                    refine jy_bipush hS rfl (by decide) ?_
                    obtain ⟨Q210, h⟩ := h
                    obtain ⟨g211, h⟩ := h
                    refine jy_callV hS rfl rfl rfl (Nat.le_of_ble_eq_true rfl) (Or.inl g1) g211 (by decide) ⟨by decide, by decide⟩ (Nat.le_of_ble_eq_true rfl) ?_ ?_
                    rotate_left
                    · exact fun Ex Xx Ix Rx hp => hp.2.2.2.elim
                    intro rv Xx I212 Rx hp
                    obtain ⟨e1, e2, hp⟩ := hp
                    rw [e1, e2]
                    clear e1 e2
                    obtain ⟨r213, e1, h⟩ := h rv I212 hp
                    rw [e1]
                    clear e1
                    change J 215 [jy r213] _ (0, 0) _ _ _
                    refine jy_istore hS rfl (Nat.le_of_ble_eq_true rfl) (L' := [some (.ref a0), some (jy r5), some (jy r204), some (jy r209), some (jy r213)]) rfl ?_
                    refine jy_aload_n hS rfl rfl ?_
                    refine jy_getI hS rfl (by decide) g1 ?_
                    refine jy_if_eq hS rfl (jy_rng _) (fun hq => ?_) (fun hq => ?_)
                    · have h := h.1 hq
                      refine jy_aload_n hS rfl rfl ?_
                      obtain ⟨q214, h⟩ := h
                      obtain ⟨g215, h⟩ := h
                      refine jy_getR hS rfl (by decide) g1 g215 ?_
                      refine jy_iload_n hS rfl rfl ?_
                      obtain ⟨n216, h⟩ := h
                      obtain ⟨g217, h⟩ := h
                      obtain ⟨g218, h⟩ := h
                      obtain ⟨q219, h⟩ := h
                      obtain ⟨g220, h⟩ := h
                      refine jy_aald hS rfl g217.1 (by decide) (Nat.le_of_lt g217.2) g218 g220 ?_
                      refine jy_iload_n hS rfl rfl ?_
                      refine jy_iload hS rfl rfl ?_
                      obtain ⟨n221, h⟩ := h
                      obtain ⟨g222, h⟩ := h
                      obtain ⟨g223, h⟩ := h
                      refine jy_iast hS rfl g222.1 (Nat.le_of_lt g222.2) g223 ?_
                      intro I224 e9
                      have h := h I224 e9
                      clear e9
                      refine jy_aload_n hS rfl rfl ?_
                      refine jy_getR hS rfl (by decide) g1 g215 ?_
                      refine jy_iload_n hS rfl rfl ?_
                      obtain ⟨g225, h⟩ := h
                      obtain ⟨q226, h⟩ := h
                      obtain ⟨g227, h⟩ := h
                      refine jy_aald hS rfl g217.1 (by decide) (Nat.le_of_lt g217.2) g225 g227 ?_
                      refine jy_iload_n hS rfl rfl ?_
                      refine jy_iload hS rfl rfl ?_
                      obtain ⟨n228, h⟩ := h
                      obtain ⟨g229, h⟩ := h
                      obtain ⟨g230, h⟩ := h
                      refine jy_iast hS rfl g229.1 (Nat.le_of_lt g229.2) g230 ?_
                      intro I231 e9
                      have h := h I231 e9
                      clear e9
                      refine jy_goto hS rfl ?_
                      exact jy_join hS h rfl (jy_sub_s (jy_sub_n (jy_sub_n (jy_sub_n (jy_sub_n jy_sub_0)))))
                    · have h := h.2 hq
                      refine jy_goto hS rfl ?_
                      exact jy_join hS h rfl (jy_sub_s (jy_sub_n (jy_sub_n (jy_sub_n (jy_sub_n jy_sub_0)))))
                  · have h := h.2.2.2.1 hq7
                    refine ⟨156, by rw [hq7]; rfl, by decide, ?_⟩
                    change J 250 _ _ _ _ _ _
                    refine jy_aload_n hS rfl rfl ?_
                    obtain ⟨Q232, h⟩ := h
                    obtain ⟨g233, h⟩ := h
                    refine jy_callV hS rfl rfl rfl (Nat.le_of_ble_eq_true rfl) (Or.inl g1) g233 (by decide) ⟨by decide, by decide⟩ (Nat.le_of_ble_eq_true rfl) ?_ ?_
                    rotate_left
                    · exact fun Ex Xx Ix Rx hp => hp.2.2.2.elim
                    intro rv Xx I234 Rx hp
                    obtain ⟨e1, e2, hp⟩ := hp
                    rw [e1, e2]
                    clear e1 e2
                    obtain ⟨r235, e1, h⟩ := h rv I234 hp
                    rw [e1]
                    clear e1
                    change J 254 [jy r235] _ (0, 0) _ _ _
                    refine jy_istore_n hS rfl (Nat.le_of_ble_eq_true rfl) (L' := [some (.ref a0), some (jy r5), some (jy r235), none, none]) rfl ?_
                    refine jy_aload_n hS rfl rfl ?_
                    refine jy_iconst hS rfl ?_
                    refine jy_aload_n hS rfl rfl ?_
                    refine jy_getR hS rfl (by decide) g1 g168 ?_
                    refine jy_iconst hS rfl ?_
                    obtain ⟨g236, h⟩ := h
                    refine jy_iald hS rfl g170.1 (Nat.le_of_lt g170.2) g236 ?_
                    refine jy_iconst hS rfl ?_
                    refine jy_isub hS rfl ?_
                    obtain ⟨Q237, h⟩ := h
                    obtain ⟨g238, h⟩ := h
                    refine jy_callV hS rfl rfl rfl (Nat.le_of_ble_eq_true rfl) (Or.inl g1) g238 (by decide) ⟨by decide, by decide⟩ (Nat.le_of_ble_eq_true rfl) ?_ ?_
                    rotate_left
                    · exact fun Ex Xx Ix Rx hp => hp.2.2.2.elim
                    intro rv Xx I239 Rx hp
                    obtain ⟨e1, e2, hp⟩ := hp
                    rw [e1, e2]
                    clear e1 e2
                    obtain ⟨r240, e1, h⟩ := h rv I239 hp
                    rw [e1]
                    clear e1
                    change J 268 [jy r240] _ (0, 0) _ _ _
                    refine jy_istore_n hS rfl (Nat.le_of_ble_eq_true rfl) (L' := [some (.ref a0), some (jy r5), some (jy r235), some (jy r240), none]) rfl ?_
                    refine jy_aload_n hS rfl rfl ?_
                    refine jy_iconst hS rfl ?_
                    refine jy_bipush hS rfl (by decide) ?_
                    obtain ⟨Q241, h⟩ := h
                    obtain ⟨g242, h⟩ := h
                    refine jy_callV hS rfl rfl rfl (Nat.le_of_ble_eq_true rfl) (Or.inl g1) g242 (by decide) ⟨by decide, by decide⟩ (Nat.le_of_ble_eq_true rfl) ?_ ?_
                    rotate_left
                    · exact fun Ex Xx Ix Rx hp => hp.2.2.2.elim
                    intro rv Xx I243 Rx hp
                    obtain ⟨e1, e2, hp⟩ := hp
                    rw [e1, e2]
                    clear e1 e2
                    obtain ⟨r244, e1, h⟩ := h rv I243 hp
                    rw [e1]
                    clear e1
                    change J 276 [jy r244] _ (0, 0) _ _ _
                    refine jy_istore hS rfl (Nat.le_of_ble_eq_true rfl) (L' := [some (.ref a0), some (jy r5), some (jy r235), some (jy r240), some (jy r244)]) rfl ?_
                    refine jy_aload_n hS rfl rfl ?_
                    refine jy_getI hS rfl (by decide) g1 ?_
                    refine jy_if_ne hS rfl (jy_rng _) (fun hq => ?_) (fun hq => ?_)
                    · have h := h.1 hq
                      refine jy_aload_n hS rfl rfl ?_
                      refine jy_bipush hS rfl (by decide) ?_
                      obtain ⟨Q245, h⟩ := h
                      obtain ⟨g246, h⟩ := h
                      refine jy_callV hS rfl rfl rfl (Nat.le_of_ble_eq_true rfl) (Or.inl g1) g246 (by decide) ⟨by decide, by decide⟩ (Nat.le_of_ble_eq_true rfl) ?_ ?_
                      rotate_left
                      · exact fun Ex Xx Ix Rx hp => hp.2.2.2.elim
                      intro rv Xx I247 Rx hp
                      obtain ⟨e1, e2, hp⟩ := hp
                      rw [e1, e2]
                      clear e1 e2
                      obtain ⟨e1, h⟩ := h rv I247 hp
                      rw [e1]
                      clear e1
                      change J 419 [] _ (0, 0) _ _ _
                      exact jy_ret hS rfl rfl ⟨rfl, rfl, h⟩
                    · have h := h.2 hq
                      refine jy_aload_n hS rfl rfl ?_
                      obtain ⟨q249, h⟩ := h
                      obtain ⟨g250, h⟩ := h
                      refine jy_getR hS rfl (by decide) g1 g250 ?_
                      refine jy_iload_n hS rfl rfl ?_
                      obtain ⟨n251, h⟩ := h
                      obtain ⟨g252, h⟩ := h
                      obtain ⟨g253, h⟩ := h
                      obtain ⟨q254, h⟩ := h
                      obtain ⟨g255, h⟩ := h
                      refine jy_aald hS rfl g252.1 (by decide) (Nat.le_of_lt g252.2) g253 g255 ?_
                      refine jy_iload_n hS rfl rfl ?_
                      refine jy_bipush hS rfl (by decide) ?_
                      refine jy_aload_n hS rfl rfl ?_
                      refine jy_getR hS rfl (by decide) g1 g250 ?_
                      refine jy_iload_n hS rfl rfl ?_
                      obtain ⟨g256, h⟩ := h
                      obtain ⟨q257, h⟩ := h
                      obtain ⟨g258, h⟩ := h
                      refine jy_aald hS rfl g252.1 (by decide) (Nat.le_of_lt g252.2) g256 g258 ?_
                      refine jy_iload_n hS rfl rfl ?_
                      obtain ⟨n259, h⟩ := h
                      obtain ⟨g260, h⟩ := h
                      obtain ⟨g261, h⟩ := h
                      refine jy_iald hS rfl g260.1 (Nat.le_of_lt g260.2) g261 ?_
                      refine jy_iload hS rfl rfl ?_
                      refine jy_iadd hS rfl ?_
                      obtain ⟨Q262, h⟩ := h
                      obtain ⟨g263, h⟩ := h
                      refine jy_callS hS rfl rfl rfl (Nat.le_of_ble_eq_true rfl) g263 (by decide) ⟨by decide, by decide⟩ (Nat.le_of_ble_eq_true rfl) ?_ ?_
                      rotate_left
                      · exact fun Ex Xx Ix Rx hp => hp.2.2.2.elim
                      intro rv Xx I264 Rx hp
                      obtain ⟨e1, e2, hp⟩ := hp
                      rw [e1, e2]
                      clear e1 e2
                      obtain ⟨r265, e1, h⟩ := h rv I264 hp
                      rw [e1]
                      clear e1
                      change J 308 [jy r265, jy r240, .ref q254] _ (0, 0) _ _ _
                      obtain ⟨n266, h⟩ := h
                      obtain ⟨g267, h⟩ := h
                      obtain ⟨g268, h⟩ := h
                      refine jy_iast hS rfl g267.1 (Nat.le_of_lt g267.2) g268 ?_
                      intro I269 e9
                      have h := h I269 e9
                      clear e9
                      refine jy_goto hS rfl ?_
                      exact jy_join hS h rfl (jy_sub_s (jy_sub_n (jy_sub_n (jy_sub_n (jy_sub_n jy_sub_0)))))
                  · have h := h.2.2.2.2.1 hq7
                    refine ⟨218, by rw [hq7]; rfl, by decide, ?_⟩
                    change J 312 _ _ _ _ _ _
                    refine jy_aload_n hS rfl rfl ?_
                    obtain ⟨Q270, h⟩ := h
                    obtain ⟨g271, h⟩ := h
                    refine jy_callV hS rfl rfl rfl (Nat.le_of_ble_eq_true rfl) (Or.inl g1) g271 (by decide) ⟨by decide, by decide⟩ (Nat.le_of_ble_eq_true rfl) ?_ ?_
                    rotate_left
                    · exact fun Ex Xx Ix Rx hp => hp.2.2.2.elim
                    intro rv Xx I272 Rx hp
                    obtain ⟨e1, e2, hp⟩ := hp
                    rw [e1, e2]
                    clear e1 e2
                    obtain ⟨r273, e1, h⟩ := h rv I272 hp
                    rw [e1]
                    clear e1
                    change J 316 [jy r273] _ (0, 0) _ _ _
                    refine jy_istore_n hS rfl (Nat.le_of_ble_eq_true rfl) (L' := [some (.ref a0), some (jy r5), some (jy r273), none, none]) rfl ?_
                    refine jy_aload_n hS rfl rfl ?_
                    refine jy_aload_n hS rfl rfl ?_
                    refine jy_getR hS rfl (by decide) g1 g168 ?_
                    refine jy_iconst hS rfl ?_
                    obtain ⟨g274, h⟩ := h
                    refine jy_iald hS rfl g170.1 (Nat.le_of_lt g170.2) g274 ?_
                    refine jy_iconst hS rfl ?_
                    refine jy_isub hS rfl ?_
                    refine jy_iload_n hS rfl rfl ?_
                    obtain ⟨Q275, h⟩ := h
                    obtain ⟨g276, h⟩ := h
                    refine jy_callV hS rfl rfl rfl (Nat.le_of_ble_eq_true rfl) (Or.inl g1) g276 (by decide) ⟨by decide, by decide⟩ (Nat.le_of_ble_eq_true rfl) ?_ ?_
                    rotate_left
                    · exact fun Ex Xx Ix Rx hp => hp.2.2.2.elim
                    intro rv Xx I277 Rx hp
                    obtain ⟨e1, e2, hp⟩ := hp
                    rw [e1, e2]
                    clear e1 e2
                    obtain ⟨r278, e1, h⟩ := h rv I277 hp
                    rw [e1]
                    clear e1
                    change J 330 [jy r278] _ (0, 0) _ _ _
                    refine jy_istore_n hS rfl (Nat.le_of_ble_eq_true rfl) (L' := [some (.ref a0), some (jy r5), some (jy r273), some (jy r278), none]) rfl ?_
                    refine jy_aload_n hS rfl rfl ?_
                    refine jy_getI hS rfl (by decide) g1 ?_
                    refine jy_if_ne hS rfl (jy_rng _) (fun hq => ?_) (fun hq => ?_)
                    · have h := h.1 hq
                      refine jy_aload_n hS rfl rfl ?_
                      refine jy_bipush hS rfl (by decide) ?_
                      obtain ⟨Q279, h⟩ := h
                      obtain ⟨g280, h⟩ := h
                      refine jy_callV hS rfl rfl rfl (Nat.le_of_ble_eq_true rfl) (Or.inl g1) g280 (by decide) ⟨by decide, by decide⟩ (Nat.le_of_ble_eq_true rfl) ?_ ?_
                      rotate_left
                      · exact fun Ex Xx Ix Rx hp => hp.2.2.2.elim
                      intro rv Xx I281 Rx hp
                      obtain ⟨e1, e2, hp⟩ := hp
                      rw [e1, e2]
                      clear e1 e2
                      obtain ⟨e1, h⟩ := h rv I281 hp
                      rw [e1]
                      clear e1
                      change J 419 [] _ (0, 0) _ _ _
                      exact jy_ret hS rfl rfl ⟨rfl, rfl, h⟩
                    · have h := h.2 hq
                      refine jy_aload_n hS rfl rfl ?_
                      obtain ⟨q283, h⟩ := h
                      obtain ⟨g284, h⟩ := h
                      refine jy_getR hS rfl (by decide) g1 g284 ?_
                      refine jy_iload_n hS rfl rfl ?_
                      refine jy_iload_n hS rfl rfl ?_
                      obtain ⟨n285, h⟩ := h
                      obtain ⟨g286, h⟩ := h
                      obtain ⟨g287, h⟩ := h
                      refine jy_iast hS rfl g286.1 (Nat.le_of_lt g286.2) g287 ?_
                      intro I288 e9
                      have h := h I288 e9
                      clear e9
                      refine jy_goto hS rfl ?_
                      exact jy_join hS h rfl (jy_sub_s (jy_sub_n (jy_sub_n (jy_sub_n (jy_sub_n jy_sub_0)))))
                  · have h := h.2.2.2.2.2 hq7
                    refine ⟨254, by rw [hq7]; rfl, by decide, ?_⟩
                    change J 348 _ _ _ _ _ _
                    refine jy_aload_n hS rfl rfl ?_
                    obtain ⟨Q289, h⟩ := h
                    obtain ⟨g290, h⟩ := h
                    refine jy_callV hS rfl rfl rfl (Nat.le_of_ble_eq_true rfl) (Or.inl g1) g290 (by decide) ⟨by decide, by decide⟩ (Nat.le_of_ble_eq_true rfl) ?_ ?_
                    rotate_left
                    · exact fun Ex Xx Ix Rx hp => hp.2.2.2.elim
                    intro rv Xx I291 Rx hp
                    obtain ⟨e1, e2, hp⟩ := hp
                    rw [e1, e2]
                    clear e1 e2
                    obtain ⟨r292, e1, h⟩ := h rv I291 hp
                    rw [e1]
                    clear e1
                    change J 352 [jy r292] _ (0, 0) _ _ _
                    refine jy_istore_n hS rfl (Nat.le_of_ble_eq_true rfl) (L' := [some (.ref a0), some (jy r5), some (jy r292), none, none]) rfl ?_
                    refine jy_aload_n hS rfl rfl ?_
                    refine jy_aload_n hS rfl rfl ?_
                    refine jy_getR hS rfl (by decide) g1 g168 ?_
                    refine jy_iconst hS rfl ?_
                    obtain ⟨g293, h⟩ := h
                    refine jy_iald hS rfl g170.1 (Nat.le_of_lt g170.2) g293 ?_
                    refine jy_iconst hS rfl ?_
                    refine jy_isub hS rfl ?_
                    refine jy_iload_n hS rfl rfl ?_
                    obtain ⟨Q294, h⟩ := h
                    obtain ⟨g295, h⟩ := h
                    refine jy_callV hS rfl rfl rfl (Nat.le_of_ble_eq_true rfl) (Or.inl g1) g295 (by decide) ⟨by decide, by decide⟩ (Nat.le_of_ble_eq_true rfl) ?_ ?_
                    rotate_left
                    · exact fun Ex Xx Ix Rx hp => hp.2.2.2.elim
                    intro rv Xx I296 Rx hp
                    obtain ⟨e1, e2, hp⟩ := hp
                    rw [e1, e2]
                    clear e1 e2
                    obtain ⟨r297, e1, h⟩ := h rv I296 hp
                    rw [e1]
                    clear e1
                    change J 366 [jy r297] _ (0, 0) _ _ _
                    refine jy_istore_n hS rfl (Nat.le_of_ble_eq_true rfl) (L' := [some (.ref a0), some (jy r5), some (jy r292), some (jy r297), none]) rfl ?_
                    refine jy_aload_n hS rfl rfl ?_
                    refine jy_getI hS rfl (by decide) g1 ?_
                    refine jy_if_eq hS rfl (jy_rng _) (fun hq => ?_) (fun hq => ?_)
                    · have h := h.1 hq
                      refine jy_aload_n hS rfl rfl ?_
                      obtain ⟨q298, h⟩ := h
                      obtain ⟨g299, h⟩ := h
                      refine jy_getR hS rfl (by decide) g1 g299 ?_
                      refine jy_iload_n hS rfl rfl ?_
                      refine jy_dup2 hS rfl rfl rfl ?_
                      obtain ⟨n300, h⟩ := h
                      obtain ⟨g301, h⟩ := h
                      obtain ⟨g302, h⟩ := h
                      refine jy_iald hS rfl g301.1 (Nat.le_of_lt g301.2) g302 ?_
                      refine jy_iconst hS rfl ?_
                      refine jy_iload_n hS rfl rfl ?_
                      refine jy_ishlX hS rfl rfl ?_
                      refine jy_iorX hS rfl rfl ?_
                      obtain ⟨g303, h⟩ := h
                      refine jy_iast hS rfl g301.1 (Nat.le_of_lt g301.2) g303 ?_
                      intro I304 e9
                      have h := h I304 e9
                      clear e9
                      refine jy_aload_n hS rfl rfl ?_
                      refine jy_getR hS rfl (by decide) g1 g299 ?_
                      refine jy_iload_n hS rfl rfl ?_
                      refine jy_dup2 hS rfl rfl rfl ?_
                      obtain ⟨g305, h⟩ := h
                      refine jy_iald hS rfl g301.1 (Nat.le_of_lt g301.2) g305 ?_
                      refine jy_iconst hS rfl ?_
                      refine jy_iload_n hS rfl rfl ?_
                      refine jy_ishlX hS rfl rfl ?_
                      refine jy_iorX hS rfl rfl ?_
                      obtain ⟨g306, h⟩ := h
                      refine jy_iast hS rfl g301.1 (Nat.le_of_lt g301.2) g306 ?_
                      intro I307 e9
                      have h := h I307 e9
                      clear e9
                      refine jy_goto hS rfl ?_
                      exact jy_join hS h rfl (jy_sub_s (jy_sub_n (jy_sub_n (jy_sub_n (jy_sub_n jy_sub_0)))))
                    · have h := h.2 hq
                      refine jy_goto hS rfl ?_
                      exact jy_join hS h rfl (jy_sub_s (jy_sub_n (jy_sub_n (jy_sub_n (jy_sub_n jy_sub_0)))))
              · have h := h.2 hq
                exact jy_ret hS rfl rfl ⟨rfl, rfl, h⟩
            · have h := h.2 hq
              refine jy_aload_n hS rfl rfl ?_
              refine jy_iconst hS rfl ?_
              refine jy_aload_n hS rfl rfl ?_
              refine jy_getI hS rfl (by decide) g1 ?_
              obtain ⟨Q308, h⟩ := h
              obtain ⟨g309, h⟩ := h
              refine jy_callV hS rfl rfl rfl (Nat.le_of_ble_eq_true rfl) (Or.inl g1) g309 (by decide) ⟨by decide, by decide⟩ (Nat.le_of_ble_eq_true rfl) ?_ ?_
              rotate_left
              · exact fun Ex Xx Ix Rx hp => hp.2.2.2.elim
              intro rv Xx I310 Rx hp
              obtain ⟨e1, e2, hp⟩ := hp
              rw [e1, e2]
              clear e1 e2
              obtain ⟨e1, h⟩ := h rv I310 hp
              rw [e1]
              clear e1
              change J 71 [] _ (0, 0) _ _ _
              exact jy_join hS h rfl (jy_sub_s (jy_sub_s (jy_sub_n (jy_sub_n (jy_sub_n jy_sub_0)))))
        · have h := h.2 hq
          refine jy_aload_n hS rfl rfl ?_
          obtain ⟨q312, h⟩ := h
          obtain ⟨g313, h⟩ := h
          refine jy_getR hS rfl (by decide) g1 g313 ?_
          refine jy_iconst hS rfl ?_
          obtain ⟨n314, h⟩ := h
          obtain ⟨g315, h⟩ := h
          obtain ⟨g316, h⟩ := h
          refine jy_iald hS rfl g315.1 (Nat.le_of_lt g315.2) g316 ?_
          refine jy_bipush hS rfl (by decide) ?_
          refine jy_icmp_eq hS rfl ⟨(jy_rng _), ⟨by decide, by decide⟩⟩ (fun hq => ?_) (fun hq => ?_)
          · have h := h.1 hq
            refine jy_aload_n hS rfl rfl ?_
            refine jy_iconst hS rfl ?_
            refine jy_aload_n hS rfl rfl ?_
            refine jy_getI hS rfl (by decide) g1 ?_
            obtain ⟨Q317, h⟩ := h
            obtain ⟨g318, h⟩ := h
            refine jy_callV hS rfl rfl rfl (Nat.le_of_ble_eq_true rfl) (Or.inl g1) g318 (by decide) ⟨by decide, by decide⟩ (Nat.le_of_ble_eq_true rfl) ?_ ?_
            rotate_left
            · exact fun Ex Xx Ix Rx hp => hp.2.2.2.elim
            intro rv Xx I319 Rx hp
            obtain ⟨e1, e2, hp⟩ := hp
            rw [e1, e2]
            clear e1 e2
            obtain ⟨e1, h⟩ := h rv I319 hp
            rw [e1]
            clear e1
            change J 71 [] _ (0, 0) _ _ _
            exact jy_join hS h rfl (jy_sub_s (jy_sub_s (jy_sub_n (jy_sub_n (jy_sub_n jy_sub_0)))))
          · have h := h.2 hq
            refine jy_iload_n hS rfl rfl ?_
            refine jy_iconst hS rfl ?_
            refine jy_icmp_ne hS rfl ⟨g6, ⟨by decide, by decide⟩⟩ (fun hq => ?_) (fun hq => ?_)
            · have h := h.1 hq
              refine jy_aload_n hS rfl rfl ?_
              refine jy_getI hS rfl (by decide) g1 ?_
              refine jy_if_eq hS rfl (jy_rng _) (fun hq => ?_) (fun hq => ?_)
              · have h := h.1 hq
                refine jy_aload_n hS rfl rfl ?_
                obtain ⟨Q321, h⟩ := h
                obtain ⟨g322, h⟩ := h
                refine jy_callV hS rfl rfl rfl (Nat.le_of_ble_eq_true rfl) (Or.inl g1) g322 (by decide) ⟨by decide, by decide⟩ (Nat.le_of_ble_eq_true rfl) ?_ ?_
                rotate_left
                · exact fun Ex Xx Ix Rx hp => hp.2.2.2.elim
                intro rv Xx I323 Rx hp
                obtain ⟨e1, e2, hp⟩ := hp
                rw [e1, e2]
                clear e1 e2
                obtain ⟨e1, h⟩ := h rv I323 hp
                rw [e1]
                clear e1
                change J 83 [] _ (0, 0) _ _ _
                refine jy_aload_n hS rfl rfl ?_
                refine jy_dup hS rfl rfl ?_
                refine jy_getI hS rfl (by decide) g1 ?_
                refine jy_iconst hS rfl ?_
                refine jy_iadd hS rfl ?_
                refine jy_putI hS rfl (by decide) g1 ?_
                intro I325 e9
                have h := h I325 e9
                clear e9
                refine jy_iload_n hS rfl rfl ?_
                refine jy_tsw hS rfl g6 (fun hq => ?_) (fun hq8 hq => ?_)
                · have h := h.1 hq
                  refine ⟨by decide, ?_⟩
                  change J 404 _ _ _ _ _ _
                  refine jy_aload_n hS rfl rfl ?_
                  refine jy_iconst hS rfl ?_
                  refine jy_putI hS rfl (by decide) g1 ?_
                  intro I326 e9
                  have h := h I326 e9
                  clear e9
                  refine jy_aload_n hS rfl rfl ?_
                  obtain ⟨d328, g329, h⟩ := h
                  obtain ⟨Q327, h⟩ := h
                  obtain ⟨g330, h⟩ := h
                  refine jy_callV hS rfl rfl rfl (Nat.le_of_ble_eq_true rfl) (Or.inl g1) g330 g329 ⟨by decide, by decide⟩ (Nat.le_of_ble_eq_true rfl) ?_ ?_
                  rotate_left
                  · exact fun Ex Xx Ix Rx hp => hp.2.2.2.elim
                  intro rv Xx I331 Rx hp
                  obtain ⟨e1, e2, hp⟩ := hp
                  rw [e1, e2]
                  clear e1 e2
                  obtain ⟨e1, h⟩ := h rv I331 hp
                  rw [e1]
                  clear e1
                  change J 413 [] _ (0, 0) _ _ _
                  exact jy_join hS h rfl (jy_sub_s (jy_sub_n (jy_sub_n (jy_sub_n (jy_sub_n jy_sub_0)))))
                · have h := h.2
                  have hq7 : r5 = 0 ∨ r5 = 1 ∨ r5 = 2 ∨ r5 = 3 ∨ r5 = 4 ∨ r5 = 5 := by omega
                  rcases hq7 with hq7 | hq7 | hq7 | hq7 | hq7 | hq7
                  · have h := h.1 hq7
                    refine ⟨38, by rw [hq7]; rfl, by decide, ?_⟩
                    change J 132 _ _ _ _ _ _
                    refine jy_aload_n hS rfl rfl ?_
                    obtain ⟨q333, h⟩ := h
                    obtain ⟨g334, h⟩ := h
                    refine jy_getR hS rfl (by decide) g1 g334 ?_
                    refine jy_aload_n hS rfl rfl ?_
                    refine jy_getR hS rfl (by decide) g1 g313 ?_
                    refine jy_iconst hS rfl ?_
                    obtain ⟨g335, h⟩ := h
                    refine jy_iald hS rfl g315.1 (Nat.le_of_lt g315.2) g335 ?_
                    refine jy_aload_n hS rfl rfl ?_
                    refine jy_iconst hS rfl ?_
                    refine jy_iconst hS rfl ?_
                    obtain ⟨Q336, h⟩ := h
                    obtain ⟨g337, h⟩ := h
                    refine jy_callV hS rfl rfl rfl (Nat.le_of_ble_eq_true rfl) (Or.inl g1) g337 (by decide) ⟨by decide, by decide⟩ (Nat.le_of_ble_eq_true rfl) ?_ ?_
                    rotate_left
                    · exact fun Ex Xx Ix Rx hp => hp.2.2.2.elim
                    intro rv Xx I338 Rx hp
                    obtain ⟨e1, e2, hp⟩ := hp
                    rw [e1, e2]
                    clear e1 e2
                    obtain ⟨r339, e1, h⟩ := h rv I338 hp
                    rw [e1]
                    clear e1
                    change J 148 [jy r339, jy ((I325 q312 (0 : Int).toNat).toInt), .ref q333] _ (0, 0) _ _ _
                    obtain ⟨n340, h⟩ := h
                    obtain ⟨g341, h⟩ := h
                    obtain ⟨g342, h⟩ := h
                    refine jy_iast hS rfl g341.1 (Nat.le_of_lt g341.2) g342 ?_
                    intro I343 e9
                    have h := h I343 e9
                    clear e9
                    refine jy_aload_n hS rfl rfl ?_
                    refine jy_getR hS rfl (by decide) g1 g313 ?_
                    refine jy_iconst hS rfl ?_
                    refine jy_dup2 hS rfl rfl rfl ?_
                    obtain ⟨g344, h⟩ := h
                    refine jy_iald hS rfl g315.1 (Nat.le_of_lt g315.2) g344 ?_
                    refine jy_aload_n hS rfl rfl ?_
                    refine jy_getI hS rfl (by decide) g1 ?_
                    refine jy_if_ne hS rfl (jy_rng _) (fun hq => ?_) (fun hq => ?_)
                    · have h := h.1 hq
                      refine jy_iconst hS rfl ?_
                      exact jy_join hS h rfl (jy_sub_s (jy_sub_n (jy_sub_n (jy_sub_n (jy_sub_n jy_sub_0)))))
                    · have h := h.2 hq
                      refine jy_iconst hS rfl ?_
                      refine jy_goto hS rfl ?_
                      exact jy_join hS h rfl (jy_sub_s (jy_sub_n (jy_sub_n (jy_sub_n (jy_sub_n jy_sub_0)))))
                  · have h := h.2.1 hq7
                    refine ⟨79, by rw [hq7]; rfl, by decide, ?_⟩
                    change J 173 _ _ _ _ _ _
                    refine jy_aload_n hS rfl rfl ?_
                    obtain ⟨Q345, h⟩ := h
                    obtain ⟨g346, h⟩ := h
                    refine jy_callV hS rfl rfl rfl (Nat.le_of_ble_eq_true rfl) (Or.inl g1) g346 (by decide) ⟨by decide, by decide⟩ (Nat.le_of_ble_eq_true rfl) ?_ ?_
                    rotate_left
                    · exact fun Ex Xx Ix Rx hp => hp.2.2.2.elim
                    intro rv Xx I347 Rx hp
                    obtain ⟨e1, e2, hp⟩ := hp
                    rw [e1, e2]
                    clear e1 e2
                    obtain ⟨e1, h⟩ := h rv I347 hp
                    rw [e1]
                    clear e1
                    change J 177 [] _ (0, 0) _ _ _
                    refine jy_goto hS rfl ?_
                    exact jy_join hS h rfl (jy_sub_s (jy_sub_n (jy_sub_n (jy_sub_n (jy_sub_n jy_sub_0)))))
                  · have h := h.2.2.1 hq7
                    refine ⟨86, by rw [hq7]; rfl, by decide, ?_⟩
                    change J 180 _ _ _ _ _ _
                    refine jy_aload_n hS rfl rfl ?_
                    refine jy_iconst hS rfl ?_
                    refine jy_aload_n hS rfl rfl ?_
                    refine jy_getR hS rfl (by decide) g1 g313 ?_
                    refine jy_iconst hS rfl ?_
                    obtain ⟨g349, h⟩ := h
                    refine jy_iald hS rfl g315.1 (Nat.le_of_lt g315.2) g349 ?_
                    refine jy_iconst hS rfl ?_
                    refine jy_isub hS rfl ?_
                    obtain ⟨Q350, h⟩ := h
                    obtain ⟨g351, h⟩ := h
                    refine jy_callV hS rfl rfl rfl (Nat.le_of_ble_eq_true rfl) (Or.inl g1) g351 (by decide) ⟨by decide, by decide⟩ (Nat.le_of_ble_eq_true rfl) ?_ ?_
                    rotate_left
                    · exact fun Ex Xx Ix Rx hp => hp.2.2.2.elim
                    intro rv Xx I352 Rx hp
                    obtain ⟨e1, e2, hp⟩ := hp
                    rw [e1, e2]
                    clear e1 e2
                    obtain ⟨r353, e1, h⟩ := h rv I352 hp
                    rw [e1]
                    clear e1
                    change J 193 [jy r353] _ (0, 0) _ _ _
                    refine jy_istore_n hS rfl (Nat.le_of_ble_eq_true rfl) (L' := [some (.ref a0), some (jy r5), some (jy r353), none, none]) rfl ?_
                    refine jy_aload_n hS rfl rfl ?_
                    refine jy_aload_n hS rfl rfl ?_
                    refine jy_getR hS rfl (by decide) g1 g313 ?_
                    refine jy_iconst hS rfl ?_
                    obtain ⟨g354, h⟩ := h
                    refine jy_iald hS rfl g315.1 (Nat.le_of_lt g315.2) g354 ?_
                    refine jy_iconst hS rfl ?_
                    refine jy_isub hS rfl ?_
                    refine jy_iload_n hS rfl rfl ?_
                    obtain ⟨Q355, h⟩ := h
                    obtain ⟨g356, h⟩ := h
                    refine jy_callV hS rfl rfl rfl (Nat.le_of_ble_eq_true rfl) (Or.inl g1) g356 (by decide) ⟨by decide, by decide⟩ (Nat.le_of_ble_eq_true rfl) ?_ ?_
                    rotate_left
                    · exact fun Ex Xx Ix Rx hp => hp.2.2.2.elim
                    intro rv Xx I357 Rx hp
                    obtain ⟨e1, e2, hp⟩ := hp
                    rw [e1, e2]
                    clear e1 e2
                    obtain ⟨r358, e1, h⟩ := h rv I357 hp
                    rw [e1]
                    clear e1
                    change J 207 [jy r358] _ (0, 0) _ _ _
                    refine jy_istore_n hS rfl (Nat.le_of_ble_eq_true rfl) (L' := [some (.ref a0), some (jy r5), some (jy r353), some (jy r358), none]) rfl ?_
                    refine jy_aload_n hS rfl rfl ?_
                    refine jy_iconst hS rfl ?_
                    refine jy_bipush hS rfl (by decide) ?_
                    obtain ⟨Q359, h⟩ := h
                    obtain ⟨g360, h⟩ := h
                    refine jy_callV hS rfl rfl rfl (Nat.le_of_ble_eq_true rfl) (Or.inl g1) g360 (by decide) ⟨by decide, by decide⟩ (Nat.le_of_ble_eq_true rfl) ?_ ?_
                    rotate_left
                    · exact fun Ex Xx Ix Rx hp => hp.2.2.2.elim
                    intro rv Xx I361 Rx hp
                    obtain ⟨e1, e2, hp⟩ := hp
                    rw [e1, e2]
                    clear e1 e2
                    obtain ⟨r362, e1, h⟩ := h rv I361 hp
                    rw [e1]
                    clear e1
                    change J 215 [jy r362] _ (0, 0) _ _ _
                    refine jy_istore hS rfl (Nat.le_of_ble_eq_true rfl) (L' := [some (.ref a0), some (jy r5), some (jy r353), some (jy r358), some (jy r362)]) rfl ?_
                    refine jy_aload_n hS rfl rfl ?_
                    refine jy_getI hS rfl (by decide) g1 ?_
                    refine jy_if_eq hS rfl (jy_rng _) (fun hq => ?_) (fun hq => ?_)
                    · have h := h.1 hq
                      refine jy_aload_n hS rfl rfl ?_
                      obtain ⟨q363, h⟩ := h
                      obtain ⟨g364, h⟩ := h
                      refine jy_getR hS rfl (by decide) g1 g364 ?_
                      refine jy_iload_n hS rfl rfl ?_
                      obtain ⟨n365, h⟩ := h
                      obtain ⟨g366, h⟩ := h
                      obtain ⟨g367, h⟩ := h
                      obtain ⟨q368, h⟩ := h
                      obtain ⟨g369, h⟩ := h
                      refine jy_aald hS rfl g366.1 (by decide) (Nat.le_of_lt g366.2) g367 g369 ?_
                      refine jy_iload_n hS rfl rfl ?_
                      refine jy_iload hS rfl rfl ?_
                      obtain ⟨n370, h⟩ := h
                      obtain ⟨g371, h⟩ := h
                      obtain ⟨g372, h⟩ := h
                      refine jy_iast hS rfl g371.1 (Nat.le_of_lt g371.2) g372 ?_
                      intro I373 e9
                      have h := h I373 e9
                      clear e9
                      refine jy_aload_n hS rfl rfl ?_
                      refine jy_getR hS rfl (by decide) g1 g364 ?_
                      refine jy_iload_n hS rfl rfl ?_
                      obtain ⟨g374, h⟩ := h
                      obtain ⟨q375, h⟩ := h
                      obtain ⟨g376, h⟩ := h
                      refine jy_aald hS rfl g366.1 (by decide) (Nat.le_of_lt g366.2) g374 g376 ?_
                      refine jy_iload_n hS rfl rfl ?_
                      refine jy_iload hS rfl rfl ?_
                      obtain ⟨n377, h⟩ := h
                      obtain ⟨g378, h⟩ := h
                      obtain ⟨g379, h⟩ := h
                      refine jy_iast hS rfl g378.1 (Nat.le_of_lt g378.2) g379 ?_
                      intro I380 e9
                      have h := h I380 e9
                      clear e9
                      refine jy_goto hS rfl ?_
                      exact jy_join hS h rfl (jy_sub_s (jy_sub_n (jy_sub_n (jy_sub_n (jy_sub_n jy_sub_0)))))
                    · have h := h.2 hq
                      refine jy_goto hS rfl ?_
                      exact jy_join hS h rfl (jy_sub_s (jy_sub_n (jy_sub_n (jy_sub_n (jy_sub_n jy_sub_0)))))
                  · have h := h.2.2.2.1 hq7
                    refine ⟨156, by rw [hq7]; rfl, by decide, ?_⟩
                    change J 250 _ _ _ _ _ _
                    refine jy_aload_n hS rfl rfl ?_
                    obtain ⟨Q381, h⟩ := h
                    obtain ⟨g382, h⟩ := h
                    refine jy_callV hS rfl rfl rfl (Nat.le_of_ble_eq_true rfl) (Or.inl g1) g382 (by decide) ⟨by decide, by decide⟩ (Nat.le_of_ble_eq_true rfl) ?_ ?_
                    rotate_left
                    · exact fun Ex Xx Ix Rx hp => hp.2.2.2.elim
                    intro rv Xx I383 Rx hp
                    obtain ⟨e1, e2, hp⟩ := hp
                    rw [e1, e2]
                    clear e1 e2
                    obtain ⟨r384, e1, h⟩ := h rv I383 hp
                    rw [e1]
                    clear e1
                    change J 254 [jy r384] _ (0, 0) _ _ _
                    refine jy_istore_n hS rfl (Nat.le_of_ble_eq_true rfl) (L' := [some (.ref a0), some (jy r5), some (jy r384), none, none]) rfl ?_
                    refine jy_aload_n hS rfl rfl ?_
                    refine jy_iconst hS rfl ?_
                    refine jy_aload_n hS rfl rfl ?_
                    refine jy_getR hS rfl (by decide) g1 g313 ?_
                    refine jy_iconst hS rfl ?_
                    obtain ⟨g385, h⟩ := h
                    refine jy_iald hS rfl g315.1 (Nat.le_of_lt g315.2) g385 ?_
                    refine jy_iconst hS rfl ?_
                    refine jy_isub hS rfl ?_
                    obtain ⟨Q386, h⟩ := h
                    obtain ⟨g387, h⟩ := h
                    refine jy_callV hS rfl rfl rfl (Nat.le_of_ble_eq_true rfl) (Or.inl g1) g387 (by decide) ⟨by decide, by decide⟩ (Nat.le_of_ble_eq_true rfl) ?_ ?_
                    rotate_left
                    · exact fun Ex Xx Ix Rx hp => hp.2.2.2.elim
                    intro rv Xx I388 Rx hp
                    obtain ⟨e1, e2, hp⟩ := hp
                    rw [e1, e2]
                    clear e1 e2
                    obtain ⟨r389, e1, h⟩ := h rv I388 hp
                    rw [e1]
                    clear e1
                    change J 268 [jy r389] _ (0, 0) _ _ _
                    refine jy_istore_n hS rfl (Nat.le_of_ble_eq_true rfl) (L' := [some (.ref a0), some (jy r5), some (jy r384), some (jy r389), none]) rfl ?_
                    refine jy_aload_n hS rfl rfl ?_
                    refine jy_iconst hS rfl ?_
                    refine jy_bipush hS rfl (by decide) ?_
                    obtain ⟨Q390, h⟩ := h
                    obtain ⟨g391, h⟩ := h
                    refine jy_callV hS rfl rfl rfl (Nat.le_of_ble_eq_true rfl) (Or.inl g1) g391 (by decide) ⟨by decide, by decide⟩ (Nat.le_of_ble_eq_true rfl) ?_ ?_
                    rotate_left
                    · exact fun Ex Xx Ix Rx hp => hp.2.2.2.elim
                    intro rv Xx I392 Rx hp
                    obtain ⟨e1, e2, hp⟩ := hp
                    rw [e1, e2]
                    clear e1 e2
                    obtain ⟨r393, e1, h⟩ := h rv I392 hp
                    rw [e1]
                    clear e1
                    change J 276 [jy r393] _ (0, 0) _ _ _
                    refine jy_istore hS rfl (Nat.le_of_ble_eq_true rfl) (L' := [some (.ref a0), some (jy r5), some (jy r384), some (jy r389), some (jy r393)]) rfl ?_
                    refine jy_aload_n hS rfl rfl ?_
                    refine jy_getI hS rfl (by decide) g1 ?_
                    refine jy_if_ne hS rfl (jy_rng _) (fun hq => ?_) (fun hq => ?_)
                    · have h := h.1 hq
                      refine jy_aload_n hS rfl rfl ?_
                      refine jy_bipush hS rfl (by decide) ?_
                      obtain ⟨Q394, h⟩ := h
                      obtain ⟨g395, h⟩ := h
                      refine jy_callV hS rfl rfl rfl (Nat.le_of_ble_eq_true rfl) (Or.inl g1) g395 (by decide) ⟨by decide, by decide⟩ (Nat.le_of_ble_eq_true rfl) ?_ ?_
                      rotate_left
                      · exact fun Ex Xx Ix Rx hp => hp.2.2.2.elim
                      intro rv Xx I396 Rx hp
                      obtain ⟨e1, e2, hp⟩ := hp
                      rw [e1, e2]
                      clear e1 e2
                      obtain ⟨e1, h⟩ := h rv I396 hp
                      rw [e1]
                      clear e1
                      change J 419 [] _ (0, 0) _ _ _
                      exact jy_ret hS rfl rfl ⟨rfl, rfl, h⟩
                    · have h := h.2 hq
                      refine jy_aload_n hS rfl rfl ?_
                      obtain ⟨q398, h⟩ := h
                      obtain ⟨g399, h⟩ := h
                      refine jy_getR hS rfl (by decide) g1 g399 ?_
                      refine jy_iload_n hS rfl rfl ?_
                      obtain ⟨n400, h⟩ := h
                      obtain ⟨g401, h⟩ := h
                      obtain ⟨g402, h⟩ := h
                      obtain ⟨q403, h⟩ := h
                      obtain ⟨g404, h⟩ := h
                      refine jy_aald hS rfl g401.1 (by decide) (Nat.le_of_lt g401.2) g402 g404 ?_
                      refine jy_iload_n hS rfl rfl ?_
                      refine jy_bipush hS rfl (by decide) ?_
                      refine jy_aload_n hS rfl rfl ?_
                      refine jy_getR hS rfl (by decide) g1 g399 ?_
                      refine jy_iload_n hS rfl rfl ?_
                      obtain ⟨g405, h⟩ := h
                      obtain ⟨q406, h⟩ := h
                      obtain ⟨g407, h⟩ := h
                      refine jy_aald hS rfl g401.1 (by decide) (Nat.le_of_lt g401.2) g405 g407 ?_
                      refine jy_iload_n hS rfl rfl ?_
                      obtain ⟨n408, h⟩ := h
                      obtain ⟨g409, h⟩ := h
                      obtain ⟨g410, h⟩ := h
                      refine jy_iald hS rfl g409.1 (Nat.le_of_lt g409.2) g410 ?_
                      refine jy_iload hS rfl rfl ?_
                      refine jy_iadd hS rfl ?_
                      obtain ⟨Q411, h⟩ := h
                      obtain ⟨g412, h⟩ := h
                      refine jy_callS hS rfl rfl rfl (Nat.le_of_ble_eq_true rfl) g412 (by decide) ⟨by decide, by decide⟩ (Nat.le_of_ble_eq_true rfl) ?_ ?_
                      rotate_left
                      · exact fun Ex Xx Ix Rx hp => hp.2.2.2.elim
                      intro rv Xx I413 Rx hp
                      obtain ⟨e1, e2, hp⟩ := hp
                      rw [e1, e2]
                      clear e1 e2
                      obtain ⟨r414, e1, h⟩ := h rv I413 hp
                      rw [e1]
                      clear e1
                      change J 308 [jy r414, jy r389, .ref q403] _ (0, 0) _ _ _
                      obtain ⟨n415, h⟩ := h
                      obtain ⟨g416, h⟩ := h
                      obtain ⟨g417, h⟩ := h
                      refine jy_iast hS rfl g416.1 (Nat.le_of_lt g416.2) g417 ?_
                      intro I418 e9
                      have h := h I418 e9
                      clear e9
                      refine jy_goto hS rfl ?_
                      exact jy_join hS h rfl (jy_sub_s (jy_sub_n (jy_sub_n (jy_sub_n (jy_sub_n jy_sub_0)))))
                  · have h := h.2.2.2.2.1 hq7
                    refine ⟨218, by rw [hq7]; rfl, by decide, ?_⟩
                    change J 312 _ _ _ _ _ _
                    refine jy_aload_n hS rfl rfl ?_
                    obtain ⟨Q419, h⟩ := h
                    obtain ⟨g420, h⟩ := h
                    refine jy_callV hS rfl rfl rfl (Nat.le_of_ble_eq_true rfl) (Or.inl g1) g420 (by decide) ⟨by decide, by decide⟩ (Nat.le_of_ble_eq_true rfl) ?_ ?_
                    rotate_left
                    · exact fun Ex Xx Ix Rx hp => hp.2.2.2.elim
                    intro rv Xx I421 Rx hp
                    obtain ⟨e1, e2, hp⟩ := hp
                    rw [e1, e2]
                    clear e1 e2
                    obtain ⟨r422, e1, h⟩ := h rv I421 hp
                    rw [e1]
                    clear e1
                    change J 316 [jy r422] _ (0, 0) _ _ _
                    refine jy_istore_n hS rfl (Nat.le_of_ble_eq_true rfl) (L' := [some (.ref a0), some (jy r5), some (jy r422), none, none]) rfl ?_
                    refine jy_aload_n hS rfl rfl ?_
                    refine jy_aload_n hS rfl rfl ?_
                    refine jy_getR hS rfl (by decide) g1 g313 ?_
                    refine jy_iconst hS rfl ?_
                    obtain ⟨g423, h⟩ := h
                    refine jy_iald hS rfl g315.1 (Nat.le_of_lt g315.2) g423 ?_
                    refine jy_iconst hS rfl ?_
                    refine jy_isub hS rfl ?_
                    refine jy_iload_n hS rfl rfl ?_
                    obtain ⟨Q424, h⟩ := h
                    obtain ⟨g425, h⟩ := h
                    refine jy_callV hS rfl rfl rfl (Nat.le_of_ble_eq_true rfl) (Or.inl g1) g425 (by decide) ⟨by decide, by decide⟩ (Nat.le_of_ble_eq_true rfl) ?_ ?_
                    rotate_left
                    · exact fun Ex Xx Ix Rx hp => hp.2.2.2.elim
                    intro rv Xx I426 Rx hp
                    obtain ⟨e1, e2, hp⟩ := hp
                    rw [e1, e2]
                    clear e1 e2
                    obtain ⟨r427, e1, h⟩ := h rv I426 hp
                    rw [e1]
                    clear e1
                    change J 330 [jy r427] _ (0, 0) _ _ _
                    refine jy_istore_n hS rfl (Nat.le_of_ble_eq_true rfl) (L' := [some (.ref a0), some (jy r5), some (jy r422), some (jy r427), none]) rfl ?_
                    refine jy_aload_n hS rfl rfl ?_
                    refine jy_getI hS rfl (by decide) g1 ?_
                    refine jy_if_ne hS rfl (jy_rng _) (fun hq => ?_) (fun hq => ?_)
                    · have h := h.1 hq
                      refine jy_aload_n hS rfl rfl ?_
                      refine jy_bipush hS rfl (by decide) ?_
                      obtain ⟨Q428, h⟩ := h
                      obtain ⟨g429, h⟩ := h
                      refine jy_callV hS rfl rfl rfl (Nat.le_of_ble_eq_true rfl) (Or.inl g1) g429 (by decide) ⟨by decide, by decide⟩ (Nat.le_of_ble_eq_true rfl) ?_ ?_
                      rotate_left
                      · exact fun Ex Xx Ix Rx hp => hp.2.2.2.elim
                      intro rv Xx I430 Rx hp
                      obtain ⟨e1, e2, hp⟩ := hp
                      rw [e1, e2]
                      clear e1 e2
                      obtain ⟨e1, h⟩ := h rv I430 hp
                      rw [e1]
                      clear e1
                      change J 419 [] _ (0, 0) _ _ _
                      exact jy_ret hS rfl rfl ⟨rfl, rfl, h⟩
                    · have h := h.2 hq
                      refine jy_aload_n hS rfl rfl ?_
                      obtain ⟨q432, h⟩ := h
                      obtain ⟨g433, h⟩ := h
                      refine jy_getR hS rfl (by decide) g1 g433 ?_
                      refine jy_iload_n hS rfl rfl ?_
                      refine jy_iload_n hS rfl rfl ?_
                      obtain ⟨n434, h⟩ := h
                      obtain ⟨g435, h⟩ := h
                      obtain ⟨g436, h⟩ := h
                      refine jy_iast hS rfl g435.1 (Nat.le_of_lt g435.2) g436 ?_
                      intro I437 e9
                      have h := h I437 e9
                      clear e9
                      refine jy_goto hS rfl ?_
                      exact jy_join hS h rfl (jy_sub_s (jy_sub_n (jy_sub_n (jy_sub_n (jy_sub_n jy_sub_0)))))
                  · have h := h.2.2.2.2.2 hq7
                    refine ⟨254, by rw [hq7]; rfl, by decide, ?_⟩
                    change J 348 _ _ _ _ _ _
                    refine jy_aload_n hS rfl rfl ?_
                    obtain ⟨Q438, h⟩ := h
                    obtain ⟨g439, h⟩ := h
                    refine jy_callV hS rfl rfl rfl (Nat.le_of_ble_eq_true rfl) (Or.inl g1) g439 (by decide) ⟨by decide, by decide⟩ (Nat.le_of_ble_eq_true rfl) ?_ ?_
                    rotate_left
                    · exact fun Ex Xx Ix Rx hp => hp.2.2.2.elim
                    intro rv Xx I440 Rx hp
                    obtain ⟨e1, e2, hp⟩ := hp
                    rw [e1, e2]
                    clear e1 e2
                    obtain ⟨r441, e1, h⟩ := h rv I440 hp
                    rw [e1]
                    clear e1
                    change J 352 [jy r441] _ (0, 0) _ _ _
                    refine jy_istore_n hS rfl (Nat.le_of_ble_eq_true rfl) (L' := [some (.ref a0), some (jy r5), some (jy r441), none, none]) rfl ?_
                    refine jy_aload_n hS rfl rfl ?_
                    refine jy_aload_n hS rfl rfl ?_
                    refine jy_getR hS rfl (by decide) g1 g313 ?_
                    refine jy_iconst hS rfl ?_
                    obtain ⟨g442, h⟩ := h
                    refine jy_iald hS rfl g315.1 (Nat.le_of_lt g315.2) g442 ?_
                    refine jy_iconst hS rfl ?_
                    refine jy_isub hS rfl ?_
                    refine jy_iload_n hS rfl rfl ?_
                    obtain ⟨Q443, h⟩ := h
                    obtain ⟨g444, h⟩ := h
                    refine jy_callV hS rfl rfl rfl (Nat.le_of_ble_eq_true rfl) (Or.inl g1) g444 (by decide) ⟨by decide, by decide⟩ (Nat.le_of_ble_eq_true rfl) ?_ ?_
                    rotate_left
                    · exact fun Ex Xx Ix Rx hp => hp.2.2.2.elim
                    intro rv Xx I445 Rx hp
                    obtain ⟨e1, e2, hp⟩ := hp
                    rw [e1, e2]
                    clear e1 e2
                    obtain ⟨r446, e1, h⟩ := h rv I445 hp
                    rw [e1]
                    clear e1
                    change J 366 [jy r446] _ (0, 0) _ _ _
                    refine jy_istore_n hS rfl (Nat.le_of_ble_eq_true rfl) (L' := [some (.ref a0), some (jy r5), some (jy r441), some (jy r446), none]) rfl ?_
                    refine jy_aload_n hS rfl rfl ?_
                    refine jy_getI hS rfl (by decide) g1 ?_
                    refine jy_if_eq hS rfl (jy_rng _) (fun hq => ?_) (fun hq => ?_)
                    · have h := h.1 hq
                      refine jy_aload_n hS rfl rfl ?_
                      obtain ⟨q447, h⟩ := h
                      obtain ⟨g448, h⟩ := h
                      refine jy_getR hS rfl (by decide) g1 g448 ?_
                      refine jy_iload_n hS rfl rfl ?_
                      refine jy_dup2 hS rfl rfl rfl ?_
                      obtain ⟨n449, h⟩ := h
                      obtain ⟨g450, h⟩ := h
                      obtain ⟨g451, h⟩ := h
                      refine jy_iald hS rfl g450.1 (Nat.le_of_lt g450.2) g451 ?_
                      refine jy_iconst hS rfl ?_
                      refine jy_iload_n hS rfl rfl ?_
                      refine jy_ishlX hS rfl rfl ?_
                      refine jy_iorX hS rfl rfl ?_
                      obtain ⟨g452, h⟩ := h
                      refine jy_iast hS rfl g450.1 (Nat.le_of_lt g450.2) g452 ?_
                      intro I453 e9
                      have h := h I453 e9
                      clear e9
                      refine jy_aload_n hS rfl rfl ?_
                      refine jy_getR hS rfl (by decide) g1 g448 ?_
                      refine jy_iload_n hS rfl rfl ?_
                      refine jy_dup2 hS rfl rfl rfl ?_
                      obtain ⟨g454, h⟩ := h
                      refine jy_iald hS rfl g450.1 (Nat.le_of_lt g450.2) g454 ?_
                      refine jy_iconst hS rfl ?_
                      refine jy_iload_n hS rfl rfl ?_
                      refine jy_ishlX hS rfl rfl ?_
                      refine jy_iorX hS rfl rfl ?_
                      obtain ⟨g455, h⟩ := h
                      refine jy_iast hS rfl g450.1 (Nat.le_of_lt g450.2) g455 ?_
                      intro I456 e9
                      have h := h I456 e9
                      clear e9
                      refine jy_goto hS rfl ?_
                      exact jy_join hS h rfl (jy_sub_s (jy_sub_n (jy_sub_n (jy_sub_n (jy_sub_n jy_sub_0)))))
                    · have h := h.2 hq
                      refine jy_goto hS rfl ?_
                      exact jy_join hS h rfl (jy_sub_s (jy_sub_n (jy_sub_n (jy_sub_n (jy_sub_n jy_sub_0)))))
              · have h := h.2 hq
                exact jy_ret hS rfl rfl ⟨rfl, rfl, h⟩
            · have h := h.2 hq
              refine jy_aload_n hS rfl rfl ?_
              refine jy_getR hS rfl (by decide) g1 g313 ?_
              refine jy_iconst hS rfl ?_
              obtain ⟨g457, h⟩ := h
              refine jy_iald hS rfl g315.1 (Nat.le_of_lt g315.2) g457 ?_
              refine jy_bipush hS rfl (by decide) ?_
              refine jy_icmp_ne hS rfl ⟨(jy_rng _), ⟨by decide, by decide⟩⟩ (fun hq => ?_) (fun hq => ?_)
              · have h := h.1 hq
                refine jy_aload_n hS rfl rfl ?_
                refine jy_getI hS rfl (by decide) g1 ?_
                refine jy_if_eq hS rfl (jy_rng _) (fun hq => ?_) (fun hq => ?_)
                · have h := h.1 hq
                  refine jy_aload_n hS rfl rfl ?_
                  obtain ⟨Q458, h⟩ := h
                  obtain ⟨g459, h⟩ := h
                  refine jy_callV hS rfl rfl rfl (Nat.le_of_ble_eq_true rfl) (Or.inl g1) g459 (by decide) ⟨by decide, by decide⟩ (Nat.le_of_ble_eq_true rfl) ?_ ?_
                  rotate_left
                  · exact fun Ex Xx Ix Rx hp => hp.2.2.2.elim
                  intro rv Xx I460 Rx hp
                  obtain ⟨e1, e2, hp⟩ := hp
                  rw [e1, e2]
                  clear e1 e2
                  obtain ⟨e1, h⟩ := h rv I460 hp
                  rw [e1]
                  clear e1
                  change J 83 [] _ (0, 0) _ _ _
                  refine jy_aload_n hS rfl rfl ?_
                  refine jy_dup hS rfl rfl ?_
                  refine jy_getI hS rfl (by decide) g1 ?_
                  refine jy_iconst hS rfl ?_
                  refine jy_iadd hS rfl ?_
                  refine jy_putI hS rfl (by decide) g1 ?_
                  intro I462 e9
                  have h := h I462 e9
                  clear e9
                  refine jy_iload_n hS rfl rfl ?_
                  refine jy_tsw hS rfl g6 (fun hq => ?_) (fun hq8 hq => ?_)
                  · have h := h.1 hq
                    refine ⟨by decide, ?_⟩
                    change J 404 _ _ _ _ _ _
                    refine jy_aload_n hS rfl rfl ?_
                    refine jy_iconst hS rfl ?_
                    refine jy_putI hS rfl (by decide) g1 ?_
                    intro I463 e9
                    have h := h I463 e9
                    clear e9
                    refine jy_aload_n hS rfl rfl ?_
                    obtain ⟨d465, g466, h⟩ := h
                    obtain ⟨Q464, h⟩ := h
                    obtain ⟨g467, h⟩ := h
                    refine jy_callV hS rfl rfl rfl (Nat.le_of_ble_eq_true rfl) (Or.inl g1) g467 g466 ⟨by decide, by decide⟩ (Nat.le_of_ble_eq_true rfl) ?_ ?_
                    rotate_left
                    · exact fun Ex Xx Ix Rx hp => hp.2.2.2.elim
                    intro rv Xx I468 Rx hp
                    obtain ⟨e1, e2, hp⟩ := hp
                    rw [e1, e2]
                    clear e1 e2
                    obtain ⟨e1, h⟩ := h rv I468 hp
                    rw [e1]
                    clear e1
                    change J 413 [] _ (0, 0) _ _ _
                    exact jy_join hS h rfl (jy_sub_s (jy_sub_n (jy_sub_n (jy_sub_n (jy_sub_n jy_sub_0)))))
                  · have h := h.2
                    have hq7 : r5 = 0 ∨ r5 = 1 ∨ r5 = 2 ∨ r5 = 3 ∨ r5 = 4 ∨ r5 = 5 := by omega
                    rcases hq7 with hq7 | hq7 | hq7 | hq7 | hq7 | hq7
                    · have h := h.1 hq7
                      refine ⟨38, by rw [hq7]; rfl, by decide, ?_⟩
                      change J 132 _ _ _ _ _ _
                      refine jy_aload_n hS rfl rfl ?_
                      obtain ⟨q470, h⟩ := h
                      obtain ⟨g471, h⟩ := h
                      refine jy_getR hS rfl (by decide) g1 g471 ?_
                      refine jy_aload_n hS rfl rfl ?_
                      refine jy_getR hS rfl (by decide) g1 g313 ?_
                      refine jy_iconst hS rfl ?_
                      obtain ⟨g472, h⟩ := h
                      refine jy_iald hS rfl g315.1 (Nat.le_of_lt g315.2) g472 ?_
                      refine jy_aload_n hS rfl rfl ?_
                      refine jy_iconst hS rfl ?_
                      refine jy_iconst hS rfl ?_
                      obtain ⟨Q473, h⟩ := h
                      obtain ⟨g474, h⟩ := h
                      refine jy_callV hS rfl rfl rfl (Nat.le_of_ble_eq_true rfl) (Or.inl g1) g474 (by decide) ⟨by decide, by decide⟩ (Nat.le_of_ble_eq_true rfl) ?_ ?_
                      rotate_left
                      · exact fun Ex Xx Ix Rx hp => hp.2.2.2.elim
                      intro rv Xx I475 Rx hp
                      obtain ⟨e1, e2, hp⟩ := hp
                      rw [e1, e2]
                      clear e1 e2
                      obtain ⟨r476, e1, h⟩ := h rv I475 hp
                      rw [e1]
                      clear e1
                      change J 148 [jy r476, jy ((I462 q312 (0 : Int).toNat).toInt), .ref q470] _ (0, 0) _ _ _
                      obtain ⟨n477, h⟩ := h
                      obtain ⟨g478, h⟩ := h
                      obtain ⟨g479, h⟩ := h
                      refine jy_iast hS rfl g478.1 (Nat.le_of_lt g478.2) g479 ?_
                      intro I480 e9
                      have h := h I480 e9
                      clear e9
                      refine jy_aload_n hS rfl rfl ?_
                      refine jy_getR hS rfl (by decide) g1 g313 ?_
                      refine jy_iconst hS rfl ?_
                      refine jy_dup2 hS rfl rfl rfl ?_
                      obtain ⟨g481, h⟩ := h
                      refine jy_iald hS rfl g315.1 (Nat.le_of_lt g315.2) g481 ?_
                      refine jy_aload_n hS rfl rfl ?_
                      refine jy_getI hS rfl (by decide) g1 ?_
                      refine jy_if_ne hS rfl (jy_rng _) (fun hq => ?_) (fun hq => ?_)
                      · have h := h.1 hq
                        refine jy_iconst hS rfl ?_
                        exact jy_join hS h rfl (jy_sub_s (jy_sub_n (jy_sub_n (jy_sub_n (jy_sub_n jy_sub_0)))))
                      · have h := h.2 hq
                        refine jy_iconst hS rfl ?_
                        refine jy_goto hS rfl ?_
                        exact jy_join hS h rfl (jy_sub_s (jy_sub_n (jy_sub_n (jy_sub_n (jy_sub_n jy_sub_0)))))
                    · have h := h.2.1 hq7
                      refine ⟨79, by rw [hq7]; rfl, by decide, ?_⟩
                      change J 173 _ _ _ _ _ _
                      refine jy_aload_n hS rfl rfl ?_
                      obtain ⟨Q482, h⟩ := h
                      obtain ⟨g483, h⟩ := h
                      refine jy_callV hS rfl rfl rfl (Nat.le_of_ble_eq_true rfl) (Or.inl g1) g483 (by decide) ⟨by decide, by decide⟩ (Nat.le_of_ble_eq_true rfl) ?_ ?_
                      rotate_left
                      · exact fun Ex Xx Ix Rx hp => hp.2.2.2.elim
                      intro rv Xx I484 Rx hp
                      obtain ⟨e1, e2, hp⟩ := hp
                      rw [e1, e2]
                      clear e1 e2
                      obtain ⟨e1, h⟩ := h rv I484 hp
                      rw [e1]
                      clear e1
                      change J 177 [] _ (0, 0) _ _ _
                      refine jy_goto hS rfl ?_
                      exact jy_join hS h rfl (jy_sub_s (jy_sub_n (jy_sub_n (jy_sub_n (jy_sub_n jy_sub_0)))))
                    · have h := h.2.2.1 hq7
                      refine ⟨86, by rw [hq7]; rfl, by decide, ?_⟩
                      change J 180 _ _ _ _ _ _
                      refine jy_aload_n hS rfl rfl ?_
                      refine jy_iconst hS rfl ?_
                      refine jy_aload_n hS rfl rfl ?_
                      refine jy_getR hS rfl (by decide) g1 g313 ?_
                      refine jy_iconst hS rfl ?_
                      obtain ⟨g486, h⟩ := h
                      refine jy_iald hS rfl g315.1 (Nat.le_of_lt g315.2) g486 ?_
                      refine jy_iconst hS rfl ?_
                      refine jy_isub hS rfl ?_
                      obtain ⟨Q487, h⟩ := h
                      obtain ⟨g488, h⟩ := h
                      refine jy_callV hS rfl rfl rfl (Nat.le_of_ble_eq_true rfl) (Or.inl g1) g488 (by decide) ⟨by decide, by decide⟩ (Nat.le_of_ble_eq_true rfl) ?_ ?_
                      rotate_left
                      · exact fun Ex Xx Ix Rx hp => hp.2.2.2.elim
                      intro rv Xx I489 Rx hp
                      obtain ⟨e1, e2, hp⟩ := hp
                      rw [e1, e2]
                      clear e1 e2
                      obtain ⟨r490, e1, h⟩ := h rv I489 hp
                      rw [e1]
                      clear e1
                      change J 193 [jy r490] _ (0, 0) _ _ _
                      refine jy_istore_n hS rfl (Nat.le_of_ble_eq_true rfl) (L' := [some (.ref a0), some (jy r5), some (jy r490), none, none]) rfl ?_
                      refine jy_aload_n hS rfl rfl ?_
                      refine jy_aload_n hS rfl rfl ?_
                      refine jy_getR hS rfl (by decide) g1 g313 ?_
                      refine jy_iconst hS rfl ?_
                      obtain ⟨g491, h⟩ := h
                      refine jy_iald hS rfl g315.1 (Nat.le_of_lt g315.2) g491 ?_
                      refine jy_iconst hS rfl ?_
                      refine jy_isub hS rfl ?_
                      refine jy_iload_n hS rfl rfl ?_
                      obtain ⟨Q492, h⟩ := h
                      obtain ⟨g493, h⟩ := h
                      refine jy_callV hS rfl rfl rfl (Nat.le_of_ble_eq_true rfl) (Or.inl g1) g493 (by decide) ⟨by decide, by decide⟩ (Nat.le_of_ble_eq_true rfl) ?_ ?_
                      rotate_left
                      · exact fun Ex Xx Ix Rx hp => hp.2.2.2.elim
                      intro rv Xx I494 Rx hp
                      obtain ⟨e1, e2, hp⟩ := hp
                      rw [e1, e2]
                      clear e1 e2
                      obtain ⟨r495, e1, h⟩ := h rv I494 hp
                      rw [e1]
                      clear e1
                      change J 207 [jy r495] _ (0, 0) _ _ _
                      refine jy_istore_n hS rfl (Nat.le_of_ble_eq_true rfl) (L' := [some (.ref a0), some (jy r5), some (jy r490), some (jy r495), none]) rfl ?_
                      refine jy_aload_n hS rfl rfl ?_
                      refine jy_iconst hS rfl ?_
                      refine jy_bipush hS rfl (by decide) ?_
                      obtain ⟨Q496, h⟩ := h
                      obtain ⟨g497, h⟩ := h
                      refine jy_callV hS rfl rfl rfl (Nat.le_of_ble_eq_true rfl) (Or.inl g1) g497 (by decide) ⟨by decide, by decide⟩ (Nat.le_of_ble_eq_true rfl) ?_ ?_
                      rotate_left
                      · exact fun Ex Xx Ix Rx hp => hp.2.2.2.elim
                      intro rv Xx I498 Rx hp
                      obtain ⟨e1, e2, hp⟩ := hp
                      rw [e1, e2]
                      clear e1 e2
                      obtain ⟨r499, e1, h⟩ := h rv I498 hp
                      rw [e1]
                      clear e1
                      change J 215 [jy r499] _ (0, 0) _ _ _
                      refine jy_istore hS rfl (Nat.le_of_ble_eq_true rfl) (L' := [some (.ref a0), some (jy r5), some (jy r490), some (jy r495), some (jy r499)]) rfl ?_
                      refine jy_aload_n hS rfl rfl ?_
                      refine jy_getI hS rfl (by decide) g1 ?_
                      refine jy_if_eq hS rfl (jy_rng _) (fun hq => ?_) (fun hq => ?_)
                      · have h := h.1 hq
                        refine jy_aload_n hS rfl rfl ?_
                        obtain ⟨q500, h⟩ := h
                        obtain ⟨g501, h⟩ := h
                        refine jy_getR hS rfl (by decide) g1 g501 ?_
                        refine jy_iload_n hS rfl rfl ?_
                        obtain ⟨n502, h⟩ := h
                        obtain ⟨g503, h⟩ := h
                        obtain ⟨g504, h⟩ := h
                        obtain ⟨q505, h⟩ := h
                        obtain ⟨g506, h⟩ := h
                        refine jy_aald hS rfl g503.1 (by decide) (Nat.le_of_lt g503.2) g504 g506 ?_
                        refine jy_iload_n hS rfl rfl ?_
                        refine jy_iload hS rfl rfl ?_
                        obtain ⟨n507, h⟩ := h
                        obtain ⟨g508, h⟩ := h
                        obtain ⟨g509, h⟩ := h
                        refine jy_iast hS rfl g508.1 (Nat.le_of_lt g508.2) g509 ?_
                        intro I510 e9
                        have h := h I510 e9
                        clear e9
                        refine jy_aload_n hS rfl rfl ?_
                        refine jy_getR hS rfl (by decide) g1 g501 ?_
                        refine jy_iload_n hS rfl rfl ?_
                        obtain ⟨g511, h⟩ := h
                        obtain ⟨q512, h⟩ := h
                        obtain ⟨g513, h⟩ := h
                        refine jy_aald hS rfl g503.1 (by decide) (Nat.le_of_lt g503.2) g511 g513 ?_
                        refine jy_iload_n hS rfl rfl ?_
                        refine jy_iload hS rfl rfl ?_
                        obtain ⟨n514, h⟩ := h
                        obtain ⟨g515, h⟩ := h
                        obtain ⟨g516, h⟩ := h
                        refine jy_iast hS rfl g515.1 (Nat.le_of_lt g515.2) g516 ?_
                        intro I517 e9
                        have h := h I517 e9
                        clear e9
                        refine jy_goto hS rfl ?_
                        exact jy_join hS h rfl (jy_sub_s (jy_sub_n (jy_sub_n (jy_sub_n (jy_sub_n jy_sub_0)))))
                      · have h := h.2 hq
                        refine jy_goto hS rfl ?_
                        exact jy_join hS h rfl (jy_sub_s (jy_sub_n (jy_sub_n (jy_sub_n (jy_sub_n jy_sub_0)))))
                    · have h := h.2.2.2.1 hq7
                      refine ⟨156, by rw [hq7]; rfl, by decide, ?_⟩
                      change J 250 _ _ _ _ _ _
                      refine jy_aload_n hS rfl rfl ?_
                      obtain ⟨Q518, h⟩ := h
                      obtain ⟨g519, h⟩ := h
                      refine jy_callV hS rfl rfl rfl (Nat.le_of_ble_eq_true rfl) (Or.inl g1) g519 (by decide) ⟨by decide, by decide⟩ (Nat.le_of_ble_eq_true rfl) ?_ ?_
                      rotate_left
                      · exact fun Ex Xx Ix Rx hp => hp.2.2.2.elim
                      intro rv Xx I520 Rx hp
                      obtain ⟨e1, e2, hp⟩ := hp
                      rw [e1, e2]
                      clear e1 e2
                      obtain ⟨r521, e1, h⟩ := h rv I520 hp
                      rw [e1]
                      clear e1
                      change J 254 [jy r521] _ (0, 0) _ _ _
                      refine jy_istore_n hS rfl (Nat.le_of_ble_eq_true rfl) (L' := [some (.ref a0), some (jy r5), some (jy r521), none, none]) rfl ?_
                      refine jy_aload_n hS rfl rfl ?_
                      refine jy_iconst hS rfl ?_
                      refine jy_aload_n hS rfl rfl ?_
                      refine jy_getR hS rfl (by decide) g1 g313 ?_
                      refine jy_iconst hS rfl ?_
                      obtain ⟨g522, h⟩ := h
                      refine jy_iald hS rfl g315.1 (Nat.le_of_lt g315.2) g522 ?_
                      refine jy_iconst hS rfl ?_
                      refine jy_isub hS rfl ?_
                      obtain ⟨Q523, h⟩ := h
                      obtain ⟨g524, h⟩ := h
                      refine jy_callV hS rfl rfl rfl (Nat.le_of_ble_eq_true rfl) (Or.inl g1) g524 (by decide) ⟨by decide, by decide⟩ (Nat.le_of_ble_eq_true rfl) ?_ ?_
                      rotate_left
                      · exact fun Ex Xx Ix Rx hp => hp.2.2.2.elim
                      intro rv Xx I525 Rx hp
                      obtain ⟨e1, e2, hp⟩ := hp
                      rw [e1, e2]
                      clear e1 e2
                      obtain ⟨r526, e1, h⟩ := h rv I525 hp
                      rw [e1]
                      clear e1
                      change J 268 [jy r526] _ (0, 0) _ _ _
                      refine jy_istore_n hS rfl (Nat.le_of_ble_eq_true rfl) (L' := [some (.ref a0), some (jy r5), some (jy r521), some (jy r526), none]) rfl ?_
                      refine jy_aload_n hS rfl rfl ?_
                      refine jy_iconst hS rfl ?_
                      refine jy_bipush hS rfl (by decide) ?_
                      obtain ⟨Q527, h⟩ := h
                      obtain ⟨g528, h⟩ := h
                      refine jy_callV hS rfl rfl rfl (Nat.le_of_ble_eq_true rfl) (Or.inl g1) g528 (by decide) ⟨by decide, by decide⟩ (Nat.le_of_ble_eq_true rfl) ?_ ?_
                      rotate_left
                      · exact fun Ex Xx Ix Rx hp => hp.2.2.2.elim
                      intro rv Xx I529 Rx hp
                      obtain ⟨e1, e2, hp⟩ := hp
                      rw [e1, e2]
                      clear e1 e2
                      obtain ⟨r530, e1, h⟩ := h rv I529 hp
                      rw [e1]
                      clear e1
                      change J 276 [jy r530] _ (0, 0) _ _ _
                      refine jy_istore hS rfl (Nat.le_of_ble_eq_true rfl) (L' := [some (.ref a0), some (jy r5), some (jy r521), some (jy r526), some (jy r530)]) rfl ?_
                      refine jy_aload_n hS rfl rfl ?_
                      refine jy_getI hS rfl (by decide) g1 ?_
                      refine jy_if_ne hS rfl (jy_rng _) (fun hq => ?_) (fun hq => ?_)
                      · have h := h.1 hq
                        refine jy_aload_n hS rfl rfl ?_
                        refine jy_bipush hS rfl (by decide) ?_
                        obtain ⟨Q531, h⟩ := h
                        obtain ⟨g532, h⟩ := h
                        refine jy_callV hS rfl rfl rfl (Nat.le_of_ble_eq_true rfl) (Or.inl g1) g532 (by decide) ⟨by decide, by decide⟩ (Nat.le_of_ble_eq_true rfl) ?_ ?_
                        rotate_left
                        · exact fun Ex Xx Ix Rx hp => hp.2.2.2.elim
                        intro rv Xx I533 Rx hp
                        obtain ⟨e1, e2, hp⟩ := hp
                        rw [e1, e2]
                        clear e1 e2
                        obtain ⟨e1, h⟩ := h rv I533 hp
                        rw [e1]
                        clear e1
                        change J 419 [] _ (0, 0) _ _ _
                        exact jy_ret hS rfl rfl ⟨rfl, rfl, h⟩
                      · have h := h.2 hq
                        refine jy_aload_n hS rfl rfl ?_
                        obtain ⟨q535, h⟩ := h
                        obtain ⟨g536, h⟩ := h
                        refine jy_getR hS rfl (by decide) g1 g536 ?_
                        refine jy_iload_n hS rfl rfl ?_
                        obtain ⟨n537, h⟩ := h
                        obtain ⟨g538, h⟩ := h
                        obtain ⟨g539, h⟩ := h
                        obtain ⟨q540, h⟩ := h
                        obtain ⟨g541, h⟩ := h
                        refine jy_aald hS rfl g538.1 (by decide) (Nat.le_of_lt g538.2) g539 g541 ?_
                        refine jy_iload_n hS rfl rfl ?_
                        refine jy_bipush hS rfl (by decide) ?_
                        refine jy_aload_n hS rfl rfl ?_
                        refine jy_getR hS rfl (by decide) g1 g536 ?_
                        refine jy_iload_n hS rfl rfl ?_
                        obtain ⟨g542, h⟩ := h
                        obtain ⟨q543, h⟩ := h
                        obtain ⟨g544, h⟩ := h
                        refine jy_aald hS rfl g538.1 (by decide) (Nat.le_of_lt g538.2) g542 g544 ?_
                        refine jy_iload_n hS rfl rfl ?_
                        obtain ⟨n545, h⟩ := h
                        obtain ⟨g546, h⟩ := h
                        obtain ⟨g547, h⟩ := h
                        refine jy_iald hS rfl g546.1 (Nat.le_of_lt g546.2) g547 ?_
                        refine jy_iload hS rfl rfl ?_
                        refine jy_iadd hS rfl ?_
                        obtain ⟨Q548, h⟩ := h
                        obtain ⟨g549, h⟩ := h
                        refine jy_callS hS rfl rfl rfl (Nat.le_of_ble_eq_true rfl) g549 (by decide) ⟨by decide, by decide⟩ (Nat.le_of_ble_eq_true rfl) ?_ ?_
                        rotate_left
                        · exact fun Ex Xx Ix Rx hp => hp.2.2.2.elim
                        intro rv Xx I550 Rx hp
                        obtain ⟨e1, e2, hp⟩ := hp
                        rw [e1, e2]
                        clear e1 e2
                        obtain ⟨r551, e1, h⟩ := h rv I550 hp
                        rw [e1]
                        clear e1
                        change J 308 [jy r551, jy r526, .ref q540] _ (0, 0) _ _ _
                        obtain ⟨n552, h⟩ := h
                        obtain ⟨g553, h⟩ := h
                        obtain ⟨g554, h⟩ := h
                        refine jy_iast hS rfl g553.1 (Nat.le_of_lt g553.2) g554 ?_
                        intro I555 e9
                        have h := h I555 e9
                        clear e9
                        refine jy_goto hS rfl ?_
                        exact jy_join hS h rfl (jy_sub_s (jy_sub_n (jy_sub_n (jy_sub_n (jy_sub_n jy_sub_0)))))
                    · have h := h.2.2.2.2.1 hq7
                      refine ⟨218, by rw [hq7]; rfl, by decide, ?_⟩
                      change J 312 _ _ _ _ _ _
                      refine jy_aload_n hS rfl rfl ?_
                      obtain ⟨Q556, h⟩ := h
                      obtain ⟨g557, h⟩ := h
                      refine jy_callV hS rfl rfl rfl (Nat.le_of_ble_eq_true rfl) (Or.inl g1) g557 (by decide) ⟨by decide, by decide⟩ (Nat.le_of_ble_eq_true rfl) ?_ ?_
                      rotate_left
                      · exact fun Ex Xx Ix Rx hp => hp.2.2.2.elim
                      intro rv Xx I558 Rx hp
                      obtain ⟨e1, e2, hp⟩ := hp
                      rw [e1, e2]
                      clear e1 e2
                      obtain ⟨r559, e1, h⟩ := h rv I558 hp
                      rw [e1]
                      clear e1
                      change J 316 [jy r559] _ (0, 0) _ _ _
                      refine jy_istore_n hS rfl (Nat.le_of_ble_eq_true rfl) (L' := [some (.ref a0), some (jy r5), some (jy r559), none, none]) rfl ?_
                      refine jy_aload_n hS rfl rfl ?_
                      refine jy_aload_n hS rfl rfl ?_
                      refine jy_getR hS rfl (by decide) g1 g313 ?_
                      refine jy_iconst hS rfl ?_
                      obtain ⟨g560, h⟩ := h
                      refine jy_iald hS rfl g315.1 (Nat.le_of_lt g315.2) g560 ?_
                      refine jy_iconst hS rfl ?_
                      refine jy_isub hS rfl ?_
                      refine jy_iload_n hS rfl rfl ?_
                      obtain ⟨Q561, h⟩ := h
                      obtain ⟨g562, h⟩ := h
                      refine jy_callV hS rfl rfl rfl (Nat.le_of_ble_eq_true rfl) (Or.inl g1) g562 (by decide) ⟨by decide, by decide⟩ (Nat.le_of_ble_eq_true rfl) ?_ ?_
                      rotate_left
                      · exact fun Ex Xx Ix Rx hp => hp.2.2.2.elim
                      intro rv Xx I563 Rx hp
                      obtain ⟨e1, e2, hp⟩ := hp
                      rw [e1, e2]
                      clear e1 e2
                      obtain ⟨r564, e1, h⟩ := h rv I563 hp
                      rw [e1]
                      clear e1
                      change J 330 [jy r564] _ (0, 0) _ _ _
                      refine jy_istore_n hS rfl (Nat.le_of_ble_eq_true rfl) (L' := [some (.ref a0), some (jy r5), some (jy r559), some (jy r564), none]) rfl ?_
                      refine jy_aload_n hS rfl rfl ?_
                      refine jy_getI hS rfl (by decide) g1 ?_
                      refine jy_if_ne hS rfl (jy_rng _) (fun hq => ?_) (fun hq => ?_)
                      · have h := h.1 hq
                        refine jy_aload_n hS rfl rfl ?_
                        refine jy_bipush hS rfl (by decide) ?_
                        obtain ⟨Q565, h⟩ := h
                        obtain ⟨g566, h⟩ := h
                        refine jy_callV hS rfl rfl rfl (Nat.le_of_ble_eq_true rfl) (Or.inl g1) g566 (by decide) ⟨by decide, by decide⟩ (Nat.le_of_ble_eq_true rfl) ?_ ?_
                        rotate_left
                        · exact fun Ex Xx Ix Rx hp => hp.2.2.2.elim
                        intro rv Xx I567 Rx hp
                        obtain ⟨e1, e2, hp⟩ := hp
                        rw [e1, e2]
                        clear e1 e2
                        obtain ⟨e1, h⟩ := h rv I567 hp
                        rw [e1]
                        clear e1
                        change J 419 [] _ (0, 0) _ _ _
                        exact jy_ret hS rfl rfl ⟨rfl, rfl, h⟩
                      · have h := h.2 hq
                        refine jy_aload_n hS rfl rfl ?_
                        obtain ⟨q569, h⟩ := h
                        obtain ⟨g570, h⟩ := h
                        refine jy_getR hS rfl (by decide) g1 g570 ?_
                        refine jy_iload_n hS rfl rfl ?_
                        refine jy_iload_n hS rfl rfl ?_
                        obtain ⟨n571, h⟩ := h
                        obtain ⟨g572, h⟩ := h
                        obtain ⟨g573, h⟩ := h
                        refine jy_iast hS rfl g572.1 (Nat.le_of_lt g572.2) g573 ?_
                        intro I574 e9
                        have h := h I574 e9
                        clear e9
                        refine jy_goto hS rfl ?_
                        exact jy_join hS h rfl (jy_sub_s (jy_sub_n (jy_sub_n (jy_sub_n (jy_sub_n jy_sub_0)))))
                    · have h := h.2.2.2.2.2 hq7
                      refine ⟨254, by rw [hq7]; rfl, by decide, ?_⟩
                      change J 348 _ _ _ _ _ _
                      refine jy_aload_n hS rfl rfl ?_
                      obtain ⟨Q575, h⟩ := h
                      obtain ⟨g576, h⟩ := h
                      refine jy_callV hS rfl rfl rfl (Nat.le_of_ble_eq_true rfl) (Or.inl g1) g576 (by decide) ⟨by decide, by decide⟩ (Nat.le_of_ble_eq_true rfl) ?_ ?_
                      rotate_left
                      · exact fun Ex Xx Ix Rx hp => hp.2.2.2.elim
                      intro rv Xx I577 Rx hp
                      obtain ⟨e1, e2, hp⟩ := hp
                      rw [e1, e2]
                      clear e1 e2
                      obtain ⟨r578, e1, h⟩ := h rv I577 hp
                      rw [e1]
                      clear e1
                      change J 352 [jy r578] _ (0, 0) _ _ _
                      refine jy_istore_n hS rfl (Nat.le_of_ble_eq_true rfl) (L' := [some (.ref a0), some (jy r5), some (jy r578), none, none]) rfl ?_
                      refine jy_aload_n hS rfl rfl ?_
                      refine jy_aload_n hS rfl rfl ?_
                      refine jy_getR hS rfl (by decide) g1 g313 ?_
                      refine jy_iconst hS rfl ?_
                      obtain ⟨g579, h⟩ := h
                      refine jy_iald hS rfl g315.1 (Nat.le_of_lt g315.2) g579 ?_
                      refine jy_iconst hS rfl ?_
                      refine jy_isub hS rfl ?_
                      refine jy_iload_n hS rfl rfl ?_
                      obtain ⟨Q580, h⟩ := h
                      obtain ⟨g581, h⟩ := h
                      refine jy_callV hS rfl rfl rfl (Nat.le_of_ble_eq_true rfl) (Or.inl g1) g581 (by decide) ⟨by decide, by decide⟩ (Nat.le_of_ble_eq_true rfl) ?_ ?_
                      rotate_left
                      · exact fun Ex Xx Ix Rx hp => hp.2.2.2.elim
                      intro rv Xx I582 Rx hp
                      obtain ⟨e1, e2, hp⟩ := hp
                      rw [e1, e2]
                      clear e1 e2
                      obtain ⟨r583, e1, h⟩ := h rv I582 hp
                      rw [e1]
                      clear e1
                      change J 366 [jy r583] _ (0, 0) _ _ _
                      refine jy_istore_n hS rfl (Nat.le_of_ble_eq_true rfl) (L' := [some (.ref a0), some (jy r5), some (jy r578), some (jy r583), none]) rfl ?_
                      refine jy_aload_n hS rfl rfl ?_
                      refine jy_getI hS rfl (by decide) g1 ?_
                      refine jy_if_eq hS rfl (jy_rng _) (fun hq => ?_) (fun hq => ?_)
                      · have h := h.1 hq
                        refine jy_aload_n hS rfl rfl ?_
                        obtain ⟨q584, h⟩ := h
                        obtain ⟨g585, h⟩ := h
                        refine jy_getR hS rfl (by decide) g1 g585 ?_
                        refine jy_iload_n hS rfl rfl ?_
                        refine jy_dup2 hS rfl rfl rfl ?_
                        obtain ⟨n586, h⟩ := h
                        obtain ⟨g587, h⟩ := h
                        obtain ⟨g588, h⟩ := h
                        refine jy_iald hS rfl g587.1 (Nat.le_of_lt g587.2) g588 ?_
                        refine jy_iconst hS rfl ?_
                        refine jy_iload_n hS rfl rfl ?_
                        refine jy_ishlX hS rfl rfl ?_
                        refine jy_iorX hS rfl rfl ?_
                        obtain ⟨g589, h⟩ := h
                        refine jy_iast hS rfl g587.1 (Nat.le_of_lt g587.2) g589 ?_
                        intro I590 e9
                        have h := h I590 e9
                        clear e9
                        refine jy_aload_n hS rfl rfl ?_
                        refine jy_getR hS rfl (by decide) g1 g585 ?_
                        refine jy_iload_n hS rfl rfl ?_
                        refine jy_dup2 hS rfl rfl rfl ?_
                        obtain ⟨g591, h⟩ := h
                        refine jy_iald hS rfl g587.1 (Nat.le_of_lt g587.2) g591 ?_
                        refine jy_iconst hS rfl ?_
                        refine jy_iload_n hS rfl rfl ?_
                        refine jy_ishlX hS rfl rfl ?_
                        refine jy_iorX hS rfl rfl ?_
                        obtain ⟨g592, h⟩ := h
                        refine jy_iast hS rfl g587.1 (Nat.le_of_lt g587.2) g592 ?_
                        intro I593 e9
                        have h := h I593 e9
                        clear e9
                        refine jy_goto hS rfl ?_
                        exact jy_join hS h rfl (jy_sub_s (jy_sub_n (jy_sub_n (jy_sub_n (jy_sub_n jy_sub_0)))))
                      · have h := h.2 hq
                        refine jy_goto hS rfl ?_
                        exact jy_join hS h rfl (jy_sub_s (jy_sub_n (jy_sub_n (jy_sub_n (jy_sub_n jy_sub_0)))))
                · have h := h.2 hq
                  exact jy_ret hS rfl rfl ⟨rfl, rfl, h⟩
              · have h := h.2 hq
                refine jy_aload_n hS rfl rfl ?_
                refine jy_iconst hS rfl ?_
                refine jy_aload_n hS rfl rfl ?_
                refine jy_getI hS rfl (by decide) g1 ?_
                obtain ⟨Q594, h⟩ := h
                obtain ⟨g595, h⟩ := h
                refine jy_callV hS rfl rfl rfl (Nat.le_of_ble_eq_true rfl) (Or.inl g1) g595 (by decide) ⟨by decide, by decide⟩ (Nat.le_of_ble_eq_true rfl) ?_ ?_
                rotate_left
                · exact fun Ex Xx Ix Rx hp => hp.2.2.2.elim
                intro rv Xx I596 Rx hp
                obtain ⟨e1, e2, hp⟩ := hp
                rw [e1, e2]
                clear e1 e2
                obtain ⟨e1, h⟩ := h rv I596 hp
                rw [e1]
                clear e1
                change J 71 [] _ (0, 0) _ _ _
                exact jy_join hS h rfl (jy_sub_s (jy_sub_s (jy_sub_n (jy_sub_n (jy_sub_n jy_sub_0)))))
    · have h := h.2 hq
      refine jy_aload_n hS rfl rfl ?_
      refine jy_iconst hS rfl ?_
      refine jy_aload_n hS rfl rfl ?_
      refine jy_getI hS rfl (by decide) g1 ?_
      obtain ⟨Q598, h⟩ := h
      obtain ⟨g599, h⟩ := h
      refine jy_callV hS rfl rfl rfl (Nat.le_of_ble_eq_true rfl) (Or.inl g1) g599 (by decide) ⟨by decide, by decide⟩ (Nat.le_of_ble_eq_true rfl) ?_ ?_
      rotate_left
      · exact fun Ex Xx Ix Rx hp => hp.2.2.2.elim
      intro rv Xx I600 Rx hp
      obtain ⟨e1, e2, hp⟩ := hp
      rw [e1, e2]
      clear e1 e2
      obtain ⟨e1, h⟩ := h rv I600 hp
      rw [e1]
      clear e1
      change J 19 [] _ (0, 0) _ _ _
      refine jy_goto hS rfl ?_
      exact jy_join hS h rfl (jy_sub_s (jy_sub_s (jy_sub_n (jy_sub_n (jy_sub_n jy_sub_0)))))
  refine ⟨?_, ?_, ?_⟩
  · intro l1 I h
    unfold wz_222_71 at h
    refine jy_aload_n hS rfl rfl ?_
    obtain ⟨g611, h⟩ := h
    refine jy_getI hS rfl (by decide) g611 ?_
    refine jy_if_eq hS rfl (jy_rng _) (fun hq => ?_) (fun hq => ?_)
    · have h := h.1 hq
      refine jy_aload_n hS rfl rfl ?_
      obtain ⟨Q612, h⟩ := h
      obtain ⟨g613, h⟩ := h
      refine jy_callV hS rfl rfl rfl (Nat.le_of_ble_eq_true rfl) (Or.inl g611) g613 (by decide) ⟨by decide, by decide⟩ (Nat.le_of_ble_eq_true rfl) ?_ ?_
      rotate_left
      · exact fun Ex Xx Ix Rx hp => hp.2.2.2.elim
      intro rv Xx I614 Rx hp
      obtain ⟨e1, e2, hp⟩ := hp
      rw [e1, e2]
      clear e1 e2
      obtain ⟨e1, h⟩ := h rv I614 hp
      rw [e1]
      clear e1
      change J 83 [] _ (0, 0) _ _ _
      refine jy_aload_n hS rfl rfl ?_
      refine jy_dup hS rfl rfl ?_
      refine jy_getI hS rfl (by decide) g611 ?_
      refine jy_iconst hS rfl ?_
      refine jy_iadd hS rfl ?_
      refine jy_putI hS rfl (by decide) g611 ?_
      intro I616 e9
      have h := h I616 e9
      clear e9
      refine jy_iload_n hS rfl rfl ?_
      obtain ⟨g617, h⟩ := h
      refine jy_tsw hS rfl g617 (fun hq => ?_) (fun hq8 hq => ?_)
      · have h := h.1 hq
        refine ⟨by decide, ?_⟩
        change J 404 _ _ _ _ _ _
        refine jy_aload_n hS rfl rfl ?_
        refine jy_iconst hS rfl ?_
        refine jy_putI hS rfl (by decide) g611 ?_
        intro I618 e9
        have h := h I618 e9
        clear e9
        refine jy_aload_n hS rfl rfl ?_
        obtain ⟨d620, g621, h⟩ := h
        obtain ⟨Q619, h⟩ := h
        obtain ⟨g622, h⟩ := h
        refine jy_callV hS rfl rfl rfl (Nat.le_of_ble_eq_true rfl) (Or.inl g611) g622 g621 ⟨by decide, by decide⟩ (Nat.le_of_ble_eq_true rfl) ?_ ?_
        rotate_left
        · exact fun Ex Xx Ix Rx hp => hp.2.2.2.elim
        intro rv Xx I623 Rx hp
        obtain ⟨e1, e2, hp⟩ := hp
        rw [e1, e2]
        clear e1 e2
        obtain ⟨e1, h⟩ := h rv I623 hp
        rw [e1]
        clear e1
        change J 413 [] _ (0, 0) _ _ _
        exact jy_join hS h rfl (jy_sub_s (jy_sub_n (jy_sub_n (jy_sub_n (jy_sub_n jy_sub_0)))))
      · have h := h.2
        have hq7 : l1 = 0 ∨ l1 = 1 ∨ l1 = 2 ∨ l1 = 3 ∨ l1 = 4 ∨ l1 = 5 := by omega
        rcases hq7 with hq7 | hq7 | hq7 | hq7 | hq7 | hq7
        · have h := h.1 hq7
          refine ⟨38, by rw [hq7]; rfl, by decide, ?_⟩
          change J 132 _ _ _ _ _ _
          refine jy_aload_n hS rfl rfl ?_
          obtain ⟨q625, h⟩ := h
          obtain ⟨g626, h⟩ := h
          refine jy_getR hS rfl (by decide) g611 g626 ?_
          refine jy_aload_n hS rfl rfl ?_
          obtain ⟨q627, h⟩ := h
          obtain ⟨g628, h⟩ := h
          refine jy_getR hS rfl (by decide) g611 g628 ?_
          refine jy_iconst hS rfl ?_
          obtain ⟨n629, h⟩ := h
          obtain ⟨g630, h⟩ := h
          obtain ⟨g631, h⟩ := h
          refine jy_iald hS rfl g630.1 (Nat.le_of_lt g630.2) g631 ?_
          refine jy_aload_n hS rfl rfl ?_
          refine jy_iconst hS rfl ?_
          refine jy_iconst hS rfl ?_
          obtain ⟨Q632, h⟩ := h
          obtain ⟨g633, h⟩ := h
          refine jy_callV hS rfl rfl rfl (Nat.le_of_ble_eq_true rfl) (Or.inl g611) g633 (by decide) ⟨by decide, by decide⟩ (Nat.le_of_ble_eq_true rfl) ?_ ?_
          rotate_left
          · exact fun Ex Xx Ix Rx hp => hp.2.2.2.elim
          intro rv Xx I634 Rx hp
          obtain ⟨e1, e2, hp⟩ := hp
          rw [e1, e2]
          clear e1 e2
          obtain ⟨r635, e1, h⟩ := h rv I634 hp
          rw [e1]
          clear e1
          change J 148 [jy r635, jy ((I616 q627 (0 : Int).toNat).toInt), .ref q625] _ (0, 0) _ _ _
          obtain ⟨n636, h⟩ := h
          obtain ⟨g637, h⟩ := h
          obtain ⟨g638, h⟩ := h
          refine jy_iast hS rfl g637.1 (Nat.le_of_lt g637.2) g638 ?_
          intro I639 e9
          have h := h I639 e9
          clear e9
          refine jy_aload_n hS rfl rfl ?_
          refine jy_getR hS rfl (by decide) g611 g628 ?_
          refine jy_iconst hS rfl ?_
          refine jy_dup2 hS rfl rfl rfl ?_
          obtain ⟨g640, h⟩ := h
          refine jy_iald hS rfl g630.1 (Nat.le_of_lt g630.2) g640 ?_
          refine jy_aload_n hS rfl rfl ?_
          refine jy_getI hS rfl (by decide) g611 ?_
          refine jy_if_ne hS rfl (jy_rng _) (fun hq => ?_) (fun hq => ?_)
          · have h := h.1 hq
            refine jy_iconst hS rfl ?_
            exact jy_join hS h rfl (jy_sub_s (jy_sub_n (jy_sub_n (jy_sub_n (jy_sub_n jy_sub_0)))))
          · have h := h.2 hq
            refine jy_iconst hS rfl ?_
            refine jy_goto hS rfl ?_
            exact jy_join hS h rfl (jy_sub_s (jy_sub_n (jy_sub_n (jy_sub_n (jy_sub_n jy_sub_0)))))
        · have h := h.2.1 hq7
          refine ⟨79, by rw [hq7]; rfl, by decide, ?_⟩
          change J 173 _ _ _ _ _ _
          refine jy_aload_n hS rfl rfl ?_
          obtain ⟨Q641, h⟩ := h
          obtain ⟨g642, h⟩ := h
          refine jy_callV hS rfl rfl rfl (Nat.le_of_ble_eq_true rfl) (Or.inl g611) g642 (by decide) ⟨by decide, by decide⟩ (Nat.le_of_ble_eq_true rfl) ?_ ?_
          rotate_left
          · exact fun Ex Xx Ix Rx hp => hp.2.2.2.elim
          intro rv Xx I643 Rx hp
          obtain ⟨e1, e2, hp⟩ := hp
          rw [e1, e2]
          clear e1 e2
          obtain ⟨e1, h⟩ := h rv I643 hp
          rw [e1]
          clear e1
          change J 177 [] _ (0, 0) _ _ _
          refine jy_goto hS rfl ?_
          exact jy_join hS h rfl (jy_sub_s (jy_sub_n (jy_sub_n (jy_sub_n (jy_sub_n jy_sub_0)))))
        · have h := h.2.2.1 hq7
          refine ⟨86, by rw [hq7]; rfl, by decide, ?_⟩
          change J 180 _ _ _ _ _ _
          refine jy_aload_n hS rfl rfl ?_
          refine jy_iconst hS rfl ?_
          refine jy_aload_n hS rfl rfl ?_
          obtain ⟨q645, h⟩ := h
          obtain ⟨g646, h⟩ := h
          refine jy_getR hS rfl (by decide) g611 g646 ?_
          refine jy_iconst hS rfl ?_
          obtain ⟨n647, h⟩ := h
          obtain ⟨g648, h⟩ := h
          obtain ⟨g649, h⟩ := h
          refine jy_iald hS rfl g648.1 (Nat.le_of_lt g648.2) g649 ?_
          refine jy_iconst hS rfl ?_
          refine jy_isub hS rfl ?_
          obtain ⟨Q650, h⟩ := h
          obtain ⟨g651, h⟩ := h
          refine jy_callV hS rfl rfl rfl (Nat.le_of_ble_eq_true rfl) (Or.inl g611) g651 (by decide) ⟨by decide, by decide⟩ (Nat.le_of_ble_eq_true rfl) ?_ ?_
          rotate_left
          · exact fun Ex Xx Ix Rx hp => hp.2.2.2.elim
          intro rv Xx I652 Rx hp
          obtain ⟨e1, e2, hp⟩ := hp
          rw [e1, e2]
          clear e1 e2
          obtain ⟨r653, e1, h⟩ := h rv I652 hp
          rw [e1]
          clear e1
          change J 193 [jy r653] _ (0, 0) _ _ _
          refine jy_istore_n hS rfl (Nat.le_of_ble_eq_true rfl) (L' := [some (.ref a0), some (jy l1), some (jy r653), none, none]) rfl ?_
          refine jy_aload_n hS rfl rfl ?_
          refine jy_aload_n hS rfl rfl ?_
          refine jy_getR hS rfl (by decide) g611 g646 ?_
          refine jy_iconst hS rfl ?_
          obtain ⟨g654, h⟩ := h
          refine jy_iald hS rfl g648.1 (Nat.le_of_lt g648.2) g654 ?_
          refine jy_iconst hS rfl ?_
          refine jy_isub hS rfl ?_
          refine jy_iload_n hS rfl rfl ?_
          obtain ⟨Q655, h⟩ := h
          obtain ⟨g656, h⟩ := h
          refine jy_callV hS rfl rfl rfl (Nat.le_of_ble_eq_true rfl) (Or.inl g611) g656 (by decide) ⟨by decide, by decide⟩ (Nat.le_of_ble_eq_true rfl) ?_ ?_
          rotate_left
          · exact fun Ex Xx Ix Rx hp => hp.2.2.2.elim
          intro rv Xx I657 Rx hp
          obtain ⟨e1, e2, hp⟩ := hp
          rw [e1, e2]
          clear e1 e2
          obtain ⟨r658, e1, h⟩ := h rv I657 hp
          rw [e1]
          clear e1
          change J 207 [jy r658] _ (0, 0) _ _ _
          refine jy_istore_n hS rfl (Nat.le_of_ble_eq_true rfl) (L' := [some (.ref a0), some (jy l1), some (jy r653), some (jy r658), none]) rfl ?_
          refine jy_aload_n hS rfl rfl ?_
          refine jy_iconst hS rfl ?_
          refine jy_bipush hS rfl (by decide) ?_
          obtain ⟨Q659, h⟩ := h
          obtain ⟨g660, h⟩ := h
          refine jy_callV hS rfl rfl rfl (Nat.le_of_ble_eq_true rfl) (Or.inl g611) g660 (by decide) ⟨by decide, by decide⟩ (Nat.le_of_ble_eq_true rfl) ?_ ?_
          rotate_left
          · exact fun Ex Xx Ix Rx hp => hp.2.2.2.elim
          intro rv Xx I661 Rx hp
          obtain ⟨e1, e2, hp⟩ := hp
          rw [e1, e2]
          clear e1 e2
          obtain ⟨r662, e1, h⟩ := h rv I661 hp
          rw [e1]
          clear e1
          change J 215 [jy r662] _ (0, 0) _ _ _
          refine jy_istore hS rfl (Nat.le_of_ble_eq_true rfl) (L' := [some (.ref a0), some (jy l1), some (jy r653), some (jy r658), some (jy r662)]) rfl ?_
          refine jy_aload_n hS rfl rfl ?_
          refine jy_getI hS rfl (by decide) g611 ?_
          refine jy_if_eq hS rfl (jy_rng _) (fun hq => ?_) (fun hq => ?_)
          · have h := h.1 hq
            refine jy_aload_n hS rfl rfl ?_
            obtain ⟨q663, h⟩ := h
            obtain ⟨g664, h⟩ := h
            refine jy_getR hS rfl (by decide) g611 g664 ?_
            refine jy_iload_n hS rfl rfl ?_
            obtain ⟨n665, h⟩ := h
            obtain ⟨g666, h⟩ := h
            obtain ⟨g667, h⟩ := h
            obtain ⟨q668, h⟩ := h
            obtain ⟨g669, h⟩ := h
            refine jy_aald hS rfl g666.1 (by decide) (Nat.le_of_lt g666.2) g667 g669 ?_
            refine jy_iload_n hS rfl rfl ?_
            refine jy_iload hS rfl rfl ?_
            obtain ⟨n670, h⟩ := h
            obtain ⟨g671, h⟩ := h
            obtain ⟨g672, h⟩ := h
            refine jy_iast hS rfl g671.1 (Nat.le_of_lt g671.2) g672 ?_
            intro I673 e9
            have h := h I673 e9
            clear e9
            refine jy_aload_n hS rfl rfl ?_
            refine jy_getR hS rfl (by decide) g611 g664 ?_
            refine jy_iload_n hS rfl rfl ?_
            obtain ⟨g674, h⟩ := h
            obtain ⟨q675, h⟩ := h
            obtain ⟨g676, h⟩ := h
            refine jy_aald hS rfl g666.1 (by decide) (Nat.le_of_lt g666.2) g674 g676 ?_
            refine jy_iload_n hS rfl rfl ?_
            refine jy_iload hS rfl rfl ?_
            obtain ⟨n677, h⟩ := h
            obtain ⟨g678, h⟩ := h
            obtain ⟨g679, h⟩ := h
            refine jy_iast hS rfl g678.1 (Nat.le_of_lt g678.2) g679 ?_
            intro I680 e9
            have h := h I680 e9
            clear e9
            refine jy_goto hS rfl ?_
            exact jy_join hS h rfl (jy_sub_s (jy_sub_n (jy_sub_n (jy_sub_n (jy_sub_n jy_sub_0)))))
          · have h := h.2 hq
            refine jy_goto hS rfl ?_
            exact jy_join hS h rfl (jy_sub_s (jy_sub_n (jy_sub_n (jy_sub_n (jy_sub_n jy_sub_0)))))
        · have h := h.2.2.2.1 hq7
          refine ⟨156, by rw [hq7]; rfl, by decide, ?_⟩
          change J 250 _ _ _ _ _ _
          refine jy_aload_n hS rfl rfl ?_
          obtain ⟨Q681, h⟩ := h
          obtain ⟨g682, h⟩ := h
          refine jy_callV hS rfl rfl rfl (Nat.le_of_ble_eq_true rfl) (Or.inl g611) g682 (by decide) ⟨by decide, by decide⟩ (Nat.le_of_ble_eq_true rfl) ?_ ?_
          rotate_left
          · exact fun Ex Xx Ix Rx hp => hp.2.2.2.elim
          intro rv Xx I683 Rx hp
          obtain ⟨e1, e2, hp⟩ := hp
          rw [e1, e2]
          clear e1 e2
          obtain ⟨r684, e1, h⟩ := h rv I683 hp
          rw [e1]
          clear e1
          change J 254 [jy r684] _ (0, 0) _ _ _
          refine jy_istore_n hS rfl (Nat.le_of_ble_eq_true rfl) (L' := [some (.ref a0), some (jy l1), some (jy r684), none, none]) rfl ?_
          refine jy_aload_n hS rfl rfl ?_
          refine jy_iconst hS rfl ?_
          refine jy_aload_n hS rfl rfl ?_
          obtain ⟨q685, h⟩ := h
          obtain ⟨g686, h⟩ := h
          refine jy_getR hS rfl (by decide) g611 g686 ?_
          refine jy_iconst hS rfl ?_
          obtain ⟨n687, h⟩ := h
          obtain ⟨g688, h⟩ := h
          obtain ⟨g689, h⟩ := h
          refine jy_iald hS rfl g688.1 (Nat.le_of_lt g688.2) g689 ?_
          refine jy_iconst hS rfl ?_
          refine jy_isub hS rfl ?_
          obtain ⟨Q690, h⟩ := h
          obtain ⟨g691, h⟩ := h
          refine jy_callV hS rfl rfl rfl (Nat.le_of_ble_eq_true rfl) (Or.inl g611) g691 (by decide) ⟨by decide, by decide⟩ (Nat.le_of_ble_eq_true rfl) ?_ ?_
          rotate_left
          · exact fun Ex Xx Ix Rx hp => hp.2.2.2.elim
          intro rv Xx I692 Rx hp
          obtain ⟨e1, e2, hp⟩ := hp
          rw [e1, e2]
          clear e1 e2
          obtain ⟨r693, e1, h⟩ := h rv I692 hp
          rw [e1]
          clear e1
          change J 268 [jy r693] _ (0, 0) _ _ _
          refine jy_istore_n hS rfl (Nat.le_of_ble_eq_true rfl) (L' := [some (.ref a0), some (jy l1), some (jy r684), some (jy r693), none]) rfl ?_
          refine jy_aload_n hS rfl rfl ?_
          refine jy_iconst hS rfl ?_
          refine jy_bipush hS rfl (by decide) ?_
          obtain ⟨Q694, h⟩ := h
          obtain ⟨g695, h⟩ := h
          refine jy_callV hS rfl rfl rfl (Nat.le_of_ble_eq_true rfl) (Or.inl g611) g695 (by decide) ⟨by decide, by decide⟩ (Nat.le_of_ble_eq_true rfl) ?_ ?_
          rotate_left
          · exact fun Ex Xx Ix Rx hp => hp.2.2.2.elim
          intro rv Xx I696 Rx hp
          obtain ⟨e1, e2, hp⟩ := hp
          rw [e1, e2]
          clear e1 e2
          obtain ⟨r697, e1, h⟩ := h rv I696 hp
          rw [e1]
          clear e1
          change J 276 [jy r697] _ (0, 0) _ _ _
          refine jy_istore hS rfl (Nat.le_of_ble_eq_true rfl) (L' := [some (.ref a0), some (jy l1), some (jy r684), some (jy r693), some (jy r697)]) rfl ?_
          refine jy_aload_n hS rfl rfl ?_
          refine jy_getI hS rfl (by decide) g611 ?_
          refine jy_if_ne hS rfl (jy_rng _) (fun hq => ?_) (fun hq => ?_)
          · have h := h.1 hq
            refine jy_aload_n hS rfl rfl ?_
            refine jy_bipush hS rfl (by decide) ?_
            obtain ⟨Q698, h⟩ := h
            obtain ⟨g699, h⟩ := h
            refine jy_callV hS rfl rfl rfl (Nat.le_of_ble_eq_true rfl) (Or.inl g611) g699 (by decide) ⟨by decide, by decide⟩ (Nat.le_of_ble_eq_true rfl) ?_ ?_
            rotate_left
            · exact fun Ex Xx Ix Rx hp => hp.2.2.2.elim
            intro rv Xx I700 Rx hp
            obtain ⟨e1, e2, hp⟩ := hp
            rw [e1, e2]
            clear e1 e2
            obtain ⟨e1, h⟩ := h rv I700 hp
            rw [e1]
            clear e1
            change J 419 [] _ (0, 0) _ _ _
            exact jy_ret hS rfl rfl ⟨rfl, rfl, h⟩
          · have h := h.2 hq
            refine jy_aload_n hS rfl rfl ?_
            obtain ⟨q702, h⟩ := h
            obtain ⟨g703, h⟩ := h
            refine jy_getR hS rfl (by decide) g611 g703 ?_
            refine jy_iload_n hS rfl rfl ?_
            obtain ⟨n704, h⟩ := h
            obtain ⟨g705, h⟩ := h
            obtain ⟨g706, h⟩ := h
            obtain ⟨q707, h⟩ := h
            obtain ⟨g708, h⟩ := h
            refine jy_aald hS rfl g705.1 (by decide) (Nat.le_of_lt g705.2) g706 g708 ?_
            refine jy_iload_n hS rfl rfl ?_
            refine jy_bipush hS rfl (by decide) ?_
            refine jy_aload_n hS rfl rfl ?_
            refine jy_getR hS rfl (by decide) g611 g703 ?_
            refine jy_iload_n hS rfl rfl ?_
            obtain ⟨g709, h⟩ := h
            obtain ⟨q710, h⟩ := h
            obtain ⟨g711, h⟩ := h
            refine jy_aald hS rfl g705.1 (by decide) (Nat.le_of_lt g705.2) g709 g711 ?_
            refine jy_iload_n hS rfl rfl ?_
            obtain ⟨n712, h⟩ := h
            obtain ⟨g713, h⟩ := h
            obtain ⟨g714, h⟩ := h
            refine jy_iald hS rfl g713.1 (Nat.le_of_lt g713.2) g714 ?_
            refine jy_iload hS rfl rfl ?_
            refine jy_iadd hS rfl ?_
            obtain ⟨Q715, h⟩ := h
            obtain ⟨g716, h⟩ := h
            refine jy_callS hS rfl rfl rfl (Nat.le_of_ble_eq_true rfl) g716 (by decide) ⟨by decide, by decide⟩ (Nat.le_of_ble_eq_true rfl) ?_ ?_
            rotate_left
            · exact fun Ex Xx Ix Rx hp => hp.2.2.2.elim
            intro rv Xx I717 Rx hp
            obtain ⟨e1, e2, hp⟩ := hp
            rw [e1, e2]
            clear e1 e2
            obtain ⟨r718, e1, h⟩ := h rv I717 hp
            rw [e1]
            clear e1
            change J 308 [jy r718, jy r693, .ref q707] _ (0, 0) _ _ _
            obtain ⟨n719, h⟩ := h
            obtain ⟨g720, h⟩ := h
            obtain ⟨g721, h⟩ := h
            refine jy_iast hS rfl g720.1 (Nat.le_of_lt g720.2) g721 ?_
            intro I722 e9
            have h := h I722 e9
            clear e9
            refine jy_goto hS rfl ?_
            exact jy_join hS h rfl (jy_sub_s (jy_sub_n (jy_sub_n (jy_sub_n (jy_sub_n jy_sub_0)))))
        · have h := h.2.2.2.2.1 hq7
          refine ⟨218, by rw [hq7]; rfl, by decide, ?_⟩
          change J 312 _ _ _ _ _ _
          refine jy_aload_n hS rfl rfl ?_
          obtain ⟨Q723, h⟩ := h
          obtain ⟨g724, h⟩ := h
          refine jy_callV hS rfl rfl rfl (Nat.le_of_ble_eq_true rfl) (Or.inl g611) g724 (by decide) ⟨by decide, by decide⟩ (Nat.le_of_ble_eq_true rfl) ?_ ?_
          rotate_left
          · exact fun Ex Xx Ix Rx hp => hp.2.2.2.elim
          intro rv Xx I725 Rx hp
          obtain ⟨e1, e2, hp⟩ := hp
          rw [e1, e2]
          clear e1 e2
          obtain ⟨r726, e1, h⟩ := h rv I725 hp
          rw [e1]
          clear e1
          change J 316 [jy r726] _ (0, 0) _ _ _
          refine jy_istore_n hS rfl (Nat.le_of_ble_eq_true rfl) (L' := [some (.ref a0), some (jy l1), some (jy r726), none, none]) rfl ?_
          refine jy_aload_n hS rfl rfl ?_
          refine jy_aload_n hS rfl rfl ?_
          obtain ⟨q727, h⟩ := h
          obtain ⟨g728, h⟩ := h
          refine jy_getR hS rfl (by decide) g611 g728 ?_
          refine jy_iconst hS rfl ?_
          obtain ⟨n729, h⟩ := h
          obtain ⟨g730, h⟩ := h
          obtain ⟨g731, h⟩ := h
          refine jy_iald hS rfl g730.1 (Nat.le_of_lt g730.2) g731 ?_
          refine jy_iconst hS rfl ?_
          refine jy_isub hS rfl ?_
          refine jy_iload_n hS rfl rfl ?_
          obtain ⟨Q732, h⟩ := h
          obtain ⟨g733, h⟩ := h
          refine jy_callV hS rfl rfl rfl (Nat.le_of_ble_eq_true rfl) (Or.inl g611) g733 (by decide) ⟨by decide, by decide⟩ (Nat.le_of_ble_eq_true rfl) ?_ ?_
          rotate_left
          · exact fun Ex Xx Ix Rx hp => hp.2.2.2.elim
          intro rv Xx I734 Rx hp
          obtain ⟨e1, e2, hp⟩ := hp
          rw [e1, e2]
          clear e1 e2
          obtain ⟨r735, e1, h⟩ := h rv I734 hp
          rw [e1]
          clear e1
          change J 330 [jy r735] _ (0, 0) _ _ _
          refine jy_istore_n hS rfl (Nat.le_of_ble_eq_true rfl) (L' := [some (.ref a0), some (jy l1), some (jy r726), some (jy r735), none]) rfl ?_
          refine jy_aload_n hS rfl rfl ?_
          refine jy_getI hS rfl (by decide) g611 ?_
          refine jy_if_ne hS rfl (jy_rng _) (fun hq => ?_) (fun hq => ?_)
          · have h := h.1 hq
            refine jy_aload_n hS rfl rfl ?_
            refine jy_bipush hS rfl (by decide) ?_
            obtain ⟨Q736, h⟩ := h
            obtain ⟨g737, h⟩ := h
            refine jy_callV hS rfl rfl rfl (Nat.le_of_ble_eq_true rfl) (Or.inl g611) g737 (by decide) ⟨by decide, by decide⟩ (Nat.le_of_ble_eq_true rfl) ?_ ?_
            rotate_left
            · exact fun Ex Xx Ix Rx hp => hp.2.2.2.elim
            intro rv Xx I738 Rx hp
            obtain ⟨e1, e2, hp⟩ := hp
            rw [e1, e2]
            clear e1 e2
            obtain ⟨e1, h⟩ := h rv I738 hp
            rw [e1]
            clear e1
            change J 419 [] _ (0, 0) _ _ _
            exact jy_ret hS rfl rfl ⟨rfl, rfl, h⟩
          · have h := h.2 hq
            refine jy_aload_n hS rfl rfl ?_
            obtain ⟨q740, h⟩ := h
            obtain ⟨g741, h⟩ := h
            refine jy_getR hS rfl (by decide) g611 g741 ?_
            refine jy_iload_n hS rfl rfl ?_
            refine jy_iload_n hS rfl rfl ?_
            obtain ⟨n742, h⟩ := h
            obtain ⟨g743, h⟩ := h
            obtain ⟨g744, h⟩ := h
            refine jy_iast hS rfl g743.1 (Nat.le_of_lt g743.2) g744 ?_
            intro I745 e9
            have h := h I745 e9
            clear e9
            refine jy_goto hS rfl ?_
            exact jy_join hS h rfl (jy_sub_s (jy_sub_n (jy_sub_n (jy_sub_n (jy_sub_n jy_sub_0)))))
        · have h := h.2.2.2.2.2 hq7
          refine ⟨254, by rw [hq7]; rfl, by decide, ?_⟩
          change J 348 _ _ _ _ _ _
          refine jy_aload_n hS rfl rfl ?_
          obtain ⟨Q746, h⟩ := h
          obtain ⟨g747, h⟩ := h
          refine jy_callV hS rfl rfl rfl (Nat.le_of_ble_eq_true rfl) (Or.inl g611) g747 (by decide) ⟨by decide, by decide⟩ (Nat.le_of_ble_eq_true rfl) ?_ ?_
          rotate_left
          · exact fun Ex Xx Ix Rx hp => hp.2.2.2.elim
          intro rv Xx I748 Rx hp
          obtain ⟨e1, e2, hp⟩ := hp
          rw [e1, e2]
          clear e1 e2
          obtain ⟨r749, e1, h⟩ := h rv I748 hp
          rw [e1]
          clear e1
          change J 352 [jy r749] _ (0, 0) _ _ _
          refine jy_istore_n hS rfl (Nat.le_of_ble_eq_true rfl) (L' := [some (.ref a0), some (jy l1), some (jy r749), none, none]) rfl ?_
          refine jy_aload_n hS rfl rfl ?_
          refine jy_aload_n hS rfl rfl ?_
          obtain ⟨q750, h⟩ := h
          obtain ⟨g751, h⟩ := h
          refine jy_getR hS rfl (by decide) g611 g751 ?_
          refine jy_iconst hS rfl ?_
          obtain ⟨n752, h⟩ := h
          obtain ⟨g753, h⟩ := h
          obtain ⟨g754, h⟩ := h
          refine jy_iald hS rfl g753.1 (Nat.le_of_lt g753.2) g754 ?_
          refine jy_iconst hS rfl ?_
          refine jy_isub hS rfl ?_
          refine jy_iload_n hS rfl rfl ?_
          obtain ⟨Q755, h⟩ := h
          obtain ⟨g756, h⟩ := h
          refine jy_callV hS rfl rfl rfl (Nat.le_of_ble_eq_true rfl) (Or.inl g611) g756 (by decide) ⟨by decide, by decide⟩ (Nat.le_of_ble_eq_true rfl) ?_ ?_
          rotate_left
          · exact fun Ex Xx Ix Rx hp => hp.2.2.2.elim
          intro rv Xx I757 Rx hp
          obtain ⟨e1, e2, hp⟩ := hp
          rw [e1, e2]
          clear e1 e2
          obtain ⟨r758, e1, h⟩ := h rv I757 hp
          rw [e1]
          clear e1
          change J 366 [jy r758] _ (0, 0) _ _ _
          refine jy_istore_n hS rfl (Nat.le_of_ble_eq_true rfl) (L' := [some (.ref a0), some (jy l1), some (jy r749), some (jy r758), none]) rfl ?_
          refine jy_aload_n hS rfl rfl ?_
          refine jy_getI hS rfl (by decide) g611 ?_
          refine jy_if_eq hS rfl (jy_rng _) (fun hq => ?_) (fun hq => ?_)
          · have h := h.1 hq
            refine jy_aload_n hS rfl rfl ?_
            obtain ⟨q759, h⟩ := h
            obtain ⟨g760, h⟩ := h
            refine jy_getR hS rfl (by decide) g611 g760 ?_
            refine jy_iload_n hS rfl rfl ?_
            refine jy_dup2 hS rfl rfl rfl ?_
            obtain ⟨n761, h⟩ := h
            obtain ⟨g762, h⟩ := h
            obtain ⟨g763, h⟩ := h
            refine jy_iald hS rfl g762.1 (Nat.le_of_lt g762.2) g763 ?_
            refine jy_iconst hS rfl ?_
            refine jy_iload_n hS rfl rfl ?_
            refine jy_ishlX hS rfl rfl ?_
            refine jy_iorX hS rfl rfl ?_
            obtain ⟨g764, h⟩ := h
            refine jy_iast hS rfl g762.1 (Nat.le_of_lt g762.2) g764 ?_
            intro I765 e9
            have h := h I765 e9
            clear e9
            refine jy_aload_n hS rfl rfl ?_
            refine jy_getR hS rfl (by decide) g611 g760 ?_
            refine jy_iload_n hS rfl rfl ?_
            refine jy_dup2 hS rfl rfl rfl ?_
            obtain ⟨g766, h⟩ := h
            refine jy_iald hS rfl g762.1 (Nat.le_of_lt g762.2) g766 ?_
            refine jy_iconst hS rfl ?_
            refine jy_iload_n hS rfl rfl ?_
            refine jy_ishlX hS rfl rfl ?_
            refine jy_iorX hS rfl rfl ?_
            obtain ⟨g767, h⟩ := h
            refine jy_iast hS rfl g762.1 (Nat.le_of_lt g762.2) g767 ?_
            intro I768 e9
            have h := h I768 e9
            clear e9
            refine jy_goto hS rfl ?_
            exact jy_join hS h rfl (jy_sub_s (jy_sub_n (jy_sub_n (jy_sub_n (jy_sub_n jy_sub_0)))))
          · have h := h.2 hq
            refine jy_goto hS rfl ?_
            exact jy_join hS h rfl (jy_sub_s (jy_sub_n (jy_sub_n (jy_sub_n (jy_sub_n jy_sub_0)))))
    · have h := h.2 hq
      exact jy_ret hS rfl rfl ⟨rfl, rfl, h⟩
  · intro s0 s1 s2 s3 I h
    unfold wz_222_168 at h
    refine jy_iadd hS rfl ?_
    obtain ⟨n602, h⟩ := h
    obtain ⟨g603, h⟩ := h
    obtain ⟨g604, h⟩ := h
    refine jy_iast hS rfl g603.1 (Nat.le_of_lt g603.2) g604 ?_
    intro I605 e9
    have h := h I605 e9
    clear e9
    refine jy_goto hS rfl ?_
    exact jy_join hS h rfl (jy_sub_s (jy_sub_n (jy_sub_n (jy_sub_n (jy_sub_n jy_sub_0)))))
  · intro  I h
    unfold wz_222_413 at h
    refine jy_aload_n hS rfl rfl ?_
    refine jy_bipush hS rfl (by decide) ?_
    obtain ⟨g606, h⟩ := h
    obtain ⟨Q607, h⟩ := h
    obtain ⟨g608, h⟩ := h
    refine jy_callV hS rfl rfl rfl (Nat.le_of_ble_eq_true rfl) (Or.inl g606) g608 (by decide) ⟨by decide, by decide⟩ (Nat.le_of_ble_eq_true rfl) ?_ ?_
    rotate_left
    · exact fun Ex Xx Ix Rx hp => hp.2.2.2.elim
    intro rv Xx I609 Rx hp
    obtain ⟨e1, e2, hp⟩ := hp
    rw [e1, e2]
    clear e1 e2
    obtain ⟨e1, h⟩ := h rv I609 hp
    rw [e1]
    clear e1
    change J 419 [] _ (0, 0) _ _ _
    exact jy_ret hS rfl rfl ⟨rfl, rfl, h⟩
