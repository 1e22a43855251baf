theorem jt_117 : jx_ml 117 = 3 ∧ jx_rt 117 = some .boolean ∧ jx_hz 117 = [] ∧ decide ((jx_nm 117).name = "<init>") = false ∧ jx_code 117 = jx_c117 := by decide +kernel
/-- GC$Tape.wordIs, from 20 -/
def wz_117_20 (V : jx_V) (X : jx_X) (R : jx_R) (Q : Option Value → jx_I → Prop) (QE : String → jx_I → Prop) (J20 : Int → jx_I → Prop) (a0 : Nat) (a1 : Nat) (l2 : Int) (I : jx_I) : Prop :=
  ∃ Q8 : Option Value → jx_I → Prop, (
  (jc V 2 330 (0, 0) [.ref (V.2.2.2.1 a1)] X I R Q8 (fun _ _ => False)) ∧ (
  ∀ rv I10, Q8 rv I10 → ∃ r11 : Int, rv = some (jy r11) ∧ (
  (-2147483648 ≤ l2 ∧ l2 < 2147483648) ∧ (
  (-2147483648 ≤ r11 ∧ r11 < 2147483648) ∧ (
  (r11 ≤ l2 → (
    Q (some (jy 1)) I10
  )) ∧ (¬ r11 ≤ l2 → (
    (X.2.1 a0 = some (8, 0)) ∧ (
    ∃ q15 : Nat, (
    (R a0 0 = some q15) ∧ (
    ∃ n17 : Nat, (
    (X.2.1 q15 = some (100, n17) ∧ n17 < 2147483648) ∧ (
    (0 ≤ ((I10 a0 4).toInt + l2) ∧ ((I10 a0 4).toInt + l2) < n17) ∧ (
    ∃ Q20 : Option Value → jx_I → Prop, (
    (jc V 4 331 (0, 0) [.ref (V.2.2.2.1 a1), jy l2] X I10 R Q20 (fun _ _ => False)) ∧ (
    ∀ rv I22, Q20 rv I22 → ∃ r23 : Int, rv = some (jy r23) ∧ (
    (-2147483648 ≤ r23 ∧ r23 < 2147483648) ∧ (
    ((I10 q15 ((I10 a0 4).toInt + l2).toNat).toInt = r23 → (
      J20 (l2 + 1) I22
    )) ∧ (¬ (I10 q15 ((I10 a0 4).toInt + l2).toNat).toInt = r23 → (
      Q (some (jy 0)) I22
    ))))))))))))
  )))))))
/-- GC$Tape.wordIs -/
def wz_117 (V : jx_V) (X : jx_X) (R : jx_R) (Q : Option Value → jx_I → Prop) (QE : String → jx_I → Prop) (J20 : Int → jx_I → Prop) (a0 : Nat) (a1 : Nat) (I : jx_I) : Prop :=
  (X.2.1 a0 = some (8, 0)) ∧ (
  ∃ Q2 : Option Value → jx_I → Prop, (
  (jc V 2 330 (0, 0) [.ref (V.2.2.2.1 a1)] X I R Q2 (fun _ _ => False)) ∧ (
  ∀ rv I4, Q2 rv I4 → ∃ r5 : Int, rv = some (jy r5) ∧ (
  (-2147483648 ≤ ((I a0 5).toInt - (I a0 4).toInt) ∧ ((I a0 5).toInt - (I a0 4).toInt) < 2147483648) ∧ (
  (-2147483648 ≤ r5 ∧ r5 < 2147483648) ∧ (
  (((I a0 5).toInt - (I a0 4).toInt) = r5 → (
    J20 0 I4
  )) ∧ (¬ ((I a0 5).toInt - (I a0 4).toInt) = r5 → (
    Q (some (jy 0)) I4
  ))))))))
set_option maxRecDepth 20000 in
theorem wm_117 {V : jx_V} (hV : V.1.stackTraces = false) {X : jx_X} {R : jx_R} {I : jx_I} {Q : Option Value → jx_I → Prop} {QE : String → jx_I → Prop} {a0 : Nat} {a1 : Nat}  (h_a1 : a1 < 34)
    (h : ∀ (J20 : Int → jx_I → Prop), ((∀ (l2 : Int) I, wz_117_20 V X R Q QE J20 a0 a1 l2 I → J20 l2 I)) → wz_117 V X R Q QE J20 a0 a1 I) : jc V 5 117 (0, 0) [.ref a0, .ref (V.2.2.2.1 a1)] X I R Q QE := by
  refine jy_met hV (by decide) (n := 3) (rt := some .boolean) (hh := []) (ini := false) (C := jx_c117) (L := [some (.ref a0), some (.ref (V.2.2.2.1 a1)), none]) jt_117 (Nat.le_of_ble_eq_true rfl) rfl ?_
  intro J hS
  have h := h (fun l2 I => J 20 [] [some (.ref a0), some (.ref (V.2.2.2.1 a1)), some (jy l2)] (0, 0) X I R) ?_
  · unfold wz_117 at h
    refine jy_aload_n hS rfl rfl ?_
    obtain ⟨g1, h⟩ := h
    refine jy_getI hS rfl (by decide) g1 ?_
    refine jy_aload_n hS rfl rfl ?_
    refine jy_getI hS rfl (by decide) g1 ?_
    refine jy_isub hS rfl ?_
    refine jy_aload_n hS rfl rfl ?_
    obtain ⟨Q2, h⟩ := h
    obtain ⟨g3, h⟩ := h
    refine jy_callV hS rfl rfl rfl (Nat.le_of_ble_eq_true rfl) (Or.inr ⟨rfl, a1, h_a1, rfl⟩) g3 (by decide) ⟨by decide, by decide⟩ (Nat.le_of_ble_eq_true rfl) ?_ ?_
    rotate_left
    · exact fun Ex Xx Ix Rx hp => hp.2.2.2.elim
    intro rv Xx I4 Rx hp
    obtain ⟨e1, e2, hp⟩ := hp
    rw [e1, e2]
    clear e1 e2
    obtain ⟨r5, e1, h⟩ := h rv I4 hp
    rw [e1]
    clear e1
    change J 13 [jy r5, jy ((I a0 5).toInt - (I a0 4).toInt)] _ (0, 0) _ _ _
    obtain ⟨g6, h⟩ := h
    obtain ⟨g7, h⟩ := h
    refine jy_icmp_eq hS rfl ⟨g6, g7⟩ (fun hq => ?_) (fun hq => ?_)
    · have h := h.1 hq
      refine jy_iconst hS rfl ?_
      refine jy_istore_n hS rfl (Nat.le_of_ble_eq_true rfl) (L' := [some (.ref a0), some (.ref (V.2.2.2.1 a1)), some (jy 0)]) rfl ?_
      exact jy_join hS h rfl (jy_sub_s (jy_sub_s (jy_sub_s jy_sub_0)))
    · have h := h.2 hq
      refine jy_iconst hS rfl ?_
      exact jy_iret hS rfl rfl ⟨rfl, rfl, h⟩
  · intro l2 I h
    unfold wz_117_20 at h
    refine jy_iload_n hS rfl rfl ?_
    refine jy_aload_n hS rfl rfl ?_
    obtain ⟨Q8, h⟩ := h
    obtain ⟨g9, h⟩ := h
    refine jy_callV hS rfl rfl rfl (Nat.le_of_ble_eq_true rfl) (Or.inr ⟨rfl, a1, h_a1, rfl⟩) g9 (by decide) ⟨by decide, by decide⟩ (Nat.le_of_ble_eq_true rfl) ?_ ?_
    rotate_left
    · exact fun Ex Xx Ix Rx hp => hp.2.2.2.elim
    intro rv Xx I10 Rx hp
    obtain ⟨e1, e2, hp⟩ := hp
    rw [e1, e2]
    clear e1 e2
    obtain ⟨r11, e1, h⟩ := h rv I10 hp
    rw [e1]
    clear e1
    change J 25 [jy r11, jy l2] _ (0, 0) _ _ _
    obtain ⟨g12, h⟩ := h
    obtain ⟨g13, h⟩ := h
    refine jy_icmp_ge hS rfl ⟨g12, g13⟩ (fun hq => ?_) (fun hq => ?_)
    · have h := h.1 hq
      refine jy_iconst hS rfl ?_
      exact jy_iret hS rfl rfl ⟨rfl, rfl, h⟩
    · have h := h.2 hq
      refine jy_aload_n hS rfl rfl ?_
      obtain ⟨g14, h⟩ := h
      obtain ⟨q15, h⟩ := h
      obtain ⟨g16, h⟩ := h
      refine jy_getR hS rfl (by decide) g14 g16 ?_
      refine jy_aload_n hS rfl rfl ?_
      refine jy_getI hS rfl (by decide) g14 ?_
      refine jy_iload_n hS rfl rfl ?_
      refine jy_iadd hS rfl ?_
      obtain ⟨n17, h⟩ := h
      obtain ⟨g18, h⟩ := h
      obtain ⟨g19, h⟩ := h
      refine jy_iald hS rfl g18.1 (Nat.le_of_lt g18.2) g19 ?_
      refine jy_aload_n hS rfl rfl ?_
      refine jy_iload_n hS rfl rfl ?_
      obtain ⟨Q20, h⟩ := h
      obtain ⟨g21, h⟩ := h
      refine jy_callV hS rfl rfl rfl (Nat.le_of_ble_eq_true rfl) (Or.inr ⟨rfl, a1, h_a1, rfl⟩) g21 (by decide) ⟨by decide, by decide⟩ (Nat.le_of_ble_eq_true rfl) ?_ ?_
      rotate_left
      · exact fun Ex Xx Ix Rx hp => hp.2.2.2.elim
      intro rv Xx I22 Rx hp
      obtain ⟨e1, e2, hp⟩ := hp
      rw [e1, e2]
      clear e1 e2
      obtain ⟨r23, e1, h⟩ := h rv I22 hp
      rw [e1]
      clear e1
      change J 44 [jy r23, jy ((I10 q15 ((I10 a0 4).toInt + l2).toNat).toInt)] _ (0, 0) _ _ _
      obtain ⟨g24, h⟩ := h
      refine jy_icmp_eq hS rfl ⟨(jy_rng _), g24⟩ (fun hq => ?_) (fun hq => ?_)
      · have h := h.1 hq
        refine jy_iinc hS rfl rfl (L' := [some (.ref a0), some (.ref (V.2.2.2.1 a1)), some (jy (l2 + 1))]) rfl ?_
        refine jy_goto hS rfl ?_
        exact jy_join hS h rfl (jy_sub_s (jy_sub_s (jy_sub_s jy_sub_0)))
      · have h := h.2 hq
        refine jy_iconst hS rfl ?_
        exact jy_iret hS rfl rfl ⟨rfl, rfl, h⟩
theorem jt_118 : jx_ml 118 = 4 ∧ jx_rt 118 = some .int ∧ jx_hz 118 = [] ∧ decide ((jx_nm 118).name = "<init>") = false ∧ jx_code 118 = jx_c118 := by decide +kernel
/-- GC$Tape.readNumber, from 10 -/
def wz_118_10 (V : jx_V) (X : jx_X) (R : jx_R) (Q : Option Value → jx_I → Prop) (QE : String → jx_I → Prop) (J10 : Int → jx_I → Prop) (a0 : Nat) (a1 : Int) (a2 : Int) (l3 : Int) (I : jx_I) : Prop :=
  (X.2.1 a0 = some (8, 0)) ∧ (
  ((I a0 2).toInt ≤ (I a0 3).toInt → (
    ((I a0 3).toInt ≠ (I a0 6).toInt → (
      (-2147483648 ≤ l3 ∧ l3 < 2147483648) ∧ (
      (l3 < a1 → (
        ∃ Q5 : Option Value → jx_I → Prop, (
        (jc V 1 106 (0, 0) [.ref a0, jy 2, jy ((I a0 6).toInt)] X I R Q5 (fun _ _ => False)) ∧ (
        ∀ rv I7, Q5 rv I7 → ∃ r8 : Int, rv = some (jy r8) ∧ (
        Q (some (jy (-1))) I7)))
      )) ∧ (¬ l3 < a1 → (
        (l3 ≤ a2 → (
          ∃ Q9 : Option Value → jx_I → Prop, (
          (jc V 1 119 (0, 0) [.ref a0] X I R Q9 (fun _ _ => False)) ∧ (
          ∀ rv I11, Q9 rv I11 → rv = none ∧ (
          Q (some (jy l3)) I11)))
        )) ∧ (¬ l3 ≤ a2 → (
          ∃ Q13 : Option Value → jx_I → Prop, (
          (jc V 1 106 (0, 0) [.ref a0, jy 2, jy ((I a0 6).toInt)] X I R Q13 (fun _ _ => False)) ∧ (
          ∀ rv I15, Q13 rv I15 → ∃ r16 : Int, rv = some (jy r16) ∧ (
          Q (some (jy (-1))) I15)))
        ))
      )))
    )) ∧ ((I a0 3).toInt = (I a0 6).toInt → (
      ∃ Q17 : Option Value → jx_I → Prop, (
      (jc V 1 106 (0, 0) [.ref a0, jy 1, jy ((I a0 6).toInt)] X I R Q17 (fun _ _ => False)) ∧ (
      ∀ rv I19, Q17 rv I19 → ∃ r20 : Int, rv = some (jy r20) ∧ (
      Q (some (jy (-1))) I19)))
    ))
  )) ∧ (¬ (I a0 2).toInt ≤ (I a0 3).toInt → (
    ∃ q21 : Nat, (
    (R a0 0 = some q21) ∧ (
    ∃ n23 : Nat, (
    (X.2.1 q21 = some (100, n23) ∧ n23 < 2147483648) ∧ (
    (0 ≤ (I a0 3).toInt ∧ (I a0 3).toInt < n23) ∧ (
    ((I q21 ((I a0 3).toInt).toNat).toInt < 48 → (
      ((I a0 3).toInt ≠ (I a0 6).toInt → (
        (-2147483648 ≤ l3 ∧ l3 < 2147483648) ∧ (
        (l3 < a1 → (
          ∃ Q27 : Option Value → jx_I → Prop, (
          (jc V 1 106 (0, 0) [.ref a0, jy 2, jy ((I a0 6).toInt)] X I R Q27 (fun _ _ => False)) ∧ (
          ∀ rv I29, Q27 rv I29 → ∃ r30 : Int, rv = some (jy r30) ∧ (
          Q (some (jy (-1))) I29)))
        )) ∧ (¬ l3 < a1 → (
          (l3 ≤ a2 → (
            ∃ Q31 : Option Value → jx_I → Prop, (
            (jc V 1 119 (0, 0) [.ref a0] X I R Q31 (fun _ _ => False)) ∧ (
            ∀ rv I33, Q31 rv I33 → rv = none ∧ (
            Q (some (jy l3)) I33)))
          )) ∧ (¬ l3 ≤ a2 → (
            ∃ Q35 : Option Value → jx_I → Prop, (
            (jc V 1 106 (0, 0) [.ref a0, jy 2, jy ((I a0 6).toInt)] X I R Q35 (fun _ _ => False)) ∧ (
            ∀ rv I37, Q35 rv I37 → ∃ r38 : Int, rv = some (jy r38) ∧ (
            Q (some (jy (-1))) I37)))
          ))
        )))
      )) ∧ ((I a0 3).toInt = (I a0 6).toInt → (
        ∃ Q39 : Option Value → jx_I → Prop, (
        (jc V 1 106 (0, 0) [.ref a0, jy 1, jy ((I a0 6).toInt)] X I R Q39 (fun _ _ => False)) ∧ (
        ∀ rv I41, Q39 rv I41 → ∃ r42 : Int, rv = some (jy r42) ∧ (
        Q (some (jy (-1))) I41)))
      ))
    )) ∧ (¬ (I q21 ((I a0 3).toInt).toNat).toInt < 48 → (
      (0 ≤ (I a0 3).toInt ∧ (I a0 3).toInt < n23) ∧ (
      (57 < (I q21 ((I a0 3).toInt).toNat).toInt → (
        ((I a0 3).toInt ≠ (I a0 6).toInt → (
          (-2147483648 ≤ l3 ∧ l3 < 2147483648) ∧ (
          (l3 < a1 → (
            ∃ Q45 : Option Value → jx_I → Prop, (
            (jc V 1 106 (0, 0) [.ref a0, jy 2, jy ((I a0 6).toInt)] X I R Q45 (fun _ _ => False)) ∧ (
            ∀ rv I47, Q45 rv I47 → ∃ r48 : Int, rv = some (jy r48) ∧ (
            Q (some (jy (-1))) I47)))
          )) ∧ (¬ l3 < a1 → (
            (l3 ≤ a2 → (
              ∃ Q49 : Option Value → jx_I → Prop, (
              (jc V 1 119 (0, 0) [.ref a0] X I R Q49 (fun _ _ => False)) ∧ (
              ∀ rv I51, Q49 rv I51 → rv = none ∧ (
              Q (some (jy l3)) I51)))
            )) ∧ (¬ l3 ≤ a2 → (
              ∃ Q53 : Option Value → jx_I → Prop, (
              (jc V 1 106 (0, 0) [.ref a0, jy 2, jy ((I a0 6).toInt)] X I R Q53 (fun _ _ => False)) ∧ (
              ∀ rv I55, Q53 rv I55 → ∃ r56 : Int, rv = some (jy r56) ∧ (
              Q (some (jy (-1))) I55)))
            ))
          )))
        )) ∧ ((I a0 3).toInt = (I a0 6).toInt → (
          ∃ Q57 : Option Value → jx_I → Prop, (
          (jc V 1 106 (0, 0) [.ref a0, jy 1, jy ((I a0 6).toInt)] X I R Q57 (fun _ _ => False)) ∧ (
          ∀ rv I59, Q57 rv I59 → ∃ r60 : Int, rv = some (jy r60) ∧ (
          Q (some (jy (-1))) I59)))
        ))
      )) ∧ (¬ 57 < (I q21 ((I a0 3).toInt).toNat).toInt → (
        (0 ≤ (I a0 3).toInt ∧ (I a0 3).toInt < n23) ∧ (
        ∃ Q62 : Option Value → jx_I → Prop, (
        (jc V 1 329 (0, 0) [jy (((l3 * 10) + (I q21 ((I a0 3).toInt).toNat).toInt) - 48), jy 100000] X I R Q62 (fun _ _ => False)) ∧ (
        ∀ rv I64, Q62 rv I64 → ∃ r65 : Int, rv = some (jy r65) ∧ (
        ∀ I66 : jx_I, I66 = jx_u I64 a0 3 (Int32.ofInt ((I64 a0 3).toInt + 1)) → (
        J10 r65 I66)))))
      )))
    )))))))
  )))
/-- GC$Tape.readNumber -/
def wz_118 (V : jx_V) (X : jx_X) (R : jx_R) (Q : Option Value → jx_I → Prop) (QE : String → jx_I → Prop) (J10 : Int → jx_I → Prop) (a0 : Nat) (a1 : Int) (a2 : Int) (I : jx_I) : Prop :=
  (X.2.1 a0 = some (8, 0)) ∧ (
  ∀ I2 : jx_I, I2 = jx_u I a0 6 (Int32.ofInt ((I a0 3).toInt)) → (
  J10 0 I2))
set_option maxRecDepth 20000 in
theorem wm_118 {V : jx_V} (hV : V.1.stackTraces = false) {X : jx_X} {R : jx_R} {I : jx_I} {Q : Option Value → jx_I → Prop} {QE : String → jx_I → Prop} {a0 : Nat} {a1 : Int} {a2 : Int} (r_a1 : -2147483648 ≤ a1 ∧ a1 < 2147483648) (r_a2 : -2147483648 ≤ a2 ∧ a2 < 2147483648) 
    (h : ∀ (J10 : Int → jx_I → Prop), ((∀ (l3 : Int) I, wz_118_10 V X R Q QE J10 a0 a1 a2 l3 I → J10 l3 I)) → wz_118 V X R Q QE J10 a0 a1 a2 I) : jc V 2 118 (0, 0) [.ref a0, jy a1, jy a2] X I R Q QE := by
  refine jy_met hV (by decide) (n := 4) (rt := some .int) (hh := []) (ini := false) (C := jx_c118) (L := [some (.ref a0), some (jy a1), some (jy a2), none]) jt_118 (Nat.le_of_ble_eq_true rfl) rfl ?_
  intro J hS
  have h := h (fun l3 I => J 10 [] [some (.ref a0), some (jy a1), some (jy a2), some (jy l3)] (0, 0) X I R) ?_
  · unfold wz_118 at h
    refine jy_aload_n hS rfl rfl ?_
    refine jy_aload_n hS rfl rfl ?_
    obtain ⟨g1, h⟩ := h
    refine jy_getI hS rfl (by decide) g1 ?_
    refine jy_putI hS rfl (by decide) g1 ?_
    intro I2 e9
    have h := h I2 e9
    clear e9
    refine jy_iconst hS rfl ?_
    refine jy_istore_n hS rfl (Nat.le_of_ble_eq_true rfl) (L' := [some (.ref a0), some (jy a1), some (jy a2), some (jy 0)]) rfl ?_
    exact jy_join hS h rfl (jy_sub_s (jy_sub_s (jy_sub_s (jy_sub_s jy_sub_0))))
  · intro l3 I h
    unfold wz_118_10 at h
    refine jy_aload_n hS rfl rfl ?_
    obtain ⟨g3, h⟩ := h
    refine jy_getI hS rfl (by decide) g3 ?_
    refine jy_aload_n hS rfl rfl ?_
    refine jy_getI hS rfl (by decide) g3 ?_
    refine jy_icmp_ge hS rfl ⟨(jy_rng _), (jy_rng _)⟩ (fun hq => ?_) (fun hq => ?_)
    · have h := h.1 hq
      refine jy_aload_n hS rfl rfl ?_
      refine jy_getI hS rfl (by decide) g3 ?_
      refine jy_aload_n hS rfl rfl ?_
      refine jy_getI hS rfl (by decide) g3 ?_
      refine jy_icmp_ne hS rfl ⟨(jy_rng _), (jy_rng _)⟩ (fun hq => ?_) (fun hq => ?_)
      · have h := h.1 hq
        refine jy_iload_n hS rfl rfl ?_
        refine jy_iload_n hS rfl rfl ?_
        obtain ⟨g4, h⟩ := h
        refine jy_icmp_lt hS rfl ⟨g4, r_a1⟩ (fun hq => ?_) (fun hq => ?_)
        · have h := h.1 hq
          refine jy_aload_n hS rfl rfl ?_
          refine jy_iconst hS rfl ?_
          refine jy_aload_n hS rfl rfl ?_
          refine jy_getI hS rfl (by decide) g3 ?_
          obtain ⟨Q5, h⟩ := h
          obtain ⟨g6, h⟩ := h
          refine jy_callV hS rfl rfl rfl (Nat.le_of_ble_eq_true rfl) (Or.inl g3) g6 (by decide) ⟨by decide, by decide⟩ (Nat.le_of_ble_eq_true rfl) ?_ ?_
          rotate_left
          · exact fun Ex Xx Ix Rx hp => hp.2.2.2.elim
          intro rv Xx I7 Rx hp
          obtain ⟨e1, e2, hp⟩ := hp
          rw [e1, e2]
          clear e1 e2
          obtain ⟨r8, e1, h⟩ := h rv I7 hp
          rw [e1]
          clear e1
          change J 127 [jy r8] _ (0, 0) _ _ _
          refine jy_pop hS rfl rfl ?_
          refine jy_iconst hS rfl ?_
          exact jy_iret hS rfl rfl ⟨rfl, rfl, h⟩
        · have h := h.2 hq
          refine jy_iload_n hS rfl rfl ?_
          refine jy_iload_n hS rfl rfl ?_
          refine jy_icmp_le hS rfl ⟨g4, r_a2⟩ (fun hq => ?_) (fun hq => ?_)
          · have h := h.1 hq
            refine jy_aload_n hS rfl rfl ?_
            obtain ⟨Q9, h⟩ := h
            obtain ⟨g10, h⟩ := h
            refine jy_callV hS rfl rfl rfl (Nat.le_of_ble_eq_true rfl) (Or.inl g3) g10 (by decide) ⟨by decide, by decide⟩ (Nat.le_of_ble_eq_true rfl) ?_ ?_
            rotate_left
            · exact fun Ex Xx Ix Rx hp => hp.2.2.2.elim
            intro rv Xx I11 Rx hp
            obtain ⟨e1, e2, hp⟩ := hp
            rw [e1, e2]
            clear e1 e2
            obtain ⟨e1, h⟩ := h rv I11 hp
            rw [e1]
            clear e1
            change J 134 [] _ (0, 0) _ _ _
            refine jy_iload_n hS rfl rfl ?_
            exact jy_iret hS rfl rfl ⟨rfl, rfl, h⟩
          · have h := h.2 hq
            refine jy_aload_n hS rfl rfl ?_
            refine jy_iconst hS rfl ?_
            refine jy_aload_n hS rfl rfl ?_
            refine jy_getI hS rfl (by decide) g3 ?_
            obtain ⟨Q13, h⟩ := h
            obtain ⟨g14, h⟩ := h
            refine jy_callV hS rfl rfl rfl (Nat.le_of_ble_eq_true rfl) (Or.inl g3) g14 (by decide) ⟨by decide, by decide⟩ (Nat.le_of_ble_eq_true rfl) ?_ ?_
            rotate_left
            · exact fun Ex Xx Ix Rx hp => hp.2.2.2.elim
            intro rv Xx I15 Rx hp
            obtain ⟨e1, e2, hp⟩ := hp
            rw [e1, e2]
            clear e1 e2
            obtain ⟨r16, e1, h⟩ := h rv I15 hp
            rw [e1]
            clear e1
            change J 127 [jy r16] _ (0, 0) _ _ _
            refine jy_pop hS rfl rfl ?_
            refine jy_iconst hS rfl ?_
            exact jy_iret hS rfl rfl ⟨rfl, rfl, h⟩
      · have h := h.2 hq
        refine jy_aload_n hS rfl rfl ?_
        refine jy_iconst hS rfl ?_
        refine jy_aload_n hS rfl rfl ?_
        refine jy_getI hS rfl (by decide) g3 ?_
        obtain ⟨Q17, h⟩ := h
        obtain ⟨g18, h⟩ := h
        refine jy_callV hS rfl rfl rfl (Nat.le_of_ble_eq_true rfl) (Or.inl g3) g18 (by decide) ⟨by decide, by decide⟩ (Nat.le_of_ble_eq_true rfl) ?_ ?_
        rotate_left
        · exact fun Ex Xx Ix Rx hp => hp.2.2.2.elim
        intro rv Xx I19 Rx hp
        obtain ⟨e1, e2, hp⟩ := hp
        rw [e1, e2]
        clear e1 e2
        obtain ⟨r20, e1, h⟩ := h rv I19 hp
        rw [e1]
        clear e1
        change J 105 [jy r20] _ (0, 0) _ _ _
        refine jy_pop hS rfl rfl ?_
        refine jy_iconst hS rfl ?_
        exact jy_iret hS rfl rfl ⟨rfl, rfl, h⟩
    · have h := h.2 hq
      refine jy_aload_n hS rfl rfl ?_
      obtain ⟨q21, h⟩ := h
      obtain ⟨g22, h⟩ := h
      refine jy_getR hS rfl (by decide) g3 g22 ?_
      refine jy_aload_n hS rfl rfl ?_
      refine jy_getI hS rfl (by decide) g3 ?_
      obtain ⟨n23, h⟩ := h
      obtain ⟨g24, h⟩ := h
      obtain ⟨g25, h⟩ := h
      refine jy_iald hS rfl g24.1 (Nat.le_of_lt g24.2) g25 ?_
      refine jy_bipush hS rfl (by decide) ?_
      refine jy_icmp_lt hS rfl ⟨(jy_rng _), ⟨by decide, by decide⟩⟩ (fun hq => ?_) (fun hq => ?_)
      · have h := h.1 hq
        refine jy_aload_n hS rfl rfl ?_
        refine jy_getI hS rfl (by decide) g3 ?_
        refine jy_aload_n hS rfl rfl ?_
        refine jy_getI hS rfl (by decide) g3 ?_
        refine jy_icmp_ne hS rfl ⟨(jy_rng _), (jy_rng _)⟩ (fun hq => ?_) (fun hq => ?_)
        · have h := h.1 hq
          refine jy_iload_n hS rfl rfl ?_
          refine jy_iload_n hS rfl rfl ?_
          obtain ⟨g26, h⟩ := h
          refine jy_icmp_lt hS rfl ⟨g26, r_a1⟩ (fun hq => ?_) (fun hq => ?_)
          · have h := h.1 hq
            refine jy_aload_n hS rfl rfl ?_
            refine jy_iconst hS rfl ?_
            refine jy_aload_n hS rfl rfl ?_
            refine jy_getI hS rfl (by decide) g3 ?_
            obtain ⟨Q27, h⟩ := h
            obtain ⟨g28, h⟩ := h
            refine jy_callV hS rfl rfl rfl (Nat.le_of_ble_eq_true rfl) (Or.inl g3) g28 (by decide) ⟨by decide, by decide⟩ (Nat.le_of_ble_eq_true rfl) ?_ ?_
            rotate_left
            · exact fun Ex Xx Ix Rx hp => hp.2.2.2.elim
            intro rv Xx I29 Rx hp
            obtain ⟨e1, e2, hp⟩ := hp
            rw [e1, e2]
            clear e1 e2
            obtain ⟨r30, e1, h⟩ := h rv I29 hp
            rw [e1]
            clear e1
            change J 127 [jy r30] _ (0, 0) _ _ _
            refine jy_pop hS rfl rfl ?_
            refine jy_iconst hS rfl ?_
            exact jy_iret hS rfl rfl ⟨rfl, rfl, h⟩
          · have h := h.2 hq
            refine jy_iload_n hS rfl rfl ?_
            refine jy_iload_n hS rfl rfl ?_
            refine jy_icmp_le hS rfl ⟨g26, r_a2⟩ (fun hq => ?_) (fun hq => ?_)
            · have h := h.1 hq
              refine jy_aload_n hS rfl rfl ?_
              obtain ⟨Q31, h⟩ := h
              obtain ⟨g32, h⟩ := h
              refine jy_callV hS rfl rfl rfl (Nat.le_of_ble_eq_true rfl) (Or.inl g3) g32 (by decide) ⟨by decide, by decide⟩ (Nat.le_of_ble_eq_true rfl) ?_ ?_
              rotate_left
              · exact fun Ex Xx Ix Rx hp => hp.2.2.2.elim
              intro rv Xx I33 Rx hp
              obtain ⟨e1, e2, hp⟩ := hp
              rw [e1, e2]
              clear e1 e2
              obtain ⟨e1, h⟩ := h rv I33 hp
              rw [e1]
              clear e1
              change J 134 [] _ (0, 0) _ _ _
              refine jy_iload_n hS rfl rfl ?_
              exact jy_iret hS rfl rfl ⟨rfl, rfl, h⟩
            · have h := h.2 hq
              refine jy_aload_n hS rfl rfl ?_
              refine jy_iconst hS rfl ?_
              refine jy_aload_n hS rfl rfl ?_
              refine jy_getI hS rfl (by decide) g3 ?_
              obtain ⟨Q35, h⟩ := h
              obtain ⟨g36, h⟩ := h
              refine jy_callV hS rfl rfl rfl (Nat.le_of_ble_eq_true rfl) (Or.inl g3) g36 (by decide) ⟨by decide, by decide⟩ (Nat.le_of_ble_eq_true rfl) ?_ ?_
              rotate_left
              · exact fun Ex Xx Ix Rx hp => hp.2.2.2.elim
              intro rv Xx I37 Rx hp
              obtain ⟨e1, e2, hp⟩ := hp
              rw [e1, e2]
              clear e1 e2
              obtain ⟨r38, e1, h⟩ := h rv I37 hp
              rw [e1]
              clear e1
              change J 127 [jy r38] _ (0, 0) _ _ _
              refine jy_pop hS rfl rfl ?_
              refine jy_iconst hS rfl ?_
              exact jy_iret hS rfl rfl ⟨rfl, rfl, h⟩
        · have h := h.2 hq
          refine jy_aload_n hS rfl rfl ?_
          refine jy_iconst hS rfl ?_
          refine jy_aload_n hS rfl rfl ?_
          refine jy_getI hS rfl (by decide) g3 ?_
          obtain ⟨Q39, h⟩ := h
          obtain ⟨g40, h⟩ := h
          refine jy_callV hS rfl rfl rfl (Nat.le_of_ble_eq_true rfl) (Or.inl g3) g40 (by decide) ⟨by decide, by decide⟩ (Nat.le_of_ble_eq_true rfl) ?_ ?_
          rotate_left
          · exact fun Ex Xx Ix Rx hp => hp.2.2.2.elim
          intro rv Xx I41 Rx hp
          obtain ⟨e1, e2, hp⟩ := hp
          rw [e1, e2]
          clear e1 e2
          obtain ⟨r42, e1, h⟩ := h rv I41 hp
          rw [e1]
          clear e1
          change J 105 [jy r42] _ (0, 0) _ _ _
          refine jy_pop hS rfl rfl ?_
          refine jy_iconst hS rfl ?_
          exact jy_iret hS rfl rfl ⟨rfl, rfl, h⟩
      · have h := h.2 hq
        refine jy_aload_n hS rfl rfl ?_
        refine jy_getR hS rfl (by decide) g3 g22 ?_
        refine jy_aload_n hS rfl rfl ?_
        refine jy_getI hS rfl (by decide) g3 ?_
        obtain ⟨g43, h⟩ := h
        refine jy_iald hS rfl g24.1 (Nat.le_of_lt g24.2) g43 ?_
        refine jy_bipush hS rfl (by decide) ?_
        refine jy_icmp_gt hS rfl ⟨(jy_rng _), ⟨by decide, by decide⟩⟩ (fun hq => ?_) (fun hq => ?_)
        · have h := h.1 hq
          refine jy_aload_n hS rfl rfl ?_
          refine jy_getI hS rfl (by decide) g3 ?_
          refine jy_aload_n hS rfl rfl ?_
          refine jy_getI hS rfl (by decide) g3 ?_
          refine jy_icmp_ne hS rfl ⟨(jy_rng _), (jy_rng _)⟩ (fun hq => ?_) (fun hq => ?_)
          · have h := h.1 hq
            refine jy_iload_n hS rfl rfl ?_
            refine jy_iload_n hS rfl rfl ?_
            obtain ⟨g44, h⟩ := h
            refine jy_icmp_lt hS rfl ⟨g44, r_a1⟩ (fun hq => ?_) (fun hq => ?_)
            · have h := h.1 hq
              refine jy_aload_n hS rfl rfl ?_
              refine jy_iconst hS rfl ?_
              refine jy_aload_n hS rfl rfl ?_
              refine jy_getI hS rfl (by decide) g3 ?_
              obtain ⟨Q45, h⟩ := h
              obtain ⟨g46, h⟩ := h
              refine jy_callV hS rfl rfl rfl (Nat.le_of_ble_eq_true rfl) (Or.inl g3) g46 (by decide) ⟨by decide, by decide⟩ (Nat.le_of_ble_eq_true rfl) ?_ ?_
              rotate_left
              · exact fun Ex Xx Ix Rx hp => hp.2.2.2.elim
              intro rv Xx I47 Rx hp
              obtain ⟨e1, e2, hp⟩ := hp
              rw [e1, e2]
              clear e1 e2
              obtain ⟨r48, e1, h⟩ := h rv I47 hp
              rw [e1]
              clear e1
              change J 127 [jy r48] _ (0, 0) _ _ _
              refine jy_pop hS rfl rfl ?_
              refine jy_iconst hS rfl ?_
              exact jy_iret hS rfl rfl ⟨rfl, rfl, h⟩
            · have h := h.2 hq
              refine jy_iload_n hS rfl rfl ?_
              refine jy_iload_n hS rfl rfl ?_
              refine jy_icmp_le hS rfl ⟨g44, r_a2⟩ (fun hq => ?_) (fun hq => ?_)
              · have h := h.1 hq
                refine jy_aload_n hS rfl rfl ?_
                obtain ⟨Q49, h⟩ := h
                obtain ⟨g50, h⟩ := h
                refine jy_callV hS rfl rfl rfl (Nat.le_of_ble_eq_true rfl) (Or.inl g3) g50 (by decide) ⟨by decide, by decide⟩ (Nat.le_of_ble_eq_true rfl) ?_ ?_
                rotate_left
                · exact fun Ex Xx Ix Rx hp => hp.2.2.2.elim
                intro rv Xx I51 Rx hp
                obtain ⟨e1, e2, hp⟩ := hp
                rw [e1, e2]
                clear e1 e2
                obtain ⟨e1, h⟩ := h rv I51 hp
                rw [e1]
                clear e1
                change J 134 [] _ (0, 0) _ _ _
                refine jy_iload_n hS rfl rfl ?_
                exact jy_iret hS rfl rfl ⟨rfl, rfl, h⟩
              · have h := h.2 hq
                refine jy_aload_n hS rfl rfl ?_
                refine jy_iconst hS rfl ?_
                refine jy_aload_n hS rfl rfl ?_
                refine jy_getI hS rfl (by decide) g3 ?_
                obtain ⟨Q53, h⟩ := h
                obtain ⟨g54, h⟩ := h
                refine jy_callV hS rfl rfl rfl (Nat.le_of_ble_eq_true rfl) (Or.inl g3) g54 (by decide) ⟨by decide, by decide⟩ (Nat.le_of_ble_eq_true rfl) ?_ ?_
                rotate_left
                · exact fun Ex Xx Ix Rx hp => hp.2.2.2.elim
                intro rv Xx I55 Rx hp
                obtain ⟨e1, e2, hp⟩ := hp
                rw [e1, e2]
                clear e1 e2
                obtain ⟨r56, e1, h⟩ := h rv I55 hp
                rw [e1]
                clear e1
                change J 127 [jy r56] _ (0, 0) _ _ _
                refine jy_pop hS rfl rfl ?_
                refine jy_iconst hS rfl ?_
                exact jy_iret hS rfl rfl ⟨rfl, rfl, h⟩
          · have h := h.2 hq
            refine jy_aload_n hS rfl rfl ?_
            refine jy_iconst hS rfl ?_
            refine jy_aload_n hS rfl rfl ?_
            refine jy_getI hS rfl (by decide) g3 ?_
            obtain ⟨Q57, h⟩ := h
            obtain ⟨g58, h⟩ := h
            refine jy_callV hS rfl rfl rfl (Nat.le_of_ble_eq_true rfl) (Or.inl g3) g58 (by decide) ⟨by decide, by decide⟩ (Nat.le_of_ble_eq_true rfl) ?_ ?_
            rotate_left
            · exact fun Ex Xx Ix Rx hp => hp.2.2.2.elim
            intro rv Xx I59 Rx hp
            obtain ⟨e1, e2, hp⟩ := hp
            rw [e1, e2]
            clear e1 e2
            obtain ⟨r60, e1, h⟩ := h rv I59 hp
            rw [e1]
            clear e1
            change J 105 [jy r60] _ (0, 0) _ _ _
            refine jy_pop hS rfl rfl ?_
            refine jy_iconst hS rfl ?_
            exact jy_iret hS rfl rfl ⟨rfl, rfl, h⟩
        · have h := h.2 hq
          refine jy_iload_n hS rfl rfl ?_
          refine jy_bipush hS rfl (by decide) ?_
          refine jy_imul hS rfl ?_
          refine jy_aload_n hS rfl rfl ?_
          refine jy_getR hS rfl (by decide) g3 g22 ?_
          refine jy_aload_n hS rfl rfl ?_
          refine jy_getI hS rfl (by decide) g3 ?_
          obtain ⟨g61, h⟩ := h
          refine jy_iald hS rfl g24.1 (Nat.le_of_lt g24.2) g61 ?_
          refine jy_iadd hS rfl ?_
          refine jy_bipush hS rfl (by decide) ?_
          refine jy_isub hS rfl ?_
          refine jy_ldcI hS rfl (n := 100000) (by decide) ?_
          obtain ⟨Q62, h⟩ := h
          obtain ⟨g63, h⟩ := h
          refine jy_callS hS rfl rfl rfl (Nat.le_of_ble_eq_true rfl) g63 (by decide) ⟨by decide, by decide⟩ (Nat.le_of_ble_eq_true rfl) ?_ ?_
          rotate_left
          · exact fun Ex Xx Ix Rx hp => hp.2.2.2.elim
          intro rv Xx I64 Rx hp
          obtain ⟨e1, e2, hp⟩ := hp
          rw [e1, e2]
          clear e1 e2
          obtain ⟨r65, e1, h⟩ := h rv I64 hp
          rw [e1]
          clear e1
          change J 71 [jy r65] _ (0, 0) _ _ _
          refine jy_istore_n hS rfl (Nat.le_of_ble_eq_true rfl) (L' := [some (.ref a0), some (jy a1), some (jy a2), some (jy r65)]) rfl ?_
          refine jy_aload_n hS rfl rfl ?_
          refine jy_dup hS rfl rfl ?_
          refine jy_getI hS rfl (by decide) g3 ?_
          refine jy_iconst hS rfl ?_
          refine jy_iadd hS rfl ?_
          refine jy_putI hS rfl (by decide) g3 ?_
          intro I66 e9
          have h := h I66 e9
          clear e9
          refine jy_goto hS rfl ?_
          exact jy_join hS h rfl (jy_sub_s (jy_sub_s (jy_sub_s (jy_sub_s jy_sub_0))))
theorem jt_119 : jx_ml 119 = 1 ∧ jx_rt 119 = none ∧ jx_hz 119 = [] ∧ decide ((jx_nm 119).name = "<init>") = false ∧ jx_code 119 = jx_c119 := by decide +kernel
/-- GC$Tape.skipBlanks, from 0 -/
def wz_119_0 (V : jx_V) (X : jx_X) (R : jx_R) (Q : Option Value → jx_I → Prop) (QE : String → jx_I → Prop) (J0 : jx_I → Prop) (a0 : Nat)  (I : jx_I) : Prop :=
  (X.2.1 a0 = some (8, 0)) ∧ (
  ((I a0 2).toInt ≤ (I a0 3).toInt → (
    Q none I
  )) ∧ (¬ (I a0 2).toInt ≤ (I a0 3).toInt → (
    ∃ q2 : Nat, (
    (R a0 0 = some q2) ∧ (
    ∃ n4 : Nat, (
    (X.2.1 q2 = some (100, n4) ∧ n4 < 2147483648) ∧ (
    (0 ≤ (I a0 3).toInt ∧ (I a0 3).toInt < n4) ∧ (
    ((I q2 ((I a0 3).toInt).toNat).toInt ≠ 32 → (
      Q none I
    )) ∧ ((I q2 ((I a0 3).toInt).toNat).toInt = 32 → (
      ∀ I7 : jx_I, I7 = jx_u I a0 3 (Int32.ofInt ((I a0 3).toInt + 1)) → (
      J0 I7)
    )))))))
  )))
/-- GC$Tape.skipBlanks -/
def wz_119 (V : jx_V) (X : jx_X) (R : jx_R) (Q : Option Value → jx_I → Prop) (QE : String → jx_I → Prop) (J0 : jx_I → Prop) (a0 : Nat) (I : jx_I) : Prop :=
  J0 I
set_option maxRecDepth 20000 in
theorem wm_119 {V : jx_V} (hV : V.1.stackTraces = false) {X : jx_X} {R : jx_R} {I : jx_I} {Q : Option Value → jx_I → Prop} {QE : String → jx_I → Prop} {a0 : Nat}  
    (h : ∀ (J0 : jx_I → Prop), ((∀  I, wz_119_0 V X R Q QE J0 a0  I → J0  I)) → wz_119 V X R Q QE J0 a0 I) : jc V 1 119 (0, 0) [.ref a0] X I R Q QE := by
  refine jy_met hV (by decide) (n := 1) (rt := none) (hh := []) (ini := false) (C := jx_c119) (L := [some (.ref a0)]) jt_119 (Nat.le_of_ble_eq_true rfl) rfl ?_
  intro J hS
  have h := h (fun  I => J 0 [] [some (.ref a0)] (0, 0) X I R) ?_
  · unfold wz_119 at h
    exact jy_join hS h rfl (jy_sub_s jy_sub_0)
  · intro  I h
    unfold wz_119_0 at h
    refine jy_aload_n hS rfl rfl ?_
    obtain ⟨g1, h⟩ := h
    refine jy_getI hS rfl (by decide) g1 ?_
    refine jy_aload_n hS rfl rfl ?_
    refine jy_getI hS rfl (by decide) g1 ?_
    refine jy_icmp_ge hS rfl ⟨(jy_rng _), (jy_rng _)⟩ (fun hq => ?_) (fun hq => ?_)
    · have h := h.1 hq
      exact jy_ret hS rfl rfl ⟨rfl, rfl, h⟩
    · have h := h.2 hq
      refine jy_aload_n hS rfl rfl ?_
      obtain ⟨q2, h⟩ := h
      obtain ⟨g3, h⟩ := h
      refine jy_getR hS rfl (by decide) g1 g3 ?_
      refine jy_aload_n hS rfl rfl ?_
      refine jy_getI hS rfl (by decide) g1 ?_
      obtain ⟨n4, h⟩ := h
      obtain ⟨g5, h⟩ := h
      obtain ⟨g6, h⟩ := h
      refine jy_iald hS rfl g5.1 (Nat.le_of_lt g5.2) g6 ?_
      refine jy_bipush hS rfl (by decide) ?_
      refine jy_icmp_ne hS rfl ⟨(jy_rng _), ⟨by decide, by decide⟩⟩ (fun hq => ?_) (fun hq => ?_)
      · have h := h.1 hq
        exact jy_ret hS rfl rfl ⟨rfl, rfl, h⟩
      · have h := h.2 hq
        refine jy_aload_n hS rfl rfl ?_
        refine jy_dup hS rfl rfl ?_
        refine jy_getI hS rfl (by decide) g1 ?_
        refine jy_iconst hS rfl ?_
        refine jy_iadd hS rfl ?_
        refine jy_putI hS rfl (by decide) g1 ?_
        intro I7 e9
        have h := h I7 e9
        clear e9
        refine jy_goto hS rfl ?_
        exact jy_join hS h rfl (jy_sub_s jy_sub_0)
theorem jt_121 : jx_ml 121 = 7 ∧ jx_rt 121 = none ∧ jx_hz 121 = [] ∧ decide ((jx_nm 121).name = "<init>") = false ∧ jx_code 121 = jx_c121 := by decide +kernel
/-- GC$Trip.walk, from 26 -/
def wz_121_26 (V : jx_V) (X : jx_X) (R : jx_R) (Q : Option Value → jx_I → Prop) (QE : String → jx_I → Prop) (J26 : Int → jx_I → Prop) (a0 : Nat) (a1 : Nat) (a2 : Nat) (a3 : Nat) (a4 : Nat) (l5 : Int) (I : jx_I) : Prop :=
  (X.2.1 a2 = some (5, 0)) ∧ (
  (-2147483648 ≤ l5 ∧ l5 < 2147483648) ∧ (
  ((I a2 1).toInt ≤ l5 → (
    Q none I
  )) ∧ (¬ (I a2 1).toInt ≤ l5 → (
    ∃ q18 : Nat, (
    (R a2 0 = some q18) ∧ (
    ∃ n20 : Nat, (
    (X.2.1 q18 = some (100, n20) ∧ n20 < 2147483648) ∧ (
    (0 ≤ l5 ∧ l5 < n20) ∧ (
    (X.2.1 a0 = some (9, 0)) ∧ (
    ∃ q24 : Nat, (
    (R a0 0 = some q24) ∧ (
    (X.2.1 q24 = some (1, 0)) ∧ (
    ∃ q27 : Nat, (
    (R q24 0 = some q27) ∧ (
    ∃ q29 : Nat, (
    (R a0 1 = some q29) ∧ (
    ∃ n31 : Nat, (
    (X.2.1 q27 = some (100, n31) ∧ n31 < 2147483648) ∧ (
    ∃ n33 : Nat, (
    (X.2.1 q29 = some (100, n33) ∧ n33 < 2147483648) ∧ (
    ((0 ≤ ((I q18 l5.toNat).toInt * 8) ∧ ((I q18 l5.toNat).toInt * 8) + (8 : Int) ≤ n31) ∧ (0 ≤ (l5 * 8) ∧ (l5 * 8) + (8 : Int) ≤ n33) ∧ 0 ≤ (8 : Int)) ∧ (
    ∀ I36 : jx_I, I36 = jx_cp I q27 q29 (((I q18 l5.toNat).toInt * 8) : Int).toNat ((l5 * 8) : Int).toNat (8 : Int).toNat → (
    ∃ q37 : Nat, (
    (R a0 2 = some q37) ∧ (
    ∃ Q39 : Option Value → jx_I → Prop, (
    (jc V 4 122 (0, 0) [.ref a0, .ref a1, jy ((I q18 l5.toNat).toInt), jy l5, .ref a3] X I36 R Q39 (fun _ _ => False)) ∧ (
    ∀ rv I41, Q39 rv I41 → ∃ r42 : Int, rv = some (jy r42) ∧ (
    ∃ n43 : Nat, (
    (X.2.1 q37 = some (100, n43) ∧ n43 < 2147483648) ∧ (
    (0 ≤ l5 ∧ l5 < n43) ∧ (
    ∀ I46 : jx_I, I46 = jx_u I41 q37 l5.toNat (Int32.ofInt r42) → (
    (0 ≤ l5 ∧ l5 < n43) ∧ (
    ∀ I48 : jx_I, I48 = jx_u I46 a0 4 (Int32.ofInt ((I46 a0 4).toInt + (I46 q37 l5.toNat).toInt)) → (
    ∃ Q49 : Option Value → jx_I → Prop, (
    (jc V 3 16 (0, 0) [.ref q24, .ref a1, jy ((I q18 l5.toNat).toInt), .ref a3] X I48 R Q49 (fun _ _ => False)) ∧ (
    ∀ rv I51, Q49 rv I51 → rv = none ∧ (
    J26 (l5 + 1) I51)))))))))))))))))))))))))))))))))
  ))))
/-- GC$Trip.walk -/
def wz_121 (V : jx_V) (X : jx_X) (R : jx_R) (Q : Option Value → jx_I → Prop) (QE : String → jx_I → Prop) (J26 : Int → jx_I → Prop) (a0 : Nat) (a1 : Nat) (a2 : Nat) (a3 : Nat) (a4 : Nat) (I : jx_I) : Prop :=
  (X.2.1 a0 = some (9, 0)) ∧ (
  ∃ q2 : Nat, (
  (R a0 0 = some q2) ∧ (
  (X.2.1 q2 = some (1, 0)) ∧ (
  ∃ Q5 : Option Value → jx_I → Prop, (
  (jc V 1 9 (0, 0) [.ref q2, .ref a4] X I R Q5 (fun _ _ => False)) ∧ (
  ∀ rv I7, Q5 rv I7 → rv = none ∧ (
  (X.2.1 a1 = some (2, 0)) ∧ (
  ∃ Q10 : Option Value → jx_I → Prop, (
  (jc V 2 37 (0, 0) [.ref a1, .ref a2] X I7 R Q10 (fun _ _ => False)) ∧ (
  ∀ rv I12, Q10 rv I12 → ∃ r13 : Int, rv = some (jy r13) ∧ (
  ∀ I14 : jx_I, I14 = jx_u I12 a0 3 (Int32.ofInt r13) → (
  ∀ I15 : jx_I, I15 = jx_u I14 a0 4 (Int32.ofInt 0) → (
  J26 1 I15)))))))))))))
set_option maxRecDepth 20000 in
theorem wm_121 {V : jx_V} (hV : V.1.stackTraces = false) {X : jx_X} {R : jx_R} {I : jx_I} {Q : Option Value → jx_I → Prop} {QE : String → jx_I → Prop} {a0 : Nat} {a1 : Nat} {a2 : Nat} {a3 : Nat} {a4 : Nat}  
    (h : ∀ (J26 : Int → jx_I → Prop), ((∀ (l5 : Int) I, wz_121_26 V X R Q QE J26 a0 a1 a2 a3 a4 l5 I → J26 l5 I)) → wz_121 V X R Q QE J26 a0 a1 a2 a3 a4 I) : jc V 5 121 (0, 0) [.ref a0, .ref a1, .ref a2, .ref a3, .ref a4] X I R Q QE := by
  refine jy_met hV (by decide) (n := 7) (rt := none) (hh := []) (ini := false) (C := jx_c121) (L := [some (.ref a0), some (.ref a1), some (.ref a2), some (.ref a3), some (.ref a4), none, none]) jt_121 (Nat.le_of_ble_eq_true rfl) rfl ?_
  intro J hS
  have h := h (fun l5 I => J 26 [] [some (.ref a0), some (.ref a1), some (.ref a2), some (.ref a3), none, some (jy l5), none] (0, 0) X I R) ?_
  · unfold wz_121 at h
    refine jy_aload_n hS rfl rfl ?_
    obtain ⟨g1, h⟩ := h
    obtain ⟨q2, h⟩ := h
    obtain ⟨g3, h⟩ := h
    refine jy_getR hS rfl (by decide) g1 g3 ?_
    refine jy_aload hS rfl rfl ?_
    obtain ⟨g4, h⟩ := h
    obtain ⟨Q5, h⟩ := h
    obtain ⟨g6, h⟩ := h
    refine jy_callV hS rfl rfl rfl (Nat.le_of_ble_eq_true rfl) (Or.inl g4) g6 (by decide) ⟨by decide, by decide⟩ (Nat.le_of_ble_eq_true rfl) ?_ ?_
    rotate_left
    · exact fun Ex Xx Ix Rx hp => hp.2.2.2.elim
    intro rv Xx I7 Rx hp
    obtain ⟨e1, e2, hp⟩ := hp
    rw [e1, e2]
    clear e1 e2
    obtain ⟨e1, h⟩ := h rv I7 hp
    rw [e1]
    clear e1
    change J 9 [] _ (0, 0) _ _ _
    refine jy_aload_n hS rfl rfl ?_
    refine jy_aload_n hS rfl rfl ?_
    refine jy_aload_n hS rfl rfl ?_
    obtain ⟨g9, h⟩ := h
    obtain ⟨Q10, h⟩ := h
    obtain ⟨g11, h⟩ := h
    refine jy_callV hS rfl rfl rfl (Nat.le_of_ble_eq_true rfl) (Or.inl g9) g11 (by decide) ⟨by decide, by decide⟩ (Nat.le_of_ble_eq_true rfl) ?_ ?_
    rotate_left
    · exact fun Ex Xx Ix Rx hp => hp.2.2.2.elim
    intro rv Xx I12 Rx hp
    obtain ⟨e1, e2, hp⟩ := hp
    rw [e1, e2]
    clear e1 e2
    obtain ⟨r13, e1, h⟩ := h rv I12 hp
    rw [e1]
    clear e1
    change J 15 [jy r13, .ref a0] _ (0, 0) _ _ _
    refine jy_putI hS rfl (by decide) g1 ?_
    intro I14 e9
    have h := h I14 e9
    clear e9
    refine jy_aload_n hS rfl rfl ?_
    refine jy_iconst hS rfl ?_
    refine jy_putI hS rfl (by decide) g1 ?_
    intro I15 e9
    have h := h I15 e9
    clear e9
    refine jy_iconst hS rfl ?_
    refine jy_istore hS rfl (Nat.le_of_ble_eq_true rfl) (L' := [some (.ref a0), some (.ref a1), some (.ref a2), some (.ref a3), some (.ref a4), some (jy 1), none]) rfl ?_
    exact jy_join hS h rfl (jy_sub_s (jy_sub_s (jy_sub_s (jy_sub_s (jy_sub_n (jy_sub_s (jy_sub_n jy_sub_0)))))))
  · intro l5 I h
    unfold wz_121_26 at h
    refine jy_iload hS rfl rfl ?_
    refine jy_aload_n hS rfl rfl ?_
    obtain ⟨g16, h⟩ := h
    refine jy_getI hS rfl (by decide) g16 ?_
    obtain ⟨g17, h⟩ := h
    refine jy_icmp_ge hS rfl ⟨g17, (jy_rng _)⟩ (fun hq => ?_) (fun hq => ?_)
    · have h := h.1 hq
      exact jy_ret hS rfl rfl ⟨rfl, rfl, h⟩
    · have h := h.2 hq
      refine jy_aload_n hS rfl rfl ?_
      obtain ⟨q18, h⟩ := h
      obtain ⟨g19, h⟩ := h
      refine jy_getR hS rfl (by decide) g16 g19 ?_
      refine jy_iload hS rfl rfl ?_
      obtain ⟨n20, h⟩ := h
      obtain ⟨g21, h⟩ := h
      obtain ⟨g22, h⟩ := h
      refine jy_iald hS rfl g21.1 (Nat.le_of_lt g21.2) g22 ?_
      refine jy_istore hS rfl (Nat.le_of_ble_eq_true rfl) (L' := [some (.ref a0), some (.ref a1), some (.ref a2), some (.ref a3), none, some (jy l5), some (jy ((I q18 l5.toNat).toInt))]) rfl ?_
      refine jy_aload_n hS rfl rfl ?_
      obtain ⟨g23, h⟩ := h
      obtain ⟨q24, h⟩ := h
      obtain ⟨g25, h⟩ := h
      refine jy_getR hS rfl (by decide) g23 g25 ?_
      obtain ⟨g26, h⟩ := h
      obtain ⟨q27, h⟩ := h
      obtain ⟨g28, h⟩ := h
      refine jy_getR hS rfl (by decide) g26 g28 ?_
      refine jy_iload hS rfl rfl ?_
      refine jy_bipush hS rfl (by decide) ?_
      refine jy_imul hS rfl ?_
      refine jy_aload_n hS rfl rfl ?_
      obtain ⟨q29, h⟩ := h
      obtain ⟨g30, h⟩ := h
      refine jy_getR hS rfl (by decide) g23 g30 ?_
      refine jy_iload hS rfl rfl ?_
      refine jy_bipush hS rfl (by decide) ?_
      refine jy_imul hS rfl ?_
      refine jy_bipush hS rfl (by decide) ?_
      obtain ⟨n31, h⟩ := h
      obtain ⟨g32, h⟩ := h
      obtain ⟨n33, h⟩ := h
      obtain ⟨g34, h⟩ := h
      obtain ⟨g35, h⟩ := h
      refine jy_copy hS rfl (by decide) g32 g34 g35 (Nat.le_of_ble_eq_true rfl) ?_
      intro I36 e9
      have h := h I36 e9
      clear e9
      refine jy_aload_n hS rfl rfl ?_
      obtain ⟨q37, h⟩ := h
      obtain ⟨g38, h⟩ := h
      refine jy_getR hS rfl (by decide) g23 g38 ?_
      refine jy_iload hS rfl rfl ?_
      refine jy_aload_n hS rfl rfl ?_
      refine jy_aload_n hS rfl rfl ?_
      refine jy_iload hS rfl rfl ?_
      refine jy_iload hS rfl rfl ?_
      refine jy_aload_n hS rfl rfl ?_
      obtain ⟨Q39, h⟩ := h
      obtain ⟨g40, h⟩ := h
      refine jy_callV hS rfl rfl rfl (Nat.le_of_ble_eq_true rfl) (Or.inl g23) g40 (by decide) ⟨by decide, by decide⟩ (Nat.le_of_ble_eq_true rfl) ?_ ?_
      rotate_left
      · exact fun Ex Xx Ix Rx hp => hp.2.2.2.elim
      intro rv Xx I41 Rx hp
      obtain ⟨e1, e2, hp⟩ := hp
      rw [e1, e2]
      clear e1 e2
      obtain ⟨r42, e1, h⟩ := h rv I41 hp
      rw [e1]
      clear e1
      change J 86 [jy r42, jy l5, .ref q37] _ (0, 0) _ _ _
      obtain ⟨n43, h⟩ := h
      obtain ⟨g44, h⟩ := h
      obtain ⟨g45, h⟩ := h
      refine jy_iast hS rfl g44.1 (Nat.le_of_lt g44.2) g45 ?_
      intro I46 e9
      have h := h I46 e9
      clear e9
      refine jy_aload_n hS rfl rfl ?_
      refine jy_dup hS rfl rfl ?_
      refine jy_getI hS rfl (by decide) g23 ?_
      refine jy_aload_n hS rfl rfl ?_
      refine jy_getR hS rfl (by decide) g23 g38 ?_
      refine jy_iload hS rfl rfl ?_
      obtain ⟨g47, h⟩ := h
      refine jy_iald hS rfl g44.1 (Nat.le_of_lt g44.2) g47 ?_
      refine jy_iadd hS rfl ?_
      refine jy_putI hS rfl (by decide) g23 ?_
      intro I48 e9
      have h := h I48 e9
      clear e9
      refine jy_aload_n hS rfl rfl ?_
      refine jy_getR hS rfl (by decide) g23 g25 ?_
      refine jy_aload_n hS rfl rfl ?_
      refine jy_iload hS rfl rfl ?_
      refine jy_aload_n hS rfl rfl ?_
      obtain ⟨Q49, h⟩ := h
      obtain ⟨g50, h⟩ := h
      refine jy_callV hS rfl rfl rfl (Nat.le_of_ble_eq_true rfl) (Or.inl g26) g50 (by decide) ⟨by decide, by decide⟩ (Nat.le_of_ble_eq_true rfl) ?_ ?_
      rotate_left
      · exact fun Ex Xx Ix Rx hp => hp.2.2.2.elim
      intro rv Xx I51 Rx hp
      obtain ⟨e1, e2, hp⟩ := hp
      rw [e1, e2]
      clear e1 e2
      obtain ⟨e1, h⟩ := h rv I51 hp
      rw [e1]
      clear e1
      change J 114 [] _ (0, 0) _ _ _
      refine jy_iinc hS rfl rfl (L' := [some (.ref a0), some (.ref a1), some (.ref a2), some (.ref a3), none, some (jy (l5 + 1)), some (jy ((I q18 l5.toNat).toInt))]) rfl ?_
      refine jy_goto hS rfl ?_
      exact jy_join hS h rfl (jy_sub_s (jy_sub_s (jy_sub_s (jy_sub_s (jy_sub_n (jy_sub_s (jy_sub_n jy_sub_0)))))))
theorem jt_122 : jx_ml 122 = 5 ∧ jx_rt 122 = some .int ∧ jx_hz 122 = [] ∧ decide ((jx_nm 122).name = "<init>") = false ∧ jx_code 122 = jx_c122 := by decide +kernel
/-- GC$Trip.haltOnComing -/
def wz_122 (V : jx_V) (X : jx_X) (R : jx_R) (Q : Option Value → jx_I → Prop) (QE : String → jx_I → Prop)  (a0 : Nat) (a1 : Nat) (a2 : Int) (a3 : Int) (a4 : Nat) (I : jx_I) : Prop :=
  (X.2.1 a1 = some (2, 0)) ∧ (
  ∃ q2 : Nat, (
  (R a1 6 = some q2) ∧ (
  (X.2.1 a0 = some (9, 0)) ∧ (
  ∃ q5 : Nat, (
  (R a0 1 = some q5) ∧ (
  ∃ Q7 : Option Value → jx_I → Prop, (
  (jc V 1 39 (0, 0) [.ref a1, jy a2] X I R Q7 (fun _ _ => False)) ∧ (
  ∀ rv I9, Q7 rv I9 → ∃ r10 : Int, rv = some (jy r10) ∧ (
  (X.2.1 q2 = some (3, 0)) ∧ (
  ∃ Q12 : Option Value → jx_I → Prop, (
  (jc V 3 52 (0, 0) [.ref q2, .ref a4, .ref q5, jy (a3 * 8), jy r10] X I9 R Q12 (fun _ _ => False)) ∧ (
  ∀ rv I14, Q12 rv I14 → ∃ r15 : Int, rv = some (jy r15) ∧ (
  Q (some (jy r15)) I14)))))))))))))
set_option maxRecDepth 20000 in
theorem wm_122 {V : jx_V} (hV : V.1.stackTraces = false) {X : jx_X} {R : jx_R} {I : jx_I} {Q : Option Value → jx_I → Prop} {QE : String → jx_I → Prop} {a0 : Nat} {a1 : Nat} {a2 : Int} {a3 : Int} {a4 : Nat} (r_a2 : -2147483648 ≤ a2 ∧ a2 < 2147483648) (r_a3 : -2147483648 ≤ a3 ∧ a3 < 2147483648) 
    (h : wz_122 V X R Q QE  a0 a1 a2 a3 a4 I) : jc V 4 122 (0, 0) [.ref a0, .ref a1, jy a2, jy a3, .ref a4] X I R Q QE := by
  refine jy_met hV (by decide) (n := 5) (rt := some .int) (hh := []) (ini := false) (C := jx_c122) (L := [some (.ref a0), some (.ref a1), some (jy a2), some (jy a3), some (.ref a4)]) jt_122 (Nat.le_of_ble_eq_true rfl) rfl ?_
  intro J hS
  unfold wz_122 at h
  refine jy_aload_n hS rfl rfl ?_
  obtain ⟨g1, h⟩ := h
  obtain ⟨q2, h⟩ := h
  obtain ⟨g3, h⟩ := h
  refine jy_getR hS rfl (by decide) g1 g3 ?_
  refine jy_aload hS rfl rfl ?_
  refine jy_aload_n hS rfl rfl ?_
  obtain ⟨g4, h⟩ := h
  obtain ⟨q5, h⟩ := h
  obtain ⟨g6, h⟩ := h
  refine jy_getR hS rfl (by decide) g4 g6 ?_
  refine jy_iload_n hS rfl rfl ?_
  refine jy_bipush hS rfl (by decide) ?_
  refine jy_imul hS rfl ?_
  refine jy_aload_n hS rfl rfl ?_
  refine jy_iload_n hS rfl rfl ?_
  obtain ⟨Q7, h⟩ := h
  obtain ⟨g8, h⟩ := h
  refine jy_callV hS rfl rfl rfl (Nat.le_of_ble_eq_true rfl) (Or.inl g1) g8 (by decide) ⟨by decide, by decide⟩ (Nat.le_of_ble_eq_true rfl) ?_ ?_
  rotate_left
  · exact fun Ex Xx Ix Rx hp => hp.2.2.2.elim
  intro rv Xx I9 Rx hp
  obtain ⟨e1, e2, hp⟩ := hp
  rw [e1, e2]
  clear e1 e2
  obtain ⟨r10, e1, h⟩ := h rv I9 hp
  rw [e1]
  clear e1
  change J 19 [jy r10, jy (a3 * 8), .ref q5, .ref a4, .ref q2] _ (0, 0) _ _ _
  obtain ⟨g11, h⟩ := h
  obtain ⟨Q12, h⟩ := h
  obtain ⟨g13, h⟩ := h
  refine jy_callV hS rfl rfl rfl (Nat.le_of_ble_eq_true rfl) (Or.inl g11) g13 (by decide) ⟨by decide, by decide⟩ (Nat.le_of_ble_eq_true rfl) ?_ ?_
  rotate_left
  · exact fun Ex Xx Ix Rx hp => hp.2.2.2.elim
  intro rv Xx I14 Rx hp
  obtain ⟨e1, e2, hp⟩ := hp
  rw [e1, e2]
  clear e1 e2
  obtain ⟨r15, e1, h⟩ := h rv I14 hp
  rw [e1]
  clear e1
  change J 22 [jy r15] _ (0, 0) _ _ _
  exact jy_iret hS rfl rfl ⟨rfl, rfl, h⟩
theorem jt_123 : jx_ml 123 = 1 ∧ jx_rt 123 = some .int ∧ jx_hz 123 = [] ∧ decide ((jx_nm 123).name = "<init>") = false ∧ jx_code 123 = jx_c123 := by decide +kernel
/-- GC$Trip.hoursInAll -/
def wz_123 (V : jx_V) (X : jx_X) (R : jx_R) (Q : Option Value → jx_I → Prop) (QE : String → jx_I → Prop)  (a0 : Nat) (I : jx_I) : Prop :=
  (X.2.1 a0 = some (9, 0)) ∧ (
  Q (some (jy ((I a0 3).toInt + (I a0 4).toInt))) I)
set_option maxRecDepth 20000 in
theorem wm_123 {V : jx_V} (hV : V.1.stackTraces = false) {X : jx_X} {R : jx_R} {I : jx_I} {Q : Option Value → jx_I → Prop} {QE : String → jx_I → Prop} {a0 : Nat}  
    (h : wz_123 V X R Q QE  a0 I) : jc V 1 123 (0, 0) [.ref a0] X I R Q QE := by
  refine jy_met hV (by decide) (n := 1) (rt := some .int) (hh := []) (ini := false) (C := jx_c123) (L := [some (.ref a0)]) jt_123 (Nat.le_of_ble_eq_true rfl) rfl ?_
  intro J hS
  unfold wz_123 at h
  refine jy_aload_n hS rfl rfl ?_
  obtain ⟨g1, h⟩ := h
  refine jy_getI hS rfl (by decide) g1 ?_
  refine jy_aload_n hS rfl rfl ?_
  refine jy_getI hS rfl (by decide) g1 ?_
  refine jy_iadd hS rfl ?_
  exact jy_iret hS rfl rfl ⟨rfl, rfl, h⟩
theorem jt_124 : jx_ml 124 = 6 ∧ jx_rt 124 = some .int ∧ jx_hz 124 = [] ∧ decide ((jx_nm 124).name = "<init>") = false ∧ jx_code 124 = jx_c124 := by decide +kernel
/-- GC$Trip.hoursInOrder, from 9 -/
def wz_124_9 (V : jx_V) (X : jx_X) (R : jx_R) (Q : Option Value → jx_I → Prop) (QE : String → jx_I → Prop) (J9 : Int → Int → jx_I → Prop) (a0 : Nat) (a1 : Nat) (a2 : Nat) (a3 : Nat) (l4 : Int) (l5 : Int) (I : jx_I) : Prop :=
  (X.2.1 a2 = some (5, 0)) ∧ (
  (-2147483648 ≤ l5 ∧ l5 < 2147483648) ∧ (
  ((I a2 1).toInt ≤ l5 → (
    Q (some (jy l4)) I
  )) ∧ (¬ (I a2 1).toInt ≤ l5 → (
    ∃ q4 : Nat, (
    (R a2 0 = some q4) ∧ (
    ∃ n6 : Nat, (
    (X.2.1 q4 = some (100, n6) ∧ n6 < 2147483648) ∧ (
    (0 ≤ l5 ∧ l5 < n6) ∧ (
    (X.2.1 a0 = some (9, 0)) ∧ (
    ∃ Q10 : Option Value → jx_I → Prop, (
    (jc V 4 122 (0, 0) [.ref a0, .ref a1, jy ((I q4 l5.toNat).toInt), jy l5, .ref a3] X I R Q10 (fun _ _ => False)) ∧ (
    ∀ rv I12, Q10 rv I12 → ∃ r13 : Int, rv = some (jy r13) ∧ (
    J9 (l4 + r13) (l5 + 1) I12)))))))))
  ))))
/-- GC$Trip.hoursInOrder -/
def wz_124 (V : jx_V) (X : jx_X) (R : jx_R) (Q : Option Value → jx_I → Prop) (QE : String → jx_I → Prop) (J9 : Int → Int → jx_I → Prop) (a0 : Nat) (a1 : Nat) (a2 : Nat) (a3 : Nat) (I : jx_I) : Prop :=
  (X.2.1 a0 = some (9, 0)) ∧ (
  J9 ((I a0 3).toInt) 1 I)
set_option maxRecDepth 20000 in
theorem wm_124 {V : jx_V} (hV : V.1.stackTraces = false) {X : jx_X} {R : jx_R} {I : jx_I} {Q : Option Value → jx_I → Prop} {QE : String → jx_I → Prop} {a0 : Nat} {a1 : Nat} {a2 : Nat} {a3 : Nat}  
    (h : ∀ (J9 : Int → Int → jx_I → Prop), ((∀ (l4 : Int) (l5 : Int) I, wz_124_9 V X R Q QE J9 a0 a1 a2 a3 l4 l5 I → J9 l4 l5 I)) → wz_124 V X R Q QE J9 a0 a1 a2 a3 I) : jc V 5 124 (0, 0) [.ref a0, .ref a1, .ref a2, .ref a3] X I R Q QE := by
  refine jy_met hV (by decide) (n := 6) (rt := some .int) (hh := []) (ini := false) (C := jx_c124) (L := [some (.ref a0), some (.ref a1), some (.ref a2), some (.ref a3), none, none]) jt_124 (Nat.le_of_ble_eq_true rfl) rfl ?_
  intro J hS
  have h := h (fun l4 l5 I => J 9 [] [some (.ref a0), some (.ref a1), some (.ref a2), some (.ref a3), some (jy l4), some (jy l5)] (0, 0) X I R) ?_
  · unfold wz_124 at h
    refine jy_aload_n hS rfl rfl ?_
    obtain ⟨g1, h⟩ := h
    refine jy_getI hS rfl (by decide) g1 ?_
    refine jy_istore hS rfl (Nat.le_of_ble_eq_true rfl) (L' := [some (.ref a0), some (.ref a1), some (.ref a2), some (.ref a3), some (jy ((I a0 3).toInt)), none]) rfl ?_
    refine jy_iconst hS rfl ?_
    refine jy_istore hS rfl (Nat.le_of_ble_eq_true rfl) (L' := [some (.ref a0), some (.ref a1), some (.ref a2), some (.ref a3), some (jy ((I a0 3).toInt)), some (jy 1)]) rfl ?_
    exact jy_join hS h rfl (jy_sub_s (jy_sub_s (jy_sub_s (jy_sub_s (jy_sub_s (jy_sub_s jy_sub_0))))))
  · intro l4 l5 I h
    unfold wz_124_9 at h
    refine jy_iload hS rfl rfl ?_
    refine jy_aload_n hS rfl rfl ?_
    obtain ⟨g2, h⟩ := h
    refine jy_getI hS rfl (by decide) g2 ?_
    obtain ⟨g3, h⟩ := h
    refine jy_icmp_ge hS rfl ⟨g3, (jy_rng _)⟩ (fun hq => ?_) (fun hq => ?_)
    · have h := h.1 hq
      refine jy_iload hS rfl rfl ?_
      exact jy_iret hS rfl rfl ⟨rfl, rfl, h⟩
    · have h := h.2 hq
      refine jy_iload hS rfl rfl ?_
      refine jy_aload_n hS rfl rfl ?_
      refine jy_aload_n hS rfl rfl ?_
      refine jy_aload_n hS rfl rfl ?_
      obtain ⟨q4, h⟩ := h
      obtain ⟨g5, h⟩ := h
      refine jy_getR hS rfl (by decide) g2 g5 ?_
      refine jy_iload hS rfl rfl ?_
      obtain ⟨n6, h⟩ := h
      obtain ⟨g7, h⟩ := h
      obtain ⟨g8, h⟩ := h
      refine jy_iald hS rfl g7.1 (Nat.le_of_lt g7.2) g8 ?_
      refine jy_iload hS rfl rfl ?_
      refine jy_aload_n hS rfl rfl ?_
      obtain ⟨g9, h⟩ := h
      obtain ⟨Q10, h⟩ := h
      obtain ⟨g11, h⟩ := h
      refine jy_callV hS rfl rfl rfl (Nat.le_of_ble_eq_true rfl) (Or.inl g9) g11 (by decide) ⟨by decide, by decide⟩ (Nat.le_of_ble_eq_true rfl) ?_ ?_
      rotate_left
      · exact fun Ex Xx Ix Rx hp => hp.2.2.2.elim
      intro rv Xx I12 Rx hp
      obtain ⟨e1, e2, hp⟩ := hp
      rw [e1, e2]
      clear e1 e2
      obtain ⟨r13, e1, h⟩ := h rv I12 hp
      rw [e1]
      clear e1
      change J 35 [jy r13, jy l4] _ (0, 0) _ _ _
      refine jy_iadd hS rfl ?_
      refine jy_istore hS rfl (Nat.le_of_ble_eq_true rfl) (L' := [some (.ref a0), some (.ref a1), some (.ref a2), some (.ref a3), some (jy (l4 + r13)), some (jy l5)]) rfl ?_
      refine jy_iinc hS rfl rfl (L' := [some (.ref a0), some (.ref a1), some (.ref a2), some (.ref a3), some (jy (l4 + r13)), some (jy (l5 + 1))]) rfl ?_
      refine jy_goto hS rfl ?_
      exact jy_join hS h rfl (jy_sub_s (jy_sub_s (jy_sub_s (jy_sub_s (jy_sub_s (jy_sub_s jy_sub_0))))))
theorem jt_125 : jx_ml 125 = 7 ∧ jx_rt 125 = some .int ∧ jx_hz 125 = [] ∧ decide ((jx_nm 125).name = "<init>") = false ∧ jx_code 125 = jx_c125 := by decide +kernel
/-- GC$Trip.mostGrieved, from 8 -/
def wz_125_8 (V : jx_V) (X : jx_X) (R : jx_R) (Q : Option Value → jx_I → Prop) (QE : String → jx_I → Prop) (J8 : Int → Int → Int → jx_I → Prop) (J54 : Int → Int → Int → jx_I → Prop) (a0 : Nat) (a1 : Nat) (a2 : Int) (l3 : Int) (l4 : Int) (l5 : Int) (I : jx_I) : Prop :=
  (X.2.1 a1 = some (5, 0)) ∧ (
  (-2147483648 ≤ l5 ∧ l5 < 2147483648) ∧ (
  ((I a1 1).toInt ≤ l5 → (
    Q (some (jy l4)) I
  )) ∧ (¬ (I a1 1).toInt ≤ l5 → (
    (X.2.1 a0 = some (9, 0)) ∧ (
    ∃ q4 : Nat, (
    (R a0 1 = some q4) ∧ (
    ∃ q6 : Nat, (
    (R a1 0 = some q6) ∧ (
    ∃ n8 : Nat, (
    (X.2.1 q6 = some (100, n8) ∧ n8 < 2147483648) ∧ (
    (0 ≤ l5 ∧ l5 < n8) ∧ (
    ∃ n11 : Nat, (
    (X.2.1 q4 = some (100, n11) ∧ n11 < 2147483648) ∧ (
    (0 ≤ ((a2 * 8) + (I q6 l5.toNat).toInt) ∧ ((a2 * 8) + (I q6 l5.toNat).toInt) < n11) ∧ (
    (-2147483648 ≤ l3 ∧ l3 < 2147483648) ∧ (
    ((I q4 ((a2 * 8) + (I q6 l5.toNat).toInt).toNat).toInt ≤ l3 → (
      J8 l3 l4 (l5 + 1) I
    )) ∧ (¬ (I q4 ((a2 * 8) + (I q6 l5.toNat).toInt).toNat).toInt ≤ l3 → (
      (0 ≤ l5 ∧ l5 < n8) ∧ (
      J54 ((I q4 ((a2 * 8) + (I q6 l5.toNat).toInt).toNat).toInt) ((I q6 l5.toNat).toInt) l5 I)
    ))))))))))))))
  ))))
/-- GC$Trip.mostGrieved, from 54 -/
def wz_125_54 (V : jx_V) (X : jx_X) (R : jx_R) (Q : Option Value → jx_I → Prop) (QE : String → jx_I → Prop) (J8 : Int → Int → Int → jx_I → Prop) (J54 : Int → Int → Int → jx_I → Prop) (a0 : Nat) (a1 : Nat) (a2 : Int) (l3 : Int) (l4 : Int) (l5 : Int) (I : jx_I) : Prop :=
  J8 l3 l4 (l5 + 1) I
/-- GC$Trip.mostGrieved -/
def wz_125 (V : jx_V) (X : jx_X) (R : jx_R) (Q : Option Value → jx_I → Prop) (QE : String → jx_I → Prop) (J8 : Int → Int → Int → jx_I → Prop) (J54 : Int → Int → Int → jx_I → Prop) (a0 : Nat) (a1 : Nat) (a2 : Int) (I : jx_I) : Prop :=
  J8 0 (-1) 0 I
set_option maxRecDepth 20000 in
theorem wm_125 {V : jx_V} (hV : V.1.stackTraces = false) {X : jx_X} {R : jx_R} {I : jx_I} {Q : Option Value → jx_I → Prop} {QE : String → jx_I → Prop} {a0 : Nat} {a1 : Nat} {a2 : Int} (r_a2 : -2147483648 ≤ a2 ∧ a2 < 2147483648) 
    (h : ∀ (J8 : Int → Int → Int → jx_I → Prop) (J54 : Int → Int → Int → jx_I → Prop), ((∀ (l3 : Int) (l4 : Int) (l5 : Int) I, wz_125_8 V X R Q QE J8 J54 a0 a1 a2 l3 l4 l5 I → J8 l3 l4 l5 I) ∧ (∀ (l3 : Int) (l4 : Int) (l5 : Int) I, wz_125_54 V X R Q QE J8 J54 a0 a1 a2 l3 l4 l5 I → J54 l3 l4 l5 I)) → wz_125 V X R Q QE J8 J54 a0 a1 a2 I) : jc V 1 125 (0, 0) [.ref a0, .ref a1, jy a2] X I R Q QE := by
  refine jy_met hV (by decide) (n := 7) (rt := some .int) (hh := []) (ini := false) (C := jx_c125) (L := [some (.ref a0), some (.ref a1), some (jy a2), none, none, none, none]) jt_125 (Nat.le_of_ble_eq_true rfl) rfl ?_
  intro J hS
  have h := h (fun l3 l4 l5 I => J 8 [] [some (.ref a0), some (.ref a1), some (jy a2), some (jy l3), some (jy l4), some (jy l5), none] (0, 0) X I R) (fun l3 l4 l5 I => J 54 [] [some (.ref a0), some (.ref a1), some (jy a2), some (jy l3), some (jy l4), some (jy l5), none] (0, 0) X I R) ?_
  · unfold wz_125 at h
    refine jy_iconst hS rfl ?_
    refine jy_istore_n hS rfl (Nat.le_of_ble_eq_true rfl) (L' := [some (.ref a0), some (.ref a1), some (jy a2), some (jy 0), none, none, none]) rfl ?_
    refine jy_iconst hS rfl ?_
    refine jy_istore hS rfl (Nat.le_of_ble_eq_true rfl) (L' := [some (.ref a0), some (.ref a1), some (jy a2), some (jy 0), some (jy (-1)), none, none]) rfl ?_
    refine jy_iconst hS rfl ?_
    refine jy_istore hS rfl (Nat.le_of_ble_eq_true rfl) (L' := [some (.ref a0), some (.ref a1), some (jy a2), some (jy 0), some (jy (-1)), some (jy 0), none]) rfl ?_
    exact jy_join hS h rfl (jy_sub_s (jy_sub_s (jy_sub_s (jy_sub_s (jy_sub_s (jy_sub_s (jy_sub_n jy_sub_0)))))))
  refine ⟨?_, ?_⟩
  · intro l3 l4 l5 I h
    unfold wz_125_8 at h
    refine jy_iload hS rfl rfl ?_
    refine jy_aload_n hS rfl rfl ?_
    obtain ⟨g1, h⟩ := h
    refine jy_getI hS rfl (by decide) g1 ?_
    obtain ⟨g2, h⟩ := h
    refine jy_icmp_ge hS rfl ⟨g2, (jy_rng _)⟩ (fun hq => ?_) (fun hq => ?_)
    · have h := h.1 hq
      refine jy_iload hS rfl rfl ?_
      exact jy_iret hS rfl rfl ⟨rfl, rfl, h⟩
    · have h := h.2 hq
      refine jy_aload_n hS rfl rfl ?_
      obtain ⟨g3, h⟩ := h
      obtain ⟨q4, h⟩ := h
      obtain ⟨g5, h⟩ := h
      refine jy_getR hS rfl (by decide) g3 g5 ?_
      refine jy_iload_n hS rfl rfl ?_
      refine jy_bipush hS rfl (by decide) ?_
      refine jy_imul hS rfl ?_
      refine jy_aload_n hS rfl rfl ?_
      obtain ⟨q6, h⟩ := h
      obtain ⟨g7, h⟩ := h
      refine jy_getR hS rfl (by decide) g1 g7 ?_
      refine jy_iload hS rfl rfl ?_
      obtain ⟨n8, h⟩ := h
      obtain ⟨g9, h⟩ := h
      obtain ⟨g10, h⟩ := h
      refine jy_iald hS rfl g9.1 (Nat.le_of_lt g9.2) g10 ?_
      refine jy_iadd hS rfl ?_
      obtain ⟨n11, h⟩ := h
      obtain ⟨g12, h⟩ := h
      obtain ⟨g13, h⟩ := h
      refine jy_iald hS rfl g12.1 (Nat.le_of_lt g12.2) g13 ?_
      refine jy_istore hS rfl (Nat.le_of_ble_eq_true rfl) (L' := [some (.ref a0), some (.ref a1), some (jy a2), some (jy l3), some (jy l4), some (jy l5), some (jy ((I q4 ((a2 * 8) + (I q6 l5.toNat).toInt).toNat).toInt))]) rfl ?_
      refine jy_iload hS rfl rfl ?_
      refine jy_iload_n hS rfl rfl ?_
      obtain ⟨g14, h⟩ := h
      refine jy_icmp_le hS rfl ⟨(jy_rng _), g14⟩ (fun hq => ?_) (fun hq => ?_)
      · have h := h.1 hq
        refine jy_iinc hS rfl rfl (L' := [some (.ref a0), some (.ref a1), some (jy a2), some (jy l3), some (jy l4), some (jy (l5 + 1)), some (jy ((I q4 ((a2 * 8) + (I q6 l5.toNat).toInt).toNat).toInt))]) rfl ?_
        refine jy_goto hS rfl ?_
        exact jy_join hS h rfl (jy_sub_s (jy_sub_s (jy_sub_s (jy_sub_s (jy_sub_s (jy_sub_s (jy_sub_n jy_sub_0)))))))
      · have h := h.2 hq
        refine jy_iload hS rfl rfl ?_
        refine jy_istore_n hS rfl (Nat.le_of_ble_eq_true rfl) (L' := [some (.ref a0), some (.ref a1), some (jy a2), some (jy ((I q4 ((a2 * 8) + (I q6 l5.toNat).toInt).toNat).toInt)), some (jy l4), some (jy l5), some (jy ((I q4 ((a2 * 8) + (I q6 l5.toNat).toInt).toNat).toInt))]) rfl ?_
        refine jy_aload_n hS rfl rfl ?_
        refine jy_getR hS rfl (by decide) g1 g7 ?_
        refine jy_iload hS rfl rfl ?_
        obtain ⟨g15, h⟩ := h
        refine jy_iald hS rfl g9.1 (Nat.le_of_lt g9.2) g15 ?_
        refine jy_istore hS rfl (Nat.le_of_ble_eq_true rfl) (L' := [some (.ref a0), some (.ref a1), some (jy a2), some (jy ((I q4 ((a2 * 8) + (I q6 l5.toNat).toInt).toNat).toInt)), some (jy ((I q6 l5.toNat).toInt)), some (jy l5), some (jy ((I q4 ((a2 * 8) + (I q6 l5.toNat).toInt).toNat).toInt))]) rfl ?_
        exact jy_join hS h rfl (jy_sub_s (jy_sub_s (jy_sub_s (jy_sub_s (jy_sub_s (jy_sub_s (jy_sub_n jy_sub_0)))))))
  · intro l3 l4 l5 I h
    unfold wz_125_54 at h
    refine jy_iinc hS rfl rfl (L' := [some (.ref a0), some (.ref a1), some (jy a2), some (jy l3), some (jy l4), some (jy (l5 + 1)), none]) rfl ?_
    refine jy_goto hS rfl ?_
    exact jy_join hS h rfl (jy_sub_s (jy_sub_s (jy_sub_s (jy_sub_s (jy_sub_s (jy_sub_s (jy_sub_n jy_sub_0)))))))
theorem jt_127 : jx_ml 127 = 6 ∧ jx_rt 127 = none ∧ jx_hz 127 = [] ∧ decide ((jx_nm 127).name = "<init>") = false ∧ jx_code 127 = jx_c127 := by decide +kernel
/-- GC$Ways.measure, from 2 -/
def wz_127_2 (V : jx_V) (X : jx_X) (R : jx_R) (Q : Option Value → jx_I → Prop) (QE : String → jx_I → Prop) (J2 : Int → jx_I → Prop) (J37 : Int → jx_I → Prop) (J48 : Int → Int → jx_I → Prop) (J107 : Nat → Int → Int → Int → Int → jx_I → Prop) (J122 : Int → jx_I → Prop) (a0 : Nat) (a1 : Nat) (a2 : Nat) (l3 : Int) (I : jx_I) : Prop :=
  (X.2.1 a1 = some (2, 0)) ∧ (
  (-2147483648 ≤ l3 ∧ l3 < 2147483648) ∧ (
  ((I a1 7).toInt ≤ l3 → (
    J37 0 I
  )) ∧ (¬ (I a1 7).toInt ≤ l3 → (
    (X.2.1 a0 = some (10, 0)) ∧ (
    ∃ q4 : Nat, (
    (R a0 0 = some q4) ∧ (
    (X.2.1 a2 = some (7, 0)) ∧ (
    ∃ q7 : Nat, (
    (R a2 1 = some q7) ∧ (
    ∃ q9 : Nat, (
    (R a2 0 = some q9) ∧ (
    ∃ Q11 : Option Value → jx_I → Prop, (
    (jc V 4 38 (0, 0) [.ref a1, jy l3, .ref q7, .ref q9] X I R Q11 (fun _ _ => False)) ∧ (
    ∀ rv I13, Q11 rv I13 → ∃ r14 : Int, rv = some (jy r14) ∧ (
    ∃ n15 : Nat, (
    (X.2.1 q4 = some (100, n15) ∧ n15 < 2147483648) ∧ (
    (0 ≤ l3 ∧ l3 < n15) ∧ (
    ∀ I18 : jx_I, I18 = jx_u I13 q4 l3.toNat (Int32.ofInt r14) → (
    J2 (l3 + 1) I18)))))))))))))))
  ))))
/-- GC$Ways.measure, from 37 -/
def wz_127_37 (V : jx_V) (X : jx_X) (R : jx_R) (Q : Option Value → jx_I → Prop) (QE : String → jx_I → Prop) (J2 : Int → jx_I → Prop) (J37 : Int → jx_I → Prop) (J48 : Int → Int → jx_I → Prop) (J107 : Nat → Int → Int → Int → Int → jx_I → Prop) (J122 : Int → jx_I → Prop) (a0 : Nat) (a1 : Nat) (a2 : Nat) (l3 : Int) (I : jx_I) : Prop :=
  (X.2.1 a1 = some (2, 0)) ∧ (
  (-2147483648 ≤ l3 ∧ l3 < 2147483648) ∧ (
  ((I a1 7).toInt ≤ l3 → (
    J122 0 I
  )) ∧ (¬ (I a1 7).toInt ≤ l3 → (
    J48 l3 0 I
  ))))
/-- GC$Ways.measure, from 48 -/
def wz_127_48 (V : jx_V) (X : jx_X) (R : jx_R) (Q : Option Value → jx_I → Prop) (QE : String → jx_I → Prop) (J2 : Int → jx_I → Prop) (J37 : Int → jx_I → Prop) (J48 : Int → Int → jx_I → Prop) (J107 : Nat → Int → Int → Int → Int → jx_I → Prop) (J122 : Int → jx_I → Prop) (a0 : Nat) (a1 : Nat) (a2 : Nat) (l3 : Int) (l4 : Int) (I : jx_I) : Prop :=
  (X.2.1 a1 = some (2, 0)) ∧ (
  (-2147483648 ≤ l4 ∧ l4 < 2147483648) ∧ (
  ((I a1 7).toInt ≤ l4 → (
    J37 (l3 + 1) I
  )) ∧ (¬ (I a1 7).toInt ≤ l4 → (
    ∃ Q23 : Option Value → jx_I → Prop, (
    (jc V 1 36 (0, 0) [.ref a1, jy l3, jy l4] X I R Q23 (fun _ _ => False)) ∧ (
    ∀ rv I25, Q23 rv I25 → ∃ r26 : Int, rv = some (jy r26) ∧ (
    (X.2.1 a0 = some (10, 0)) ∧ (
    ∃ q28 : Nat, (
    (R a0 1 = some q28) ∧ (
    (-2147483648 ≤ l3 ∧ l3 < 2147483648) ∧ (
    (l3 ≠ l4 → (
      (-2147483648 ≤ r26 ∧ r26 < 2147483648) ∧ (
      (r26 ≠ 0 → (
        ∃ q32 : Nat, (
        (R a0 0 = some q32) ∧ (
        ∃ n34 : Nat, (
        (X.2.1 q32 = some (100, n34) ∧ n34 < 2147483648) ∧ (
        (0 ≤ l4 ∧ l4 < n34) ∧ (
        J107 q28 ((l3 * 10) + l4) (r26 + (I25 q32 l4.toNat).toInt) l3 l4 I25)))))
      )) ∧ (r26 = 0 → (
        J107 q28 ((l3 * 10) + l4) 1000000 l3 l4 I25
      )))
    )) ∧ (l3 = l4 → (
      J107 q28 ((l3 * 10) + l4) 0 l3 l4 I25
    )))))))))
  ))))
/-- GC$Ways.measure, from 107 -/
def wz_127_107 (V : jx_V) (X : jx_X) (R : jx_R) (Q : Option Value → jx_I → Prop) (QE : String → jx_I → Prop) (J2 : Int → jx_I → Prop) (J37 : Int → jx_I → Prop) (J48 : Int → Int → jx_I → Prop) (J107 : Nat → Int → Int → Int → Int → jx_I → Prop) (J122 : Int → jx_I → Prop) (a0 : Nat) (a1 : Nat) (a2 : Nat) (s0 : Nat) (s1 : Int) (s2 : Int) (l3 : Int) (l4 : Int) (I : jx_I) : Prop :=
  ∃ n37 : Nat, (
  (X.2.1 s0 = some (100, n37) ∧ n37 < 2147483648) ∧ (
  (0 ≤ s1 ∧ s1 < n37) ∧ (
  ∀ I40 : jx_I, I40 = jx_u I s0 s1.toNat (Int32.ofInt s2) → (
  J48 l3 (l4 + 1) I40))))
/-- GC$Ways.measure, from 122 -/
def wz_127_122 (V : jx_V) (X : jx_X) (R : jx_R) (Q : Option Value → jx_I → Prop) (QE : String → jx_I → Prop) (J2 : Int → jx_I → Prop) (J37 : Int → jx_I → Prop) (J48 : Int → Int → jx_I → Prop) (J107 : Nat → Int → Int → Int → Int → jx_I → Prop) (J122 : Int → jx_I → Prop) (a0 : Nat) (a1 : Nat) (a2 : Nat) (l3 : Int) (I : jx_I) : Prop :=
  (X.2.1 a1 = some (2, 0)) ∧ (
  (-2147483648 ≤ l3 ∧ l3 < 2147483648) ∧ (
  ((I a1 7).toInt ≤ l3 → (
    Q none I
  )) ∧ (¬ (I a1 7).toInt ≤ l3 → (
    (X.2.1 a0 = some (10, 0)) ∧ (
    ∃ Q44 : Option Value → jx_I → Prop, (
    (jc V 1 128 (0, 0) [.ref a0, jy ((I a1 7).toInt), jy l3] X I R Q44 (fun _ _ => False)) ∧ (
    ∀ rv I46, Q44 rv I46 → rv = none ∧ (
    J122 (l3 + 1) I46))))
  ))))
/-- GC$Ways.measure -/
def wz_127 (V : jx_V) (X : jx_X) (R : jx_R) (Q : Option Value → jx_I → Prop) (QE : String → jx_I → Prop) (J2 : Int → jx_I → Prop) (J37 : Int → jx_I → Prop) (J48 : Int → Int → jx_I → Prop) (J107 : Nat → Int → Int → Int → Int → jx_I → Prop) (J122 : Int → jx_I → Prop) (a0 : Nat) (a1 : Nat) (a2 : Nat) (I : jx_I) : Prop :=
  J2 0 I
set_option maxRecDepth 20000 in
theorem wm_127 {V : jx_V} (hV : V.1.stackTraces = false) {X : jx_X} {R : jx_R} {I : jx_I} {Q : Option Value → jx_I → Prop} {QE : String → jx_I → Prop} {a0 : Nat} {a1 : Nat} {a2 : Nat}  
    (h : ∀ (J2 : Int → jx_I → Prop) (J37 : Int → jx_I → Prop) (J48 : Int → Int → jx_I → Prop) (J107 : Nat → Int → Int → Int → Int → jx_I → Prop) (J122 : Int → jx_I → Prop), ((∀ (l3 : Int) I, wz_127_2 V X R Q QE J2 J37 J48 J107 J122 a0 a1 a2 l3 I → J2 l3 I) ∧ (∀ (l3 : Int) I, wz_127_37 V X R Q QE J2 J37 J48 J107 J122 a0 a1 a2 l3 I → J37 l3 I) ∧ (∀ (l3 : Int) (l4 : Int) I, wz_127_48 V X R Q QE J2 J37 J48 J107 J122 a0 a1 a2 l3 l4 I → J48 l3 l4 I) ∧ (∀ (s0 : Nat) (s1 : Int) (s2 : Int) (l3 : Int) (l4 : Int) I, wz_127_107 V X R Q QE J2 J37 J48 J107 J122 a0 a1 a2 s0 s1 s2 l3 l4 I → J107 s0 s1 s2 l3 l4 I) ∧ (∀ (l3 : Int) I, wz_127_122 V X R Q QE J2 J37 J48 J107 J122 a0 a1 a2 l3 I → J122 l3 I)) → wz_127 V X R Q QE J2 J37 J48 J107 J122 a0 a1 a2 I) : jc V 5 127 (0, 0) [.ref a0, .ref a1, .ref a2] X I R Q QE := by
  refine jy_met hV (by decide) (n := 6) (rt := none) (hh := []) (ini := false) (C := jx_c127) (L := [some (.ref a0), some (.ref a1), some (.ref a2), none, none, none]) jt_127 (Nat.le_of_ble_eq_true rfl) rfl ?_
  intro J hS
  have h := h (fun l3 I => J 2 [] [some (.ref a0), some (.ref a1), some (.ref a2), some (jy l3), none, none] (0, 0) X I R) (fun l3 I => J 37 [] [some (.ref a0), some (.ref a1), none, some (jy l3), none, none] (0, 0) X I R) (fun l3 l4 I => J 48 [] [some (.ref a0), some (.ref a1), none, some (jy l3), some (jy l4), none] (0, 0) X I R) (fun s0 s1 s2 l3 l4 I => J 107 [jy s2, jy s1, .ref s0] [some (.ref a0), some (.ref a1), none, some (jy l3), some (jy l4), none] (0, 0) X I R) (fun l3 I => J 122 [] [some (.ref a0), some (.ref a1), none, some (jy l3), none, none] (0, 0) X I R) ?_
  · unfold wz_127 at h
    refine jy_iconst hS rfl ?_
    refine jy_istore_n hS rfl (Nat.le_of_ble_eq_true rfl) (L' := [some (.ref a0), some (.ref a1), some (.ref a2), some (jy 0), none, none]) rfl ?_
    exact jy_join hS h rfl (jy_sub_s (jy_sub_s (jy_sub_s (jy_sub_s (jy_sub_n (jy_sub_n jy_sub_0))))))
  refine ⟨?_, ?_, ?_, ?_, ?_⟩
  · intro l3 I h
    unfold wz_127_2 at h
    refine jy_iload_n hS rfl rfl ?_
    refine jy_aload_n hS rfl rfl ?_
    obtain ⟨g1, h⟩ := h
    refine jy_getI hS rfl (by decide) g1 ?_
    obtain ⟨g2, h⟩ := h
    refine jy_icmp_ge hS rfl ⟨g2, (jy_rng _)⟩ (fun hq => ?_) (fun hq => ?_)
    · have h := h.1 hq
      refine jy_iconst hS rfl ?_
      refine jy_istore_n hS rfl (Nat.le_of_ble_eq_true rfl) (L' := [some (.ref a0), some (.ref a1), some (.ref a2), some (jy 0), none, none]) rfl ?_
      exact jy_join hS h rfl (jy_sub_s (jy_sub_s (jy_sub_n (jy_sub_s (jy_sub_n (jy_sub_n jy_sub_0))))))
    · have h := h.2 hq
      refine jy_aload_n hS rfl rfl ?_
      obtain ⟨g3, h⟩ := h
      obtain ⟨q4, h⟩ := h
      obtain ⟨g5, h⟩ := h
      refine jy_getR hS rfl (by decide) g3 g5 ?_
      refine jy_iload_n hS rfl rfl ?_
      refine jy_aload_n hS rfl rfl ?_
      refine jy_iload_n hS rfl rfl ?_
      refine jy_aload_n hS rfl rfl ?_
      obtain ⟨g6, h⟩ := h
      obtain ⟨q7, h⟩ := h
      obtain ⟨g8, h⟩ := h
      refine jy_getR hS rfl (by decide) g6 g8 ?_
      refine jy_aload_n hS rfl rfl ?_
      obtain ⟨q9, h⟩ := h
      obtain ⟨g10, h⟩ := h
      refine jy_getR hS rfl (by decide) g6 g10 ?_
      obtain ⟨Q11, h⟩ := h
      obtain ⟨g12, h⟩ := h
      refine jy_callV hS rfl rfl rfl (Nat.le_of_ble_eq_true rfl) (Or.inl g1) g12 (by decide) ⟨by decide, by decide⟩ (Nat.le_of_ble_eq_true rfl) ?_ ?_
      rotate_left
      · exact fun Ex Xx Ix Rx hp => hp.2.2.2.elim
      intro rv Xx I13 Rx hp
      obtain ⟨e1, e2, hp⟩ := hp
      rw [e1, e2]
      clear e1 e2
      obtain ⟨r14, e1, h⟩ := h rv I13 hp
      rw [e1]
      clear e1
      change J 28 [jy r14, jy l3, .ref q4] _ (0, 0) _ _ _
      obtain ⟨n15, h⟩ := h
      obtain ⟨g16, h⟩ := h
      obtain ⟨g17, h⟩ := h
      refine jy_iast hS rfl g16.1 (Nat.le_of_lt g16.2) g17 ?_
      intro I18 e9
      have h := h I18 e9
      clear e9
      refine jy_iinc hS rfl rfl (L' := [some (.ref a0), some (.ref a1), some (.ref a2), some (jy (l3 + 1)), none, none]) rfl ?_
      refine jy_goto hS rfl ?_
      exact jy_join hS h rfl (jy_sub_s (jy_sub_s (jy_sub_s (jy_sub_s (jy_sub_n (jy_sub_n jy_sub_0))))))
  · intro l3 I h
    unfold wz_127_37 at h
    refine jy_iload_n hS rfl rfl ?_
    refine jy_aload_n hS rfl rfl ?_
    obtain ⟨g19, h⟩ := h
    refine jy_getI hS rfl (by decide) g19 ?_
    obtain ⟨g20, h⟩ := h
    refine jy_icmp_ge hS rfl ⟨g20, (jy_rng _)⟩ (fun hq => ?_) (fun hq => ?_)
    · have h := h.1 hq
      refine jy_iconst hS rfl ?_
      refine jy_istore_n hS rfl (Nat.le_of_ble_eq_true rfl) (L' := [some (.ref a0), some (.ref a1), none, some (jy 0), none, none]) rfl ?_
      exact jy_join hS h rfl (jy_sub_s (jy_sub_s (jy_sub_n (jy_sub_s (jy_sub_n (jy_sub_n jy_sub_0))))))
    · have h := h.2 hq
      refine jy_iconst hS rfl ?_
      refine jy_istore hS rfl (Nat.le_of_ble_eq_true rfl) (L' := [some (.ref a0), some (.ref a1), none, some (jy l3), some (jy 0), none]) rfl ?_
      exact jy_join hS h rfl (jy_sub_s (jy_sub_s (jy_sub_n (jy_sub_s (jy_sub_s (jy_sub_n jy_sub_0))))))
  · intro l3 l4 I h
    unfold wz_127_48 at h
    refine jy_iload hS rfl rfl ?_
    refine jy_aload_n hS rfl rfl ?_
    obtain ⟨g21, h⟩ := h
    refine jy_getI hS rfl (by decide) g21 ?_
    obtain ⟨g22, h⟩ := h
    refine jy_icmp_ge hS rfl ⟨g22, (jy_rng _)⟩ (fun hq => ?_) (fun hq => ?_)
    · have h := h.1 hq
      refine jy_iinc hS rfl rfl (L' := [some (.ref a0), some (.ref a1), none, some (jy (l3 + 1)), some (jy l4), none]) rfl ?_
      refine jy_goto hS rfl ?_
      exact jy_join hS h rfl (jy_sub_s (jy_sub_s (jy_sub_n (jy_sub_s (jy_sub_n (jy_sub_n jy_sub_0))))))
    · have h := h.2 hq
      refine jy_aload_n hS rfl rfl ?_
      refine jy_iload_n hS rfl rfl ?_
      refine jy_iload hS rfl rfl ?_
      obtain ⟨Q23, h⟩ := h
      obtain ⟨g24, h⟩ := h
      refine jy_callV hS rfl rfl rfl (Nat.le_of_ble_eq_true rfl) (Or.inl g21) g24 (by decide) ⟨by decide, by decide⟩ (Nat.le_of_ble_eq_true rfl) ?_ ?_
      rotate_left
      · exact fun Ex Xx Ix Rx hp => hp.2.2.2.elim
      intro rv Xx I25 Rx hp
      obtain ⟨e1, e2, hp⟩ := hp
      rw [e1, e2]
      clear e1 e2
      obtain ⟨r26, e1, h⟩ := h rv I25 hp
      rw [e1]
      clear e1
      change J 64 [jy r26] _ (0, 0) _ _ _
      refine jy_istore hS rfl (Nat.le_of_ble_eq_true rfl) (L' := [some (.ref a0), some (.ref a1), none, some (jy l3), some (jy l4), some (jy r26)]) rfl ?_
      refine jy_aload_n hS rfl rfl ?_
      obtain ⟨g27, h⟩ := h
      obtain ⟨q28, h⟩ := h
      obtain ⟨g29, h⟩ := h
      refine jy_getR hS rfl (by decide) g27 g29 ?_
      refine jy_iload_n hS rfl rfl ?_
      refine jy_bipush hS rfl (by decide) ?_
      refine jy_imul hS rfl ?_
      refine jy_iload hS rfl rfl ?_
      refine jy_iadd hS rfl ?_
      refine jy_iload_n hS rfl rfl ?_
      refine jy_iload hS rfl rfl ?_
      obtain ⟨g30, h⟩ := h
      refine jy_icmp_ne hS rfl ⟨g30, g22⟩ (fun hq => ?_) (fun hq => ?_)
      · have h := h.1 hq
        refine jy_iload hS rfl rfl ?_
        obtain ⟨g31, h⟩ := h
        refine jy_if_ne hS rfl g31 (fun hq => ?_) (fun hq => ?_)
        · have h := h.1 hq
          refine jy_iload hS rfl rfl ?_
          refine jy_aload_n hS rfl rfl ?_
          obtain ⟨q32, h⟩ := h
          obtain ⟨g33, h⟩ := h
          refine jy_getR hS rfl (by decide) g27 g33 ?_
          refine jy_iload hS rfl rfl ?_
          obtain ⟨n34, h⟩ := h
          obtain ⟨g35, h⟩ := h
          obtain ⟨g36, h⟩ := h
          refine jy_iald hS rfl g35.1 (Nat.le_of_lt g35.2) g36 ?_
          refine jy_iadd hS rfl ?_
          exact jy_join hS h rfl (jy_sub_s (jy_sub_s (jy_sub_n (jy_sub_s (jy_sub_s (jy_sub_n jy_sub_0))))))
        · have h := h.2 hq
          refine jy_ldcI hS rfl (n := 1000000) (by decide) ?_
          refine jy_goto hS rfl ?_
          exact jy_join hS h rfl (jy_sub_s (jy_sub_s (jy_sub_n (jy_sub_s (jy_sub_s (jy_sub_n jy_sub_0))))))
      · have h := h.2 hq
        refine jy_iconst hS rfl ?_
        refine jy_goto hS rfl ?_
        exact jy_join hS h rfl (jy_sub_s (jy_sub_s (jy_sub_n (jy_sub_s (jy_sub_s (jy_sub_n jy_sub_0))))))
  · intro s0 s1 s2 l3 l4 I h
    unfold wz_127_107 at h
    obtain ⟨n37, h⟩ := h
    obtain ⟨g38, h⟩ := h
    obtain ⟨g39, h⟩ := h
    refine jy_iast hS rfl g38.1 (Nat.le_of_lt g38.2) g39 ?_
    intro I40 e9
    have h := h I40 e9
    clear e9
    refine jy_iinc hS rfl rfl (L' := [some (.ref a0), some (.ref a1), none, some (jy l3), some (jy (l4 + 1)), none]) rfl ?_
    refine jy_goto hS rfl ?_
    exact jy_join hS h rfl (jy_sub_s (jy_sub_s (jy_sub_n (jy_sub_s (jy_sub_s (jy_sub_n jy_sub_0))))))
  · intro l3 I h
    unfold wz_127_122 at h
    refine jy_iload_n hS rfl rfl ?_
    refine jy_aload_n hS rfl rfl ?_
    obtain ⟨g41, h⟩ := h
    refine jy_getI hS rfl (by decide) g41 ?_
    obtain ⟨g42, h⟩ := h
    refine jy_icmp_ge hS rfl ⟨g42, (jy_rng _)⟩ (fun hq => ?_) (fun hq => ?_)
    · have h := h.1 hq
      exact jy_ret hS rfl rfl ⟨rfl, rfl, h⟩
    · have h := h.2 hq
      refine jy_aload_n hS rfl rfl ?_
      refine jy_aload_n hS rfl rfl ?_
      refine jy_getI hS rfl (by decide) g41 ?_
      refine jy_iload_n hS rfl rfl ?_
      obtain ⟨g43, h⟩ := h
      obtain ⟨Q44, h⟩ := h
      obtain ⟨g45, h⟩ := h
      refine jy_callV hS rfl rfl rfl (Nat.le_of_ble_eq_true rfl) (Or.inl g43) g45 (by decide) ⟨by decide, by decide⟩ (Nat.le_of_ble_eq_true rfl) ?_ ?_
      rotate_left
      · exact fun Ex Xx Ix Rx hp => hp.2.2.2.elim
      intro rv Xx I46 Rx hp
      obtain ⟨e1, e2, hp⟩ := hp
      rw [e1, e2]
      clear e1 e2
      obtain ⟨e1, h⟩ := h rv I46 hp
      rw [e1]
      clear e1
      change J 139 [] _ (0, 0) _ _ _
      refine jy_iinc hS rfl rfl (L' := [some (.ref a0), some (.ref a1), none, some (jy (l3 + 1)), none, none]) rfl ?_
      refine jy_goto hS rfl ?_
      exact jy_join hS h rfl (jy_sub_s (jy_sub_s (jy_sub_n (jy_sub_s (jy_sub_n (jy_sub_n jy_sub_0))))))
theorem jt_128 : jx_ml 128 = 6 ∧ jx_rt 128 = none ∧ jx_hz 128 = [] ∧ decide ((jx_nm 128).name = "<init>") = false ∧ jx_code 128 = jx_c128 := by decide +kernel
/-- GC$Ways.shorten, from 2 -/
def wz_128_2 (V : jx_V) (X : jx_X) (R : jx_R) (Q : Option Value → jx_I → Prop) (QE : String → jx_I → Prop) (J2 : Int → jx_I → Prop) (J10 : Int → Int → jx_I → Prop) (J73 : Int → Int → jx_I → Prop) (a0 : Nat) (a1 : Int) (a2 : Int) (l3 : Int) (I : jx_I) : Prop :=
  (-2147483648 ≤ l3 ∧ l3 < 2147483648) ∧ (
  (a1 ≤ l3 → (
    Q none I
  )) ∧ (¬ a1 ≤ l3 → (
    J10 l3 0 I
  )))
/-- GC$Ways.shorten, from 10 -/
def wz_128_10 (V : jx_V) (X : jx_X) (R : jx_R) (Q : Option Value → jx_I → Prop) (QE : String → jx_I → Prop) (J2 : Int → jx_I → Prop) (J10 : Int → Int → jx_I → Prop) (J73 : Int → Int → jx_I → Prop) (a0 : Nat) (a1 : Int) (a2 : Int) (l3 : Int) (l4 : Int) (I : jx_I) : Prop :=
  (-2147483648 ≤ l4 ∧ l4 < 2147483648) ∧ (
  (a1 ≤ l4 → (
    J2 (l3 + 1) I
  )) ∧ (¬ a1 ≤ l4 → (
    (X.2.1 a0 = some (10, 0)) ∧ (
    ∃ q4 : Nat, (
    (R a0 1 = some q4) ∧ (
    ∃ n6 : Nat, (
    (X.2.1 q4 = some (100, n6) ∧ n6 < 2147483648) ∧ (
    (0 ≤ ((l3 * 10) + a2) ∧ ((l3 * 10) + a2) < n6) ∧ (
    (0 ≤ ((a2 * 10) + l4) ∧ ((a2 * 10) + l4) < n6) ∧ (
    (0 ≤ ((l3 * 10) + l4) ∧ ((l3 * 10) + l4) < n6) ∧ (
    (-2147483648 ≤ ((I q4 ((l3 * 10) + a2).toNat).toInt + (I q4 ((a2 * 10) + l4).toNat).toInt) ∧ ((I q4 ((l3 * 10) + a2).toNat).toInt + (I q4 ((a2 * 10) + l4).toNat).toInt) < 2147483648) ∧ (
    ((I q4 ((l3 * 10) + l4).toNat).toInt ≤ ((I q4 ((l3 * 10) + a2).toNat).toInt + (I q4 ((a2 * 10) + l4).toNat).toInt) → (
      J10 l3 (l4 + 1) I
    )) ∧ (¬ (I q4 ((l3 * 10) + l4).toNat).toInt ≤ ((I q4 ((l3 * 10) + a2).toNat).toInt + (I q4 ((a2 * 10) + l4).toNat).toInt) → (
      (0 ≤ ((l3 * 10) + l4) ∧ ((l3 * 10) + l4) < n6) ∧ (
      ∀ I13 : jx_I, I13 = jx_u I q4 ((l3 * 10) + l4).toNat (Int32.ofInt ((I q4 ((l3 * 10) + a2).toNat).toInt + (I q4 ((a2 * 10) + l4).toNat).toInt)) → (
      J73 l3 l4 I13))
    )))))))))))
  )))
/-- GC$Ways.shorten, from 73 -/
def wz_128_73 (V : jx_V) (X : jx_X) (R : jx_R) (Q : Option Value → jx_I → Prop) (QE : String → jx_I → Prop) (J2 : Int → jx_I → Prop) (J10 : Int → Int → jx_I → Prop) (J73 : Int → Int → jx_I → Prop) (a0 : Nat) (a1 : Int) (a2 : Int) (l3 : Int) (l4 : Int) (I : jx_I) : Prop :=
  J10 l3 (l4 + 1) I
/-- GC$Ways.shorten -/
def wz_128 (V : jx_V) (X : jx_X) (R : jx_R) (Q : Option Value → jx_I → Prop) (QE : String → jx_I → Prop) (J2 : Int → jx_I → Prop) (J10 : Int → Int → jx_I → Prop) (J73 : Int → Int → jx_I → Prop) (a0 : Nat) (a1 : Int) (a2 : Int) (I : jx_I) : Prop :=
  J2 0 I
set_option maxRecDepth 20000 in
theorem wm_128 {V : jx_V} (hV : V.1.stackTraces = false) {X : jx_X} {R : jx_R} {I : jx_I} {Q : Option Value → jx_I → Prop} {QE : String → jx_I → Prop} {a0 : Nat} {a1 : Int} {a2 : Int} (r_a1 : -2147483648 ≤ a1 ∧ a1 < 2147483648) (r_a2 : -2147483648 ≤ a2 ∧ a2 < 2147483648) 
    (h : ∀ (J2 : Int → jx_I → Prop) (J10 : Int → Int → jx_I → Prop) (J73 : Int → Int → jx_I → Prop), ((∀ (l3 : Int) I, wz_128_2 V X R Q QE J2 J10 J73 a0 a1 a2 l3 I → J2 l3 I) ∧ (∀ (l3 : Int) (l4 : Int) I, wz_128_10 V X R Q QE J2 J10 J73 a0 a1 a2 l3 l4 I → J10 l3 l4 I) ∧ (∀ (l3 : Int) (l4 : Int) I, wz_128_73 V X R Q QE J2 J10 J73 a0 a1 a2 l3 l4 I → J73 l3 l4 I)) → wz_128 V X R Q QE J2 J10 J73 a0 a1 a2 I) : jc V 1 128 (0, 0) [.ref a0, jy a1, jy a2] X I R Q QE := by
  refine jy_met hV (by decide) (n := 6) (rt := none) (hh := []) (ini := false) (C := jx_c128) (L := [some (.ref a0), some (jy a1), some (jy a2), none, none, none]) jt_128 (Nat.le_of_ble_eq_true rfl) rfl ?_
  intro J hS
  have h := h (fun l3 I => J 2 [] [some (.ref a0), some (jy a1), some (jy a2), some (jy l3), none, none] (0, 0) X I R) (fun l3 l4 I => J 10 [] [some (.ref a0), some (jy a1), some (jy a2), some (jy l3), some (jy l4), none] (0, 0) X I R) (fun l3 l4 I => J 73 [] [some (.ref a0), some (jy a1), some (jy a2), some (jy l3), some (jy l4), none] (0, 0) X I R) ?_
  · unfold wz_128 at h
    refine jy_iconst hS rfl ?_
    refine jy_istore_n hS rfl (Nat.le_of_ble_eq_true rfl) (L' := [some (.ref a0), some (jy a1), some (jy a2), some (jy 0), none, none]) rfl ?_
    exact jy_join hS h rfl (jy_sub_s (jy_sub_s (jy_sub_s (jy_sub_s (jy_sub_n (jy_sub_n jy_sub_0))))))
  refine ⟨?_, ?_, ?_⟩
  · intro l3 I h
    unfold wz_128_2 at h
    refine jy_iload_n hS rfl rfl ?_
    refine jy_iload_n hS rfl rfl ?_
    obtain ⟨g1, h⟩ := h
    refine jy_icmp_ge hS rfl ⟨g1, r_a1⟩ (fun hq => ?_) (fun hq => ?_)
    · have h := h.1 hq
      exact jy_ret hS rfl rfl ⟨rfl, rfl, h⟩
    · have h := h.2 hq
      refine jy_iconst hS rfl ?_
      refine jy_istore hS rfl (Nat.le_of_ble_eq_true rfl) (L' := [some (.ref a0), some (jy a1), some (jy a2), some (jy l3), some (jy 0), none]) rfl ?_
      exact jy_join hS h rfl (jy_sub_s (jy_sub_s (jy_sub_s (jy_sub_s (jy_sub_s (jy_sub_n jy_sub_0))))))
  · intro l3 l4 I h
    unfold wz_128_10 at h
    refine jy_iload hS rfl rfl ?_
    refine jy_iload_n hS rfl rfl ?_
    obtain ⟨g2, h⟩ := h
    refine jy_icmp_ge hS rfl ⟨g2, r_a1⟩ (fun hq => ?_) (fun hq => ?_)
    · have h := h.1 hq
      refine jy_iinc hS rfl rfl (L' := [some (.ref a0), some (jy a1), some (jy a2), some (jy (l3 + 1)), some (jy l4), none]) rfl ?_
      refine jy_goto hS rfl ?_
      exact jy_join hS h rfl (jy_sub_s (jy_sub_s (jy_sub_s (jy_sub_s (jy_sub_n (jy_sub_n jy_sub_0))))))
    · have h := h.2 hq
      refine jy_aload_n hS rfl rfl ?_
      obtain ⟨g3, h⟩ := h
      obtain ⟨q4, h⟩ := h
      obtain ⟨g5, h⟩ := h
      refine jy_getR hS rfl (by decide) g3 g5 ?_
      refine jy_iload_n hS rfl rfl ?_
      refine jy_bipush hS rfl (by decide) ?_
      refine jy_imul hS rfl ?_
      refine jy_iload_n hS rfl rfl ?_
      refine jy_iadd hS rfl ?_
      obtain ⟨n6, h⟩ := h
      obtain ⟨g7, h⟩ := h
      obtain ⟨g8, h⟩ := h
      refine jy_iald hS rfl g7.1 (Nat.le_of_lt g7.2) g8 ?_
      refine jy_aload_n hS rfl rfl ?_
      refine jy_getR hS rfl (by decide) g3 g5 ?_
      refine jy_iload_n hS rfl rfl ?_
      refine jy_bipush hS rfl (by decide) ?_
      refine jy_imul hS rfl ?_
      refine jy_iload hS rfl rfl ?_
      refine jy_iadd hS rfl ?_
      obtain ⟨g9, h⟩ := h
      refine jy_iald hS rfl g7.1 (Nat.le_of_lt g7.2) g9 ?_
      refine jy_iadd hS rfl ?_
      refine jy_istore hS rfl (Nat.le_of_ble_eq_true rfl) (L' := [some (.ref a0), some (jy a1), some (jy a2), some (jy l3), some (jy l4), some (jy ((I q4 ((l3 * 10) + a2).toNat).toInt + (I q4 ((a2 * 10) + l4).toNat).toInt))]) rfl ?_
      refine jy_iload hS rfl rfl ?_
      refine jy_aload_n hS rfl rfl ?_
      refine jy_getR hS rfl (by decide) g3 g5 ?_
      refine jy_iload_n hS rfl rfl ?_
      refine jy_bipush hS rfl (by decide) ?_
      refine jy_imul hS rfl ?_
      refine jy_iload hS rfl rfl ?_
      refine jy_iadd hS rfl ?_
      obtain ⟨g10, h⟩ := h
      refine jy_iald hS rfl g7.1 (Nat.le_of_lt g7.2) g10 ?_
      obtain ⟨g11, h⟩ := h
      refine jy_icmp_ge hS rfl ⟨g11, (jy_rng _)⟩ (fun hq => ?_) (fun hq => ?_)
      · have h := h.1 hq
        refine jy_iinc hS rfl rfl (L' := [some (.ref a0), some (jy a1), some (jy a2), some (jy l3), some (jy (l4 + 1)), some (jy ((I q4 ((l3 * 10) + a2).toNat).toInt + (I q4 ((a2 * 10) + l4).toNat).toInt))]) rfl ?_
        refine jy_goto hS rfl ?_
        exact jy_join hS h rfl (jy_sub_s (jy_sub_s (jy_sub_s (jy_sub_s (jy_sub_s (jy_sub_n jy_sub_0))))))
      · have h := h.2 hq
        refine jy_aload_n hS rfl rfl ?_
        refine jy_getR hS rfl (by decide) g3 g5 ?_
        refine jy_iload_n hS rfl rfl ?_
        refine jy_bipush hS rfl (by decide) ?_
        refine jy_imul hS rfl ?_
        refine jy_iload hS rfl rfl ?_
        refine jy_iadd hS rfl ?_
        refine jy_iload hS rfl rfl ?_
        obtain ⟨g12, h⟩ := h
        refine jy_iast hS rfl g7.1 (Nat.le_of_lt g7.2) g12 ?_
        intro I13 e9
        have h := h I13 e9
        clear e9
        exact jy_join hS h rfl (jy_sub_s (jy_sub_s (jy_sub_s (jy_sub_s (jy_sub_s (jy_sub_n jy_sub_0))))))
  · intro l3 l4 I h
    unfold wz_128_73 at h
    refine jy_iinc hS rfl rfl (L' := [some (.ref a0), some (jy a1), some (jy a2), some (jy l3), some (jy (l4 + 1)), none]) rfl ?_
    refine jy_goto hS rfl ?_
    exact jy_join hS h rfl (jy_sub_s (jy_sub_s (jy_sub_s (jy_sub_s (jy_sub_s (jy_sub_n jy_sub_0))))))
theorem jt_129 : jx_ml 129 = 4 ∧ jx_rt 129 = some .int ∧ jx_hz 129 = [] ∧ decide ((jx_nm 129).name = "<init>") = false ∧ jx_code 129 = jx_c129 := by decide +kernel
/-- GC$Ways.hoursBetween -/
def wz_129 (V : jx_V) (X : jx_X) (R : jx_R) (Q : Option Value → jx_I → Prop) (QE : String → jx_I → Prop)  (a0 : Nat) (a1 : Int) (a2 : Int) (I : jx_I) : Prop :=
  (X.2.1 a0 = some (10, 0)) ∧ (
  ∃ q2 : Nat, (
  (R a0 1 = some q2) ∧ (
  ∃ n4 : Nat, (
  (X.2.1 q2 = some (100, n4) ∧ n4 < 2147483648) ∧ (
  (0 ≤ ((a1 * 10) + a2) ∧ ((a1 * 10) + a2) < n4) ∧ (
  (1000000 ≤ (I q2 ((a1 * 10) + a2).toNat).toInt → (
    Q (some (jy (-1))) I
  )) ∧ (¬ 1000000 ≤ (I q2 ((a1 * 10) + a2).toNat).toInt → (
    Q (some (jy ((I q2 ((a1 * 10) + a2).toNat).toInt))) I
  ))))))))
set_option maxRecDepth 20000 in
theorem wm_129 {V : jx_V} (hV : V.1.stackTraces = false) {X : jx_X} {R : jx_R} {I : jx_I} {Q : Option Value → jx_I → Prop} {QE : String → jx_I → Prop} {a0 : Nat} {a1 : Int} {a2 : Int} (r_a1 : -2147483648 ≤ a1 ∧ a1 < 2147483648) (r_a2 : -2147483648 ≤ a2 ∧ a2 < 2147483648) 
    (h : wz_129 V X R Q QE  a0 a1 a2 I) : jc V 1 129 (0, 0) [.ref a0, jy a1, jy a2] X I R Q QE := by
  refine jy_met hV (by decide) (n := 4) (rt := some .int) (hh := []) (ini := false) (C := jx_c129) (L := [some (.ref a0), some (jy a1), some (jy a2), none]) jt_129 (Nat.le_of_ble_eq_true rfl) rfl ?_
  intro J hS
  unfold wz_129 at h
  refine jy_aload_n hS rfl rfl ?_
  obtain ⟨g1, h⟩ := h
  obtain ⟨q2, h⟩ := h
  obtain ⟨g3, h⟩ := h
  refine jy_getR hS rfl (by decide) g1 g3 ?_
  refine jy_iload_n hS rfl rfl ?_
  refine jy_bipush hS rfl (by decide) ?_
  refine jy_imul hS rfl ?_
  refine jy_iload_n hS rfl rfl ?_
  refine jy_iadd hS rfl ?_
  obtain ⟨n4, h⟩ := h
  obtain ⟨g5, h⟩ := h
  obtain ⟨g6, h⟩ := h
  refine jy_iald hS rfl g5.1 (Nat.le_of_lt g5.2) g6 ?_
  refine jy_istore_n hS rfl (Nat.le_of_ble_eq_true rfl) (L' := [some (.ref a0), some (jy a1), some (jy a2), some (jy ((I q2 ((a1 * 10) + a2).toNat).toInt))]) rfl ?_
  refine jy_iload_n hS rfl rfl ?_
  refine jy_ldcI hS rfl (n := 1000000) (by decide) ?_
  refine jy_icmp_ge hS rfl ⟨(jy_rng _), ⟨by decide, by decide⟩⟩ (fun hq => ?_) (fun hq => ?_)
  · have h := h.1 hq
    refine jy_iconst hS rfl ?_
    exact jy_iret hS rfl rfl ⟨rfl, rfl, h⟩
  · have h := h.2 hq
    refine jy_iload_n hS rfl rfl ?_
    refine jy_goto hS rfl ?_
    exact jy_iret hS rfl rfl ⟨rfl, rfl, h⟩
theorem jt_130 : jx_ml 130 = 7 ∧ jx_rt 130 = none ∧ jx_hz 130 = [] ∧ decide ((jx_nm 130).name = "<init>") = false ∧ jx_code 130 = jx_c130 := by decide +kernel
/-- GC$Ways.follow, from 17 -/
def wz_130_17 (V : jx_V) (X : jx_X) (R : jx_R) (Q : Option Value → jx_I → Prop) (QE : String → jx_I → Prop) (J17 : Int → Int → jx_I → Prop) (J57 : Int → Int → jx_I → Prop) (a0 : Nat) (a1 : Nat) (a2 : Int) (a3 : Int) (a4 : Nat) (l5 : Int) (l6 : Int) (I : jx_I) : Prop :=
  (-2147483648 ≤ l6 ∧ l6 < 2147483648) ∧ (
  (10 ≤ l6 → (
    Q none I
  )) ∧ (¬ 10 ≤ l6 → (
    (-2147483648 ≤ l5 ∧ l5 < 2147483648) ∧ (
    (l5 = a3 → (
      Q none I
    )) ∧ (¬ l5 = a3 → (
      (l5 < 0 → (
        Q none I
      )) ∧ (¬ l5 < 0 → (
        (X.2.1 a0 = some (10, 0)) ∧ (
        ∃ Q13 : Option Value → jx_I → Prop, (
        (jc V 2 131 (0, 0) [.ref a0, .ref a1, jy l5, jy a3] X I R Q13 (fun _ _ => False)) ∧ (
        ∀ rv I15, Q13 rv I15 → ∃ r16 : Int, rv = some (jy r16) ∧ (
        (-2147483648 ≤ r16 ∧ r16 < 2147483648) ∧ (
        (r16 < 0 → (
          J17 r16 (l6 + 1) I15
        )) ∧ (¬ r16 < 0 → (
          (X.2.1 a4 = some (5, 0)) ∧ (
          ∃ Q19 : Option Value → jx_I → Prop, (
          (jc V 1 69 (0, 0) [.ref a4, jy r16] X I15 R Q19 (fun _ _ => False)) ∧ (
          ∀ rv I21, Q19 rv I21 → rv = none ∧ (
          J57 r16 l6 I21))))
        )))))))
      ))
    )))
  )))
/-- GC$Ways.follow, from 57 -/
def wz_130_57 (V : jx_V) (X : jx_X) (R : jx_R) (Q : Option Value → jx_I → Prop) (QE : String → jx_I → Prop) (J17 : Int → Int → jx_I → Prop) (J57 : Int → Int → jx_I → Prop) (a0 : Nat) (a1 : Nat) (a2 : Int) (a3 : Int) (a4 : Nat) (l5 : Int) (l6 : Int) (I : jx_I) : Prop :=
  J17 l5 (l6 + 1) I
/-- GC$Ways.follow -/
def wz_130 (V : jx_V) (X : jx_X) (R : jx_R) (Q : Option Value → jx_I → Prop) (QE : String → jx_I → Prop) (J17 : Int → Int → jx_I → Prop) (J57 : Int → Int → jx_I → Prop) (a0 : Nat) (a1 : Nat) (a2 : Int) (a3 : Int) (a4 : Nat) (I : jx_I) : Prop :=
  (X.2.1 a4 = some (5, 0)) ∧ (
  ∃ Q2 : Option Value → jx_I → Prop, (
  (jc V 1 68 (0, 0) [.ref a4] X I R Q2 (fun _ _ => False)) ∧ (
  ∀ rv I4, Q2 rv I4 → rv = none ∧ (
  ∃ Q6 : Option Value → jx_I → Prop, (
  (jc V 1 69 (0, 0) [.ref a4, jy a2] X I4 R Q6 (fun _ _ => False)) ∧ (
  ∀ rv I8, Q6 rv I8 → rv = none ∧ (
  J17 a2 0 I8)))))))
set_option maxRecDepth 20000 in
theorem wm_130 {V : jx_V} (hV : V.1.stackTraces = false) {X : jx_X} {R : jx_R} {I : jx_I} {Q : Option Value → jx_I → Prop} {QE : String → jx_I → Prop} {a0 : Nat} {a1 : Nat} {a2 : Int} {a3 : Int} {a4 : Nat} (r_a2 : -2147483648 ≤ a2 ∧ a2 < 2147483648) (r_a3 : -2147483648 ≤ a3 ∧ a3 < 2147483648) 
    (h : ∀ (J17 : Int → Int → jx_I → Prop) (J57 : Int → Int → jx_I → Prop), ((∀ (l5 : Int) (l6 : Int) I, wz_130_17 V X R Q QE J17 J57 a0 a1 a2 a3 a4 l5 l6 I → J17 l5 l6 I) ∧ (∀ (l5 : Int) (l6 : Int) I, wz_130_57 V X R Q QE J17 J57 a0 a1 a2 a3 a4 l5 l6 I → J57 l5 l6 I)) → wz_130 V X R Q QE J17 J57 a0 a1 a2 a3 a4 I) : jc V 3 130 (0, 0) [.ref a0, .ref a1, jy a2, jy a3, .ref a4] X I R Q QE := by
  refine jy_met hV (by decide) (n := 7) (rt := none) (hh := []) (ini := false) (C := jx_c130) (L := [some (.ref a0), some (.ref a1), some (jy a2), some (jy a3), some (.ref a4), none, none]) jt_130 (Nat.le_of_ble_eq_true rfl) rfl ?_
  intro J hS
  have h := h (fun l5 l6 I => J 17 [] [some (.ref a0), some (.ref a1), none, some (jy a3), some (.ref a4), some (jy l5), some (jy l6)] (0, 0) X I R) (fun l5 l6 I => J 57 [] [some (.ref a0), some (.ref a1), none, some (jy a3), some (.ref a4), some (jy l5), some (jy l6)] (0, 0) X I R) ?_
  · unfold wz_130 at h
    refine jy_aload hS rfl rfl ?_
    obtain ⟨g1, h⟩ := h
    obtain ⟨Q2, h⟩ := h
    obtain ⟨g3, h⟩ := h
    refine jy_callV hS rfl rfl rfl (Nat.le_of_ble_eq_true rfl) (Or.inl g1) g3 (by decide) ⟨by decide, by decide⟩ (Nat.le_of_ble_eq_true rfl) ?_ ?_
    rotate_left
    · exact fun Ex Xx Ix Rx hp => hp.2.2.2.elim
    intro rv Xx I4 Rx hp
    obtain ⟨e1, e2, hp⟩ := hp
    rw [e1, e2]
    clear e1 e2
    obtain ⟨e1, h⟩ := h rv I4 hp
    rw [e1]
    clear e1
    change J 5 [] _ (0, 0) _ _ _
    refine jy_aload hS rfl rfl ?_
    refine jy_iload_n hS rfl rfl ?_
    obtain ⟨Q6, h⟩ := h
    obtain ⟨g7, h⟩ := h
    refine jy_callV hS rfl rfl rfl (Nat.le_of_ble_eq_true rfl) (Or.inl g1) g7 (by decide) ⟨by decide, by decide⟩ (Nat.le_of_ble_eq_true rfl) ?_ ?_
    rotate_left
    · exact fun Ex Xx Ix Rx hp => hp.2.2.2.elim
    intro rv Xx I8 Rx hp
    obtain ⟨e1, e2, hp⟩ := hp
    rw [e1, e2]
    clear e1 e2
    obtain ⟨e1, h⟩ := h rv I8 hp
    rw [e1]
    clear e1
    change J 11 [] _ (0, 0) _ _ _
    refine jy_iload_n hS rfl rfl ?_
    refine jy_istore hS rfl (Nat.le_of_ble_eq_true rfl) (L' := [some (.ref a0), some (.ref a1), some (jy a2), some (jy a3), some (.ref a4), some (jy a2), none]) rfl ?_
    refine jy_iconst hS rfl ?_
    refine jy_istore hS rfl (Nat.le_of_ble_eq_true rfl) (L' := [some (.ref a0), some (.ref a1), some (jy a2), some (jy a3), some (.ref a4), some (jy a2), some (jy 0)]) rfl ?_
    exact jy_join hS h rfl (jy_sub_s (jy_sub_s (jy_sub_n (jy_sub_s (jy_sub_s (jy_sub_s (jy_sub_s jy_sub_0)))))))
  refine ⟨?_, ?_⟩
  · intro l5 l6 I h
    unfold wz_130_17 at h
    refine jy_iload hS rfl rfl ?_
    refine jy_bipush hS rfl (by decide) ?_
    obtain ⟨g10, h⟩ := h
    refine jy_icmp_ge hS rfl ⟨g10, ⟨by decide, by decide⟩⟩ (fun hq => ?_) (fun hq => ?_)
    · have h := h.1 hq
      exact jy_ret hS rfl rfl ⟨rfl, rfl, h⟩
    · have h := h.2 hq
      refine jy_iload hS rfl rfl ?_
      refine jy_iload_n hS rfl rfl ?_
      obtain ⟨g11, h⟩ := h
      refine jy_icmp_eq hS rfl ⟨g11, r_a3⟩ (fun hq => ?_) (fun hq => ?_)
      · have h := h.1 hq
        exact jy_ret hS rfl rfl ⟨rfl, rfl, h⟩
      · have h := h.2 hq
        refine jy_iload hS rfl rfl ?_
        refine jy_if_lt hS rfl g11 (fun hq => ?_) (fun hq => ?_)
        · have h := h.1 hq
          exact jy_ret hS rfl rfl ⟨rfl, rfl, h⟩
        · have h := h.2 hq
          refine jy_aload_n hS rfl rfl ?_
          refine jy_aload_n hS rfl rfl ?_
          refine jy_iload hS rfl rfl ?_
          refine jy_iload_n hS rfl rfl ?_
          obtain ⟨g12, h⟩ := h
          obtain ⟨Q13, h⟩ := h
          obtain ⟨g14, h⟩ := h
          refine jy_callV hS rfl rfl rfl (Nat.le_of_ble_eq_true rfl) (Or.inl g12) g14 (by decide) ⟨by decide, by decide⟩ (Nat.le_of_ble_eq_true rfl) ?_ ?_
          rotate_left
          · exact fun Ex Xx Ix Rx hp => hp.2.2.2.elim
          intro rv Xx I15 Rx hp
          obtain ⟨e1, e2, hp⟩ := hp
          rw [e1, e2]
          clear e1 e2
          obtain ⟨r16, e1, h⟩ := h rv I15 hp
          rw [e1]
          clear e1
          change J 43 [jy r16] _ (0, 0) _ _ _
          refine jy_istore hS rfl (Nat.le_of_ble_eq_true rfl) (L' := [some (.ref a0), some (.ref a1), none, some (jy a3), some (.ref a4), some (jy r16), some (jy l6)]) rfl ?_
          refine jy_iload hS rfl rfl ?_
          obtain ⟨g17, h⟩ := h
          refine jy_if_lt hS rfl g17 (fun hq => ?_) (fun hq => ?_)
          · have h := h.1 hq
            refine jy_iinc hS rfl rfl (L' := [some (.ref a0), some (.ref a1), none, some (jy a3), some (.ref a4), some (jy r16), some (jy (l6 + 1))]) rfl ?_
            refine jy_goto hS rfl ?_
            exact jy_join hS h rfl (jy_sub_s (jy_sub_s (jy_sub_n (jy_sub_s (jy_sub_s (jy_sub_s (jy_sub_s jy_sub_0)))))))
          · have h := h.2 hq
            refine jy_aload hS rfl rfl ?_
            refine jy_iload hS rfl rfl ?_
            obtain ⟨g18, h⟩ := h
            obtain ⟨Q19, h⟩ := h
            obtain ⟨g20, h⟩ := h
            refine jy_callV hS rfl rfl rfl (Nat.le_of_ble_eq_true rfl) (Or.inl g18) g20 (by decide) ⟨by decide, by decide⟩ (Nat.le_of_ble_eq_true rfl) ?_ ?_
            rotate_left
            · exact fun Ex Xx Ix Rx hp => hp.2.2.2.elim
            intro rv Xx I21 Rx hp
            obtain ⟨e1, e2, hp⟩ := hp
            rw [e1, e2]
            clear e1 e2
            obtain ⟨e1, h⟩ := h rv I21 hp
            rw [e1]
            clear e1
            change J 57 [] _ (0, 0) _ _ _
            exact jy_join hS h rfl (jy_sub_s (jy_sub_s (jy_sub_n (jy_sub_s (jy_sub_s (jy_sub_s (jy_sub_s jy_sub_0)))))))
  · intro l5 l6 I h
    unfold wz_130_57 at h
    refine jy_iinc hS rfl rfl (L' := [some (.ref a0), some (.ref a1), none, some (jy a3), some (.ref a4), some (jy l5), some (jy (l6 + 1))]) rfl ?_
    refine jy_goto hS rfl ?_
    exact jy_join hS h rfl (jy_sub_s (jy_sub_s (jy_sub_n (jy_sub_s (jy_sub_s (jy_sub_s (jy_sub_s jy_sub_0)))))))
theorem jt_131 : jx_ml 131 = 7 ∧ jx_rt 131 = some .int ∧ jx_hz 131 = [] ∧ decide ((jx_nm 131).name = "<init>") = false ∧ jx_code 131 = jx_c131 := by decide +kernel
/-- GC$Ways.nextOn, from 3 -/
def wz_131_3 (V : jx_V) (X : jx_X) (R : jx_R) (Q : Option Value → jx_I → Prop) (QE : String → jx_I → Prop) (J3 : Int → jx_I → Prop) (a0 : Nat) (a1 : Nat) (a2 : Int) (a3 : Int) (l4 : Int) (I : jx_I) : Prop :=
  (X.2.1 a1 = some (2, 0)) ∧ (
  (-2147483648 ≤ l4 ∧ l4 < 2147483648) ∧ (
  ((I a1 7).toInt ≤ l4 → (
    Q (some (jy (-1))) I
  )) ∧ (¬ (I a1 7).toInt ≤ l4 → (
    ∃ Q3 : Option Value → jx_I → Prop, (
    (jc V 1 36 (0, 0) [.ref a1, jy a2, jy l4] X I R Q3 (fun _ _ => False)) ∧ (
    ∀ rv I5, Q3 rv I5 → ∃ r6 : Int, rv = some (jy r6) ∧ (
    (X.2.1 a0 = some (10, 0)) ∧ (
    ∃ q8 : Nat, (
    (R a0 0 = some q8) ∧ (
    ∃ n10 : Nat, (
    (X.2.1 q8 = some (100, n10) ∧ n10 < 2147483648) ∧ (
    (0 ≤ l4 ∧ l4 < n10) ∧ (
    ∃ q13 : Nat, (
    (R a0 1 = some q13) ∧ (
    ∃ n15 : Nat, (
    (X.2.1 q13 = some (100, n15) ∧ n15 < 2147483648) ∧ (
    (0 ≤ ((l4 * 10) + a3) ∧ ((l4 * 10) + a3) < n15) ∧ (
    (-2147483648 ≤ r6 ∧ r6 < 2147483648) ∧ (
    (r6 ≤ 0 → (
      J3 (l4 + 1) I5
    )) ∧ (¬ r6 ≤ 0 → (
      (0 ≤ ((a2 * 10) + a3) ∧ ((a2 * 10) + a3) < n15) ∧ (
      (-2147483648 ≤ ((r6 + (I5 q8 l4.toNat).toInt) + (I5 q13 ((l4 * 10) + a3).toNat).toInt) ∧ ((r6 + (I5 q8 l4.toNat).toInt) + (I5 q13 ((l4 * 10) + a3).toNat).toInt) < 2147483648) ∧ (
      (((r6 + (I5 q8 l4.toNat).toInt) + (I5 q13 ((l4 * 10) + a3).toNat).toInt) ≠ (I5 q13 ((a2 * 10) + a3).toNat).toInt → (
        J3 (l4 + 1) I5
      )) ∧ (((r6 + (I5 q8 l4.toNat).toInt) + (I5 q13 ((l4 * 10) + a3).toNat).toInt) = (I5 q13 ((a2 * 10) + a3).toNat).toInt → (
        Q (some (jy l4)) I5
      ))))
    )))))))))))))))))
  ))))
/-- GC$Ways.nextOn -/
def wz_131 (V : jx_V) (X : jx_X) (R : jx_R) (Q : Option Value → jx_I → Prop) (QE : String → jx_I → Prop) (J3 : Int → jx_I → Prop) (a0 : Nat) (a1 : Nat) (a2 : Int) (a3 : Int) (I : jx_I) : Prop :=
  J3 0 I
set_option maxRecDepth 20000 in
theorem wm_131 {V : jx_V} (hV : V.1.stackTraces = false) {X : jx_X} {R : jx_R} {I : jx_I} {Q : Option Value → jx_I → Prop} {QE : String → jx_I → Prop} {a0 : Nat} {a1 : Nat} {a2 : Int} {a3 : Int} (r_a2 : -2147483648 ≤ a2 ∧ a2 < 2147483648) (r_a3 : -2147483648 ≤ a3 ∧ a3 < 2147483648) 
    (h : ∀ (J3 : Int → jx_I → Prop), ((∀ (l4 : Int) I, wz_131_3 V X R Q QE J3 a0 a1 a2 a3 l4 I → J3 l4 I)) → wz_131 V X R Q QE J3 a0 a1 a2 a3 I) : jc V 2 131 (0, 0) [.ref a0, .ref a1, jy a2, jy a3] X I R Q QE := by
  refine jy_met hV (by decide) (n := 7) (rt := some .int) (hh := []) (ini := false) (C := jx_c131) (L := [some (.ref a0), some (.ref a1), some (jy a2), some (jy a3), none, none, none]) jt_131 (Nat.le_of_ble_eq_true rfl) rfl ?_
  intro J hS
  have h := h (fun l4 I => J 3 [] [some (.ref a0), some (.ref a1), some (jy a2), some (jy a3), some (jy l4), none, none] (0, 0) X I R) ?_
  · unfold wz_131 at h
    refine jy_iconst hS rfl ?_
    refine jy_istore hS rfl (Nat.le_of_ble_eq_true rfl) (L' := [some (.ref a0), some (.ref a1), some (jy a2), some (jy a3), some (jy 0), none, none]) rfl ?_
    exact jy_join hS h rfl (jy_sub_s (jy_sub_s (jy_sub_s (jy_sub_s (jy_sub_s (jy_sub_n (jy_sub_n jy_sub_0)))))))
  · intro l4 I h
    unfold wz_131_3 at h
    refine jy_iload hS rfl rfl ?_
    refine jy_aload_n hS rfl rfl ?_
    obtain ⟨g1, h⟩ := h
    refine jy_getI hS rfl (by decide) g1 ?_
    obtain ⟨g2, h⟩ := h
    refine jy_icmp_ge hS rfl ⟨g2, (jy_rng _)⟩ (fun hq => ?_) (fun hq => ?_)
    · have h := h.1 hq
      refine jy_iconst hS rfl ?_
      exact jy_iret hS rfl rfl ⟨rfl, rfl, h⟩
    · have h := h.2 hq
      refine jy_aload_n hS rfl rfl ?_
      refine jy_iload_n hS rfl rfl ?_
      refine jy_iload hS rfl rfl ?_
      obtain ⟨Q3, h⟩ := h
      obtain ⟨g4, h⟩ := h
      refine jy_callV hS rfl rfl rfl (Nat.le_of_ble_eq_true rfl) (Or.inl g1) g4 (by decide) ⟨by decide, by decide⟩ (Nat.le_of_ble_eq_true rfl) ?_ ?_
      rotate_left
      · exact fun Ex Xx Ix Rx hp => hp.2.2.2.elim
      intro rv Xx I5 Rx hp
      obtain ⟨e1, e2, hp⟩ := hp
      rw [e1, e2]
      clear e1 e2
      obtain ⟨r6, e1, h⟩ := h rv I5 hp
      rw [e1]
      clear e1
      change J 19 [jy r6] _ (0, 0) _ _ _
      refine jy_istore hS rfl (Nat.le_of_ble_eq_true rfl) (L' := [some (.ref a0), some (.ref a1), some (jy a2), some (jy a3), some (jy l4), some (jy r6), none]) rfl ?_
      refine jy_iload hS rfl rfl ?_
      refine jy_aload_n hS rfl rfl ?_
      obtain ⟨g7, h⟩ := h
      obtain ⟨q8, h⟩ := h
      obtain ⟨g9, h⟩ := h
      refine jy_getR hS rfl (by decide) g7 g9 ?_
      refine jy_iload hS rfl rfl ?_
      obtain ⟨n10, h⟩ := h
      obtain ⟨g11, h⟩ := h
      obtain ⟨g12, h⟩ := h
      refine jy_iald hS rfl g11.1 (Nat.le_of_lt g11.2) g12 ?_
      refine jy_iadd hS rfl ?_
      refine jy_aload_n hS rfl rfl ?_
      obtain ⟨q13, h⟩ := h
      obtain ⟨g14, h⟩ := h
      refine jy_getR hS rfl (by decide) g7 g14 ?_
      refine jy_iload hS rfl rfl ?_
      refine jy_bipush hS rfl (by decide) ?_
      refine jy_imul hS rfl ?_
      refine jy_iload_n hS rfl rfl ?_
      refine jy_iadd hS rfl ?_
      obtain ⟨n15, h⟩ := h
      obtain ⟨g16, h⟩ := h
      obtain ⟨g17, h⟩ := h
      refine jy_iald hS rfl g16.1 (Nat.le_of_lt g16.2) g17 ?_
      refine jy_iadd hS rfl ?_
      refine jy_istore hS rfl (Nat.le_of_ble_eq_true rfl) (L' := [some (.ref a0), some (.ref a1), some (jy a2), some (jy a3), some (jy l4), some (jy r6), some (jy ((r6 + (I5 q8 l4.toNat).toInt) + (I5 q13 ((l4 * 10) + a3).toNat).toInt))]) rfl ?_
      refine jy_iload hS rfl rfl ?_
      obtain ⟨g18, h⟩ := h
      refine jy_if_le hS rfl g18 (fun hq => ?_) (fun hq => ?_)
      · have h := h.1 hq
        refine jy_iinc hS rfl rfl (L' := [some (.ref a0), some (.ref a1), some (jy a2), some (jy a3), some (jy (l4 + 1)), some (jy r6), some (jy ((r6 + (I5 q8 l4.toNat).toInt) + (I5 q13 ((l4 * 10) + a3).toNat).toInt))]) rfl ?_
        refine jy_goto hS rfl ?_
        exact jy_join hS h rfl (jy_sub_s (jy_sub_s (jy_sub_s (jy_sub_s (jy_sub_s (jy_sub_n (jy_sub_n jy_sub_0)))))))
      · have h := h.2 hq
        refine jy_iload hS rfl rfl ?_
        refine jy_aload_n hS rfl rfl ?_
        refine jy_getR hS rfl (by decide) g7 g14 ?_
        refine jy_iload_n hS rfl rfl ?_
        refine jy_bipush hS rfl (by decide) ?_
        refine jy_imul hS rfl ?_
        refine jy_iload_n hS rfl rfl ?_
        refine jy_iadd hS rfl ?_
        obtain ⟨g19, h⟩ := h
        refine jy_iald hS rfl g16.1 (Nat.le_of_lt g16.2) g19 ?_
        obtain ⟨g20, h⟩ := h
        refine jy_icmp_ne hS rfl ⟨g20, (jy_rng _)⟩ (fun hq => ?_) (fun hq => ?_)
        · have h := h.1 hq
          refine jy_iinc hS rfl rfl (L' := [some (.ref a0), some (.ref a1), some (jy a2), some (jy a3), some (jy (l4 + 1)), some (jy r6), some (jy ((r6 + (I5 q8 l4.toNat).toInt) + (I5 q13 ((l4 * 10) + a3).toNat).toInt))]) rfl ?_
          refine jy_goto hS rfl ?_
          exact jy_join hS h rfl (jy_sub_s (jy_sub_s (jy_sub_s (jy_sub_s (jy_sub_s (jy_sub_n (jy_sub_n jy_sub_0)))))))
        · have h := h.2 hq
          refine jy_iload hS rfl rfl ?_
          exact jy_iret hS rfl rfl ⟨rfl, rfl, h⟩
theorem jt_132 : jx_ml 132 = 9 ∧ jx_rt 132 = some .int ∧ jx_hz 132 = [] ∧ decide ((jx_nm 132).name = "<init>") = false ∧ jx_code 132 = jx_c132 := by decide +kernel
/-- GC$Ways.mostWithin, from 8 -/
def wz_132_8 (V : jx_V) (X : jx_X) (R : jx_R) (Q : Option Value → jx_I → Prop) (QE : String → jx_I → Prop) (J8 : Int → Int → jx_I → Prop) (J56 : Int → Int → Int → jx_I → Prop) (J69 : Int → Int → Int → Int → Int → jx_I → Prop) (J104 : Int → Int → Int → Int → Int → jx_I → Prop) (J132 : Int → Int → Int → jx_I → Prop) (a0 : Nat) (a1 : Int) (a2 : Int) (a3 : Int) (l4 : Int) (l5 : Int) (I : jx_I) : Prop :=
  (-2147483648 ≤ l5 ∧ l5 < 2147483648) ∧ (
  (-2147483648 ≤ (l4 * 10) ∧ (l4 * 10) < 2147483648) ∧ (
  ((l4 * 10) ≤ l5 → (
    (X.2.1 a0 = some (10, 0)) ∧ (
    ∃ q4 : Nat, (
    (R a0 2 = some q4) ∧ (
    ∃ n6 : Nat, (
    (X.2.1 q4 = some (100, n6) ∧ n6 < 2147483648) ∧ (
    (0 ≤ (((Int32.ofInt 1 <<< (Int32.ofInt a2 &&& 31)).toInt * 10) + a2) ∧ (((Int32.ofInt 1 <<< (Int32.ofInt a2 &&& 31)).toInt * 10) + a2) < n6) ∧ (
    ∀ I9 : jx_I, I9 = jx_u I q4 (((Int32.ofInt 1 <<< (Int32.ofInt a2 &&& 31)).toInt * 10) + a2).toNat (Int32.ofInt 0) → (
    J56 l4 ((Int32.ofInt 1 <<< (Int32.ofInt a2 &&& 31)).toInt) ((Int32.ofInt 1 <<< (Int32.ofInt a2 &&& 31)).toInt) I9)))))))
  )) ∧ (¬ (l4 * 10) ≤ l5 → (
    (X.2.1 a0 = some (10, 0)) ∧ (
    ∃ q11 : Nat, (
    (R a0 2 = some q11) ∧ (
    ∃ n13 : Nat, (
    (X.2.1 q11 = some (100, n13) ∧ n13 < 2147483648) ∧ (
    (0 ≤ l5 ∧ l5 < n13) ∧ (
    ∀ I16 : jx_I, I16 = jx_u I q11 l5.toNat (Int32.ofInt 1000000) → (
    J8 l4 (l5 + 1) I16)))))))
  ))))
/-- GC$Ways.mostWithin, from 56 -/
def wz_132_56 (V : jx_V) (X : jx_X) (R : jx_R) (Q : Option Value → jx_I → Prop) (QE : String → jx_I → Prop) (J8 : Int → Int → jx_I → Prop) (J56 : Int → Int → Int → jx_I → Prop) (J69 : Int → Int → Int → Int → Int → jx_I → Prop) (J104 : Int → Int → Int → Int → Int → jx_I → Prop) (J132 : Int → Int → Int → jx_I → Prop) (a0 : Nat) (a1 : Int) (a2 : Int) (a3 : Int) (l4 : Int) (l5 : Int) (l6 : Int) (I : jx_I) : Prop :=
  (-2147483648 ≤ l6 ∧ l6 < 2147483648) ∧ (
  (-2147483648 ≤ l4 ∧ l4 < 2147483648) ∧ (
  (l4 ≤ l6 → (
    Q (some (jy l5)) I
  )) ∧ (¬ l4 ≤ l6 → (
    J69 l4 l5 l6 0 0 I
  ))))
/-- GC$Ways.mostWithin, from 69 -/
def wz_132_69 (V : jx_V) (X : jx_X) (R : jx_R) (Q : Option Value → jx_I → Prop) (QE : String → jx_I → Prop) (J8 : Int → Int → jx_I → Prop) (J56 : Int → Int → Int → jx_I → Prop) (J69 : Int → Int → Int → Int → Int → jx_I → Prop) (J104 : Int → Int → Int → Int → Int → jx_I → Prop) (J132 : Int → Int → Int → jx_I → Prop) (a0 : Nat) (a1 : Int) (a2 : Int) (a3 : Int) (l4 : Int) (l5 : Int) (l6 : Int) (l7 : Int) (l8 : Int) (I : jx_I) : Prop :=
  (-2147483648 ≤ l8 ∧ l8 < 2147483648) ∧ (
  (a1 ≤ l8 → (
    (-2147483648 ≤ l7 ∧ l7 < 2147483648) ∧ (
    (l7 = 0 → (
      J56 l4 l5 (l6 + 1) I
    )) ∧ (¬ l7 = 0 → (
      ∃ Q21 : Option Value → jx_I → Prop, (
      (jc V 1 327 (0, 0) [jy l6] X I R Q21 (fun _ _ => False)) ∧ (
      ∀ rv I23, Q21 rv I23 → ∃ r24 : Int, rv = some (jy r24) ∧ (
      ∃ Q25 : Option Value → jx_I → Prop, (
      (jc V 1 327 (0, 0) [jy l5] X I23 R Q25 (fun _ _ => False)) ∧ (
      ∀ rv I27, Q25 rv I27 → ∃ r28 : Int, rv = some (jy r28) ∧ (
      (-2147483648 ≤ r24 ∧ r24 < 2147483648) ∧ (
      (-2147483648 ≤ r28 ∧ r28 < 2147483648) ∧ (
      (r24 ≤ r28 → (
        J56 l4 l5 (l6 + 1) I27
      )) ∧ (¬ r24 ≤ r28 → (
        J132 l4 l6 l6 I27
      ))))))))))
    )))
  )) ∧ (¬ a1 ≤ l8 → (
    (X.2.1 a0 = some (10, 0)) ∧ (
    ∃ q32 : Nat, (
    (R a0 2 = some q32) ∧ (
    ∃ n34 : Nat, (
    (X.2.1 q32 = some (100, n34) ∧ n34 < 2147483648) ∧ (
    (0 ≤ ((l6 * 10) + l8) ∧ ((l6 * 10) + l8) < n34) ∧ (
    (a3 < (I q32 ((l6 * 10) + l8).toNat).toInt → (
      J69 l4 l5 l6 l7 (l8 + 1) I
    )) ∧ (¬ a3 < (I q32 ((l6 * 10) + l8).toNat).toInt → (
      ∃ Q37 : Option Value → jx_I → Prop, (
      (jc V 2 133 (0, 0) [.ref a0, jy a1, jy l6, jy l8] X I R Q37 (fun _ _ => False)) ∧ (
      ∀ rv I39, Q37 rv I39 → rv = none ∧ (
      J104 l4 l5 l6 1 l8 I39)))
    ))))))))
  )))
/-- GC$Ways.mostWithin, from 104 -/
def wz_132_104 (V : jx_V) (X : jx_X) (R : jx_R) (Q : Option Value → jx_I → Prop) (QE : String → jx_I → Prop) (J8 : Int → Int → jx_I → Prop) (J56 : Int → Int → Int → jx_I → Prop) (J69 : Int → Int → Int → Int → Int → jx_I → Prop) (J104 : Int → Int → Int → Int → Int → jx_I → Prop) (J132 : Int → Int → Int → jx_I → Prop) (a0 : Nat) (a1 : Int) (a2 : Int) (a3 : Int) (l4 : Int) (l5 : Int) (l6 : Int) (l7 : Int) (l8 : Int) (I : jx_I) : Prop :=
  J69 l4 l5 l6 l7 (l8 + 1) I
/-- GC$Ways.mostWithin, from 132 -/
def wz_132_132 (V : jx_V) (X : jx_X) (R : jx_R) (Q : Option Value → jx_I → Prop) (QE : String → jx_I → Prop) (J8 : Int → Int → jx_I → Prop) (J56 : Int → Int → Int → jx_I → Prop) (J69 : Int → Int → Int → Int → Int → jx_I → Prop) (J104 : Int → Int → Int → Int → Int → jx_I → Prop) (J132 : Int → Int → Int → jx_I → Prop) (a0 : Nat) (a1 : Int) (a2 : Int) (a3 : Int) (l4 : Int) (l5 : Int) (l6 : Int) (I : jx_I) : Prop :=
  J56 l4 l5 (l6 + 1) I
/-- GC$Ways.mostWithin -/
def wz_132 (V : jx_V) (X : jx_X) (R : jx_R) (Q : Option Value → jx_I → Prop) (QE : String → jx_I → Prop) (J8 : Int → Int → jx_I → Prop) (J56 : Int → Int → Int → jx_I → Prop) (J69 : Int → Int → Int → Int → Int → jx_I → Prop) (J104 : Int → Int → Int → Int → Int → jx_I → Prop) (J132 : Int → Int → Int → jx_I → Prop) (a0 : Nat) (a1 : Int) (a2 : Int) (a3 : Int) (I : jx_I) : Prop :=
  J8 ((Int32.ofInt 1 <<< (Int32.ofInt a1 &&& 31)).toInt) 0 I
set_option maxRecDepth 20000 in
theorem wm_132 {V : jx_V} (hV : V.1.stackTraces = false) {X : jx_X} {R : jx_R} {I : jx_I} {Q : Option Value → jx_I → Prop} {QE : String → jx_I → Prop} {a0 : Nat} {a1 : Int} {a2 : Int} {a3 : Int} (r_a1 : -2147483648 ≤ a1 ∧ a1 < 2147483648) (r_a2 : -2147483648 ≤ a2 ∧ a2 < 2147483648) (r_a3 : -2147483648 ≤ a3 ∧ a3 < 2147483648) 
    (h : ∀ (J8 : Int → Int → jx_I → Prop) (J56 : Int → Int → Int → jx_I → Prop) (J69 : Int → Int → Int → Int → Int → jx_I → Prop) (J104 : Int → Int → Int → Int → Int → jx_I → Prop) (J132 : Int → Int → Int → jx_I → Prop), ((∀ (l4 : Int) (l5 : Int) I, wz_132_8 V X R Q QE J8 J56 J69 J104 J132 a0 a1 a2 a3 l4 l5 I → J8 l4 l5 I) ∧ (∀ (l4 : Int) (l5 : Int) (l6 : Int) I, wz_132_56 V X R Q QE J8 J56 J69 J104 J132 a0 a1 a2 a3 l4 l5 l6 I → J56 l4 l5 l6 I) ∧ (∀ (l4 : Int) (l5 : Int) (l6 : Int) (l7 : Int) (l8 : Int) I, wz_132_69 V X R Q QE J8 J56 J69 J104 J132 a0 a1 a2 a3 l4 l5 l6 l7 l8 I → J69 l4 l5 l6 l7 l8 I) ∧ (∀ (l4 : Int) (l5 : Int) (l6 : Int) (l7 : Int) (l8 : Int) I, wz_132_104 V X R Q QE J8 J56 J69 J104 J132 a0 a1 a2 a3 l4 l5 l6 l7 l8 I → J104 l4 l5 l6 l7 l8 I) ∧ (∀ (l4 : Int) (l5 : Int) (l6 : Int) I, wz_132_132 V X R Q QE J8 J56 J69 J104 J132 a0 a1 a2 a3 l4 l5 l6 I → J132 l4 l5 l6 I)) → wz_132 V X R Q QE J8 J56 J69 J104 J132 a0 a1 a2 a3 I) : jc V 3 132 (0, 0) [.ref a0, jy a1, jy a2, jy a3] X I R Q QE := by
  refine jy_met hV (by decide) (n := 9) (rt := some .int) (hh := []) (ini := false) (C := jx_c132) (L := [some (.ref a0), some (jy a1), some (jy a2), some (jy a3), none, none, none, none, none]) jt_132 (Nat.le_of_ble_eq_true rfl) rfl ?_
  intro J hS
  have h := h (fun l4 l5 I => J 8 [] [some (.ref a0), some (jy a1), some (jy a2), some (jy a3), some (jy l4), some (jy l5), none, none, none] (0, 0) X I R) (fun l4 l5 l6 I => J 56 [] [some (.ref a0), some (jy a1), none, some (jy a3), some (jy l4), some (jy l5), some (jy l6), none, none] (0, 0) X I R) (fun l4 l5 l6 l7 l8 I => J 69 [] [some (.ref a0), some (jy a1), none, some (jy a3), some (jy l4), some (jy l5), some (jy l6), some (jy l7), some (jy l8)] (0, 0) X I R) (fun l4 l5 l6 l7 l8 I => J 104 [] [some (.ref a0), some (jy a1), none, some (jy a3), some (jy l4), some (jy l5), some (jy l6), some (jy l7), some (jy l8)] (0, 0) X I R) (fun l4 l5 l6 I => J 132 [] [some (.ref a0), some (jy a1), none, some (jy a3), some (jy l4), some (jy l5), some (jy l6), none, none] (0, 0) X I R) ?_
  · unfold wz_132 at h
    refine jy_iconst hS rfl ?_
    refine jy_iload_n hS rfl rfl ?_
    refine jy_ishlX hS rfl rfl ?_
    refine jy_istore hS rfl (Nat.le_of_ble_eq_true rfl) (L' := [some (.ref a0), some (jy a1), some (jy a2), some (jy a3), some (jy ((Int32.ofInt 1 <<< (Int32.ofInt a1 &&& 31)).toInt)), none, none, none, none]) rfl ?_
    refine jy_iconst hS rfl ?_
    refine jy_istore hS rfl (Nat.le_of_ble_eq_true rfl) (L' := [some (.ref a0), some (jy a1), some (jy a2), some (jy a3), some (jy ((Int32.ofInt 1 <<< (Int32.ofInt a1 &&& 31)).toInt)), some (jy 0), none, none, none]) rfl ?_
    exact jy_join hS h rfl (jy_sub_s (jy_sub_s (jy_sub_s (jy_sub_s (jy_sub_s (jy_sub_s (jy_sub_n (jy_sub_n (jy_sub_n jy_sub_0)))))))))
  refine ⟨?_, ?_, ?_, ?_, ?_⟩
  · intro l4 l5 I h
    unfold wz_132_8 at h
    refine jy_iload hS rfl rfl ?_
    refine jy_iload hS rfl rfl ?_
    refine jy_bipush hS rfl (by decide) ?_
    refine jy_imul hS rfl ?_
    obtain ⟨g1, h⟩ := h
    obtain ⟨g2, h⟩ := h
    refine jy_icmp_ge hS rfl ⟨g1, g2⟩ (fun hq => ?_) (fun hq => ?_)
    · have h := h.1 hq
      refine jy_aload_n hS rfl rfl ?_
      obtain ⟨g3, h⟩ := h
      obtain ⟨q4, h⟩ := h
      obtain ⟨g5, h⟩ := h
      refine jy_getR hS rfl (by decide) g3 g5 ?_
      refine jy_iconst hS rfl ?_
      refine jy_iload_n hS rfl rfl ?_
      refine jy_ishlX hS rfl rfl ?_
      refine jy_bipush hS rfl (by decide) ?_
      refine jy_imul hS rfl ?_
      refine jy_iload_n hS rfl rfl ?_
      refine jy_iadd hS rfl ?_
      refine jy_iconst hS rfl ?_
      obtain ⟨n6, h⟩ := h
      obtain ⟨g7, h⟩ := h
      obtain ⟨g8, h⟩ := h
      refine jy_iast hS rfl g7.1 (Nat.le_of_lt g7.2) g8 ?_
      intro I9 e9
      have h := h I9 e9
      clear e9
      refine jy_iconst hS rfl ?_
      refine jy_iload_n hS rfl rfl ?_
      refine jy_ishlX hS rfl rfl ?_
      refine jy_istore hS rfl (Nat.le_of_ble_eq_true rfl) (L' := [some (.ref a0), some (jy a1), some (jy a2), some (jy a3), some (jy l4), some (jy ((Int32.ofInt 1 <<< (Int32.ofInt a2 &&& 31)).toInt)), none, none, none]) rfl ?_
      refine jy_iload hS rfl rfl ?_
      refine jy_istore hS rfl (Nat.le_of_ble_eq_true rfl) (L' := [some (.ref a0), some (jy a1), some (jy a2), some (jy a3), some (jy l4), some (jy ((Int32.ofInt 1 <<< (Int32.ofInt a2 &&& 31)).toInt)), some (jy ((Int32.ofInt 1 <<< (Int32.ofInt a2 &&& 31)).toInt)), none, none]) rfl ?_
      exact jy_join hS h rfl (jy_sub_s (jy_sub_s (jy_sub_n (jy_sub_s (jy_sub_s (jy_sub_s (jy_sub_s (jy_sub_n (jy_sub_n jy_sub_0)))))))))
    · have h := h.2 hq
      refine jy_aload_n hS rfl rfl ?_
      obtain ⟨g10, h⟩ := h
      obtain ⟨q11, h⟩ := h
      obtain ⟨g12, h⟩ := h
      refine jy_getR hS rfl (by decide) g10 g12 ?_
      refine jy_iload hS rfl rfl ?_
      refine jy_ldcI hS rfl (n := 1000000) (by decide) ?_
      obtain ⟨n13, h⟩ := h
      obtain ⟨g14, h⟩ := h
      obtain ⟨g15, h⟩ := h
      refine jy_iast hS rfl g14.1 (Nat.le_of_lt g14.2) g15 ?_
      intro I16 e9
      have h := h I16 e9
      clear e9
      refine jy_iinc hS rfl rfl (L' := [some (.ref a0), some (jy a1), some (jy a2), some (jy a3), some (jy l4), some (jy (l5 + 1)), none, none, none]) rfl ?_
      refine jy_goto hS rfl ?_
      exact jy_join hS h rfl (jy_sub_s (jy_sub_s (jy_sub_s (jy_sub_s (jy_sub_s (jy_sub_s (jy_sub_n (jy_sub_n (jy_sub_n jy_sub_0)))))))))
  · intro l4 l5 l6 I h
    unfold wz_132_56 at h
    refine jy_iload hS rfl rfl ?_
    refine jy_iload hS rfl rfl ?_
    obtain ⟨g17, h⟩ := h
    obtain ⟨g18, h⟩ := h
    refine jy_icmp_ge hS rfl ⟨g17, g18⟩ (fun hq => ?_) (fun hq => ?_)
    · have h := h.1 hq
      refine jy_iload hS rfl rfl ?_
      exact jy_iret hS rfl rfl ⟨rfl, rfl, h⟩
    · have h := h.2 hq
      refine jy_iconst hS rfl ?_
      refine jy_istore hS rfl (Nat.le_of_ble_eq_true rfl) (L' := [some (.ref a0), some (jy a1), none, some (jy a3), some (jy l4), some (jy l5), some (jy l6), some (jy 0), none]) rfl ?_
      refine jy_iconst hS rfl ?_
      refine jy_istore hS rfl (Nat.le_of_ble_eq_true rfl) (L' := [some (.ref a0), some (jy a1), none, some (jy a3), some (jy l4), some (jy l5), some (jy l6), some (jy 0), some (jy 0)]) rfl ?_
      exact jy_join hS h rfl (jy_sub_s (jy_sub_s (jy_sub_n (jy_sub_s (jy_sub_s (jy_sub_s (jy_sub_s (jy_sub_s (jy_sub_s jy_sub_0)))))))))
  · intro l4 l5 l6 l7 l8 I h
    unfold wz_132_69 at h
    refine jy_iload hS rfl rfl ?_
    refine jy_iload_n hS rfl rfl ?_
    obtain ⟨g19, h⟩ := h
    refine jy_icmp_ge hS rfl ⟨g19, r_a1⟩ (fun hq => ?_) (fun hq => ?_)
    · have h := h.1 hq
      refine jy_iload hS rfl rfl ?_
      obtain ⟨g20, h⟩ := h
      refine jy_if_eq hS rfl g20 (fun hq => ?_) (fun hq => ?_)
      · have h := h.1 hq
        refine jy_iinc hS rfl rfl (L' := [some (.ref a0), some (jy a1), none, some (jy a3), some (jy l4), some (jy l5), some (jy (l6 + 1)), some (jy l7), some (jy l8)]) rfl ?_
        refine jy_goto hS rfl ?_
        exact jy_join hS h rfl (jy_sub_s (jy_sub_s (jy_sub_n (jy_sub_s (jy_sub_s (jy_sub_s (jy_sub_s (jy_sub_n (jy_sub_n jy_sub_0)))))))))
      · have h := h.2 hq
        refine jy_iload hS rfl rfl ?_
        obtain ⟨Q21, h⟩ := h
        obtain ⟨g22, h⟩ := h
        refine jy_callS hS rfl rfl rfl (Nat.le_of_ble_eq_true rfl) g22 (by decide) ⟨by decide, by decide⟩ (Nat.le_of_ble_eq_true rfl) ?_ ?_
        rotate_left
        · exact fun Ex Xx Ix Rx hp => hp.2.2.2.elim
        intro rv Xx I23 Rx hp
        obtain ⟨e1, e2, hp⟩ := hp
        rw [e1, e2]
        clear e1 e2
        obtain ⟨r24, e1, h⟩ := h rv I23 hp
        rw [e1]
        clear e1
        change J 120 [jy r24] _ (0, 0) _ _ _
        refine jy_iload hS rfl rfl ?_
        obtain ⟨Q25, h⟩ := h
        obtain ⟨g26, h⟩ := h
        refine jy_callS hS rfl rfl rfl (Nat.le_of_ble_eq_true rfl) g26 (by decide) ⟨by decide, by decide⟩ (Nat.le_of_ble_eq_true rfl) ?_ ?_
        rotate_left
        · exact fun Ex Xx Ix Rx hp => hp.2.2.2.elim
        intro rv Xx I27 Rx hp
        obtain ⟨e1, e2, hp⟩ := hp
        rw [e1, e2]
        clear e1 e2
        obtain ⟨r28, e1, h⟩ := h rv I27 hp
        rw [e1]
        clear e1
        change J 125 [jy r28, jy r24] _ (0, 0) _ _ _
        obtain ⟨g29, h⟩ := h
        obtain ⟨g30, h⟩ := h
        refine jy_icmp_le hS rfl ⟨g29, g30⟩ (fun hq => ?_) (fun hq => ?_)
        · have h := h.1 hq
          refine jy_iinc hS rfl rfl (L' := [some (.ref a0), some (jy a1), none, some (jy a3), some (jy l4), some (jy l5), some (jy (l6 + 1)), some (jy l7), some (jy l8)]) rfl ?_
          refine jy_goto hS rfl ?_
          exact jy_join hS h rfl (jy_sub_s (jy_sub_s (jy_sub_n (jy_sub_s (jy_sub_s (jy_sub_s (jy_sub_s (jy_sub_n (jy_sub_n jy_sub_0)))))))))
        · have h := h.2 hq
          refine jy_iload hS rfl rfl ?_
          refine jy_istore hS rfl (Nat.le_of_ble_eq_true rfl) (L' := [some (.ref a0), some (jy a1), none, some (jy a3), some (jy l4), some (jy l6), some (jy l6), some (jy l7), some (jy l8)]) rfl ?_
          exact jy_join hS h rfl (jy_sub_s (jy_sub_s (jy_sub_n (jy_sub_s (jy_sub_s (jy_sub_s (jy_sub_s (jy_sub_n (jy_sub_n jy_sub_0)))))))))
    · have h := h.2 hq
      refine jy_aload_n hS rfl rfl ?_
      obtain ⟨g31, h⟩ := h
      obtain ⟨q32, h⟩ := h
      obtain ⟨g33, h⟩ := h
      refine jy_getR hS rfl (by decide) g31 g33 ?_
      refine jy_iload hS rfl rfl ?_
      refine jy_bipush hS rfl (by decide) ?_
      refine jy_imul hS rfl ?_
      refine jy_iload hS rfl rfl ?_
      refine jy_iadd hS rfl ?_
      obtain ⟨n34, h⟩ := h
      obtain ⟨g35, h⟩ := h
      obtain ⟨g36, h⟩ := h
      refine jy_iald hS rfl g35.1 (Nat.le_of_lt g35.2) g36 ?_
      refine jy_iload_n hS rfl rfl ?_
      refine jy_icmp_gt hS rfl ⟨(jy_rng _), r_a3⟩ (fun hq => ?_) (fun hq => ?_)
      · have h := h.1 hq
        refine jy_iinc hS rfl rfl (L' := [some (.ref a0), some (jy a1), none, some (jy a3), some (jy l4), some (jy l5), some (jy l6), some (jy l7), some (jy (l8 + 1))]) rfl ?_
        refine jy_goto hS rfl ?_
        exact jy_join hS h rfl (jy_sub_s (jy_sub_s (jy_sub_n (jy_sub_s (jy_sub_s (jy_sub_s (jy_sub_s (jy_sub_s (jy_sub_s jy_sub_0)))))))))
      · have h := h.2 hq
        refine jy_iconst hS rfl ?_
        refine jy_istore hS rfl (Nat.le_of_ble_eq_true rfl) (L' := [some (.ref a0), some (jy a1), none, some (jy a3), some (jy l4), some (jy l5), some (jy l6), some (jy 1), some (jy l8)]) rfl ?_
        refine jy_aload_n hS rfl rfl ?_
        refine jy_iload_n hS rfl rfl ?_
        refine jy_iload hS rfl rfl ?_
        refine jy_iload hS rfl rfl ?_
        obtain ⟨Q37, h⟩ := h
        obtain ⟨g38, h⟩ := h
        refine jy_callV hS rfl rfl rfl (Nat.le_of_ble_eq_true rfl) (Or.inl g31) g38 (by decide) ⟨by decide, by decide⟩ (Nat.le_of_ble_eq_true rfl) ?_ ?_
        rotate_left
        · exact fun Ex Xx Ix Rx hp => hp.2.2.2.elim
        intro rv Xx I39 Rx hp
        obtain ⟨e1, e2, hp⟩ := hp
        rw [e1, e2]
        clear e1 e2
        obtain ⟨e1, h⟩ := h rv I39 hp
        rw [e1]
        clear e1
        change J 104 [] _ (0, 0) _ _ _
        exact jy_join hS h rfl (jy_sub_s (jy_sub_s (jy_sub_n (jy_sub_s (jy_sub_s (jy_sub_s (jy_sub_s (jy_sub_s (jy_sub_s jy_sub_0)))))))))
  · intro l4 l5 l6 l7 l8 I h
    unfold wz_132_104 at h
    refine jy_iinc hS rfl rfl (L' := [some (.ref a0), some (jy a1), none, some (jy a3), some (jy l4), some (jy l5), some (jy l6), some (jy l7), some (jy (l8 + 1))]) rfl ?_
    refine jy_goto hS rfl ?_
    exact jy_join hS h rfl (jy_sub_s (jy_sub_s (jy_sub_n (jy_sub_s (jy_sub_s (jy_sub_s (jy_sub_s (jy_sub_s (jy_sub_s jy_sub_0)))))))))
  · intro l4 l5 l6 I h
    unfold wz_132_132 at h
    refine jy_iinc hS rfl rfl (L' := [some (.ref a0), some (jy a1), none, some (jy a3), some (jy l4), some (jy l5), some (jy (l6 + 1)), none, none]) rfl ?_
    refine jy_goto hS rfl ?_
    exact jy_join hS h rfl (jy_sub_s (jy_sub_s (jy_sub_n (jy_sub_s (jy_sub_s (jy_sub_s (jy_sub_s (jy_sub_n (jy_sub_n jy_sub_0)))))))))
theorem jt_133 : jx_ml 133 = 7 ∧ jx_rt 133 = none ∧ jx_hz 133 = [] ∧ decide ((jx_nm 133).name = "<init>") = false ∧ jx_code 133 = jx_c133 := by decide +kernel
/-- GC$Ways.reachOn, from 16 -/
def wz_133_16 (V : jx_V) (X : jx_X) (R : jx_R) (Q : Option Value → jx_I → Prop) (QE : String → jx_I → Prop) (J16 : Int → Int → jx_I → Prop) (J77 : Int → Int → jx_I → Prop) (a0 : Nat) (a1 : Int) (a2 : Int) (a3 : Int) (l4 : Int) (l5 : Int) (I : jx_I) : Prop :=
  (-2147483648 ≤ l5 ∧ l5 < 2147483648) ∧ (
  (a1 ≤ l5 → (
    Q none I
  )) ∧ (¬ a1 ≤ l5 → (
    ((Int32.ofInt ((Int32.ofInt a2 >>> (Int32.ofInt l5 &&& 31)).toInt) &&& Int32.ofInt 1).toInt ≠ 0 → (
      J16 l4 (l5 + 1) I
    )) ∧ ((Int32.ofInt ((Int32.ofInt a2 >>> (Int32.ofInt l5 &&& 31)).toInt) &&& Int32.ofInt 1).toInt = 0 → (
      (X.2.1 a0 = some (10, 0)) ∧ (
      ∃ q9 : Nat, (
      (R a0 2 = some q9) ∧ (
      ∃ n11 : Nat, (
      (X.2.1 q9 = some (100, n11) ∧ n11 < 2147483648) ∧ (
      (0 ≤ (((Int32.ofInt a2 ||| Int32.ofInt ((Int32.ofInt 1 <<< (Int32.ofInt l5 &&& 31)).toInt)).toInt * 10) + l5) ∧ (((Int32.ofInt a2 ||| Int32.ofInt ((Int32.ofInt 1 <<< (Int32.ofInt l5 &&& 31)).toInt)).toInt * 10) + l5) < n11) ∧ (
      ∃ q14 : Nat, (
      (R a0 1 = some q14) ∧ (
      ∃ n16 : Nat, (
      (X.2.1 q14 = some (100, n16) ∧ n16 < 2147483648) ∧ (
      (0 ≤ ((a3 * 10) + l5) ∧ ((a3 * 10) + l5) < n16) ∧ (
      ∃ Q19 : Option Value → jx_I → Prop, (
      (jc V 1 329 (0, 0) [jy ((I q9 (((Int32.ofInt a2 ||| Int32.ofInt ((Int32.ofInt 1 <<< (Int32.ofInt l5 &&& 31)).toInt)).toInt * 10) + l5).toNat).toInt), jy (l4 + (I q14 ((a3 * 10) + l5).toNat).toInt)] X I R Q19 (fun _ _ => False)) ∧ (
      ∀ rv I21, Q19 rv I21 → ∃ r22 : Int, rv = some (jy r22) ∧ (
      (0 ≤ (((Int32.ofInt a2 ||| Int32.ofInt ((Int32.ofInt 1 <<< (Int32.ofInt l5 &&& 31)).toInt)).toInt * 10) + l5) ∧ (((Int32.ofInt a2 ||| Int32.ofInt ((Int32.ofInt 1 <<< (Int32.ofInt l5 &&& 31)).toInt)).toInt * 10) + l5) < n11) ∧ (
      ∀ I24 : jx_I, I24 = jx_u I21 q9 (((Int32.ofInt a2 ||| Int32.ofInt ((Int32.ofInt 1 <<< (Int32.ofInt l5 &&& 31)).toInt)).toInt * 10) + l5).toNat (Int32.ofInt r22) → (
      J77 l4 l5 I24))))))))))))))))
    ))
  )))
/-- GC$Ways.reachOn, from 77 -/
def wz_133_77 (V : jx_V) (X : jx_X) (R : jx_R) (Q : Option Value → jx_I → Prop) (QE : String → jx_I → Prop) (J16 : Int → Int → jx_I → Prop) (J77 : Int → Int → jx_I → Prop) (a0 : Nat) (a1 : Int) (a2 : Int) (a3 : Int) (l4 : Int) (l5 : Int) (I : jx_I) : Prop :=
  J16 l4 (l5 + 1) I
/-- GC$Ways.reachOn -/
def wz_133 (V : jx_V) (X : jx_X) (R : jx_R) (Q : Option Value → jx_I → Prop) (QE : String → jx_I → Prop) (J16 : Int → Int → jx_I → Prop) (J77 : Int → Int → jx_I → Prop) (a0 : Nat) (a1 : Int) (a2 : Int) (a3 : Int) (I : jx_I) : Prop :=
  (X.2.1 a0 = some (10, 0)) ∧ (
  ∃ q2 : Nat, (
  (R a0 2 = some q2) ∧ (
  ∃ n4 : Nat, (
  (X.2.1 q2 = some (100, n4) ∧ n4 < 2147483648) ∧ (
  (0 ≤ ((a2 * 10) + a3) ∧ ((a2 * 10) + a3) < n4) ∧ (
  J16 ((I q2 ((a2 * 10) + a3).toNat).toInt) 0 I))))))
set_option maxRecDepth 20000 in
theorem wm_133 {V : jx_V} (hV : V.1.stackTraces = false) {X : jx_X} {R : jx_R} {I : jx_I} {Q : Option Value → jx_I → Prop} {QE : String → jx_I → Prop} {a0 : Nat} {a1 : Int} {a2 : Int} {a3 : Int} (r_a1 : -2147483648 ≤ a1 ∧ a1 < 2147483648) (r_a2 : -2147483648 ≤ a2 ∧ a2 < 2147483648) (r_a3 : -2147483648 ≤ a3 ∧ a3 < 2147483648) 
    (h : ∀ (J16 : Int → Int → jx_I → Prop) (J77 : Int → Int → jx_I → Prop), ((∀ (l4 : Int) (l5 : Int) I, wz_133_16 V X R Q QE J16 J77 a0 a1 a2 a3 l4 l5 I → J16 l4 l5 I) ∧ (∀ (l4 : Int) (l5 : Int) I, wz_133_77 V X R Q QE J16 J77 a0 a1 a2 a3 l4 l5 I → J77 l4 l5 I)) → wz_133 V X R Q QE J16 J77 a0 a1 a2 a3 I) : jc V 2 133 (0, 0) [.ref a0, jy a1, jy a2, jy a3] X I R Q QE := by
  refine jy_met hV (by decide) (n := 7) (rt := none) (hh := []) (ini := false) (C := jx_c133) (L := [some (.ref a0), some (jy a1), some (jy a2), some (jy a3), none, none, none]) jt_133 (Nat.le_of_ble_eq_true rfl) rfl ?_
  intro J hS
  have h := h (fun l4 l5 I => J 16 [] [some (.ref a0), some (jy a1), some (jy a2), some (jy a3), some (jy l4), some (jy l5), none] (0, 0) X I R) (fun l4 l5 I => J 77 [] [some (.ref a0), some (jy a1), some (jy a2), some (jy a3), some (jy l4), some (jy l5), none] (0, 0) X I R) ?_
  · unfold wz_133 at h
    refine jy_aload_n hS rfl rfl ?_
    obtain ⟨g1, h⟩ := h
    obtain ⟨q2, h⟩ := h
    obtain ⟨g3, h⟩ := h
    refine jy_getR hS rfl (by decide) g1 g3 ?_
    refine jy_iload_n hS rfl rfl ?_
    refine jy_bipush hS rfl (by decide) ?_
    refine jy_imul hS rfl ?_
    refine jy_iload_n hS rfl rfl ?_
    refine jy_iadd hS rfl ?_
    obtain ⟨n4, h⟩ := h
    obtain ⟨g5, h⟩ := h
    obtain ⟨g6, h⟩ := h
    refine jy_iald hS rfl g5.1 (Nat.le_of_lt g5.2) g6 ?_
    refine jy_istore hS rfl (Nat.le_of_ble_eq_true rfl) (L' := [some (.ref a0), some (jy a1), some (jy a2), some (jy a3), some (jy ((I q2 ((a2 * 10) + a3).toNat).toInt)), none, none]) rfl ?_
    refine jy_iconst hS rfl ?_
    refine jy_istore hS rfl (Nat.le_of_ble_eq_true rfl) (L' := [some (.ref a0), some (jy a1), some (jy a2), some (jy a3), some (jy ((I q2 ((a2 * 10) + a3).toNat).toInt)), some (jy 0), none]) rfl ?_
    exact jy_join hS h rfl (jy_sub_s (jy_sub_s (jy_sub_s (jy_sub_s (jy_sub_s (jy_sub_s (jy_sub_n jy_sub_0)))))))
  refine ⟨?_, ?_⟩
  · intro l4 l5 I h
    unfold wz_133_16 at h
    refine jy_iload hS rfl rfl ?_
    refine jy_iload_n hS rfl rfl ?_
    obtain ⟨g7, h⟩ := h
    refine jy_icmp_ge hS rfl ⟨g7, r_a1⟩ (fun hq => ?_) (fun hq => ?_)
    · have h := h.1 hq
      exact jy_ret hS rfl rfl ⟨rfl, rfl, h⟩
    · have h := h.2 hq
      refine jy_iload_n hS rfl rfl ?_
      refine jy_iload hS rfl rfl ?_
      refine jy_ishrX hS rfl rfl ?_
      refine jy_iconst hS rfl ?_
      refine jy_iandX hS rfl rfl ?_
      refine jy_if_ne hS rfl (jy_rng _) (fun hq => ?_) (fun hq => ?_)
      · have h := h.1 hq
        refine jy_iinc hS rfl rfl (L' := [some (.ref a0), some (jy a1), some (jy a2), some (jy a3), some (jy l4), some (jy (l5 + 1)), none]) rfl ?_
        refine jy_goto hS rfl ?_
        exact jy_join hS h rfl (jy_sub_s (jy_sub_s (jy_sub_s (jy_sub_s (jy_sub_s (jy_sub_s (jy_sub_n jy_sub_0)))))))
      · have h := h.2 hq
        refine jy_iload_n hS rfl rfl ?_
        refine jy_iconst hS rfl ?_
        refine jy_iload hS rfl rfl ?_
        refine jy_ishlX hS rfl rfl ?_
        refine jy_iorX hS rfl rfl ?_
        refine jy_bipush hS rfl (by decide) ?_
        refine jy_imul hS rfl ?_
        refine jy_iload hS rfl rfl ?_
        refine jy_iadd hS rfl ?_
        refine jy_istore hS rfl (Nat.le_of_ble_eq_true rfl) (L' := [some (.ref a0), some (jy a1), some (jy a2), some (jy a3), some (jy l4), some (jy l5), some (jy (((Int32.ofInt a2 ||| Int32.ofInt ((Int32.ofInt 1 <<< (Int32.ofInt l5 &&& 31)).toInt)).toInt * 10) + l5))]) rfl ?_
        refine jy_aload_n hS rfl rfl ?_
        obtain ⟨g8, h⟩ := h
        obtain ⟨q9, h⟩ := h
        obtain ⟨g10, h⟩ := h
        refine jy_getR hS rfl (by decide) g8 g10 ?_
        refine jy_iload hS rfl rfl ?_
        refine jy_aload_n hS rfl rfl ?_
        refine jy_getR hS rfl (by decide) g8 g10 ?_
        refine jy_iload hS rfl rfl ?_
        obtain ⟨n11, h⟩ := h
        obtain ⟨g12, h⟩ := h
        obtain ⟨g13, h⟩ := h
        refine jy_iald hS rfl g12.1 (Nat.le_of_lt g12.2) g13 ?_
        refine jy_iload hS rfl rfl ?_
        refine jy_aload_n hS rfl rfl ?_
        obtain ⟨q14, h⟩ := h
        obtain ⟨g15, h⟩ := h
        refine jy_getR hS rfl (by decide) g8 g15 ?_
        refine jy_iload_n hS rfl rfl ?_
        refine jy_bipush hS rfl (by decide) ?_
        refine jy_imul hS rfl ?_
        refine jy_iload hS rfl rfl ?_
        refine jy_iadd hS rfl ?_
        obtain ⟨n16, h⟩ := h
        obtain ⟨g17, h⟩ := h
        obtain ⟨g18, h⟩ := h
        refine jy_iald hS rfl g17.1 (Nat.le_of_lt g17.2) g18 ?_
        refine jy_iadd hS rfl ?_
        obtain ⟨Q19, h⟩ := h
        obtain ⟨g20, h⟩ := h
        refine jy_callS hS rfl rfl rfl (Nat.le_of_ble_eq_true rfl) g20 (by decide) ⟨by decide, by decide⟩ (Nat.le_of_ble_eq_true rfl) ?_ ?_
        rotate_left
        · exact fun Ex Xx Ix Rx hp => hp.2.2.2.elim
        intro rv Xx I21 Rx hp
        obtain ⟨e1, e2, hp⟩ := hp
        rw [e1, e2]
        clear e1 e2
        obtain ⟨r22, e1, h⟩ := h rv I21 hp
        rw [e1]
        clear e1
        change J 76 [jy r22, jy (((Int32.ofInt a2 ||| Int32.ofInt ((Int32.ofInt 1 <<< (Int32.ofInt l5 &&& 31)).toInt)).toInt * 10) + l5), .ref q9] _ (0, 0) _ _ _
        obtain ⟨g23, h⟩ := h
        refine jy_iast hS rfl g12.1 (Nat.le_of_lt g12.2) g23 ?_
        intro I24 e9
        have h := h I24 e9
        clear e9
        exact jy_join hS h rfl (jy_sub_s (jy_sub_s (jy_sub_s (jy_sub_s (jy_sub_s (jy_sub_s (jy_sub_n jy_sub_0)))))))
  · intro l4 l5 I h
    unfold wz_133_77 at h
    refine jy_iinc hS rfl rfl (L' := [some (.ref a0), some (jy a1), some (jy a2), some (jy a3), some (jy l4), some (jy (l5 + 1)), none]) rfl ?_
    refine jy_goto hS rfl ?_
    exact jy_join hS h rfl (jy_sub_s (jy_sub_s (jy_sub_s (jy_sub_s (jy_sub_s (jy_sub_s (jy_sub_n jy_sub_0)))))))
theorem jt_135 : jx_ml 135 = 6 ∧ jx_rt 135 = some .int ∧ jx_hz 135 = [] ∧ decide ((jx_nm 135).name = "<init>") = false ∧ jx_code 135 = jx_c135 := by decide +kernel
/-- GC.feed -/
def wz_135 (V : jx_V) (X : jx_X) (R : jx_R) (Q : Option Value → jx_I → Prop) (QE : String → jx_I → Prop)  (a0 : Nat) (a1 : Int) (a2 : Int) (a3 : Int) (a4 : Int) (a5 : Int) (I : jx_I) : Prop :=
  (X.2.1 a0 = some (11, 0)) ∧ (
  ∃ q2 : Nat, (
  (R a0 0 = some q2) ∧ (
  (X.2.1 q2 = some (8, 0)) ∧ (
  ∃ Q5 : Option Value → jx_I → Prop, (
  (jc V 1 102 (0, 0) [.ref q2, jy 20] X I R Q5 (fun _ _ => False)) ∧ (
  ∀ rv I7, Q5 rv I7 → ∃ r8 : Int, rv = some (jy r8) ∧ (
  (-2147483648 ≤ r8 ∧ r8 < 2147483648) ∧ (
  (r8 ≠ 0 → (
    ∃ Q10 : Option Value → jx_I → Prop, (
    (jc V 1 103 (0, 0) [.ref q2, jy a1] X I7 R Q10 (fun _ _ => False)) ∧ (
    ∀ rv I12, Q10 rv I12 → rv = none ∧ (
    ∃ Q14 : Option Value → jx_I → Prop, (
    (jc V 1 103 (0, 0) [.ref q2, jy a2] X I12 R Q14 (fun _ _ => False)) ∧ (
    ∀ rv I16, Q14 rv I16 → rv = none ∧ (
    ∃ Q18 : Option Value → jx_I → Prop, (
    (jc V 1 103 (0, 0) [.ref q2, jy a3] X I16 R Q18 (fun _ _ => False)) ∧ (
    ∀ rv I20, Q18 rv I20 → rv = none ∧ (
    ∃ Q22 : Option Value → jx_I → Prop, (
    (jc V 1 103 (0, 0) [.ref q2, jy a4] X I20 R Q22 (fun _ _ => False)) ∧ (
    ∀ rv I24, Q22 rv I24 → rv = none ∧ (
    ∃ Q26 : Option Value → jx_I → Prop, (
    (jc V 1 103 (0, 0) [.ref q2, jy a5] X I24 R Q26 (fun _ _ => False)) ∧ (
    ∀ rv I28, Q26 rv I28 → rv = none ∧ (
    Q (some (jy ((I28 q2 1).toInt))) I28)))))))))))))))
  )) ∧ (r8 = 0 → (
    Q (some (jy (-1))) I7
  ))))))))))
set_option maxRecDepth 20000 in
theorem wm_135 {V : jx_V} (hV : V.1.stackTraces = false) {X : jx_X} {R : jx_R} {I : jx_I} {Q : Option Value → jx_I → Prop} {QE : String → jx_I → Prop} {a0 : Nat} {a1 : Int} {a2 : Int} {a3 : Int} {a4 : Int} {a5 : Int} (r_a1 : -2147483648 ≤ a1 ∧ a1 < 2147483648) (r_a2 : -2147483648 ≤ a2 ∧ a2 < 2147483648) (r_a3 : -2147483648 ≤ a3 ∧ a3 < 2147483648) (r_a4 : -2147483648 ≤ a4 ∧ a4 < 2147483648) (r_a5 : -2147483648 ≤ a5 ∧ a5 < 2147483648) 
    (h : wz_135 V X R Q QE  a0 a1 a2 a3 a4 a5 I) : jc V 2 135 (0, 0) [.ref a0, jy a1, jy a2, jy a3, jy a4, jy a5] X I R Q QE := by
  refine jy_met hV (by decide) (n := 6) (rt := some .int) (hh := []) (ini := false) (C := jx_c135) (L := [some (.ref a0), some (jy a1), some (jy a2), some (jy a3), some (jy a4), some (jy a5)]) jt_135 (Nat.le_of_ble_eq_true rfl) rfl ?_
  intro J hS
  unfold wz_135 at h
  refine jy_aload_n hS rfl rfl ?_
  obtain ⟨g1, h⟩ := h
  obtain ⟨q2, h⟩ := h
  obtain ⟨g3, h⟩ := h
  refine jy_getR hS rfl (by decide) g1 g3 ?_
  refine jy_bipush hS rfl (by decide) ?_
  obtain ⟨g4, h⟩ := h
  obtain ⟨Q5, h⟩ := h
  obtain ⟨g6, h⟩ := h
  refine jy_callV hS rfl rfl rfl (Nat.le_of_ble_eq_true rfl) (Or.inl g4) g6 (by decide) ⟨by decide, by decide⟩ (Nat.le_of_ble_eq_true rfl) ?_ ?_
  rotate_left
  · exact fun Ex Xx Ix Rx hp => hp.2.2.2.elim
  intro rv Xx I7 Rx hp
  obtain ⟨e1, e2, hp⟩ := hp
  rw [e1, e2]
  clear e1 e2
  obtain ⟨r8, e1, h⟩ := h rv I7 hp
  rw [e1]
  clear e1
  change J 9 [jy r8] _ (0, 0) _ _ _
  obtain ⟨g9, h⟩ := h
  refine jy_if_ne hS rfl g9 (fun hq => ?_) (fun hq => ?_)
  · have h := h.1 hq
    refine jy_aload_n hS rfl rfl ?_
    refine jy_getR hS rfl (by decide) g1 g3 ?_
    refine jy_iload_n hS rfl rfl ?_
    obtain ⟨Q10, h⟩ := h
    obtain ⟨g11, h⟩ := h
    refine jy_callV hS rfl rfl rfl (Nat.le_of_ble_eq_true rfl) (Or.inl g4) g11 (by decide) ⟨by decide, by decide⟩ (Nat.le_of_ble_eq_true rfl) ?_ ?_
    rotate_left
    · exact fun Ex Xx Ix Rx hp => hp.2.2.2.elim
    intro rv Xx I12 Rx hp
    obtain ⟨e1, e2, hp⟩ := hp
    rw [e1, e2]
    clear e1 e2
    obtain ⟨e1, h⟩ := h rv I12 hp
    rw [e1]
    clear e1
    change J 22 [] _ (0, 0) _ _ _
    refine jy_aload_n hS rfl rfl ?_
    refine jy_getR hS rfl (by decide) g1 g3 ?_
    refine jy_iload_n hS rfl rfl ?_
    obtain ⟨Q14, h⟩ := h
    obtain ⟨g15, h⟩ := h
    refine jy_callV hS rfl rfl rfl (Nat.le_of_ble_eq_true rfl) (Or.inl g4) g15 (by decide) ⟨by decide, by decide⟩ (Nat.le_of_ble_eq_true rfl) ?_ ?_
    rotate_left
    · exact fun Ex Xx Ix Rx hp => hp.2.2.2.elim
    intro rv Xx I16 Rx hp
    obtain ⟨e1, e2, hp⟩ := hp
    rw [e1, e2]
    clear e1 e2
    obtain ⟨e1, h⟩ := h rv I16 hp
    rw [e1]
    clear e1
    change J 30 [] _ (0, 0) _ _ _
    refine jy_aload_n hS rfl rfl ?_
    refine jy_getR hS rfl (by decide) g1 g3 ?_
    refine jy_iload_n hS rfl rfl ?_
    obtain ⟨Q18, h⟩ := h
    obtain ⟨g19, h⟩ := h
    refine jy_callV hS rfl rfl rfl (Nat.le_of_ble_eq_true rfl) (Or.inl g4) g19 (by decide) ⟨by decide, by decide⟩ (Nat.le_of_ble_eq_true rfl) ?_ ?_
    rotate_left
    · exact fun Ex Xx Ix Rx hp => hp.2.2.2.elim
    intro rv Xx I20 Rx hp
    obtain ⟨e1, e2, hp⟩ := hp
    rw [e1, e2]
    clear e1 e2
    obtain ⟨e1, h⟩ := h rv I20 hp
    rw [e1]
    clear e1
    change J 38 [] _ (0, 0) _ _ _
    refine jy_aload_n hS rfl rfl ?_
    refine jy_getR hS rfl (by decide) g1 g3 ?_
    refine jy_iload hS rfl rfl ?_
    obtain ⟨Q22, h⟩ := h
    obtain ⟨g23, h⟩ := h
    refine jy_callV hS rfl rfl rfl (Nat.le_of_ble_eq_true rfl) (Or.inl g4) g23 (by decide) ⟨by decide, by decide⟩ (Nat.le_of_ble_eq_true rfl) ?_ ?_
    rotate_left
    · exact fun Ex Xx Ix Rx hp => hp.2.2.2.elim
    intro rv Xx I24 Rx hp
    obtain ⟨e1, e2, hp⟩ := hp
    rw [e1, e2]
    clear e1 e2
    obtain ⟨e1, h⟩ := h rv I24 hp
    rw [e1]
    clear e1
    change J 47 [] _ (0, 0) _ _ _
    refine jy_aload_n hS rfl rfl ?_
    refine jy_getR hS rfl (by decide) g1 g3 ?_
    refine jy_iload hS rfl rfl ?_
    obtain ⟨Q26, h⟩ := h
    obtain ⟨g27, h⟩ := h
    refine jy_callV hS rfl rfl rfl (Nat.le_of_ble_eq_true rfl) (Or.inl g4) g27 (by decide) ⟨by decide, by decide⟩ (Nat.le_of_ble_eq_true rfl) ?_ ?_
    rotate_left
    · exact fun Ex Xx Ix Rx hp => hp.2.2.2.elim
    intro rv Xx I28 Rx hp
    obtain ⟨e1, e2, hp⟩ := hp
    rw [e1, e2]
    clear e1 e2
    obtain ⟨e1, h⟩ := h rv I28 hp
    rw [e1]
    clear e1
    change J 56 [] _ (0, 0) _ _ _
    refine jy_aload_n hS rfl rfl ?_
    refine jy_getR hS rfl (by decide) g1 g3 ?_
    refine jy_getI hS rfl (by decide) g4 ?_
    exact jy_iret hS rfl rfl ⟨rfl, rfl, h⟩
  · have h := h.2 hq
    refine jy_iconst hS rfl ?_
    exact jy_iret hS rfl rfl ⟨rfl, rfl, h⟩
