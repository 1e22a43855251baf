theorem jt_306 : jx_ml 306 = 3 ∧ jx_rt 306 = none ∧ jx_hz 306 = [] ∧ decide ((jx_nm 306).name = "<init>") = false ∧ jx_code 306 = jx_c306 := by decide +kernel
/-- GCModel.oneValue, from 188 -/
def wz_306_188 (V : jx_V) (X : jx_X) (R : jx_R) (Q : Option Value → jx_I → Prop) (QE : String → jx_I → Prop) (J188 : Nat → Int → Int → Nat → jx_I → Prop) (J206 : Nat → jx_I → Prop) (a0 : Nat) (a1 : Int) (s0 : Nat) (s1 : Int) (s2 : Int) (l2 : Nat) (I : jx_I) : Prop :=
  ∃ n55 : Nat, (
  (X.2.1 s0 = some (100, n55) ∧ n55 < 2147483648) ∧ (
  (0 ≤ s1 ∧ s1 < n55) ∧ (
  ∀ I58 : jx_I, I58 = jx_u I s0 s1.toNat (Int32.ofInt s2) → (
  ∃ n59 : Nat, (
  (X.2.1 l2 = some (100, n59) ∧ n59 < 2147483648) ∧ (
  (0 ≤ (1 : Int) ∧ (1 : Int) < n59) ∧ (
  ((I58 l2 (1 : Int).toNat).toInt ≠ 0 → (
    (0 ≤ (1 : Int) ∧ (1 : Int) < n59) ∧ (
    ((I58 l2 (1 : Int).toNat).toInt ≠ 7 → (
      Q none I58
    )) ∧ ((I58 l2 (1 : Int).toNat).toInt = 7 → (
      (X.2.1 a0 = some (12, 0)) ∧ (
      ∃ q64 : Nat, (
      (R a0 11 = some q64) ∧ (
      ∃ n66 : Nat, (
      (X.2.1 q64 = some (100, n66) ∧ n66 < 2147483648) ∧ (
      (0 ≤ (1 : Int) ∧ (1 : Int) < n66) ∧ (
      ∃ Q69 : Option Value → jx_I → Prop, (
      (jc V 3 210 (0, 0) [.ref a0, jy 0, jy ((I58 q64 (1 : Int).toNat).toInt - 1)] X I58 R Q69 (fun _ _ => False)) ∧ (
      ∀ rv I71, Q69 rv I71 → ∃ r72 : Int, rv = some (jy r72) ∧ (
      (0 ≤ (2 : Int) ∧ (2 : Int) < n59) ∧ (
      ∀ I74 : jx_I, I74 = jx_u I71 l2 (2 : Int).toNat (Int32.ofInt r72) → (
      Q none I74)))))))))))
    )))
  )) ∧ ((I58 l2 (1 : Int).toNat).toInt = 0 → (
    (X.2.1 a0 = some (12, 0)) ∧ (
    ∃ Q76 : Option Value → jx_I → Prop, (
    (jc V 3 210 (0, 0) [.ref a0, jy 0, jy 999] X I58 R Q76 (fun _ _ => False)) ∧ (
    ∀ rv I78, Q76 rv I78 → ∃ r79 : Int, rv = some (jy r79) ∧ (
    (0 ≤ (2 : Int) ∧ (2 : Int) < n59) ∧ (
    ∀ I81 : jx_I, I81 = jx_u I78 l2 (2 : Int).toNat (Int32.ofInt r79) → (
    J206 l2 I81))))))
  )))))))))
/-- GCModel.oneValue, from 206 -/
def wz_306_206 (V : jx_V) (X : jx_X) (R : jx_R) (Q : Option Value → jx_I → Prop) (QE : String → jx_I → Prop) (J188 : Nat → Int → Int → Nat → jx_I → Prop) (J206 : Nat → jx_I → Prop) (a0 : Nat) (a1 : Int) (l2 : Nat) (I : jx_I) : Prop :=
  ∃ n82 : Nat, (
  (X.2.1 l2 = some (100, n82) ∧ n82 < 2147483648) ∧ (
  (0 ≤ (1 : Int) ∧ (1 : Int) < n82) ∧ (
  ((I l2 (1 : Int).toNat).toInt ≠ 7 → (
    Q none I
  )) ∧ ((I l2 (1 : Int).toNat).toInt = 7 → (
    (X.2.1 a0 = some (12, 0)) ∧ (
    ∃ q86 : Nat, (
    (R a0 11 = some q86) ∧ (
    ∃ n88 : Nat, (
    (X.2.1 q86 = some (100, n88) ∧ n88 < 2147483648) ∧ (
    (0 ≤ (1 : Int) ∧ (1 : Int) < n88) ∧ (
    ∃ Q91 : Option Value → jx_I → Prop, (
    (jc V 3 210 (0, 0) [.ref a0, jy 0, jy ((I q86 (1 : Int).toNat).toInt - 1)] X I R Q91 (fun _ _ => False)) ∧ (
    ∀ rv I93, Q91 rv I93 → ∃ r94 : Int, rv = some (jy r94) ∧ (
    (0 ≤ (2 : Int) ∧ (2 : Int) < n82) ∧ (
    ∀ I96 : jx_I, I96 = jx_u I93 l2 (2 : Int).toNat (Int32.ofInt r94) → (
    Q none I96)))))))))))
  )))))
/-- GCModel.oneValue -/
def wz_306 (V : jx_V) (X : jx_X) (R : jx_R) (Q : Option Value → jx_I → Prop) (QE : String → jx_I → Prop) (J188 : Nat → Int → Int → Nat → jx_I → Prop) (J206 : Nat → jx_I → Prop) (a0 : Nat) (a1 : Int) (I : jx_I) : Prop :=
  (X.2.1 a0 = some (12, 0)) ∧ (
  ∃ Q2 : Option Value → jx_I → Prop, (
  (jc V 2 207 (0, 0) [.ref a0] X I R Q2 (fun _ _ => False)) ∧ (
  ∀ rv I4, Q2 rv I4 → rv = none ∧ (
  ∃ q6 : Nat, (
  (R a0 65 = some q6) ∧ (
  ∃ n8 : Nat, (
  (X.2.1 q6 = some (104, n8) ∧ n8 < 2147483648) ∧ (
  (0 ≤ (I4 a0 59).toInt ∧ (I4 a0 59).toInt < n8) ∧ (
  ∃ q11 : Nat, (
  (R q6 ((I4 a0 59).toInt).toNat = some q11) ∧ (
  ∀ I13 : jx_I, I13 = jx_u I4 a0 59 (Int32.ofInt ((I4 a0 59).toInt + 1)) → (
  ∃ n14 : Nat, (
  (X.2.1 q11 = some (100, n14) ∧ n14 < 2147483648) ∧ (
  (0 ≤ (0 : Int) ∧ (0 : Int) < n14) ∧ (
  ∀ I17 : jx_I, I17 = jx_u I13 q11 (0 : Int).toNat (Int32.ofInt a1) → (
  (0 ≤ (2 : Int) ∧ (2 : Int) < n14) ∧ (
  ∀ I19 : jx_I, I19 = jx_u I17 q11 (2 : Int).toNat (Int32.ofInt 0) → (
  ∃ Q20 : Option Value → jx_I → Prop, (
  (jc V 5 216 (0, 0) [.ref a0, jy 8, jy 5, jy 18, jy 5, jy 0, jy 0, jy 0] X I19 R Q20 (fun _ _ => False)) ∧ (
  ∀ rv I22, Q20 rv I22 → ∃ r23 : Int, rv = some (jy r23) ∧ (
  (-2147483648 ≤ r23 ∧ r23 < 2147483648) ∧ (
  (r23 = 0 → (
    ∃ Q25 : Option Value → jx_I → Prop, (
    (jc V 5 216 (0, 0) [.ref a0, jy 8, jy 15, jy 21, jy 18, jy 19, jy 0, jy 0] X I22 R Q25 (fun _ _ => False)) ∧ (
    ∀ rv I27, Q25 rv I27 → ∃ r28 : Int, rv = some (jy r28) ∧ (
    (-2147483648 ≤ r28 ∧ r28 < 2147483648) ∧ (
    (r28 = 0 → (
      ∃ Q30 : Option Value → jx_I → Prop, (
      (jc V 5 216 (0, 0) [.ref a0, jy 8, jy 1, jy 12, jy 20, jy 0, jy 0, jy 0] X I27 R Q30 (fun _ _ => False)) ∧ (
      ∀ rv I32, Q30 rv I32 → ∃ r33 : Int, rv = some (jy r33) ∧ (
      (-2147483648 ≤ r33 ∧ r33 < 2147483648) ∧ (
      (r33 = 0 → (
        ∃ Q35 : Option Value → jx_I → Prop, (
        (jc V 5 216 (0, 0) [.ref a0, jy 18, jy 15, jy 23, jy 0, jy 0, jy 0, jy 0] X I32 R Q35 (fun _ _ => False)) ∧ (
        ∀ rv I37, Q35 rv I37 → ∃ r38 : Int, rv = some (jy r38) ∧ (
        (-2147483648 ≤ r38 ∧ r38 < 2147483648) ∧ (
        (r38 = 0 → (
          ∃ Q40 : Option Value → jx_I → Prop, (
          (jc V 5 216 (0, 0) [.ref a0, jy 12, jy 15, jy 19, jy 20, jy 0, jy 0, jy 0] X I37 R Q40 (fun _ _ => False)) ∧ (
          ∀ rv I42, Q40 rv I42 → ∃ r43 : Int, rv = some (jy r43) ∧ (
          (-2147483648 ≤ r43 ∧ r43 < 2147483648) ∧ (
          (r43 = 0 → (
            ∃ Q45 : Option Value → jx_I → Prop, (
            (jc V 5 216 (0, 0) [.ref a0, jy 19, jy 20, jy 5, jy 16, jy 19, jy 0, jy 0] X I42 R Q45 (fun _ _ => False)) ∧ (
            ∀ rv I47, Q45 rv I47 → ∃ r48 : Int, rv = some (jy r48) ∧ (
            (-2147483648 ≤ r48 ∧ r48 < 2147483648) ∧ (
            (r48 = 0 → (
              ∃ Q50 : Option Value → jx_I → Prop, (
              (jc V 5 216 (0, 0) [.ref a0, jy 7, jy 18, jy 9, jy 5, jy 6, jy 0, jy 0] X I47 R Q50 (fun _ _ => False)) ∧ (
              ∀ rv I52, Q50 rv I52 → ∃ r53 : Int, rv = some (jy r53) ∧ (
              (-2147483648 ≤ r53 ∧ r53 < 2147483648) ∧ (
              (r53 = 0 → (
                J188 q11 1 0 q11 I52
              )) ∧ (¬ r53 = 0 → (
                J188 q11 1 7 q11 I52
              ))))))
            )) ∧ (¬ r48 = 0 → (
              J188 q11 1 6 q11 I47
            ))))))
          )) ∧ (¬ r43 = 0 → (
            J188 q11 1 5 q11 I42
          ))))))
        )) ∧ (¬ r38 = 0 → (
          J188 q11 1 4 q11 I37
        ))))))
      )) ∧ (¬ r33 = 0 → (
        J188 q11 1 3 q11 I32
      ))))))
    )) ∧ (¬ r28 = 0 → (
      J188 q11 1 2 q11 I27
    ))))))
  )) ∧ (¬ r23 = 0 → (
    J188 q11 1 1 q11 I22
  ))))))))))))))))))))))))
set_option maxRecDepth 20000 in
theorem wm_306 {V : jx_V} (hV : V.1.stackTraces = false) {X : jx_X} {R : jx_R} {I : jx_I} {Q : Option Value → jx_I → Prop} {QE : String → jx_I → Prop} {a0 : Nat} {a1 : Int} (r_a1 : -2147483648 ≤ a1 ∧ a1 < 2147483648) 
    (h : ∀ (J188 : Nat → Int → Int → Nat → jx_I → Prop) (J206 : Nat → jx_I → Prop), ((∀ (s0 : Nat) (s1 : Int) (s2 : Int) (l2 : Nat) I, wz_306_188 V X R Q QE J188 J206 a0 a1 s0 s1 s2 l2 I → J188 s0 s1 s2 l2 I) ∧ (∀ (l2 : Nat) I, wz_306_206 V X R Q QE J188 J206 a0 a1 l2 I → J206 l2 I)) → wz_306 V X R Q QE J188 J206 a0 a1 I) : jc V 6 306 (0, 0) [.ref a0, jy a1] X I R Q QE := by
  refine jy_met hV (by decide) (n := 3) (rt := none) (hh := []) (ini := false) (C := jx_c306) (L := [some (.ref a0), some (jy a1), none]) jt_306 (Nat.le_of_ble_eq_true rfl) rfl ?_
  intro J hS
  have h := h (fun s0 s1 s2 l2 I => J 188 [jy s2, jy s1, .ref s0] [some (.ref a0), none, some (.ref l2)] (0, 0) X I R) (fun l2 I => J 206 [] [some (.ref a0), none, some (.ref l2)] (0, 0) X I R) ?_
  · unfold wz_306 at h
    refine jy_aload_n hS rfl rfl ?_
    obtain ⟨g1, h⟩ := h
    obtain ⟨Q2, h⟩ := h
    obtain ⟨g3, h⟩ := h
    refine jy_callV hS rfl rfl rfl (Nat.le_of_ble_eq_true rfl) (Or.inl g1) g3 (by decide) ⟨by decide, by decide⟩ (Nat.le_of_ble_eq_true rfl) ?_ ?_
    rotate_left
    · exact fun Ex Xx Ix Rx hp => hp.2.2.2.elim
    intro rv Xx I4 Rx hp
    obtain ⟨e1, e2, hp⟩ := hp
    rw [e1, e2]
    clear e1 e2
    obtain ⟨e1, h⟩ := h rv I4 hp
    rw [e1]
    clear e1
    change J 4 [] _ (0, 0) _ _ _
    refine jy_aload_n hS rfl rfl ?_
    obtain ⟨q6, h⟩ := h
    obtain ⟨g7, h⟩ := h
    refine jy_getR hS rfl (by decide) g1 g7 ?_
    refine jy_aload_n hS rfl rfl ?_
    refine jy_getI hS rfl (by decide) g1 ?_
    obtain ⟨n8, h⟩ := h
    obtain ⟨g9, h⟩ := h
    obtain ⟨g10, h⟩ := h
    obtain ⟨q11, h⟩ := h
    obtain ⟨g12, h⟩ := h
    refine jy_aald hS rfl g9.1 (by decide) (Nat.le_of_lt g9.2) g10 g12 ?_
    refine jy_astore_n hS rfl (Nat.le_of_ble_eq_true rfl) (L' := [some (.ref a0), some (jy a1), some (.ref q11)]) rfl ?_
    refine jy_aload_n hS rfl rfl ?_
    refine jy_dup hS rfl rfl ?_
    refine jy_getI hS rfl (by decide) g1 ?_
    refine jy_iconst hS rfl ?_
    refine jy_iadd hS rfl ?_
    refine jy_putI hS rfl (by decide) g1 ?_
    intro I13 e9
    have h := h I13 e9
    clear e9
    refine jy_aload_n hS rfl rfl ?_
    refine jy_iconst hS rfl ?_
    refine jy_iload_n hS rfl rfl ?_
    obtain ⟨n14, h⟩ := h
    obtain ⟨g15, h⟩ := h
    obtain ⟨g16, h⟩ := h
    refine jy_iast hS rfl g15.1 (Nat.le_of_lt g15.2) g16 ?_
    intro I17 e9
    have h := h I17 e9
    clear e9
    refine jy_aload_n hS rfl rfl ?_
    refine jy_iconst hS rfl ?_
    refine jy_iconst hS rfl ?_
    obtain ⟨g18, h⟩ := h
    refine jy_iast hS rfl g15.1 (Nat.le_of_lt g15.2) g18 ?_
    intro I19 e9
    have h := h I19 e9
    clear e9
    refine jy_aload_n hS rfl rfl ?_
    refine jy_iconst hS rfl ?_
    refine jy_aload_n hS rfl rfl ?_
    refine jy_bipush hS rfl (by decide) ?_
    refine jy_iconst hS rfl ?_
    refine jy_bipush hS rfl (by decide) ?_
    refine jy_iconst hS rfl ?_
    refine jy_iconst hS rfl ?_
    refine jy_iconst hS rfl ?_
    refine jy_iconst hS rfl ?_
    obtain ⟨Q20, h⟩ := h
    obtain ⟨g21, h⟩ := h
    refine jy_callV hS rfl rfl rfl (Nat.le_of_ble_eq_true rfl) (Or.inl g1) g21 (by decide) ⟨by decide, by decide⟩ (Nat.le_of_ble_eq_true rfl) ?_ ?_
    rotate_left
    · exact fun Ex Xx Ix Rx hp => hp.2.2.2.elim
    intro rv Xx I22 Rx hp
    obtain ⟨e1, e2, hp⟩ := hp
    rw [e1, e2]
    clear e1 e2
    obtain ⟨r23, e1, h⟩ := h rv I22 hp
    rw [e1]
    clear e1
    change J 47 [jy r23, jy 1, .ref q11] _ (0, 0) _ _ _
    obtain ⟨g24, h⟩ := h
    refine jy_if_eq hS rfl g24 (fun hq => ?_) (fun hq => ?_)
    · have h := h.1 hq
      refine jy_aload_n hS rfl rfl ?_
      refine jy_bipush hS rfl (by decide) ?_
      refine jy_bipush hS rfl (by decide) ?_
      refine jy_bipush hS rfl (by decide) ?_
      refine jy_bipush hS rfl (by decide) ?_
      refine jy_bipush hS rfl (by decide) ?_
      refine jy_iconst hS rfl ?_
      refine jy_iconst hS rfl ?_
      obtain ⟨Q25, h⟩ := h
      obtain ⟨g26, h⟩ := h
      refine jy_callV hS rfl rfl rfl (Nat.le_of_ble_eq_true rfl) (Or.inl g1) g26 (by decide) ⟨by decide, by decide⟩ (Nat.le_of_ble_eq_true rfl) ?_ ?_
      rotate_left
      · exact fun Ex Xx Ix Rx hp => hp.2.2.2.elim
      intro rv Xx I27 Rx hp
      obtain ⟨e1, e2, hp⟩ := hp
      rw [e1, e2]
      clear e1 e2
      obtain ⟨r28, e1, h⟩ := h rv I27 hp
      rw [e1]
      clear e1
      change J 70 [jy r28, jy 1, .ref q11] _ (0, 0) _ _ _
      obtain ⟨g29, h⟩ := h
      refine jy_if_eq hS rfl g29 (fun hq => ?_) (fun hq => ?_)
      · have h := h.1 hq
        refine jy_aload_n hS rfl rfl ?_
        refine jy_bipush hS rfl (by decide) ?_
        refine jy_iconst hS rfl ?_
        refine jy_bipush hS rfl (by decide) ?_
        refine jy_bipush hS rfl (by decide) ?_
        refine jy_iconst hS rfl ?_
        refine jy_iconst hS rfl ?_
        refine jy_iconst hS rfl ?_
        obtain ⟨Q30, h⟩ := h
        obtain ⟨g31, h⟩ := h
        refine jy_callV hS rfl rfl rfl (Nat.le_of_ble_eq_true rfl) (Or.inl g1) g31 (by decide) ⟨by decide, by decide⟩ (Nat.le_of_ble_eq_true rfl) ?_ ?_
        rotate_left
        · exact fun Ex Xx Ix Rx hp => hp.2.2.2.elim
        intro rv Xx I32 Rx hp
        obtain ⟨e1, e2, hp⟩ := hp
        rw [e1, e2]
        clear e1 e2
        obtain ⟨r33, e1, h⟩ := h rv I32 hp
        rw [e1]
        clear e1
        change J 91 [jy r33, jy 1, .ref q11] _ (0, 0) _ _ _
        obtain ⟨g34, h⟩ := h
        refine jy_if_eq hS rfl g34 (fun hq => ?_) (fun hq => ?_)
        · have h := h.1 hq
          refine jy_aload_n hS rfl rfl ?_
          refine jy_bipush hS rfl (by decide) ?_
          refine jy_bipush hS rfl (by decide) ?_
          refine jy_bipush hS rfl (by decide) ?_
          refine jy_iconst hS rfl ?_
          refine jy_iconst hS rfl ?_
          refine jy_iconst hS rfl ?_
          refine jy_iconst hS rfl ?_
          obtain ⟨Q35, h⟩ := h
          obtain ⟨g36, h⟩ := h
          refine jy_callV hS rfl rfl rfl (Nat.le_of_ble_eq_true rfl) (Or.inl g1) g36 (by decide) ⟨by decide, by decide⟩ (Nat.le_of_ble_eq_true rfl) ?_ ?_
          rotate_left
          · exact fun Ex Xx Ix Rx hp => hp.2.2.2.elim
          intro rv Xx I37 Rx hp
          obtain ⟨e1, e2, hp⟩ := hp
          rw [e1, e2]
          clear e1 e2
          obtain ⟨r38, e1, h⟩ := h rv I37 hp
          rw [e1]
          clear e1
          change J 112 [jy r38, jy 1, .ref q11] _ (0, 0) _ _ _
          obtain ⟨g39, h⟩ := h
          refine jy_if_eq hS rfl g39 (fun hq => ?_) (fun hq => ?_)
          · have h := h.1 hq
            refine jy_aload_n hS rfl rfl ?_
            refine jy_bipush hS rfl (by decide) ?_
            refine jy_bipush hS rfl (by decide) ?_
            refine jy_bipush hS rfl (by decide) ?_
            refine jy_bipush hS rfl (by decide) ?_
            refine jy_iconst hS rfl ?_
            refine jy_iconst hS rfl ?_
            refine jy_iconst hS rfl ?_
            obtain ⟨Q40, h⟩ := h
            obtain ⟨g41, h⟩ := h
            refine jy_callV hS rfl rfl rfl (Nat.le_of_ble_eq_true rfl) (Or.inl g1) g41 (by decide) ⟨by decide, by decide⟩ (Nat.le_of_ble_eq_true rfl) ?_ ?_
            rotate_left
            · exact fun Ex Xx Ix Rx hp => hp.2.2.2.elim
            intro rv Xx I42 Rx hp
            obtain ⟨e1, e2, hp⟩ := hp
            rw [e1, e2]
            clear e1 e2
            obtain ⟨r43, e1, h⟩ := h rv I42 hp
            rw [e1]
            clear e1
            change J 134 [jy r43, jy 1, .ref q11] _ (0, 0) _ _ _
            obtain ⟨g44, h⟩ := h
            refine jy_if_eq hS rfl g44 (fun hq => ?_) (fun hq => ?_)
            · have h := h.1 hq
              refine jy_aload_n hS rfl rfl ?_
              refine jy_bipush hS rfl (by decide) ?_
              refine jy_bipush hS rfl (by decide) ?_
              refine jy_iconst hS rfl ?_
              refine jy_bipush hS rfl (by decide) ?_
              refine jy_bipush hS rfl (by decide) ?_
              refine jy_iconst hS rfl ?_
              refine jy_iconst hS rfl ?_
              obtain ⟨Q45, h⟩ := h
              obtain ⟨g46, h⟩ := h
              refine jy_callV hS rfl rfl rfl (Nat.le_of_ble_eq_true rfl) (Or.inl g1) g46 (by decide) ⟨by decide, by decide⟩ (Nat.le_of_ble_eq_true rfl) ?_ ?_
              rotate_left
              · exact fun Ex Xx Ix Rx hp => hp.2.2.2.elim
              intro rv Xx I47 Rx hp
              obtain ⟨e1, e2, hp⟩ := hp
              rw [e1, e2]
              clear e1 e2
              obtain ⟨r48, e1, h⟩ := h rv I47 hp
              rw [e1]
              clear e1
              change J 156 [jy r48, jy 1, .ref q11] _ (0, 0) _ _ _
              obtain ⟨g49, h⟩ := h
              refine jy_if_eq hS rfl g49 (fun hq => ?_) (fun hq => ?_)
              · have h := h.1 hq
                refine jy_aload_n hS rfl rfl ?_
                refine jy_bipush hS rfl (by decide) ?_
                refine jy_bipush hS rfl (by decide) ?_
                refine jy_bipush hS rfl (by decide) ?_
                refine jy_iconst hS rfl ?_
                refine jy_bipush hS rfl (by decide) ?_
                refine jy_iconst hS rfl ?_
                refine jy_iconst hS rfl ?_
                obtain ⟨Q50, h⟩ := h
                obtain ⟨g51, h⟩ := h
                refine jy_callV hS rfl rfl rfl (Nat.le_of_ble_eq_true rfl) (Or.inl g1) g51 (by decide) ⟨by decide, by decide⟩ (Nat.le_of_ble_eq_true rfl) ?_ ?_
                rotate_left
                · exact fun Ex Xx Ix Rx hp => hp.2.2.2.elim
                intro rv Xx I52 Rx hp
                obtain ⟨e1, e2, hp⟩ := hp
                rw [e1, e2]
                clear e1 e2
                obtain ⟨r53, e1, h⟩ := h rv I52 hp
                rw [e1]
                clear e1
                change J 179 [jy r53, jy 1, .ref q11] _ (0, 0) _ _ _
                obtain ⟨g54, h⟩ := h
                refine jy_if_eq hS rfl g54 (fun hq => ?_) (fun hq => ?_)
                · have h := h.1 hq
                  refine jy_iconst hS rfl ?_
                  exact jy_join hS h rfl (jy_sub_s (jy_sub_n (jy_sub_s jy_sub_0)))
                · have h := h.2 hq
                  refine jy_bipush hS rfl (by decide) ?_
                  refine jy_goto hS rfl ?_
                  exact jy_join hS h rfl (jy_sub_s (jy_sub_n (jy_sub_s jy_sub_0)))
              · have h := h.2 hq
                refine jy_bipush hS rfl (by decide) ?_
                refine jy_goto hS rfl ?_
                exact jy_join hS h rfl (jy_sub_s (jy_sub_n (jy_sub_s jy_sub_0)))
            · have h := h.2 hq
              refine jy_iconst hS rfl ?_
              refine jy_goto hS rfl ?_
              exact jy_join hS h rfl (jy_sub_s (jy_sub_n (jy_sub_s jy_sub_0)))
          · have h := h.2 hq
            refine jy_iconst hS rfl ?_
            refine jy_goto hS rfl ?_
            exact jy_join hS h rfl (jy_sub_s (jy_sub_n (jy_sub_s jy_sub_0)))
        · have h := h.2 hq
          refine jy_iconst hS rfl ?_
          refine jy_goto hS rfl ?_
          exact jy_join hS h rfl (jy_sub_s (jy_sub_n (jy_sub_s jy_sub_0)))
      · have h := h.2 hq
        refine jy_iconst hS rfl ?_
        refine jy_goto hS rfl ?_
        exact jy_join hS h rfl (jy_sub_s (jy_sub_n (jy_sub_s jy_sub_0)))
    · have h := h.2 hq
      refine jy_iconst hS rfl ?_
      refine jy_goto hS rfl ?_
      exact jy_join hS h rfl (jy_sub_s (jy_sub_n (jy_sub_s jy_sub_0)))
  refine ⟨?_, ?_⟩
  · intro s0 s1 s2 l2 I h
    unfold wz_306_188 at h
    obtain ⟨n55, h⟩ := h
    obtain ⟨g56, h⟩ := h
    obtain ⟨g57, h⟩ := h
    refine jy_iast hS rfl g56.1 (Nat.le_of_lt g56.2) g57 ?_
    intro I58 e9
    have h := h I58 e9
    clear e9
    refine jy_aload_n hS rfl rfl ?_
    refine jy_iconst hS rfl ?_
    obtain ⟨n59, h⟩ := h
    obtain ⟨g60, h⟩ := h
    obtain ⟨g61, h⟩ := h
    refine jy_iald hS rfl g60.1 (Nat.le_of_lt g60.2) g61 ?_
    refine jy_if_ne hS rfl (jy_rng _) (fun hq => ?_) (fun hq => ?_)
    · have h := h.1 hq
      refine jy_aload_n hS rfl rfl ?_
      refine jy_iconst hS rfl ?_
      obtain ⟨g62, h⟩ := h
      refine jy_iald hS rfl g60.1 (Nat.le_of_lt g60.2) g62 ?_
      refine jy_bipush hS rfl (by decide) ?_
      refine jy_icmp_ne hS rfl ⟨(jy_rng _), ⟨by decide, by decide⟩⟩ (fun hq => ?_) (fun hq => ?_)
      · have h := h.1 hq
        exact jy_ret hS rfl rfl ⟨rfl, rfl, h⟩
      · have h := h.2 hq
        refine jy_aload_n hS rfl rfl ?_
        refine jy_iconst hS rfl ?_
        refine jy_aload_n hS rfl rfl ?_
        refine jy_iconst hS rfl ?_
        refine jy_aload_n hS rfl rfl ?_
        obtain ⟨g63, h⟩ := h
        obtain ⟨q64, h⟩ := h
        obtain ⟨g65, h⟩ := h
        refine jy_getR hS rfl (by decide) g63 g65 ?_
        refine jy_iconst hS rfl ?_
        obtain ⟨n66, h⟩ := h
        obtain ⟨g67, h⟩ := h
        obtain ⟨g68, h⟩ := h
        refine jy_iald hS rfl g67.1 (Nat.le_of_lt g67.2) g68 ?_
        refine jy_iconst hS rfl ?_
        refine jy_isub hS rfl ?_
        obtain ⟨Q69, h⟩ := h
        obtain ⟨g70, h⟩ := h
        refine jy_callV hS rfl rfl rfl (Nat.le_of_ble_eq_true rfl) (Or.inl g63) g70 (by decide) ⟨by decide, by decide⟩ (Nat.le_of_ble_eq_true rfl) ?_ ?_
        rotate_left
        · exact fun Ex Xx Ix Rx hp => hp.2.2.2.elim
        intro rv Xx I71 Rx hp
        obtain ⟨e1, e2, hp⟩ := hp
        rw [e1, e2]
        clear e1 e2
        obtain ⟨r72, e1, h⟩ := h rv I71 hp
        rw [e1]
        clear e1
        change J 229 [jy r72, jy 2, .ref l2] _ (0, 0) _ _ _
        obtain ⟨g73, h⟩ := h
        refine jy_iast hS rfl g60.1 (Nat.le_of_lt g60.2) g73 ?_
        intro I74 e9
        have h := h I74 e9
        clear e9
        exact jy_ret hS rfl rfl ⟨rfl, rfl, h⟩
    · have h := h.2 hq
      refine jy_aload_n hS rfl rfl ?_
      refine jy_iconst hS rfl ?_
      refine jy_aload_n hS rfl rfl ?_
      refine jy_iconst hS rfl ?_
      refine jy_sipush hS rfl (by decide) ?_
      obtain ⟨g75, h⟩ := h
      obtain ⟨Q76, h⟩ := h
      obtain ⟨g77, h⟩ := h
      refine jy_callV hS rfl rfl rfl (Nat.le_of_ble_eq_true rfl) (Or.inl g75) g77 (by decide) ⟨by decide, by decide⟩ (Nat.le_of_ble_eq_true rfl) ?_ ?_
      rotate_left
      · exact fun Ex Xx Ix Rx hp => hp.2.2.2.elim
      intro rv Xx I78 Rx hp
      obtain ⟨e1, e2, hp⟩ := hp
      rw [e1, e2]
      clear e1 e2
      obtain ⟨r79, e1, h⟩ := h rv I78 hp
      rw [e1]
      clear e1
      change J 205 [jy r79, jy 2, .ref l2] _ (0, 0) _ _ _
      obtain ⟨g80, h⟩ := h
      refine jy_iast hS rfl g60.1 (Nat.le_of_lt g60.2) g80 ?_
      intro I81 e9
      have h := h I81 e9
      clear e9
      exact jy_join hS h rfl (jy_sub_s (jy_sub_n (jy_sub_s jy_sub_0)))
  · intro l2 I h
    unfold wz_306_206 at h
    refine jy_aload_n hS rfl rfl ?_
    refine jy_iconst hS rfl ?_
    obtain ⟨n82, h⟩ := h
    obtain ⟨g83, h⟩ := h
    obtain ⟨g84, h⟩ := h
    refine jy_iald hS rfl g83.1 (Nat.le_of_lt g83.2) g84 ?_
    refine jy_bipush hS rfl (by decide) ?_
    refine jy_icmp_ne hS rfl ⟨(jy_rng _), ⟨by decide, by decide⟩⟩ (fun hq => ?_) (fun hq => ?_)
    · have h := h.1 hq
      exact jy_ret hS rfl rfl ⟨rfl, rfl, h⟩
    · have h := h.2 hq
      refine jy_aload_n hS rfl rfl ?_
      refine jy_iconst hS rfl ?_
      refine jy_aload_n hS rfl rfl ?_
      refine jy_iconst hS rfl ?_
      refine jy_aload_n hS rfl rfl ?_
      obtain ⟨g85, h⟩ := h
      obtain ⟨q86, h⟩ := h
      obtain ⟨g87, h⟩ := h
      refine jy_getR hS rfl (by decide) g85 g87 ?_
      refine jy_iconst hS rfl ?_
      obtain ⟨n88, h⟩ := h
      obtain ⟨g89, h⟩ := h
      obtain ⟨g90, h⟩ := h
      refine jy_iald hS rfl g89.1 (Nat.le_of_lt g89.2) g90 ?_
      refine jy_iconst hS rfl ?_
      refine jy_isub hS rfl ?_
      obtain ⟨Q91, h⟩ := h
      obtain ⟨g92, h⟩ := h
      refine jy_callV hS rfl rfl rfl (Nat.le_of_ble_eq_true rfl) (Or.inl g85) g92 (by decide) ⟨by decide, by decide⟩ (Nat.le_of_ble_eq_true rfl) ?_ ?_
      rotate_left
      · exact fun Ex Xx Ix Rx hp => hp.2.2.2.elim
      intro rv Xx I93 Rx hp
      obtain ⟨e1, e2, hp⟩ := hp
      rw [e1, e2]
      clear e1 e2
      obtain ⟨r94, e1, h⟩ := h rv I93 hp
      rw [e1]
      clear e1
      change J 229 [jy r94, jy 2, .ref l2] _ (0, 0) _ _ _
      obtain ⟨g95, h⟩ := h
      refine jy_iast hS rfl g83.1 (Nat.le_of_lt g83.2) g95 ?_
      intro I96 e9
      have h := h I96 e9
      clear e9
      exact jy_ret hS rfl rfl ⟨rfl, rfl, h⟩
theorem jt_307 : jx_ml 307 = 4 ∧ jx_rt 307 = some .int ∧ jx_hz 307 = [] ∧ decide ((jx_nm 307).name = "<init>") = false ∧ jx_code 307 = jx_c307 := by decide +kernel
/-- GCModel.plan, from 30 -/
def wz_307_30 (V : jx_V) (X : jx_X) (R : jx_R) (Q : Option Value → jx_I → Prop) (QE : String → jx_I → Prop) (J30 : Nat → Int → jx_I → Prop) (J60 : jx_I → Prop) (J122 : Int → jx_I → Prop) (J132 : Int → Int → jx_I → Prop) (J167 : Int → jx_I → Prop) (J177 : Int → Int → jx_I → Prop) (J212 : Int → jx_I → Prop) (J222 : Int → Int → jx_I → Prop) (a0 : Nat) (a1 : Int) (s0 : Nat) (s1 : Int) (I : jx_I) : Prop :=
  (X.2.1 s0 = some (12, 0)) ∧ (
  ∃ Q9 : Option Value → jx_I → Prop, (
  (jc V 1 202 (0, 0) [.ref s0, jy s1, jy 1, jy 2] X I R Q9 (fun _ _ => False)) ∧ (
  ∀ rv I11, Q9 rv I11 → ∃ r12 : Int, rv = some (jy r12) ∧ (
  (-2147483648 ≤ r12 ∧ r12 < 2147483648) ∧ (
  (r12 = 0 → (
    (X.2.1 a0 = some (12, 0)) ∧ (
    ∃ Q15 : Option Value → jx_I → Prop, (
    (jc V 3 219 (0, 0) [.ref a0, jy a1] X I11 R Q15 (fun _ _ => False)) ∧ (
    ∀ rv I17, Q15 rv I17 → rv = none ∧ (
    ∀ I19 : jx_I, I19 = jx_u I17 a0 57 (Int32.ofInt 0) → (
    ∀ I20 : jx_I, I20 = jx_u I19 a0 58 (Int32.ofInt 0) → (
    ∀ I21 : jx_I, I21 = jx_u I20 a0 59 (Int32.ofInt 0) → (
    J60 I21)))))))
  )) ∧ (¬ r12 = 0 → (
    Q (some (jy 0)) I11
  )))))))
/-- GCModel.plan, from 60 -/
def wz_307_60 (V : jx_V) (X : jx_X) (R : jx_R) (Q : Option Value → jx_I → Prop) (QE : String → jx_I → Prop) (J30 : Nat → Int → jx_I → Prop) (J60 : jx_I → Prop) (J122 : Int → jx_I → Prop) (J132 : Int → Int → jx_I → Prop) (J167 : Int → jx_I → Prop) (J177 : Int → Int → jx_I → Prop) (J212 : Int → jx_I → Prop) (J222 : Int → Int → jx_I → Prop) (a0 : Nat) (a1 : Int)  (I : jx_I) : Prop :=
  (X.2.1 a0 = some (12, 0)) ∧ (
  ((I a0 5).toInt ≠ 0 → (
    ∀ I23 : jx_I, I23 = jx_u I a0 3 (Int32.ofInt ((I a0 6).toInt)) → (
    ((I23 a0 5).toInt = 0 → (
      ∀ I24 : jx_I, I24 = jx_u I23 a0 56 (Int32.ofInt ((I23 a0 57).toInt)) → (
      J122 0 I24)
    )) ∧ (¬ (I23 a0 5).toInt = 0 → (
      Q (some (jy ((I23 a0 5).toInt - 10))) I23
    )))
  )) ∧ ((I a0 5).toInt = 0 → (
    ((I a0 2).toInt ≤ (I a0 4).toInt → (
      ∀ I25 : jx_I, I25 = jx_u I a0 3 (Int32.ofInt ((I a0 6).toInt)) → (
      ((I25 a0 5).toInt = 0 → (
        ∀ I26 : jx_I, I26 = jx_u I25 a0 56 (Int32.ofInt ((I25 a0 57).toInt)) → (
        J122 0 I26)
      )) ∧ (¬ (I25 a0 5).toInt = 0 → (
        Q (some (jy ((I25 a0 5).toInt - 10))) I25
      )))
    )) ∧ (¬ (I a0 2).toInt ≤ (I a0 4).toInt → (
      ∃ d28 : Nat, d28 < 201 ∧ (
      ∃ Q27 : Option Value → jx_I → Prop, (
      (jc V d28 302 (0, 0) [.ref a0] X I R Q27 (fun _ _ => False)) ∧ (
      ∀ rv I31, Q27 rv I31 → rv = none ∧ (
      ∃ Q33 : Option Value → jx_I → Prop, (
      (jc V 2 207 (0, 0) [.ref a0] X I31 R Q33 (fun _ _ => False)) ∧ (
      ∀ rv I35, Q33 rv I35 → rv = none ∧ (
      J60 I35)))))))
    ))
  )))
/-- GCModel.plan, from 122 -/
def wz_307_122 (V : jx_V) (X : jx_X) (R : jx_R) (Q : Option Value → jx_I → Prop) (QE : String → jx_I → Prop) (J30 : Nat → Int → jx_I → Prop) (J60 : jx_I → Prop) (J122 : Int → jx_I → Prop) (J132 : Int → Int → jx_I → Prop) (J167 : Int → jx_I → Prop) (J177 : Int → Int → jx_I → Prop) (J212 : Int → jx_I → Prop) (J222 : Int → Int → jx_I → Prop) (a0 : Nat) (a1 : Int) (l2 : Int) (I : jx_I) : Prop :=
  (X.2.1 a0 = some (12, 0)) ∧ (
  (-2147483648 ≤ l2 ∧ l2 < 2147483648) ∧ (
  ((I a0 57).toInt ≤ l2 → (
    J167 0 I
  )) ∧ (¬ (I a0 57).toInt ≤ l2 → (
    J132 l2 0 I
  ))))
/-- GCModel.plan, from 132 -/
def wz_307_132 (V : jx_V) (X : jx_X) (R : jx_R) (Q : Option Value → jx_I → Prop) (QE : String → jx_I → Prop) (J30 : Nat → Int → jx_I → Prop) (J60 : jx_I → Prop) (J122 : Int → jx_I → Prop) (J132 : Int → Int → jx_I → Prop) (J167 : Int → jx_I → Prop) (J177 : Int → Int → jx_I → Prop) (J212 : Int → jx_I → Prop) (J222 : Int → Int → jx_I → Prop) (a0 : Nat) (a1 : Int) (l2 : Int) (l3 : Int) (I : jx_I) : Prop :=
  (-2147483648 ≤ l3 ∧ l3 < 2147483648) ∧ (
  (5 ≤ l3 → (
    J122 (l2 + 1) I
  )) ∧ (¬ 5 ≤ l3 → (
    (X.2.1 a0 = some (12, 0)) ∧ (
    ∃ q41 : Nat, (
    (R a0 60 = some q41) ∧ (
    ∃ n43 : Nat, (
    (X.2.1 q41 = some (104, n43) ∧ n43 < 2147483648) ∧ (
    (0 ≤ l2 ∧ l2 < n43) ∧ (
    ∃ q46 : Nat, (
    (R q41 l2.toNat = some q46) ∧ (
    ∃ q48 : Nat, (
    (R a0 61 = some q48) ∧ (
    ∃ n50 : Nat, (
    (X.2.1 q48 = some (104, n50) ∧ n50 < 2147483648) ∧ (
    (0 ≤ l2 ∧ l2 < n50) ∧ (
    ∃ q53 : Nat, (
    (R q48 l2.toNat = some q53) ∧ (
    ∃ n55 : Nat, (
    (X.2.1 q53 = some (100, n55) ∧ n55 < 2147483648) ∧ (
    (0 ≤ l3 ∧ l3 < n55) ∧ (
    ∃ n58 : Nat, (
    (X.2.1 q46 = some (100, n58) ∧ n58 < 2147483648) ∧ (
    (0 ≤ l3 ∧ l3 < n58) ∧ (
    ∀ I61 : jx_I, I61 = jx_u I q46 l3.toNat (Int32.ofInt ((I q53 l3.toNat).toInt)) → (
    J132 l2 (l3 + 1) I61))))))))))))))))))))))
  )))
/-- GCModel.plan, from 167 -/
def wz_307_167 (V : jx_V) (X : jx_X) (R : jx_R) (Q : Option Value → jx_I → Prop) (QE : String → jx_I → Prop) (J30 : Nat → Int → jx_I → Prop) (J60 : jx_I → Prop) (J122 : Int → jx_I → Prop) (J132 : Int → Int → jx_I → Prop) (J167 : Int → jx_I → Prop) (J177 : Int → Int → jx_I → Prop) (J212 : Int → jx_I → Prop) (J222 : Int → Int → jx_I → Prop) (a0 : Nat) (a1 : Int) (l2 : Int) (I : jx_I) : Prop :=
  (X.2.1 a0 = some (12, 0)) ∧ (
  (-2147483648 ≤ l2 ∧ l2 < 2147483648) ∧ (
  ((I a0 58).toInt ≤ l2 → (
    J212 0 I
  )) ∧ (¬ (I a0 58).toInt ≤ l2 → (
    J177 l2 0 I
  ))))
/-- GCModel.plan, from 177 -/
def wz_307_177 (V : jx_V) (X : jx_X) (R : jx_R) (Q : Option Value → jx_I → Prop) (QE : String → jx_I → Prop) (J30 : Nat → Int → jx_I → Prop) (J60 : jx_I → Prop) (J122 : Int → jx_I → Prop) (J132 : Int → Int → jx_I → Prop) (J167 : Int → jx_I → Prop) (J177 : Int → Int → jx_I → Prop) (J212 : Int → jx_I → Prop) (J222 : Int → Int → jx_I → Prop) (a0 : Nat) (a1 : Int) (l2 : Int) (l3 : Int) (I : jx_I) : Prop :=
  (-2147483648 ≤ l3 ∧ l3 < 2147483648) ∧ (
  (4 ≤ l3 → (
    J167 (l2 + 1) I
  )) ∧ (¬ 4 ≤ l3 → (
    (X.2.1 a0 = some (12, 0)) ∧ (
    ∃ q66 : Nat, (
    (R a0 62 = some q66) ∧ (
    ∃ n68 : Nat, (
    (X.2.1 q66 = some (104, n68) ∧ n68 < 2147483648) ∧ (
    (0 ≤ l2 ∧ l2 < n68) ∧ (
    ∃ q71 : Nat, (
    (R q66 l2.toNat = some q71) ∧ (
    ∃ q73 : Nat, (
    (R a0 63 = some q73) ∧ (
    ∃ n75 : Nat, (
    (X.2.1 q73 = some (104, n75) ∧ n75 < 2147483648) ∧ (
    (0 ≤ l2 ∧ l2 < n75) ∧ (
    ∃ q78 : Nat, (
    (R q73 l2.toNat = some q78) ∧ (
    ∃ n80 : Nat, (
    (X.2.1 q78 = some (100, n80) ∧ n80 < 2147483648) ∧ (
    (0 ≤ l3 ∧ l3 < n80) ∧ (
    ∃ n83 : Nat, (
    (X.2.1 q71 = some (100, n83) ∧ n83 < 2147483648) ∧ (
    (0 ≤ l3 ∧ l3 < n83) ∧ (
    ∀ I86 : jx_I, I86 = jx_u I q71 l3.toNat (Int32.ofInt ((I q78 l3.toNat).toInt)) → (
    J177 l2 (l3 + 1) I86))))))))))))))))))))))
  )))
/-- GCModel.plan, from 212 -/
def wz_307_212 (V : jx_V) (X : jx_X) (R : jx_R) (Q : Option Value → jx_I → Prop) (QE : String → jx_I → Prop) (J30 : Nat → Int → jx_I → Prop) (J60 : jx_I → Prop) (J122 : Int → jx_I → Prop) (J132 : Int → Int → jx_I → Prop) (J167 : Int → jx_I → Prop) (J177 : Int → Int → jx_I → Prop) (J212 : Int → jx_I → Prop) (J222 : Int → Int → jx_I → Prop) (a0 : Nat) (a1 : Int) (l2 : Int) (I : jx_I) : Prop :=
  (X.2.1 a0 = some (12, 0)) ∧ (
  (-2147483648 ≤ l2 ∧ l2 < 2147483648) ∧ (
  ((I a0 59).toInt ≤ l2 → (
    Q (some (jy ((I a0 56).toInt))) I
  )) ∧ (¬ (I a0 59).toInt ≤ l2 → (
    J222 l2 0 I
  ))))
/-- GCModel.plan, from 222 -/
def wz_307_222 (V : jx_V) (X : jx_X) (R : jx_R) (Q : Option Value → jx_I → Prop) (QE : String → jx_I → Prop) (J30 : Nat → Int → jx_I → Prop) (J60 : jx_I → Prop) (J122 : Int → jx_I → Prop) (J132 : Int → Int → jx_I → Prop) (J167 : Int → jx_I → Prop) (J177 : Int → Int → jx_I → Prop) (J212 : Int → jx_I → Prop) (J222 : Int → Int → jx_I → Prop) (a0 : Nat) (a1 : Int) (l2 : Int) (l3 : Int) (I : jx_I) : Prop :=
  (-2147483648 ≤ l3 ∧ l3 < 2147483648) ∧ (
  (3 ≤ l3 → (
    J212 (l2 + 1) I
  )) ∧ (¬ 3 ≤ l3 → (
    (X.2.1 a0 = some (12, 0)) ∧ (
    ∃ q91 : Nat, (
    (R a0 64 = some q91) ∧ (
    ∃ n93 : Nat, (
    (X.2.1 q91 = some (104, n93) ∧ n93 < 2147483648) ∧ (
    (0 ≤ l2 ∧ l2 < n93) ∧ (
    ∃ q96 : Nat, (
    (R q91 l2.toNat = some q96) ∧ (
    ∃ q98 : Nat, (
    (R a0 65 = some q98) ∧ (
    ∃ n100 : Nat, (
    (X.2.1 q98 = some (104, n100) ∧ n100 < 2147483648) ∧ (
    (0 ≤ l2 ∧ l2 < n100) ∧ (
    ∃ q103 : Nat, (
    (R q98 l2.toNat = some q103) ∧ (
    ∃ n105 : Nat, (
    (X.2.1 q103 = some (100, n105) ∧ n105 < 2147483648) ∧ (
    (0 ≤ l3 ∧ l3 < n105) ∧ (
    ∃ n108 : Nat, (
    (X.2.1 q96 = some (100, n108) ∧ n108 < 2147483648) ∧ (
    (0 ≤ l3 ∧ l3 < n108) ∧ (
    ∀ I111 : jx_I, I111 = jx_u I q96 l3.toNat (Int32.ofInt ((I q103 l3.toNat).toInt)) → (
    J222 l2 (l3 + 1) I111))))))))))))))))))))))
  )))
/-- GCModel.plan -/
def wz_307 (V : jx_V) (X : jx_X) (R : jx_R) (Q : Option Value → jx_I → Prop) (QE : String → jx_I → Prop) (J30 : Nat → Int → jx_I → Prop) (J60 : jx_I → Prop) (J122 : Int → jx_I → Prop) (J132 : Int → Int → jx_I → Prop) (J167 : Int → jx_I → Prop) (J177 : Int → Int → jx_I → Prop) (J212 : Int → jx_I → Prop) (J222 : Int → Int → jx_I → Prop) (a0 : Nat) (a1 : Int) (I : jx_I) : Prop :=
  (X.2.1 a0 = some (12, 0)) ∧ (
  ∀ I2 : jx_I, I2 = jx_u I a0 0 (Int32.ofInt 0) → (
  ∃ Q3 : Option Value → jx_I → Prop, (
  (jc V 1 203 (0, 0) [jy a1, jy 0, jy ((I2 a0 1).toInt)] X I2 R Q3 (fun _ _ => False)) ∧ (
  ∀ rv I5, Q3 rv I5 → ∃ r6 : Int, rv = some (jy r6) ∧ (
  (-2147483648 ≤ r6 ∧ r6 < 2147483648) ∧ (
  (r6 = 0 → (
    J30 a0 1 I5
  )) ∧ (¬ r6 = 0 → (
    (a1 ≤ 200 → (
      J30 a0 0 I5
    )) ∧ (¬ a1 ≤ 200 → (
      J30 a0 1 I5
    ))
  ))))))))
set_option maxRecDepth 20000 in
theorem wm_307 {V : jx_V} (hV : V.1.stackTraces = false) {X : jx_X} {R : jx_R} {I : jx_I} {Q : Option Value → jx_I → Prop} {QE : String → jx_I → Prop} {a0 : Nat} {a1 : Int} (r_a1 : -2147483648 ≤ a1 ∧ a1 < 2147483648) 
    (h : ∀ (J30 : Nat → Int → jx_I → Prop) (J60 : jx_I → Prop) (J122 : Int → jx_I → Prop) (J132 : Int → Int → jx_I → Prop) (J167 : Int → jx_I → Prop) (J177 : Int → Int → jx_I → Prop) (J212 : Int → jx_I → Prop) (J222 : Int → Int → jx_I → Prop), ((∀ (s0 : Nat) (s1 : Int) I, wz_307_30 V X R Q QE J30 J60 J122 J132 J167 J177 J212 J222 a0 a1 s0 s1 I → J30 s0 s1 I) ∧ (∀  I, wz_307_60 V X R Q QE J30 J60 J122 J132 J167 J177 J212 J222 a0 a1  I → J60  I) ∧ (∀ (l2 : Int) I, wz_307_122 V X R Q QE J30 J60 J122 J132 J167 J177 J212 J222 a0 a1 l2 I → J122 l2 I) ∧ (∀ (l2 : Int) (l3 : Int) I, wz_307_132 V X R Q QE J30 J60 J122 J132 J167 J177 J212 J222 a0 a1 l2 l3 I → J132 l2 l3 I) ∧ (∀ (l2 : Int) I, wz_307_167 V X R Q QE J30 J60 J122 J132 J167 J177 J212 J222 a0 a1 l2 I → J167 l2 I) ∧ (∀ (l2 : Int) (l3 : Int) I, wz_307_177 V X R Q QE J30 J60 J122 J132 J167 J177 J212 J222 a0 a1 l2 l3 I → J177 l2 l3 I) ∧ (∀ (l2 : Int) I, wz_307_212 V X R Q QE J30 J60 J122 J132 J167 J177 J212 J222 a0 a1 l2 I → J212 l2 I) ∧ (∀ (l2 : Int) (l3 : Int) I, wz_307_222 V X R Q QE J30 J60 J122 J132 J167 J177 J212 J222 a0 a1 l2 l3 I → J222 l2 l3 I)) → wz_307 V X R Q QE J30 J60 J122 J132 J167 J177 J212 J222 a0 a1 I) : jc V 201 307 (0, 0) [.ref a0, jy a1] X I R Q QE := by
  refine jy_met hV (by decide) (n := 4) (rt := some .int) (hh := []) (ini := false) (C := jx_c307) (L := [some (.ref a0), some (jy a1), none, none]) jt_307 (Nat.le_of_ble_eq_true rfl) rfl ?_
  intro J hS
  have h := h (fun s0 s1 I => J 30 [jy s1, .ref s0] [some (.ref a0), some (jy a1), none, none] (0, 0) X I R) (fun  I => J 60 [] [some (.ref a0), none, none, none] (0, 0) X I R) (fun l2 I => J 122 [] [some (.ref a0), none, some (jy l2), none] (0, 0) X I R) (fun l2 l3 I => J 132 [] [some (.ref a0), none, some (jy l2), some (jy l3)] (0, 0) X I R) (fun l2 I => J 167 [] [some (.ref a0), none, some (jy l2), none] (0, 0) X I R) (fun l2 l3 I => J 177 [] [some (.ref a0), none, some (jy l2), some (jy l3)] (0, 0) X I R) (fun l2 I => J 212 [] [some (.ref a0), none, some (jy l2), none] (0, 0) X I R) (fun l2 l3 I => J 222 [] [some (.ref a0), none, some (jy l2), some (jy l3)] (0, 0) X I R) ?_
  · unfold wz_307 at h
    refine jy_aload_n hS rfl rfl ?_
    refine jy_iconst hS rfl ?_
    obtain ⟨g1, h⟩ := h
    refine jy_putI hS rfl (by decide) g1 ?_
    intro I2 e9
    have h := h I2 e9
    clear e9
    refine jy_aload_n hS rfl rfl ?_
    refine jy_iload_n hS rfl rfl ?_
    refine jy_iconst hS rfl ?_
    refine jy_aload_n hS rfl rfl ?_
    refine jy_getI hS rfl (by decide) g1 ?_
    obtain ⟨Q3, h⟩ := h
    obtain ⟨g4, h⟩ := h
    refine jy_callS hS rfl rfl rfl (Nat.le_of_ble_eq_true rfl) g4 (by decide) ⟨by decide, by decide⟩ (Nat.le_of_ble_eq_true rfl) ?_ ?_
    rotate_left
    · exact fun Ex Xx Ix Rx hp => hp.2.2.2.elim
    intro rv Xx I5 Rx hp
    obtain ⟨e1, e2, hp⟩ := hp
    rw [e1, e2]
    clear e1 e2
    obtain ⟨r6, e1, h⟩ := h rv I5 hp
    rw [e1]
    clear e1
    change J 15 [jy r6, .ref a0] _ (0, 0) _ _ _
    obtain ⟨g7, h⟩ := h
    refine jy_if_eq hS rfl g7 (fun hq => ?_) (fun hq => ?_)
    · have h := h.1 hq
      refine jy_iconst hS rfl ?_
      refine jy_goto hS rfl ?_
      exact jy_join hS h rfl (jy_sub_s (jy_sub_s (jy_sub_n (jy_sub_n jy_sub_0))))
    · have h := h.2 hq
      refine jy_iload_n hS rfl rfl ?_
      refine jy_sipush hS rfl (by decide) ?_
      refine jy_icmp_le hS rfl ⟨r_a1, ⟨by decide, by decide⟩⟩ (fun hq => ?_) (fun hq => ?_)
      · have h := h.1 hq
        refine jy_iconst hS rfl ?_
        exact jy_join hS h rfl (jy_sub_s (jy_sub_s (jy_sub_n (jy_sub_n jy_sub_0))))
      · have h := h.2 hq
        refine jy_iconst hS rfl ?_
        refine jy_goto hS rfl ?_
        exact jy_join hS h rfl (jy_sub_s (jy_sub_s (jy_sub_n (jy_sub_n jy_sub_0))))
  refine ⟨?_, ?_, ?_, ?_, ?_, ?_, ?_, ?_⟩
  · intro s0 s1 I h
    unfold wz_307_30 at h
    refine jy_iconst hS rfl ?_
    refine jy_iconst hS rfl ?_
    obtain ⟨g8, h⟩ := h
    obtain ⟨Q9, h⟩ := h
    obtain ⟨g10, h⟩ := h
    refine jy_callV hS rfl rfl rfl (Nat.le_of_ble_eq_true rfl) (Or.inl g8) g10 (by decide) ⟨by decide, by decide⟩ (Nat.le_of_ble_eq_true rfl) ?_ ?_
    rotate_left
    · exact fun Ex Xx Ix Rx hp => hp.2.2.2.elim
    intro rv Xx I11 Rx hp
    obtain ⟨e1, e2, hp⟩ := hp
    rw [e1, e2]
    clear e1 e2
    obtain ⟨r12, e1, h⟩ := h rv I11 hp
    rw [e1]
    clear e1
    change J 35 [jy r12] _ (0, 0) _ _ _
    obtain ⟨g13, h⟩ := h
    refine jy_if_eq hS rfl g13 (fun hq => ?_) (fun hq => ?_)
    · have h := h.1 hq
      refine jy_aload_n hS rfl rfl ?_
      refine jy_iload_n hS rfl rfl ?_
      obtain ⟨g14, h⟩ := h
      obtain ⟨Q15, h⟩ := h
      obtain ⟨g16, h⟩ := h
      refine jy_callV hS rfl rfl rfl (Nat.le_of_ble_eq_true rfl) (Or.inl g14) g16 (by decide) ⟨by decide, by decide⟩ (Nat.le_of_ble_eq_true rfl) ?_ ?_
      rotate_left
      · exact fun Ex Xx Ix Rx hp => hp.2.2.2.elim
      intro rv Xx I17 Rx hp
      obtain ⟨e1, e2, hp⟩ := hp
      rw [e1, e2]
      clear e1 e2
      obtain ⟨e1, h⟩ := h rv I17 hp
      rw [e1]
      clear e1
      change J 45 [] _ (0, 0) _ _ _
      refine jy_aload_n hS rfl rfl ?_
      refine jy_iconst hS rfl ?_
      refine jy_putI hS rfl (by decide) g14 ?_
      intro I19 e9
      have h := h I19 e9
      clear e9
      refine jy_aload_n hS rfl rfl ?_
      refine jy_iconst hS rfl ?_
      refine jy_putI hS rfl (by decide) g14 ?_
      intro I20 e9
      have h := h I20 e9
      clear e9
      refine jy_aload_n hS rfl rfl ?_
      refine jy_iconst hS rfl ?_
      refine jy_putI hS rfl (by decide) g14 ?_
      intro I21 e9
      have h := h I21 e9
      clear e9
      exact jy_join hS h rfl (jy_sub_s (jy_sub_n (jy_sub_n (jy_sub_n jy_sub_0))))
    · have h := h.2 hq
      refine jy_iconst hS rfl ?_
      exact jy_iret hS rfl rfl ⟨rfl, rfl, h⟩
  · intro  I h
    unfold wz_307_60 at h
    refine jy_aload_n hS rfl rfl ?_
    obtain ⟨g22, h⟩ := h
    refine jy_getI hS rfl (by decide) g22 ?_
    refine jy_if_ne hS rfl (jy_rng _) (fun hq => ?_) (fun hq => ?_)
    · have h := h.1 hq
      refine jy_aload_n hS rfl rfl ?_
      refine jy_aload_n hS rfl rfl ?_
      refine jy_getI hS rfl (by decide) g22 ?_
      refine jy_putI hS rfl (by decide) g22 ?_
      intro I23 e9
      have h := h I23 e9
      clear e9
      refine jy_aload_n hS rfl rfl ?_
      refine jy_getI hS rfl (by decide) g22 ?_
      refine jy_if_eq hS rfl (jy_rng _) (fun hq => ?_) (fun hq => ?_)
      · have h := h.1 hq
        refine jy_aload_n hS rfl rfl ?_
        refine jy_aload_n hS rfl rfl ?_
        refine jy_getI hS rfl (by decide) g22 ?_
        refine jy_putI hS rfl (by decide) g22 ?_
        intro I24 e9
        have h := h I24 e9
        clear e9
        refine jy_iconst hS rfl ?_
        refine jy_istore_n hS rfl (Nat.le_of_ble_eq_true rfl) (L' := [some (.ref a0), none, some (jy 0), none]) rfl ?_
        exact jy_join hS h rfl (jy_sub_s (jy_sub_n (jy_sub_s (jy_sub_n jy_sub_0))))
      · have h := h.2 hq
        refine jy_aload_n hS rfl rfl ?_
        refine jy_getI hS rfl (by decide) g22 ?_
        refine jy_bipush hS rfl (by decide) ?_
        refine jy_isub hS rfl ?_
        exact jy_iret hS rfl rfl ⟨rfl, rfl, h⟩
    · have h := h.2 hq
      refine jy_aload_n hS rfl rfl ?_
      refine jy_getI hS rfl (by decide) g22 ?_
      refine jy_aload_n hS rfl rfl ?_
      refine jy_getI hS rfl (by decide) g22 ?_
      refine jy_icmp_ge hS rfl ⟨(jy_rng _), (jy_rng _)⟩ (fun hq => ?_) (fun hq => ?_)
      · have h := h.1 hq
        refine jy_aload_n hS rfl rfl ?_
        refine jy_aload_n hS rfl rfl ?_
        refine jy_getI hS rfl (by decide) g22 ?_
        refine jy_putI hS rfl (by decide) g22 ?_
        intro I25 e9
        have h := h I25 e9
        clear e9
        refine jy_aload_n hS rfl rfl ?_
        refine jy_getI hS rfl (by decide) g22 ?_
        refine jy_if_eq hS rfl (jy_rng _) (fun hq => ?_) (fun hq => ?_)
        · have h := h.1 hq
          refine jy_aload_n hS rfl rfl ?_
          refine jy_aload_n hS rfl rfl ?_
          refine jy_getI hS rfl (by decide) g22 ?_
          refine jy_putI hS rfl (by decide) g22 ?_
          intro I26 e9
          have h := h I26 e9
          clear e9
          refine jy_iconst hS rfl ?_
          refine jy_istore_n hS rfl (Nat.le_of_ble_eq_true rfl) (L' := [some (.ref a0), none, some (jy 0), none]) rfl ?_
          exact jy_join hS h rfl (jy_sub_s (jy_sub_n (jy_sub_s (jy_sub_n jy_sub_0))))
        · have h := h.2 hq
          refine jy_aload_n hS rfl rfl ?_
          refine jy_getI hS rfl (by decide) g22 ?_
          refine jy_bipush hS rfl (by decide) ?_
          refine jy_isub hS rfl ?_
          exact jy_iret hS rfl rfl ⟨rfl, rfl, h⟩
      · have h := h.2 hq
        refine jy_aload_n hS rfl rfl ?_
        obtain ⟨d28, g29, h⟩ := h
        obtain ⟨Q27, h⟩ := h
        obtain ⟨g30, h⟩ := h
        refine jy_callV hS rfl rfl rfl (Nat.le_of_ble_eq_true rfl) (Or.inl g22) g30 g29 ⟨by decide, by decide⟩ (Nat.le_of_ble_eq_true rfl) ?_ ?_
        rotate_left
        · exact fun Ex Xx Ix Rx hp => hp.2.2.2.elim
        intro rv Xx I31 Rx hp
        obtain ⟨e1, e2, hp⟩ := hp
        rw [e1, e2]
        clear e1 e2
        obtain ⟨e1, h⟩ := h rv I31 hp
        rw [e1]
        clear e1
        change J 82 [] _ (0, 0) _ _ _
        refine jy_aload_n hS rfl rfl ?_
        obtain ⟨Q33, h⟩ := h
        obtain ⟨g34, h⟩ := h
        refine jy_callV hS rfl rfl rfl (Nat.le_of_ble_eq_true rfl) (Or.inl g22) g34 (by decide) ⟨by decide, by decide⟩ (Nat.le_of_ble_eq_true rfl) ?_ ?_
        rotate_left
        · exact fun Ex Xx Ix Rx hp => hp.2.2.2.elim
        intro rv Xx I35 Rx hp
        obtain ⟨e1, e2, hp⟩ := hp
        rw [e1, e2]
        clear e1 e2
        obtain ⟨e1, h⟩ := h rv I35 hp
        rw [e1]
        clear e1
        change J 86 [] _ (0, 0) _ _ _
        refine jy_goto hS rfl ?_
        exact jy_join hS h rfl (jy_sub_s (jy_sub_n (jy_sub_n (jy_sub_n jy_sub_0))))
  · intro l2 I h
    unfold wz_307_122 at h
    refine jy_iload_n hS rfl rfl ?_
    refine jy_aload_n hS rfl rfl ?_
    obtain ⟨g37, h⟩ := h
    refine jy_getI hS rfl (by decide) g37 ?_
    obtain ⟨g38, h⟩ := h
    refine jy_icmp_ge hS rfl ⟨g38, (jy_rng _)⟩ (fun hq => ?_) (fun hq => ?_)
    · have h := h.1 hq
      refine jy_iconst hS rfl ?_
      refine jy_istore_n hS rfl (Nat.le_of_ble_eq_true rfl) (L' := [some (.ref a0), none, some (jy 0), none]) rfl ?_
      exact jy_join hS h rfl (jy_sub_s (jy_sub_n (jy_sub_s (jy_sub_n jy_sub_0))))
    · have h := h.2 hq
      refine jy_iconst hS rfl ?_
      refine jy_istore_n hS rfl (Nat.le_of_ble_eq_true rfl) (L' := [some (.ref a0), none, some (jy l2), some (jy 0)]) rfl ?_
      exact jy_join hS h rfl (jy_sub_s (jy_sub_n (jy_sub_s (jy_sub_s jy_sub_0))))
  · intro l2 l3 I h
    unfold wz_307_132 at h
    refine jy_iload_n hS rfl rfl ?_
    refine jy_iconst hS rfl ?_
    obtain ⟨g39, h⟩ := h
    refine jy_icmp_ge hS rfl ⟨g39, ⟨by decide, by decide⟩⟩ (fun hq => ?_) (fun hq => ?_)
    · have h := h.1 hq
      refine jy_iinc hS rfl rfl (L' := [some (.ref a0), none, some (jy (l2 + 1)), some (jy l3)]) rfl ?_
      refine jy_goto hS rfl ?_
      exact jy_join hS h rfl (jy_sub_s (jy_sub_n (jy_sub_s (jy_sub_n jy_sub_0))))
    · have h := h.2 hq
      refine jy_aload_n hS rfl rfl ?_
      obtain ⟨g40, h⟩ := h
      obtain ⟨q41, h⟩ := h
      obtain ⟨g42, h⟩ := h
      refine jy_getR hS rfl (by decide) g40 g42 ?_
      refine jy_iload_n hS rfl rfl ?_
      obtain ⟨n43, h⟩ := h
      obtain ⟨g44, h⟩ := h
      obtain ⟨g45, h⟩ := h
      obtain ⟨q46, h⟩ := h
      obtain ⟨g47, h⟩ := h
      refine jy_aald hS rfl g44.1 (by decide) (Nat.le_of_lt g44.2) g45 g47 ?_
      refine jy_iload_n hS rfl rfl ?_
      refine jy_aload_n hS rfl rfl ?_
      obtain ⟨q48, h⟩ := h
      obtain ⟨g49, h⟩ := h
      refine jy_getR hS rfl (by decide) g40 g49 ?_
      refine jy_iload_n hS rfl rfl ?_
      obtain ⟨n50, h⟩ := h
      obtain ⟨g51, h⟩ := h
      obtain ⟨g52, h⟩ := h
      obtain ⟨q53, h⟩ := h
      obtain ⟨g54, h⟩ := h
      refine jy_aald hS rfl g51.1 (by decide) (Nat.le_of_lt g51.2) g52 g54 ?_
      refine jy_iload_n hS rfl rfl ?_
      obtain ⟨n55, h⟩ := h
      obtain ⟨g56, h⟩ := h
      obtain ⟨g57, h⟩ := h
      refine jy_iald hS rfl g56.1 (Nat.le_of_lt g56.2) g57 ?_
      obtain ⟨n58, h⟩ := h
      obtain ⟨g59, h⟩ := h
      obtain ⟨g60, h⟩ := h
      refine jy_iast hS rfl g59.1 (Nat.le_of_lt g59.2) g60 ?_
      intro I61 e9
      have h := h I61 e9
      clear e9
      refine jy_iinc hS rfl rfl (L' := [some (.ref a0), none, some (jy l2), some (jy (l3 + 1))]) rfl ?_
      refine jy_goto hS rfl ?_
      exact jy_join hS h rfl (jy_sub_s (jy_sub_n (jy_sub_s (jy_sub_s jy_sub_0))))
  · intro l2 I h
    unfold wz_307_167 at h
    refine jy_iload_n hS rfl rfl ?_
    refine jy_aload_n hS rfl rfl ?_
    obtain ⟨g62, h⟩ := h
    refine jy_getI hS rfl (by decide) g62 ?_
    obtain ⟨g63, h⟩ := h
    refine jy_icmp_ge hS rfl ⟨g63, (jy_rng _)⟩ (fun hq => ?_) (fun hq => ?_)
    · have h := h.1 hq
      refine jy_iconst hS rfl ?_
      refine jy_istore_n hS rfl (Nat.le_of_ble_eq_true rfl) (L' := [some (.ref a0), none, some (jy 0), none]) rfl ?_
      exact jy_join hS h rfl (jy_sub_s (jy_sub_n (jy_sub_s (jy_sub_n jy_sub_0))))
    · have h := h.2 hq
      refine jy_iconst hS rfl ?_
      refine jy_istore_n hS rfl (Nat.le_of_ble_eq_true rfl) (L' := [some (.ref a0), none, some (jy l2), some (jy 0)]) rfl ?_
      exact jy_join hS h rfl (jy_sub_s (jy_sub_n (jy_sub_s (jy_sub_s jy_sub_0))))
  · intro l2 l3 I h
    unfold wz_307_177 at h
    refine jy_iload_n hS rfl rfl ?_
    refine jy_iconst hS rfl ?_
    obtain ⟨g64, h⟩ := h
    refine jy_icmp_ge hS rfl ⟨g64, ⟨by decide, by decide⟩⟩ (fun hq => ?_) (fun hq => ?_)
    · have h := h.1 hq
      refine jy_iinc hS rfl rfl (L' := [some (.ref a0), none, some (jy (l2 + 1)), some (jy l3)]) rfl ?_
      refine jy_goto hS rfl ?_
      exact jy_join hS h rfl (jy_sub_s (jy_sub_n (jy_sub_s (jy_sub_n jy_sub_0))))
    · have h := h.2 hq
      refine jy_aload_n hS rfl rfl ?_
      obtain ⟨g65, h⟩ := h
      obtain ⟨q66, h⟩ := h
      obtain ⟨g67, h⟩ := h
      refine jy_getR hS rfl (by decide) g65 g67 ?_
      refine jy_iload_n hS rfl rfl ?_
      obtain ⟨n68, h⟩ := h
      obtain ⟨g69, h⟩ := h
      obtain ⟨g70, h⟩ := h
      obtain ⟨q71, h⟩ := h
      obtain ⟨g72, h⟩ := h
      refine jy_aald hS rfl g69.1 (by decide) (Nat.le_of_lt g69.2) g70 g72 ?_
      refine jy_iload_n hS rfl rfl ?_
      refine jy_aload_n hS rfl rfl ?_
      obtain ⟨q73, h⟩ := h
      obtain ⟨g74, h⟩ := h
      refine jy_getR hS rfl (by decide) g65 g74 ?_
      refine jy_iload_n hS rfl rfl ?_
      obtain ⟨n75, h⟩ := h
      obtain ⟨g76, h⟩ := h
      obtain ⟨g77, h⟩ := h
      obtain ⟨q78, h⟩ := h
      obtain ⟨g79, h⟩ := h
      refine jy_aald hS rfl g76.1 (by decide) (Nat.le_of_lt g76.2) g77 g79 ?_
      refine jy_iload_n hS rfl rfl ?_
      obtain ⟨n80, h⟩ := h
      obtain ⟨g81, h⟩ := h
      obtain ⟨g82, h⟩ := h
      refine jy_iald hS rfl g81.1 (Nat.le_of_lt g81.2) g82 ?_
      obtain ⟨n83, h⟩ := h
      obtain ⟨g84, h⟩ := h
      obtain ⟨g85, h⟩ := h
      refine jy_iast hS rfl g84.1 (Nat.le_of_lt g84.2) g85 ?_
      intro I86 e9
      have h := h I86 e9
      clear e9
      refine jy_iinc hS rfl rfl (L' := [some (.ref a0), none, some (jy l2), some (jy (l3 + 1))]) rfl ?_
      refine jy_goto hS rfl ?_
      exact jy_join hS h rfl (jy_sub_s (jy_sub_n (jy_sub_s (jy_sub_s jy_sub_0))))
  · intro l2 I h
    unfold wz_307_212 at h
    refine jy_iload_n hS rfl rfl ?_
    refine jy_aload_n hS rfl rfl ?_
    obtain ⟨g87, h⟩ := h
    refine jy_getI hS rfl (by decide) g87 ?_
    obtain ⟨g88, h⟩ := h
    refine jy_icmp_ge hS rfl ⟨g88, (jy_rng _)⟩ (fun hq => ?_) (fun hq => ?_)
    · have h := h.1 hq
      refine jy_aload_n hS rfl rfl ?_
      refine jy_getI hS rfl (by decide) g87 ?_
      exact jy_iret hS rfl rfl ⟨rfl, rfl, h⟩
    · have h := h.2 hq
      refine jy_iconst hS rfl ?_
      refine jy_istore_n hS rfl (Nat.le_of_ble_eq_true rfl) (L' := [some (.ref a0), none, some (jy l2), some (jy 0)]) rfl ?_
      exact jy_join hS h rfl (jy_sub_s (jy_sub_n (jy_sub_s (jy_sub_s jy_sub_0))))
  · intro l2 l3 I h
    unfold wz_307_222 at h
    refine jy_iload_n hS rfl rfl ?_
    refine jy_iconst hS rfl ?_
    obtain ⟨g89, h⟩ := h
    refine jy_icmp_ge hS rfl ⟨g89, ⟨by decide, by decide⟩⟩ (fun hq => ?_) (fun hq => ?_)
    · have h := h.1 hq
      refine jy_iinc hS rfl rfl (L' := [some (.ref a0), none, some (jy (l2 + 1)), some (jy l3)]) rfl ?_
      refine jy_goto hS rfl ?_
      exact jy_join hS h rfl (jy_sub_s (jy_sub_n (jy_sub_s (jy_sub_n jy_sub_0))))
    · have h := h.2 hq
      refine jy_aload_n hS rfl rfl ?_
      obtain ⟨g90, h⟩ := h
      obtain ⟨q91, h⟩ := h
      obtain ⟨g92, h⟩ := h
      refine jy_getR hS rfl (by decide) g90 g92 ?_
      refine jy_iload_n hS rfl rfl ?_
      obtain ⟨n93, h⟩ := h
      obtain ⟨g94, h⟩ := h
      obtain ⟨g95, h⟩ := h
      obtain ⟨q96, h⟩ := h
      obtain ⟨g97, h⟩ := h
      refine jy_aald hS rfl g94.1 (by decide) (Nat.le_of_lt g94.2) g95 g97 ?_
      refine jy_iload_n hS rfl rfl ?_
      refine jy_aload_n hS rfl rfl ?_
      obtain ⟨q98, h⟩ := h
      obtain ⟨g99, h⟩ := h
      refine jy_getR hS rfl (by decide) g90 g99 ?_
      refine jy_iload_n hS rfl rfl ?_
      obtain ⟨n100, h⟩ := h
      obtain ⟨g101, h⟩ := h
      obtain ⟨g102, h⟩ := h
      obtain ⟨q103, h⟩ := h
      obtain ⟨g104, h⟩ := h
      refine jy_aald hS rfl g101.1 (by decide) (Nat.le_of_lt g101.2) g102 g104 ?_
      refine jy_iload_n hS rfl rfl ?_
      obtain ⟨n105, h⟩ := h
      obtain ⟨g106, h⟩ := h
      obtain ⟨g107, h⟩ := h
      refine jy_iald hS rfl g106.1 (Nat.le_of_lt g106.2) g107 ?_
      obtain ⟨n108, h⟩ := h
      obtain ⟨g109, h⟩ := h
      obtain ⟨g110, h⟩ := h
      refine jy_iast hS rfl g109.1 (Nat.le_of_lt g109.2) g110 ?_
      intro I111 e9
      have h := h I111 e9
      clear e9
      refine jy_iinc hS rfl rfl (L' := [some (.ref a0), none, some (jy l2), some (jy (l3 + 1))]) rfl ?_
      refine jy_goto hS rfl ?_
      exact jy_join hS h rfl (jy_sub_s (jy_sub_n (jy_sub_s (jy_sub_s jy_sub_0))))
theorem jt_308 : jx_ml 308 = 1 ∧ jx_rt 308 = some .boolean ∧ jx_hz 308 = [] ∧ decide ((jx_nm 308).name = "<init>") = false ∧ jx_code 308 = jx_c308 := by decide +kernel
/-- GCModel.counts, from 23 -/
def wz_308_23 (V : jx_V) (X : jx_X) (R : jx_R) (Q : Option Value → jx_I → Prop) (QE : String → jx_I → Prop) (J23 : Nat → Int → jx_I → Prop) (J43 : Nat → Int → Int → jx_I → Prop) (a0 : Nat) (s0 : Nat) (s1 : Int) (I : jx_I) : Prop :=
  (X.2.1 s0 = some (12, 0)) ∧ (
  (s1 = 0 ∨ s1 = 1) ∧ (
  ∀ I4 : jx_I, I4 = jx_u I s0 70 (Int32.ofInt s1) → (
  (X.2.1 a0 = some (12, 0)) ∧ (
  ((I4 a0 70).toInt = 0 → (
    J43 a0 ((I4 a0 69).toInt) 1 I4
  )) ∧ (¬ (I4 a0 70).toInt = 0 → (
    J43 a0 ((I4 a0 69).toInt) 0 I4
  ))))))
/-- GCModel.counts, from 43 -/
def wz_308_43 (V : jx_V) (X : jx_X) (R : jx_R) (Q : Option Value → jx_I → Prop) (QE : String → jx_I → Prop) (J23 : Nat → Int → jx_I → Prop) (J43 : Nat → Int → Int → jx_I → Prop) (a0 : Nat) (s0 : Nat) (s1 : Int) (s2 : Int) (I : jx_I) : Prop :=
  (X.2.1 s0 = some (12, 0)) ∧ (
  ∀ I7 : jx_I, I7 = jx_u I s0 69 (Int32.ofInt (s1 + s2)) → (
  (X.2.1 a0 = some (12, 0)) ∧ (
  ((I7 a0 70).toInt ≠ 0 → (
    Q (some (jy 0)) I7
  )) ∧ ((I7 a0 70).toInt = 0 → (
    Q (some (jy 1)) I7
  )))))
/-- GCModel.counts -/
def wz_308 (V : jx_V) (X : jx_X) (R : jx_R) (Q : Option Value → jx_I → Prop) (QE : String → jx_I → Prop) (J23 : Nat → Int → jx_I → Prop) (J43 : Nat → Int → Int → jx_I → Prop) (a0 : Nat) (I : jx_I) : Prop :=
  (X.2.1 a0 = some (12, 0)) ∧ (
  ((I a0 70).toInt ≠ 0 → (
    J23 a0 1 I
  )) ∧ ((I a0 70).toInt = 0 → (
    ((I a0 69).toInt ≠ 300 → (
      J23 a0 0 I
    )) ∧ ((I a0 69).toInt = 300 → (
      J23 a0 1 I
    ))
  )))
set_option maxRecDepth 20000 in
theorem wm_308 {V : jx_V} (hV : V.1.stackTraces = false) {X : jx_X} {R : jx_R} {I : jx_I} {Q : Option Value → jx_I → Prop} {QE : String → jx_I → Prop} {a0 : Nat}  
    (h : ∀ (J23 : Nat → Int → jx_I → Prop) (J43 : Nat → Int → Int → jx_I → Prop), ((∀ (s0 : Nat) (s1 : Int) I, wz_308_23 V X R Q QE J23 J43 a0 s0 s1 I → J23 s0 s1 I) ∧ (∀ (s0 : Nat) (s1 : Int) (s2 : Int) I, wz_308_43 V X R Q QE J23 J43 a0 s0 s1 s2 I → J43 s0 s1 s2 I)) → wz_308 V X R Q QE J23 J43 a0 I) : jc V 1 308 (0, 0) [.ref a0] X I R Q QE := by
  refine jy_met hV (by decide) (n := 1) (rt := some .boolean) (hh := []) (ini := false) (C := jx_c308) (L := [some (.ref a0)]) jt_308 (Nat.le_of_ble_eq_true rfl) rfl ?_
  intro J hS
  have h := h (fun s0 s1 I => J 23 [jy s1, .ref s0] [some (.ref a0)] (0, 0) X I R) (fun s0 s1 s2 I => J 43 [jy s2, jy s1, .ref s0] [some (.ref a0)] (0, 0) X I R) ?_
  · unfold wz_308 at h
    refine jy_aload_n hS rfl rfl ?_
    refine jy_aload_n hS rfl rfl ?_
    obtain ⟨g1, h⟩ := h
    refine jy_getI hS rfl (by decide) g1 ?_
    refine jy_if_ne hS rfl (jy_rng _) (fun hq => ?_) (fun hq => ?_)
    · have h := h.1 hq
      refine jy_iconst hS rfl ?_
      refine jy_goto hS rfl ?_
      exact jy_join hS h rfl (jy_sub_s jy_sub_0)
    · have h := h.2 hq
      refine jy_aload_n hS rfl rfl ?_
      refine jy_getI hS rfl (by decide) g1 ?_
      refine jy_sipush hS rfl (by decide) ?_
      refine jy_icmp_ne hS rfl ⟨(jy_rng _), ⟨by decide, by decide⟩⟩ (fun hq => ?_) (fun hq => ?_)
      · have h := h.1 hq
        refine jy_iconst hS rfl ?_
        exact jy_join hS h rfl (jy_sub_s jy_sub_0)
      · have h := h.2 hq
        refine jy_iconst hS rfl ?_
        refine jy_goto hS rfl ?_
        exact jy_join hS h rfl (jy_sub_s jy_sub_0)
  refine ⟨?_, ?_⟩
  · intro s0 s1 I h
    unfold wz_308_23 at h
    obtain ⟨g2, h⟩ := h
    obtain ⟨g3, h⟩ := h
    refine jy_putB hS rfl (by decide) g3 g2 ?_
    intro I4 e9
    have h := h I4 e9
    clear e9
    refine jy_aload_n hS rfl rfl ?_
    refine jy_dup hS rfl rfl ?_
    obtain ⟨g5, h⟩ := h
    refine jy_getI hS rfl (by decide) g5 ?_
    refine jy_aload_n hS rfl rfl ?_
    refine jy_getI hS rfl (by decide) g5 ?_
    refine jy_if_eq hS rfl (jy_rng _) (fun hq => ?_) (fun hq => ?_)
    · have h := h.1 hq
      refine jy_iconst hS rfl ?_
      exact jy_join hS h rfl (jy_sub_s jy_sub_0)
    · have h := h.2 hq
      refine jy_iconst hS rfl ?_
      refine jy_goto hS rfl ?_
      exact jy_join hS h rfl (jy_sub_s jy_sub_0)
  · intro s0 s1 s2 I h
    unfold wz_308_43 at h
    refine jy_iadd hS rfl ?_
    obtain ⟨g6, h⟩ := h
    refine jy_putI hS rfl (by decide) g6 ?_
    intro I7 e9
    have h := h I7 e9
    clear e9
    refine jy_aload_n hS rfl rfl ?_
    obtain ⟨g8, h⟩ := h
    refine jy_getI hS rfl (by decide) g8 ?_
    refine jy_if_ne hS rfl (jy_rng _) (fun hq => ?_) (fun hq => ?_)
    · have h := h.1 hq
      refine jy_iconst hS rfl ?_
      exact jy_iret hS rfl rfl ⟨rfl, rfl, h⟩
    · have h := h.2 hq
      refine jy_iconst hS rfl ?_
      refine jy_goto hS rfl ?_
      exact jy_iret hS rfl rfl ⟨rfl, rfl, h⟩
theorem jt_309 : jx_ml 309 = 7 ∧ jx_rt 309 = some .int ∧ jx_hz 309 = [] ∧ decide ((jx_nm 309).name = "<init>") = false ∧ jx_code 309 = jx_c309 := by decide +kernel
/-- GCModel.valueBy, from 5 -/
def wz_309_5 (V : jx_V) (X : jx_X) (R : jx_R) (Q : Option Value → jx_I → Prop) (QE : String → jx_I → Prop) (J5 : Int → Int → jx_I → Prop) (J145 : Int → Int → Int → Nat → jx_I → Prop) (a0 : Nat) (a1 : Int) (a2 : Int) (l3 : Int) (l4 : Int) (I : jx_I) : Prop :=
  (-2147483648 ≤ l4 ∧ l4 < 2147483648) ∧ (
  (a2 ≤ l4 → (
    Q (some (jy l3)) I
  )) ∧ (¬ a2 ≤ l4 → (
    (X.2.1 a0 = some (12, 0)) ∧ (
    ∃ q3 : Nat, (
    (R a0 64 = some q3) ∧ (
    ∃ n5 : Nat, (
    (X.2.1 q3 = some (104, n5) ∧ n5 < 2147483648) ∧ (
    (0 ≤ l4 ∧ l4 < n5) ∧ (
    ∃ q8 : Nat, (
    (R q3 l4.toNat = some q8) ∧ (
    ∃ n10 : Nat, (
    (X.2.1 q8 = some (100, n10) ∧ n10 < 2147483648) ∧ (
    (0 ≤ (1 : Int) ∧ (1 : Int) < n10) ∧ (
    ((I q8 (1 : Int).toNat).toInt ≠ 0 → (
      (0 ≤ (1 : Int) ∧ (1 : Int) < n10) ∧ (
      ((I q8 (1 : Int).toNat).toInt ≠ 1 → (
        (0 ≤ (1 : Int) ∧ (1 : Int) < n10) ∧ (
        ((I q8 (1 : Int).toNat).toInt ≠ 2 → (
          (0 ≤ (1 : Int) ∧ (1 : Int) < n10) ∧ (
          ((I q8 (1 : Int).toNat).toInt ≠ 3 → (
            (0 ≤ (1 : Int) ∧ (1 : Int) < n10) ∧ (
            ((I q8 (1 : Int).toNat).toInt ≠ 4 → (
              (0 ≤ (1 : Int) ∧ (1 : Int) < n10) ∧ (
              ((I q8 (1 : Int).toNat).toInt ≠ 5 → (
                (0 ≤ (1 : Int) ∧ (1 : Int) < n10) ∧ (
                ((I q8 (1 : Int).toNat).toInt ≠ 6 → (
                  ∃ q19 : Nat, (
                  (R a0 42 = some q19) ∧ (
                  (0 ≤ (2 : Int) ∧ (2 : Int) < n10) ∧ (
                  ∃ n22 : Nat, (
                  (X.2.1 q19 = some (104, n22) ∧ n22 < 2147483648) ∧ (
                  (0 ≤ (I q8 (2 : Int).toNat).toInt ∧ (I q8 (2 : Int).toNat).toInt < n22) ∧ (
                  ∃ q25 : Nat, (
                  (R q19 ((I q8 (2 : Int).toNat).toInt).toNat = some q25) ∧ (
                  ∃ n27 : Nat, (
                  (X.2.1 q25 = some (100, n27) ∧ n27 < 2147483648) ∧ (
                  (0 ≤ (I a0 66).toInt ∧ (I a0 66).toInt < n27) ∧ (
                  J145 ((I q25 ((I a0 66).toInt).toNat).toInt) l3 l4 q8 I)))))))))))
                )) ∧ ((I q8 (1 : Int).toNat).toInt = 6 → (
                  J145 ((I a0 69).toInt - 1) l3 l4 q8 I
                )))
              )) ∧ ((I q8 (1 : Int).toNat).toInt = 5 → (
                J145 ((I a0 68).toInt) l3 l4 q8 I
              )))
            )) ∧ ((I q8 (1 : Int).toNat).toInt = 4 → (
              J145 ((I a0 46).toInt) l3 l4 q8 I
            )))
          )) ∧ ((I q8 (1 : Int).toNat).toInt = 3 → (
            ∃ Q30 : Option Value → jx_I → Prop, (
            (jc V 3 246 (0, 0) [.ref a0, jy ((I a0 66).toInt)] X I R Q30 (fun _ _ => False)) ∧ (
            ∀ rv I32, Q30 rv I32 → ∃ r33 : Int, rv = some (jy r33) ∧ (
            J145 r33 l3 l4 q8 I32)))
          )))
        )) ∧ ((I q8 (1 : Int).toNat).toInt = 2 → (
          J145 ((I a0 67).toInt) l3 l4 q8 I
        )))
      )) ∧ ((I q8 (1 : Int).toNat).toInt = 1 → (
        J145 ((I a0 66).toInt) l3 l4 q8 I
      )))
    )) ∧ ((I q8 (1 : Int).toNat).toInt = 0 → (
      (0 ≤ (2 : Int) ∧ (2 : Int) < n10) ∧ (
      J145 ((I q8 (2 : Int).toNat).toInt) l3 l4 q8 I)
    )))))))))))))
  )))
/-- GCModel.valueBy, from 145 -/
def wz_309_145 (V : jx_V) (X : jx_X) (R : jx_R) (Q : Option Value → jx_I → Prop) (QE : String → jx_I → Prop) (J5 : Int → Int → jx_I → Prop) (J145 : Int → Int → Int → Nat → jx_I → Prop) (a0 : Nat) (a1 : Int) (a2 : Int) (s0 : Int) (l3 : Int) (l4 : Int) (l5 : Nat) (I : jx_I) : Prop :=
  ∃ n35 : Nat, (
  (X.2.1 l5 = some (100, n35) ∧ n35 < 2147483648) ∧ (
  (0 ≤ (0 : Int) ∧ (0 : Int) < n35) ∧ (
  J5 (l3 + ((I l5 (0 : Int).toNat).toInt * s0)) (l4 + 1) I)))
/-- GCModel.valueBy -/
def wz_309 (V : jx_V) (X : jx_X) (R : jx_R) (Q : Option Value → jx_I → Prop) (QE : String → jx_I → Prop) (J5 : Int → Int → jx_I → Prop) (J145 : Int → Int → Int → Nat → jx_I → Prop) (a0 : Nat) (a1 : Int) (a2 : Int) (I : jx_I) : Prop :=
  J5 0 a1 I
set_option maxRecDepth 20000 in
theorem wm_309 {V : jx_V} (hV : V.1.stackTraces = false) {X : jx_X} {R : jx_R} {I : jx_I} {Q : Option Value → jx_I → Prop} {QE : String → jx_I → Prop} {a0 : Nat} {a1 : Int} {a2 : Int} (r_a1 : -2147483648 ≤ a1 ∧ a1 < 2147483648) (r_a2 : -2147483648 ≤ a2 ∧ a2 < 2147483648) 
    (h : ∀ (J5 : Int → Int → jx_I → Prop) (J145 : Int → Int → Int → Nat → jx_I → Prop), ((∀ (l3 : Int) (l4 : Int) I, wz_309_5 V X R Q QE J5 J145 a0 a1 a2 l3 l4 I → J5 l3 l4 I) ∧ (∀ (s0 : Int) (l3 : Int) (l4 : Int) (l5 : Nat) I, wz_309_145 V X R Q QE J5 J145 a0 a1 a2 s0 l3 l4 l5 I → J145 s0 l3 l4 l5 I)) → wz_309 V X R Q QE J5 J145 a0 a1 a2 I) : jc V 4 309 (0, 0) [.ref a0, jy a1, jy a2] X I R Q QE := by
  refine jy_met hV (by decide) (n := 7) (rt := some .int) (hh := []) (ini := false) (C := jx_c309) (L := [some (.ref a0), some (jy a1), some (jy a2), none, none, none, none]) jt_309 (Nat.le_of_ble_eq_true rfl) rfl ?_
  intro J hS
  have h := h (fun l3 l4 I => J 5 [] [some (.ref a0), none, some (jy a2), some (jy l3), some (jy l4), none, none] (0, 0) X I R) (fun s0 l3 l4 l5 I => J 145 [jy s0] [some (.ref a0), none, some (jy a2), some (jy l3), some (jy l4), some (.ref l5), none] (0, 0) X I R) ?_
  · unfold wz_309 at h
    refine jy_iconst hS rfl ?_
    refine jy_istore_n hS rfl (Nat.le_of_ble_eq_true rfl) (L' := [some (.ref a0), some (jy a1), some (jy a2), some (jy 0), none, none, none]) rfl ?_
    refine jy_iload_n hS rfl rfl ?_
    refine jy_istore hS rfl (Nat.le_of_ble_eq_true rfl) (L' := [some (.ref a0), some (jy a1), some (jy a2), some (jy 0), some (jy a1), none, none]) rfl ?_
    exact jy_join hS h rfl (jy_sub_s (jy_sub_n (jy_sub_s (jy_sub_s (jy_sub_s (jy_sub_n (jy_sub_n jy_sub_0)))))))
  refine ⟨?_, ?_⟩
  · intro l3 l4 I h
    unfold wz_309_5 at h
    refine jy_iload hS rfl rfl ?_
    refine jy_iload_n hS rfl rfl ?_
    obtain ⟨g1, h⟩ := h
    refine jy_icmp_ge hS rfl ⟨g1, r_a2⟩ (fun hq => ?_) (fun hq => ?_)
    · have h := h.1 hq
      refine jy_iload_n hS rfl rfl ?_
      exact jy_iret hS rfl rfl ⟨rfl, rfl, h⟩
    · have h := h.2 hq
      refine jy_aload_n hS rfl rfl ?_
      obtain ⟨g2, h⟩ := h
      obtain ⟨q3, h⟩ := h
      obtain ⟨g4, h⟩ := h
      refine jy_getR hS rfl (by decide) g2 g4 ?_
      refine jy_iload hS rfl rfl ?_
      obtain ⟨n5, h⟩ := h
      obtain ⟨g6, h⟩ := h
      obtain ⟨g7, h⟩ := h
      obtain ⟨q8, h⟩ := h
      obtain ⟨g9, h⟩ := h
      refine jy_aald hS rfl g6.1 (by decide) (Nat.le_of_lt g6.2) g7 g9 ?_
      refine jy_astore hS rfl (Nat.le_of_ble_eq_true rfl) (L' := [some (.ref a0), none, some (jy a2), some (jy l3), some (jy l4), some (.ref q8), none]) rfl ?_
      refine jy_aload hS rfl rfl ?_
      refine jy_iconst hS rfl ?_
      obtain ⟨n10, h⟩ := h
      obtain ⟨g11, h⟩ := h
      obtain ⟨g12, h⟩ := h
      refine jy_iald hS rfl g11.1 (Nat.le_of_lt g11.2) g12 ?_
      refine jy_if_ne hS rfl (jy_rng _) (fun hq => ?_) (fun hq => ?_)
      · have h := h.1 hq
        refine jy_aload hS rfl rfl ?_
        refine jy_iconst hS rfl ?_
        obtain ⟨g13, h⟩ := h
        refine jy_iald hS rfl g11.1 (Nat.le_of_lt g11.2) g13 ?_
        refine jy_iconst hS rfl ?_
        refine jy_icmp_ne hS rfl ⟨(jy_rng _), ⟨by decide, by decide⟩⟩ (fun hq => ?_) (fun hq => ?_)
        · have h := h.1 hq
          refine jy_aload hS rfl rfl ?_
          refine jy_iconst hS rfl ?_
          obtain ⟨g14, h⟩ := h
          refine jy_iald hS rfl g11.1 (Nat.le_of_lt g11.2) g14 ?_
          refine jy_iconst hS rfl ?_
          refine jy_icmp_ne hS rfl ⟨(jy_rng _), ⟨by decide, by decide⟩⟩ (fun hq => ?_) (fun hq => ?_)
          · have h := h.1 hq
            refine jy_aload hS rfl rfl ?_
            refine jy_iconst hS rfl ?_
            obtain ⟨g15, h⟩ := h
            refine jy_iald hS rfl g11.1 (Nat.le_of_lt g11.2) g15 ?_
            refine jy_iconst hS rfl ?_
            refine jy_icmp_ne hS rfl ⟨(jy_rng _), ⟨by decide, by decide⟩⟩ (fun hq => ?_) (fun hq => ?_)
            · have h := h.1 hq
              refine jy_aload hS rfl rfl ?_
              refine jy_iconst hS rfl ?_
              obtain ⟨g16, h⟩ := h
              refine jy_iald hS rfl g11.1 (Nat.le_of_lt g11.2) g16 ?_
              refine jy_iconst hS rfl ?_
              refine jy_icmp_ne hS rfl ⟨(jy_rng _), ⟨by decide, by decide⟩⟩ (fun hq => ?_) (fun hq => ?_)
              · have h := h.1 hq
                refine jy_aload hS rfl rfl ?_
                refine jy_iconst hS rfl ?_
                obtain ⟨g17, h⟩ := h
                refine jy_iald hS rfl g11.1 (Nat.le_of_lt g11.2) g17 ?_
                refine jy_iconst hS rfl ?_
                refine jy_icmp_ne hS rfl ⟨(jy_rng _), ⟨by decide, by decide⟩⟩ (fun hq => ?_) (fun hq => ?_)
                · have h := h.1 hq
                  refine jy_aload hS rfl rfl ?_
                  refine jy_iconst hS rfl ?_
                  obtain ⟨g18, h⟩ := h
                  refine jy_iald hS rfl g11.1 (Nat.le_of_lt g11.2) g18 ?_
                  refine jy_bipush hS rfl (by decide) ?_
                  refine jy_icmp_ne hS rfl ⟨(jy_rng _), ⟨by decide, by decide⟩⟩ (fun hq => ?_) (fun hq => ?_)
                  · have h := h.1 hq
                    refine jy_aload_n hS rfl rfl ?_
                    obtain ⟨q19, h⟩ := h
                    obtain ⟨g20, h⟩ := h
                    refine jy_getR hS rfl (by decide) g2 g20 ?_
                    refine jy_aload hS rfl rfl ?_
                    refine jy_iconst hS rfl ?_
                    obtain ⟨g21, h⟩ := h
                    refine jy_iald hS rfl g11.1 (Nat.le_of_lt g11.2) g21 ?_
                    obtain ⟨n22, h⟩ := h
                    obtain ⟨g23, h⟩ := h
                    obtain ⟨g24, h⟩ := h
                    obtain ⟨q25, h⟩ := h
                    obtain ⟨g26, h⟩ := h
                    refine jy_aald hS rfl g23.1 (by decide) (Nat.le_of_lt g23.2) g24 g26 ?_
                    refine jy_aload_n hS rfl rfl ?_
                    refine jy_getI hS rfl (by decide) g2 ?_
                    obtain ⟨n27, h⟩ := h
                    obtain ⟨g28, h⟩ := h
                    obtain ⟨g29, h⟩ := h
                    refine jy_iald hS rfl g28.1 (Nat.le_of_lt g28.2) g29 ?_
                    exact jy_join hS h rfl (jy_sub_s (jy_sub_n (jy_sub_s (jy_sub_s (jy_sub_s (jy_sub_s (jy_sub_n jy_sub_0)))))))
                  · have h := h.2 hq
                    refine jy_aload_n hS rfl rfl ?_
                    refine jy_getI hS rfl (by decide) g2 ?_
                    refine jy_iconst hS rfl ?_
                    refine jy_isub hS rfl ?_
                    refine jy_goto hS rfl ?_
                    exact jy_join hS h rfl (jy_sub_s (jy_sub_n (jy_sub_s (jy_sub_s (jy_sub_s (jy_sub_s (jy_sub_n jy_sub_0)))))))
                · have h := h.2 hq
                  refine jy_aload_n hS rfl rfl ?_
                  refine jy_getI hS rfl (by decide) g2 ?_
                  refine jy_goto hS rfl ?_
                  exact jy_join hS h rfl (jy_sub_s (jy_sub_n (jy_sub_s (jy_sub_s (jy_sub_s (jy_sub_s (jy_sub_n jy_sub_0)))))))
              · have h := h.2 hq
                refine jy_aload_n hS rfl rfl ?_
                refine jy_getI hS rfl (by decide) g2 ?_
                refine jy_goto hS rfl ?_
                exact jy_join hS h rfl (jy_sub_s (jy_sub_n (jy_sub_s (jy_sub_s (jy_sub_s (jy_sub_s (jy_sub_n jy_sub_0)))))))
            · have h := h.2 hq
              refine jy_aload_n hS rfl rfl ?_
              refine jy_aload_n hS rfl rfl ?_
              refine jy_getI hS rfl (by decide) g2 ?_
              obtain ⟨Q30, h⟩ := h
              obtain ⟨g31, h⟩ := h
              refine jy_callV hS rfl rfl rfl (Nat.le_of_ble_eq_true rfl) (Or.inl g2) g31 (by decide) ⟨by decide, by decide⟩ (Nat.le_of_ble_eq_true rfl) ?_ ?_
              rotate_left
              · exact fun Ex Xx Ix Rx hp => hp.2.2.2.elim
              intro rv Xx I32 Rx hp
              obtain ⟨e1, e2, hp⟩ := hp
              rw [e1, e2]
              clear e1 e2
              obtain ⟨r33, e1, h⟩ := h rv I32 hp
              rw [e1]
              clear e1
              change J 80 [jy r33] _ (0, 0) _ _ _
              refine jy_goto hS rfl ?_
              exact jy_join hS h rfl (jy_sub_s (jy_sub_n (jy_sub_s (jy_sub_s (jy_sub_s (jy_sub_s (jy_sub_n jy_sub_0)))))))
          · have h := h.2 hq
            refine jy_aload_n hS rfl rfl ?_
            refine jy_getI hS rfl (by decide) g2 ?_
            refine jy_goto hS rfl ?_
            exact jy_join hS h rfl (jy_sub_s (jy_sub_n (jy_sub_s (jy_sub_s (jy_sub_s (jy_sub_s (jy_sub_n jy_sub_0)))))))
        · have h := h.2 hq
          refine jy_aload_n hS rfl rfl ?_
          refine jy_getI hS rfl (by decide) g2 ?_
          refine jy_goto hS rfl ?_
          exact jy_join hS h rfl (jy_sub_s (jy_sub_n (jy_sub_s (jy_sub_s (jy_sub_s (jy_sub_s (jy_sub_n jy_sub_0)))))))
      · have h := h.2 hq
        refine jy_aload hS rfl rfl ?_
        refine jy_iconst hS rfl ?_
        obtain ⟨g34, h⟩ := h
        refine jy_iald hS rfl g11.1 (Nat.le_of_lt g11.2) g34 ?_
        refine jy_goto hS rfl ?_
        exact jy_join hS h rfl (jy_sub_s (jy_sub_n (jy_sub_s (jy_sub_s (jy_sub_s (jy_sub_s (jy_sub_n jy_sub_0)))))))
  · intro s0 l3 l4 l5 I h
    unfold wz_309_145 at h
    refine jy_istore hS rfl (Nat.le_of_ble_eq_true rfl) (L' := [some (.ref a0), none, some (jy a2), some (jy l3), some (jy l4), some (.ref l5), some (jy s0)]) rfl ?_
    refine jy_iload_n hS rfl rfl ?_
    refine jy_aload hS rfl rfl ?_
    refine jy_iconst hS rfl ?_
    obtain ⟨n35, h⟩ := h
    obtain ⟨g36, h⟩ := h
    obtain ⟨g37, h⟩ := h
    refine jy_iald hS rfl g36.1 (Nat.le_of_lt g36.2) g37 ?_
    refine jy_iload hS rfl rfl ?_
    refine jy_imul hS rfl ?_
    refine jy_iadd hS rfl ?_
    refine jy_istore_n hS rfl (Nat.le_of_ble_eq_true rfl) (L' := [some (.ref a0), none, some (jy a2), some (jy (l3 + ((I l5 (0 : Int).toNat).toInt * s0))), some (jy l4), some (.ref l5), some (jy s0)]) rfl ?_
    refine jy_iinc hS rfl rfl (L' := [some (.ref a0), none, some (jy a2), some (jy (l3 + ((I l5 (0 : Int).toNat).toInt * s0))), some (jy (l4 + 1)), some (.ref l5), some (jy s0)]) rfl ?_
    refine jy_goto hS rfl ?_
    exact jy_join hS h rfl (jy_sub_s (jy_sub_n (jy_sub_s (jy_sub_s (jy_sub_s (jy_sub_n (jy_sub_n jy_sub_0)))))))
theorem jt_310 : jx_ml 310 = 4 ∧ jx_rt 310 = some .boolean ∧ jx_hz 310 = [] ∧ decide ((jx_nm 310).name = "<init>") = false ∧ jx_code 310 = jx_c310 := by decide +kernel
/-- GCModel.isSo -/
def wz_310 (V : jx_V) (X : jx_X) (R : jx_R) (Q : Option Value → jx_I → Prop) (QE : String → jx_I → Prop)  (a0 : Nat) (a1 : Int) (I : jx_I) : Prop :=
  (X.2.1 a0 = some (12, 0)) ∧ (
  ∃ q2 : Nat, (
  (R a0 62 = some q2) ∧ (
  ∃ n4 : Nat, (
  (X.2.1 q2 = some (104, n4) ∧ n4 < 2147483648) ∧ (
  (0 ≤ a1 ∧ a1 < n4) ∧ (
  ∃ q7 : Nat, (
  (R q2 a1.toNat = some q7) ∧ (
  ∃ n9 : Nat, (
  (X.2.1 q7 = some (100, n9) ∧ n9 < 2147483648) ∧ (
  (0 ≤ (0 : Int) ∧ (0 : Int) < n9) ∧ (
  (0 ≤ a1 ∧ a1 < n4) ∧ (
  ∃ q13 : Nat, (
  (R q2 a1.toNat = some q13) ∧ (
  ∃ n15 : Nat, (
  (X.2.1 q13 = some (100, n15) ∧ n15 < 2147483648) ∧ (
  (0 ≤ (2 : Int) ∧ (2 : Int) < n15) ∧ (
  ∃ Q18 : Option Value → jx_I → Prop, (
  (jc V 4 309 (0, 0) [.ref a0, jy ((I q7 (0 : Int).toNat).toInt), jy ((I q13 (2 : Int).toNat).toInt)] X I R Q18 (fun _ _ => False)) ∧ (
  ∀ rv I20, Q18 rv I20 → ∃ r21 : Int, rv = some (jy r21) ∧ (
  (0 ≤ a1 ∧ a1 < n4) ∧ (
  ∃ q23 : Nat, (
  (R q2 a1.toNat = some q23) ∧ (
  ∃ n25 : Nat, (
  (X.2.1 q23 = some (100, n25) ∧ n25 < 2147483648) ∧ (
  (0 ≤ (2 : Int) ∧ (2 : Int) < n25) ∧ (
  (0 ≤ a1 ∧ a1 < n4) ∧ (
  ∃ q29 : Nat, (
  (R q2 a1.toNat = some q29) ∧ (
  ∃ n31 : Nat, (
  (X.2.1 q29 = some (100, n31) ∧ n31 < 2147483648) ∧ (
  (0 ≤ (3 : Int) ∧ (3 : Int) < n31) ∧ (
  ∃ Q34 : Option Value → jx_I → Prop, (
  (jc V 4 309 (0, 0) [.ref a0, jy ((I20 q23 (2 : Int).toNat).toInt), jy ((I20 q29 (3 : Int).toNat).toInt)] X I20 R Q34 (fun _ _ => False)) ∧ (
  ∀ rv I36, Q34 rv I36 → ∃ r37 : Int, rv = some (jy r37) ∧ (
  (0 ≤ a1 ∧ a1 < n4) ∧ (
  ∃ q39 : Nat, (
  (R q2 a1.toNat = some q39) ∧ (
  ∃ n41 : Nat, (
  (X.2.1 q39 = some (100, n41) ∧ n41 < 2147483648) ∧ (
  (0 ≤ (1 : Int) ∧ (1 : Int) < n41) ∧ (
  ((I36 q39 (1 : Int).toNat).toInt ≠ 0 → (
    (0 ≤ a1 ∧ a1 < n4) ∧ (
    ∃ q45 : Nat, (
    (R q2 a1.toNat = some q45) ∧ (
    ∃ n47 : Nat, (
    (X.2.1 q45 = some (100, n47) ∧ n47 < 2147483648) ∧ (
    (0 ≤ (1 : Int) ∧ (1 : Int) < n47) ∧ (
    ((I36 q45 (1 : Int).toNat).toInt ≠ 1 → (
      (-2147483648 ≤ r21 ∧ r21 < 2147483648) ∧ (
      (-2147483648 ≤ r37 ∧ r37 < 2147483648) ∧ (
      (r21 ≠ r37 → (
        Q (some (jy 0)) I36
      )) ∧ (r21 = r37 → (
        Q (some (jy 1)) I36
      ))))
    )) ∧ ((I36 q45 (1 : Int).toNat).toInt = 1 → (
      (-2147483648 ≤ r21 ∧ r21 < 2147483648) ∧ (
      (-2147483648 ≤ r37 ∧ r37 < 2147483648) ∧ (
      (r21 ≤ r37 → (
        Q (some (jy 0)) I36
      )) ∧ (¬ r21 ≤ r37 → (
        Q (some (jy 1)) I36
      ))))
    ))))))))
  )) ∧ ((I36 q39 (1 : Int).toNat).toInt = 0 → (
    (-2147483648 ≤ r21 ∧ r21 < 2147483648) ∧ (
    (-2147483648 ≤ r37 ∧ r37 < 2147483648) ∧ (
    (r37 ≤ r21 → (
      Q (some (jy 0)) I36
    )) ∧ (¬ r37 ≤ r21 → (
      Q (some (jy 1)) I36
    ))))
  )))))))))))))))))))))))))))))))))))))))))))
set_option maxRecDepth 20000 in
theorem wm_310 {V : jx_V} (hV : V.1.stackTraces = false) {X : jx_X} {R : jx_R} {I : jx_I} {Q : Option Value → jx_I → Prop} {QE : String → jx_I → Prop} {a0 : Nat} {a1 : Int} (r_a1 : -2147483648 ≤ a1 ∧ a1 < 2147483648) 
    (h : wz_310 V X R Q QE  a0 a1 I) : jc V 5 310 (0, 0) [.ref a0, jy a1] X I R Q QE := by
  refine jy_met hV (by decide) (n := 4) (rt := some .boolean) (hh := []) (ini := false) (C := jx_c310) (L := [some (.ref a0), some (jy a1), none, none]) jt_310 (Nat.le_of_ble_eq_true rfl) rfl ?_
  intro J hS
  unfold wz_310 at h
  refine jy_aload_n hS rfl rfl ?_
  refine jy_aload_n hS rfl rfl ?_
  obtain ⟨g1, h⟩ := h
  obtain ⟨q2, h⟩ := h
  obtain ⟨g3, h⟩ := h
  refine jy_getR hS rfl (by decide) g1 g3 ?_
  refine jy_iload_n hS rfl rfl ?_
  obtain ⟨n4, h⟩ := h
  obtain ⟨g5, h⟩ := h
  obtain ⟨g6, h⟩ := h
  obtain ⟨q7, h⟩ := h
  obtain ⟨g8, h⟩ := h
  refine jy_aald hS rfl g5.1 (by decide) (Nat.le_of_lt g5.2) g6 g8 ?_
  refine jy_iconst hS rfl ?_
  obtain ⟨n9, h⟩ := h
  obtain ⟨g10, h⟩ := h
  obtain ⟨g11, h⟩ := h
  refine jy_iald hS rfl g10.1 (Nat.le_of_lt g10.2) g11 ?_
  refine jy_aload_n hS rfl rfl ?_
  refine jy_getR hS rfl (by decide) g1 g3 ?_
  refine jy_iload_n hS rfl rfl ?_
  obtain ⟨g12, h⟩ := h
  obtain ⟨q13, h⟩ := h
  obtain ⟨g14, h⟩ := h
  refine jy_aald hS rfl g5.1 (by decide) (Nat.le_of_lt g5.2) g12 g14 ?_
  refine jy_iconst hS rfl ?_
  obtain ⟨n15, h⟩ := h
  obtain ⟨g16, h⟩ := h
  obtain ⟨g17, h⟩ := h
  refine jy_iald hS rfl g16.1 (Nat.le_of_lt g16.2) g17 ?_
  obtain ⟨Q18, h⟩ := h
  obtain ⟨g19, h⟩ := h
  refine jy_callV hS rfl rfl rfl (Nat.le_of_ble_eq_true rfl) (Or.inl g1) g19 (by decide) ⟨by decide, by decide⟩ (Nat.le_of_ble_eq_true rfl) ?_ ?_
  rotate_left
  · exact fun Ex Xx Ix Rx hp => hp.2.2.2.elim
  intro rv Xx I20 Rx hp
  obtain ⟨e1, e2, hp⟩ := hp
  rw [e1, e2]
  clear e1 e2
  obtain ⟨r21, e1, h⟩ := h rv I20 hp
  rw [e1]
  clear e1
  change J 20 [jy r21] _ (0, 0) _ _ _
  refine jy_istore_n hS rfl (Nat.le_of_ble_eq_true rfl) (L' := [some (.ref a0), some (jy a1), some (jy r21), none]) rfl ?_
  refine jy_aload_n hS rfl rfl ?_
  refine jy_aload_n hS rfl rfl ?_
  refine jy_getR hS rfl (by decide) g1 g3 ?_
  refine jy_iload_n hS rfl rfl ?_
  obtain ⟨g22, h⟩ := h
  obtain ⟨q23, h⟩ := h
  obtain ⟨g24, h⟩ := h
  refine jy_aald hS rfl g5.1 (by decide) (Nat.le_of_lt g5.2) g22 g24 ?_
  refine jy_iconst hS rfl ?_
  obtain ⟨n25, h⟩ := h
  obtain ⟨g26, h⟩ := h
  obtain ⟨g27, h⟩ := h
  refine jy_iald hS rfl g26.1 (Nat.le_of_lt g26.2) g27 ?_
  refine jy_aload_n hS rfl rfl ?_
  refine jy_getR hS rfl (by decide) g1 g3 ?_
  refine jy_iload_n hS rfl rfl ?_
  obtain ⟨g28, h⟩ := h
  obtain ⟨q29, h⟩ := h
  obtain ⟨g30, h⟩ := h
  refine jy_aald hS rfl g5.1 (by decide) (Nat.le_of_lt g5.2) g28 g30 ?_
  refine jy_iconst hS rfl ?_
  obtain ⟨n31, h⟩ := h
  obtain ⟨g32, h⟩ := h
  obtain ⟨g33, h⟩ := h
  refine jy_iald hS rfl g32.1 (Nat.le_of_lt g32.2) g33 ?_
  obtain ⟨Q34, h⟩ := h
  obtain ⟨g35, h⟩ := h
  refine jy_callV hS rfl rfl rfl (Nat.le_of_ble_eq_true rfl) (Or.inl g1) g35 (by decide) ⟨by decide, by decide⟩ (Nat.le_of_ble_eq_true rfl) ?_ ?_
  rotate_left
  · exact fun Ex Xx Ix Rx hp => hp.2.2.2.elim
  intro rv Xx I36 Rx hp
  obtain ⟨e1, e2, hp⟩ := hp
  rw [e1, e2]
  clear e1 e2
  obtain ⟨r37, e1, h⟩ := h rv I36 hp
  rw [e1]
  clear e1
  change J 41 [jy r37] _ (0, 0) _ _ _
  refine jy_istore_n hS rfl (Nat.le_of_ble_eq_true rfl) (L' := [some (.ref a0), some (jy a1), some (jy r21), some (jy r37)]) rfl ?_
  refine jy_aload_n hS rfl rfl ?_
  refine jy_getR hS rfl (by decide) g1 g3 ?_
  refine jy_iload_n hS rfl rfl ?_
  obtain ⟨g38, h⟩ := h
  obtain ⟨q39, h⟩ := h
  obtain ⟨g40, h⟩ := h
  refine jy_aald hS rfl g5.1 (by decide) (Nat.le_of_lt g5.2) g38 g40 ?_
  refine jy_iconst hS rfl ?_
  obtain ⟨n41, h⟩ := h
  obtain ⟨g42, h⟩ := h
  obtain ⟨g43, h⟩ := h
  refine jy_iald hS rfl g42.1 (Nat.le_of_lt g42.2) g43 ?_
  refine jy_if_ne hS rfl (jy_rng _) (fun hq => ?_) (fun hq => ?_)
  · have h := h.1 hq
    refine jy_aload_n hS rfl rfl ?_
    refine jy_getR hS rfl (by decide) g1 g3 ?_
    refine jy_iload_n hS rfl rfl ?_
    obtain ⟨g44, h⟩ := h
    obtain ⟨q45, h⟩ := h
    obtain ⟨g46, h⟩ := h
    refine jy_aald hS rfl g5.1 (by decide) (Nat.le_of_lt g5.2) g44 g46 ?_
    refine jy_iconst hS rfl ?_
    obtain ⟨n47, h⟩ := h
    obtain ⟨g48, h⟩ := h
    obtain ⟨g49, h⟩ := h
    refine jy_iald hS rfl g48.1 (Nat.le_of_lt g48.2) g49 ?_
    refine jy_iconst hS rfl ?_
    refine jy_icmp_ne hS rfl ⟨(jy_rng _), ⟨by decide, by decide⟩⟩ (fun hq => ?_) (fun hq => ?_)
    · have h := h.1 hq
      refine jy_iload_n hS rfl rfl ?_
      refine jy_iload_n hS rfl rfl ?_
      obtain ⟨g50, h⟩ := h
      obtain ⟨g51, h⟩ := h
      refine jy_icmp_ne hS rfl ⟨g50, g51⟩ (fun hq => ?_) (fun hq => ?_)
      · have h := h.1 hq
        refine jy_iconst hS rfl ?_
        exact jy_iret hS rfl rfl ⟨rfl, rfl, h⟩
      · have h := h.2 hq
        refine jy_iconst hS rfl ?_
        refine jy_goto hS rfl ?_
        exact jy_iret hS rfl rfl ⟨rfl, rfl, h⟩
    · have h := h.2 hq
      refine jy_iload_n hS rfl rfl ?_
      refine jy_iload_n hS rfl rfl ?_
      obtain ⟨g52, h⟩ := h
      obtain ⟨g53, h⟩ := h
      refine jy_icmp_le hS rfl ⟨g52, g53⟩ (fun hq => ?_) (fun hq => ?_)
      · have h := h.1 hq
        refine jy_iconst hS rfl ?_
        refine jy_goto hS rfl ?_
        exact jy_iret hS rfl rfl ⟨rfl, rfl, h⟩
      · have h := h.2 hq
        refine jy_iconst hS rfl ?_
        refine jy_goto hS rfl ?_
        exact jy_iret hS rfl rfl ⟨rfl, rfl, h⟩
  · have h := h.2 hq
    refine jy_iload_n hS rfl rfl ?_
    refine jy_iload_n hS rfl rfl ?_
    obtain ⟨g54, h⟩ := h
    obtain ⟨g55, h⟩ := h
    refine jy_icmp_ge hS rfl ⟨g54, g55⟩ (fun hq => ?_) (fun hq => ?_)
    · have h := h.1 hq
      refine jy_iconst hS rfl ?_
      refine jy_goto hS rfl ?_
      exact jy_iret hS rfl rfl ⟨rfl, rfl, h⟩
    · have h := h.2 hq
      refine jy_iconst hS rfl ?_
      refine jy_goto hS rfl ?_
      exact jy_iret hS rfl rfl ⟨rfl, rfl, h⟩
theorem jt_311 : jx_ml 311 = 4 ∧ jx_rt 311 = none ∧ jx_hz 311 = [] ∧ decide ((jx_nm 311).name = "<init>") = false ∧ jx_code 311 = jx_c311 := by decide +kernel
/-- GCModel.leaves, from 4 -/
def wz_311_4 (V : jx_V) (X : jx_X) (R : jx_R) (Q : Option Value → jx_I → Prop) (QE : String → jx_I → Prop) (J4 : Int → Int → jx_I → Prop) (J40 : Int → Int → jx_I → Prop) (a0 : Nat) (a1 : Int) (l2 : Int) (l3 : Int) (I : jx_I) : Prop :=
  (X.2.1 a0 = some (12, 0)) ∧ (
  (-2147483648 ≤ l3 ∧ l3 < 2147483648) ∧ (
  ((I a0 46).toInt ≤ l3 → (
    ∀ I3 : jx_I, I3 = jx_u I a0 46 (Int32.ofInt l2) → (
    Q none I3)
  )) ∧ (¬ (I a0 46).toInt ≤ l3 → (
    ∃ q4 : Nat, (
    (R a0 44 = some q4) ∧ (
    ∃ n6 : Nat, (
    (X.2.1 q4 = some (100, n6) ∧ n6 < 2147483648) ∧ (
    (0 ≤ l3 ∧ l3 < n6) ∧ (
    ((I q4 l3.toNat).toInt ≠ a1 → (
      (0 ≤ l3 ∧ l3 < n6) ∧ (
      (0 ≤ l2 ∧ l2 < n6) ∧ (
      ∀ I11 : jx_I, I11 = jx_u I q4 l2.toNat (Int32.ofInt ((I q4 l3.toNat).toInt)) → (
      J40 (l2 + 1) l3 I11)))
    )) ∧ ((I q4 l3.toNat).toInt = a1 → (
      J40 l2 l3 I
    )))))))
  ))))
/-- GCModel.leaves, from 40 -/
def wz_311_40 (V : jx_V) (X : jx_X) (R : jx_R) (Q : Option Value → jx_I → Prop) (QE : String → jx_I → Prop) (J4 : Int → Int → jx_I → Prop) (J40 : Int → Int → jx_I → Prop) (a0 : Nat) (a1 : Int) (l2 : Int) (l3 : Int) (I : jx_I) : Prop :=
  J4 l2 (l3 + 1) I
/-- GCModel.leaves -/
def wz_311 (V : jx_V) (X : jx_X) (R : jx_R) (Q : Option Value → jx_I → Prop) (QE : String → jx_I → Prop) (J4 : Int → Int → jx_I → Prop) (J40 : Int → Int → jx_I → Prop) (a0 : Nat) (a1 : Int) (I : jx_I) : Prop :=
  J4 0 0 I
set_option maxRecDepth 20000 in
theorem wm_311 {V : jx_V} (hV : V.1.stackTraces = false) {X : jx_X} {R : jx_R} {I : jx_I} {Q : Option Value → jx_I → Prop} {QE : String → jx_I → Prop} {a0 : Nat} {a1 : Int} (r_a1 : -2147483648 ≤ a1 ∧ a1 < 2147483648) 
    (h : ∀ (J4 : Int → Int → jx_I → Prop) (J40 : Int → Int → jx_I → Prop), ((∀ (l2 : Int) (l3 : Int) I, wz_311_4 V X R Q QE J4 J40 a0 a1 l2 l3 I → J4 l2 l3 I) ∧ (∀ (l2 : Int) (l3 : Int) I, wz_311_40 V X R Q QE J4 J40 a0 a1 l2 l3 I → J40 l2 l3 I)) → wz_311 V X R Q QE J4 J40 a0 a1 I) : jc V 1 311 (0, 0) [.ref a0, jy a1] X I R Q QE := by
  refine jy_met hV (by decide) (n := 4) (rt := none) (hh := []) (ini := false) (C := jx_c311) (L := [some (.ref a0), some (jy a1), none, none]) jt_311 (Nat.le_of_ble_eq_true rfl) rfl ?_
  intro J hS
  have h := h (fun l2 l3 I => J 4 [] [some (.ref a0), some (jy a1), some (jy l2), some (jy l3)] (0, 0) X I R) (fun l2 l3 I => J 40 [] [some (.ref a0), some (jy a1), some (jy l2), some (jy l3)] (0, 0) X I R) ?_
  · unfold wz_311 at h
    refine jy_iconst hS rfl ?_
    refine jy_istore_n hS rfl (Nat.le_of_ble_eq_true rfl) (L' := [some (.ref a0), some (jy a1), some (jy 0), none]) rfl ?_
    refine jy_iconst hS rfl ?_
    refine jy_istore_n hS rfl (Nat.le_of_ble_eq_true rfl) (L' := [some (.ref a0), some (jy a1), some (jy 0), some (jy 0)]) rfl ?_
    exact jy_join hS h rfl (jy_sub_s (jy_sub_s (jy_sub_s (jy_sub_s jy_sub_0))))
  refine ⟨?_, ?_⟩
  · intro l2 l3 I h
    unfold wz_311_4 at h
    refine jy_iload_n hS rfl rfl ?_
    refine jy_aload_n hS rfl rfl ?_
    obtain ⟨g1, h⟩ := h
    refine jy_getI hS rfl (by decide) g1 ?_
    obtain ⟨g2, h⟩ := h
    refine jy_icmp_ge hS rfl ⟨g2, (jy_rng _)⟩ (fun hq => ?_) (fun hq => ?_)
    · have h := h.1 hq
      refine jy_aload_n hS rfl rfl ?_
      refine jy_iload_n hS rfl rfl ?_
      refine jy_putI hS rfl (by decide) g1 ?_
      intro I3 e9
      have h := h I3 e9
      clear e9
      exact jy_ret hS rfl rfl ⟨rfl, rfl, h⟩
    · have h := h.2 hq
      refine jy_aload_n hS rfl rfl ?_
      obtain ⟨q4, h⟩ := h
      obtain ⟨g5, h⟩ := h
      refine jy_getR hS rfl (by decide) g1 g5 ?_
      refine jy_iload_n hS rfl rfl ?_
      obtain ⟨n6, h⟩ := h
      obtain ⟨g7, h⟩ := h
      obtain ⟨g8, h⟩ := h
      refine jy_iald hS rfl g7.1 (Nat.le_of_lt g7.2) g8 ?_
      refine jy_iload_n hS rfl rfl ?_
      refine jy_icmp_ne hS rfl ⟨(jy_rng _), r_a1⟩ (fun hq => ?_) (fun hq => ?_)
      · have h := h.1 hq
        refine jy_aload_n hS rfl rfl ?_
        refine jy_getR hS rfl (by decide) g1 g5 ?_
        refine jy_iload_n hS rfl rfl ?_
        refine jy_aload_n hS rfl rfl ?_
        refine jy_getR hS rfl (by decide) g1 g5 ?_
        refine jy_iload_n hS rfl rfl ?_
        obtain ⟨g9, h⟩ := h
        refine jy_iald hS rfl g7.1 (Nat.le_of_lt g7.2) g9 ?_
        obtain ⟨g10, h⟩ := h
        refine jy_iast hS rfl g7.1 (Nat.le_of_lt g7.2) g10 ?_
        intro I11 e9
        have h := h I11 e9
        clear e9
        refine jy_iinc hS rfl rfl (L' := [some (.ref a0), some (jy a1), some (jy (l2 + 1)), some (jy l3)]) rfl ?_
        exact jy_join hS h rfl (jy_sub_s (jy_sub_s (jy_sub_s (jy_sub_s jy_sub_0))))
      · have h := h.2 hq
        refine jy_goto hS rfl ?_
        exact jy_join hS h rfl (jy_sub_s (jy_sub_s (jy_sub_s (jy_sub_s jy_sub_0))))
  · intro l2 l3 I h
    unfold wz_311_40 at h
    refine jy_iinc hS rfl rfl (L' := [some (.ref a0), some (jy a1), some (jy l2), some (jy (l3 + 1))]) rfl ?_
    refine jy_goto hS rfl ?_
    exact jy_join hS h rfl (jy_sub_s (jy_sub_s (jy_sub_s (jy_sub_s jy_sub_0))))
theorem jt_312 : jx_ml 312 = 2 ∧ jx_rt 312 = none ∧ jx_hz 312 = [] ∧ decide ((jx_nm 312).name = "<init>") = false ∧ jx_code 312 = jx_c312 := by decide +kernel
/-- GCModel.joins -/
def wz_312 (V : jx_V) (X : jx_X) (R : jx_R) (Q : Option Value → jx_I → Prop) (QE : String → jx_I → Prop)  (a0 : Nat) (a1 : Int) (I : jx_I) : Prop :=
  (X.2.1 a0 = some (12, 0)) ∧ (
  ∃ Q2 : Option Value → jx_I → Prop, (
  (jc V 1 252 (0, 0) [.ref a0, jy a1] X I R Q2 (fun _ _ => False)) ∧ (
  ∀ rv I4, Q2 rv I4 → ∃ r5 : Int, rv = some (jy r5) ∧ (
  (-2147483648 ≤ r5 ∧ r5 < 2147483648) ∧ (
  (r5 = 0 → (
    ∃ q7 : Nat, (
    (R a0 44 = some q7) ∧ (
    ∃ n9 : Nat, (
    (X.2.1 q7 = some (100, n9) ∧ n9 < 2147483648) ∧ (
    (0 ≤ (I4 a0 46).toInt ∧ (I4 a0 46).toInt < n9) ∧ (
    ∀ I12 : jx_I, I12 = jx_u I4 q7 ((I4 a0 46).toInt).toNat (Int32.ofInt a1) → (
    ∀ I13 : jx_I, I13 = jx_u I12 a0 46 (Int32.ofInt ((I12 a0 46).toInt + 1)) → (
    Q none I13)))))))
  )) ∧ (¬ r5 = 0 → (
    Q none I4
  )))))))
set_option maxRecDepth 20000 in
theorem wm_312 {V : jx_V} (hV : V.1.stackTraces = false) {X : jx_X} {R : jx_R} {I : jx_I} {Q : Option Value → jx_I → Prop} {QE : String → jx_I → Prop} {a0 : Nat} {a1 : Int} (r_a1 : -2147483648 ≤ a1 ∧ a1 < 2147483648) 
    (h : wz_312 V X R Q QE  a0 a1 I) : jc V 2 312 (0, 0) [.ref a0, jy a1] X I R Q QE := by
  refine jy_met hV (by decide) (n := 2) (rt := none) (hh := []) (ini := false) (C := jx_c312) (L := [some (.ref a0), some (jy a1)]) jt_312 (Nat.le_of_ble_eq_true rfl) rfl ?_
  intro J hS
  unfold wz_312 at h
  refine jy_aload_n hS rfl rfl ?_
  refine jy_iload_n hS rfl rfl ?_
  obtain ⟨g1, h⟩ := h
  obtain ⟨Q2, h⟩ := h
  obtain ⟨g3, h⟩ := h
  refine jy_callV hS rfl rfl rfl (Nat.le_of_ble_eq_true rfl) (Or.inl g1) g3 (by decide) ⟨by decide, by decide⟩ (Nat.le_of_ble_eq_true rfl) ?_ ?_
  rotate_left
  · exact fun Ex Xx Ix Rx hp => hp.2.2.2.elim
  intro rv Xx I4 Rx hp
  obtain ⟨e1, e2, hp⟩ := hp
  rw [e1, e2]
  clear e1 e2
  obtain ⟨r5, e1, h⟩ := h rv I4 hp
  rw [e1]
  clear e1
  change J 5 [jy r5] _ (0, 0) _ _ _
  obtain ⟨g6, h⟩ := h
  refine jy_if_eq hS rfl g6 (fun hq => ?_) (fun hq => ?_)
  · have h := h.1 hq
    refine jy_aload_n hS rfl rfl ?_
    obtain ⟨q7, h⟩ := h
    obtain ⟨g8, h⟩ := h
    refine jy_getR hS rfl (by decide) g1 g8 ?_
    refine jy_aload_n hS rfl rfl ?_
    refine jy_getI hS rfl (by decide) g1 ?_
    refine jy_iload_n hS rfl rfl ?_
    obtain ⟨n9, h⟩ := h
    obtain ⟨g10, h⟩ := h
    obtain ⟨g11, h⟩ := h
    refine jy_iast hS rfl g10.1 (Nat.le_of_lt g10.2) g11 ?_
    intro I12 e9
    have h := h I12 e9
    clear e9
    refine jy_aload_n hS rfl rfl ?_
    refine jy_dup hS rfl rfl ?_
    refine jy_getI hS rfl (by decide) g1 ?_
    refine jy_iconst hS rfl ?_
    refine jy_iadd hS rfl ?_
    refine jy_putI hS rfl (by decide) g1 ?_
    intro I13 e9
    have h := h I13 e9
    clear e9
    exact jy_ret hS rfl rfl ⟨rfl, rfl, h⟩
  · have h := h.2 hq
    exact jy_ret hS rfl rfl ⟨rfl, rfl, h⟩
theorem jt_313 : jx_ml 313 = 3 ∧ jx_rt 313 = none ∧ jx_hz 313 = [] ∧ decide ((jx_nm 313).name = "<init>") = false ∧ jx_code 313 = jx_c313 := by decide +kernel
/-- GCModel.leads, from 10 -/
def wz_313_10 (V : jx_V) (X : jx_X) (R : jx_R) (Q : Option Value → jx_I → Prop) (QE : String → jx_I → Prop) (J10 : Int → jx_I → Prop) (a0 : Nat) (a1 : Int) (l2 : Int) (I : jx_I) : Prop :=
  (-2147483648 ≤ l2 ∧ l2 < 2147483648) ∧ (
  (l2 ≤ 0 → (
    (X.2.1 a0 = some (12, 0)) ∧ (
    ∃ q8 : Nat, (
    (R a0 44 = some q8) ∧ (
    ∃ n10 : Nat, (
    (X.2.1 q8 = some (100, n10) ∧ n10 < 2147483648) ∧ (
    (0 ≤ (0 : Int) ∧ (0 : Int) < n10) ∧ (
    ∀ I13 : jx_I, I13 = jx_u I q8 (0 : Int).toNat (Int32.ofInt a1) → (
    ∀ I14 : jx_I, I14 = jx_u I13 a0 46 (Int32.ofInt ((I13 a0 46).toInt + 1)) → (
    Q none I14))))))))
  )) ∧ (¬ l2 ≤ 0 → (
    (X.2.1 a0 = some (12, 0)) ∧ (
    ∃ q16 : Nat, (
    (R a0 44 = some q16) ∧ (
    ∃ n18 : Nat, (
    (X.2.1 q16 = some (100, n18) ∧ n18 < 2147483648) ∧ (
    (0 ≤ (l2 - 1) ∧ (l2 - 1) < n18) ∧ (
    (0 ≤ l2 ∧ l2 < n18) ∧ (
    ∀ I22 : jx_I, I22 = jx_u I q16 l2.toNat (Int32.ofInt ((I q16 (l2 - 1).toNat).toInt)) → (
    J10 (l2 + (-1)) I22))))))))
  )))
/-- GCModel.leads -/
def wz_313 (V : jx_V) (X : jx_X) (R : jx_R) (Q : Option Value → jx_I → Prop) (QE : String → jx_I → Prop) (J10 : Int → jx_I → Prop) (a0 : Nat) (a1 : Int) (I : jx_I) : Prop :=
  (X.2.1 a0 = some (12, 0)) ∧ (
  ∃ Q2 : Option Value → jx_I → Prop, (
  (jc V 1 311 (0, 0) [.ref a0, jy a1] X I R Q2 (fun _ _ => False)) ∧ (
  ∀ rv I4, Q2 rv I4 → rv = none ∧ (
  J10 ((I4 a0 46).toInt) I4))))
set_option maxRecDepth 20000 in
theorem wm_313 {V : jx_V} (hV : V.1.stackTraces = false) {X : jx_X} {R : jx_R} {I : jx_I} {Q : Option Value → jx_I → Prop} {QE : String → jx_I → Prop} {a0 : Nat} {a1 : Int} (r_a1 : -2147483648 ≤ a1 ∧ a1 < 2147483648) 
    (h : ∀ (J10 : Int → jx_I → Prop), ((∀ (l2 : Int) I, wz_313_10 V X R Q QE J10 a0 a1 l2 I → J10 l2 I)) → wz_313 V X R Q QE J10 a0 a1 I) : jc V 2 313 (0, 0) [.ref a0, jy a1] X I R Q QE := by
  refine jy_met hV (by decide) (n := 3) (rt := none) (hh := []) (ini := false) (C := jx_c313) (L := [some (.ref a0), some (jy a1), none]) jt_313 (Nat.le_of_ble_eq_true rfl) rfl ?_
  intro J hS
  have h := h (fun l2 I => J 10 [] [some (.ref a0), some (jy a1), some (jy l2)] (0, 0) X I R) ?_
  · unfold wz_313 at h
    refine jy_aload_n hS rfl rfl ?_
    refine jy_iload_n hS rfl rfl ?_
    obtain ⟨g1, h⟩ := h
    obtain ⟨Q2, h⟩ := h
    obtain ⟨g3, h⟩ := h
    refine jy_callV hS rfl rfl rfl (Nat.le_of_ble_eq_true rfl) (Or.inl g1) g3 (by decide) ⟨by decide, by decide⟩ (Nat.le_of_ble_eq_true rfl) ?_ ?_
    rotate_left
    · exact fun Ex Xx Ix Rx hp => hp.2.2.2.elim
    intro rv Xx I4 Rx hp
    obtain ⟨e1, e2, hp⟩ := hp
    rw [e1, e2]
    clear e1 e2
    obtain ⟨e1, h⟩ := h rv I4 hp
    rw [e1]
    clear e1
    change J 5 [] _ (0, 0) _ _ _
    refine jy_aload_n hS rfl rfl ?_
    refine jy_getI hS rfl (by decide) g1 ?_
    refine jy_istore_n hS rfl (Nat.le_of_ble_eq_true rfl) (L' := [some (.ref a0), some (jy a1), some (jy ((I4 a0 46).toInt))]) rfl ?_
    exact jy_join hS h rfl (jy_sub_s (jy_sub_s (jy_sub_s jy_sub_0)))
  · intro l2 I h
    unfold wz_313_10 at h
    refine jy_iload_n hS rfl rfl ?_
    obtain ⟨g6, h⟩ := h
    refine jy_if_le hS rfl g6 (fun hq => ?_) (fun hq => ?_)
    · have h := h.1 hq
      refine jy_aload_n hS rfl rfl ?_
      obtain ⟨g7, h⟩ := h
      obtain ⟨q8, h⟩ := h
      obtain ⟨g9, h⟩ := h
      refine jy_getR hS rfl (by decide) g7 g9 ?_
      refine jy_iconst hS rfl ?_
      refine jy_iload_n hS rfl rfl ?_
      obtain ⟨n10, h⟩ := h
      obtain ⟨g11, h⟩ := h
      obtain ⟨g12, h⟩ := h
      refine jy_iast hS rfl g11.1 (Nat.le_of_lt g11.2) g12 ?_
      intro I13 e9
      have h := h I13 e9
      clear e9
      refine jy_aload_n hS rfl rfl ?_
      refine jy_dup hS rfl rfl ?_
      refine jy_getI hS rfl (by decide) g7 ?_
      refine jy_iconst hS rfl ?_
      refine jy_iadd hS rfl ?_
      refine jy_putI hS rfl (by decide) g7 ?_
      intro I14 e9
      have h := h I14 e9
      clear e9
      exact jy_ret hS rfl rfl ⟨rfl, rfl, h⟩
    · have h := h.2 hq
      refine jy_aload_n hS rfl rfl ?_
      obtain ⟨g15, h⟩ := h
      obtain ⟨q16, h⟩ := h
      obtain ⟨g17, h⟩ := h
      refine jy_getR hS rfl (by decide) g15 g17 ?_
      refine jy_iload_n hS rfl rfl ?_
      refine jy_aload_n hS rfl rfl ?_
      refine jy_getR hS rfl (by decide) g15 g17 ?_
      refine jy_iload_n hS rfl rfl ?_
      refine jy_iconst hS rfl ?_
      refine jy_isub hS rfl ?_
      obtain ⟨n18, h⟩ := h
      obtain ⟨g19, h⟩ := h
      obtain ⟨g20, h⟩ := h
      refine jy_iald hS rfl g19.1 (Nat.le_of_lt g19.2) g20 ?_
      obtain ⟨g21, h⟩ := h
      refine jy_iast hS rfl g19.1 (Nat.le_of_lt g19.2) g21 ?_
      intro I22 e9
      have h := h I22 e9
      clear e9
      refine jy_iinc hS rfl rfl (L' := [some (.ref a0), some (jy a1), some (jy (l2 + (-1)))]) rfl ?_
      refine jy_goto hS rfl ?_
      exact jy_join hS h rfl (jy_sub_s (jy_sub_s (jy_sub_s jy_sub_0)))
theorem jt_314 : jx_ml 314 = 2 ∧ jx_rt 314 = none ∧ jx_hz 314 = [] ∧ decide ((jx_nm 314).name = "<init>") = false ∧ jx_code 314 = jx_c314 := by decide +kernel
/-- GCModel.walks -/
def wz_314 (V : jx_V) (X : jx_X) (R : jx_R) (Q : Option Value → jx_I → Prop) (QE : String → jx_I → Prop)  (a0 : Nat) (a1 : Int) (I : jx_I) : Prop :=
  (X.2.1 a0 = some (12, 0)) ∧ (
  ∃ q2 : Nat, (
  (R a0 21 = some q2) ∧ (
  ∃ n4 : Nat, (
  (X.2.1 q2 = some (104, n4) ∧ n4 < 2147483648) ∧ (
  (0 ≤ (I a0 66).toInt ∧ (I a0 66).toInt < n4) ∧ (
  ∃ q7 : Nat, (
  (R q2 ((I a0 66).toInt).toNat = some q7) ∧ (
  ∃ n9 : Nat, (
  (X.2.1 q7 = some (100, n9) ∧ n9 < 2147483648) ∧ (
  (0 ≤ a1 ∧ a1 < n9) ∧ (
  ((I q7 a1.toNat).toInt ≠ 0 → (
    (0 ≤ (I a0 66).toInt ∧ (I a0 66).toInt < n4) ∧ (
    ∃ q13 : Nat, (
    (R q2 ((I a0 66).toInt).toNat = some q13) ∧ (
    ∃ n15 : Nat, (
    (X.2.1 q13 = some (100, n15) ∧ n15 < 2147483648) ∧ (
    (0 ≤ a1 ∧ a1 < n15) ∧ (
    ∀ I18 : jx_I, I18 = jx_u I a0 67 (Int32.ofInt ((I a0 67).toInt + (I q13 a1.toNat).toInt)) → (
    ∃ Q19 : Option Value → jx_I → Prop, (
    (jc V 4 255 (0, 0) [.ref a0, jy a1] X I18 R Q19 (fun _ _ => False)) ∧ (
    ∀ rv I21, Q19 rv I21 → ∃ r22 : Int, rv = some (jy r22) ∧ (
    ∀ I23 : jx_I, I23 = jx_u I21 a0 67 (Int32.ofInt ((I18 a0 67).toInt + r22)) → (
    ∀ I24 : jx_I, I24 = jx_u I23 a0 66 (Int32.ofInt a1) → (
    Q none I24))))))))))))
  )) ∧ ((I q7 a1.toNat).toInt = 0 → (
    ∀ I25 : jx_I, I25 = jx_u I a0 68 (Int32.ofInt ((I a0 68).toInt + 1)) → (
    Q none I25)
  )))))))))))))
set_option maxRecDepth 20000 in
theorem wm_314 {V : jx_V} (hV : V.1.stackTraces = false) {X : jx_X} {R : jx_R} {I : jx_I} {Q : Option Value → jx_I → Prop} {QE : String → jx_I → Prop} {a0 : Nat} {a1 : Int} (r_a1 : -2147483648 ≤ a1 ∧ a1 < 2147483648) 
    (h : wz_314 V X R Q QE  a0 a1 I) : jc V 5 314 (0, 0) [.ref a0, jy a1] X I R Q QE := by
  refine jy_met hV (by decide) (n := 2) (rt := none) (hh := []) (ini := false) (C := jx_c314) (L := [some (.ref a0), some (jy a1)]) jt_314 (Nat.le_of_ble_eq_true rfl) rfl ?_
  intro J hS
  unfold wz_314 at h
  refine jy_aload_n hS rfl rfl ?_
  obtain ⟨g1, h⟩ := h
  obtain ⟨q2, h⟩ := h
  obtain ⟨g3, h⟩ := h
  refine jy_getR hS rfl (by decide) g1 g3 ?_
  refine jy_aload_n hS rfl rfl ?_
  refine jy_getI hS rfl (by decide) g1 ?_
  obtain ⟨n4, h⟩ := h
  obtain ⟨g5, h⟩ := h
  obtain ⟨g6, h⟩ := h
  obtain ⟨q7, h⟩ := h
  obtain ⟨g8, h⟩ := h
  refine jy_aald hS rfl g5.1 (by decide) (Nat.le_of_lt g5.2) g6 g8 ?_
  refine jy_iload_n hS rfl rfl ?_
  obtain ⟨n9, h⟩ := h
  obtain ⟨g10, h⟩ := h
  obtain ⟨g11, h⟩ := h
  refine jy_iald hS rfl g10.1 (Nat.le_of_lt g10.2) g11 ?_
  refine jy_if_ne hS rfl (jy_rng _) (fun hq => ?_) (fun hq => ?_)
  · have h := h.1 hq
    refine jy_aload_n hS rfl rfl ?_
    refine jy_dup hS rfl rfl ?_
    refine jy_getI hS rfl (by decide) g1 ?_
    refine jy_aload_n hS rfl rfl ?_
    refine jy_getR hS rfl (by decide) g1 g3 ?_
    refine jy_aload_n hS rfl rfl ?_
    refine jy_getI hS rfl (by decide) g1 ?_
    obtain ⟨g12, h⟩ := h
    obtain ⟨q13, h⟩ := h
    obtain ⟨g14, h⟩ := h
    refine jy_aald hS rfl g5.1 (by decide) (Nat.le_of_lt g5.2) g12 g14 ?_
    refine jy_iload_n hS rfl rfl ?_
    obtain ⟨n15, h⟩ := h
    obtain ⟨g16, h⟩ := h
    obtain ⟨g17, h⟩ := h
    refine jy_iald hS rfl g16.1 (Nat.le_of_lt g16.2) g17 ?_
    refine jy_iadd hS rfl ?_
    refine jy_putI hS rfl (by decide) g1 ?_
    intro I18 e9
    have h := h I18 e9
    clear e9
    refine jy_aload_n hS rfl rfl ?_
    refine jy_dup hS rfl rfl ?_
    refine jy_getI hS rfl (by decide) g1 ?_
    refine jy_aload_n hS rfl rfl ?_
    refine jy_iload_n hS rfl rfl ?_
    obtain ⟨Q19, h⟩ := h
    obtain ⟨g20, h⟩ := h
    refine jy_callV hS rfl rfl rfl (Nat.le_of_ble_eq_true rfl) (Or.inl g1) g20 (by decide) ⟨by decide, by decide⟩ (Nat.le_of_ble_eq_true rfl) ?_ ?_
    rotate_left
    · exact fun Ex Xx Ix Rx hp => hp.2.2.2.elim
    intro rv Xx I21 Rx hp
    obtain ⟨e1, e2, hp⟩ := hp
    rw [e1, e2]
    clear e1 e2
    obtain ⟨r22, e1, h⟩ := h rv I21 hp
    rw [e1]
    clear e1
    change J 55 [jy r22, jy ((I18 a0 67).toInt), .ref a0] _ (0, 0) _ _ _
    refine jy_iadd hS rfl ?_
    refine jy_putI hS rfl (by decide) g1 ?_
    intro I23 e9
    have h := h I23 e9
    clear e9
    refine jy_aload_n hS rfl rfl ?_
    refine jy_iload_n hS rfl rfl ?_
    refine jy_putI hS rfl (by decide) g1 ?_
    intro I24 e9
    have h := h I24 e9
    clear e9
    exact jy_ret hS rfl rfl ⟨rfl, rfl, h⟩
  · have h := h.2 hq
    refine jy_aload_n hS rfl rfl ?_
    refine jy_dup hS rfl rfl ?_
    refine jy_getI hS rfl (by decide) g1 ?_
    refine jy_iconst hS rfl ?_
    refine jy_iadd hS rfl ?_
    refine jy_putI hS rfl (by decide) g1 ?_
    intro I25 e9
    have h := h I25 e9
    clear e9
    exact jy_ret hS rfl rfl ⟨rfl, rfl, h⟩
