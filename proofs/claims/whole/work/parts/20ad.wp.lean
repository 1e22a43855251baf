theorem jt_63 : jx_ml 63 = 6 ∧ jx_rt 63 = some .boolean ∧ jx_hz 63 = [] ∧ decide ((jx_nm 63).name = "<init>") = false ∧ jx_code 63 = jx_c63 := by decide +kernel
/-- GC$Plan.readTerm, from 68 -/
def wz_63_68 (V : jx_V) (X : jx_X) (R : jx_R) (Q : Option Value → jx_I → Prop) (QE : String → jx_I → Prop) (J68 : Int → Int → jx_I → Prop) (a0 : Nat) (a1 : Nat) (a2 : Nat) (a3 : Int) (l4 : Int) (l5 : Int) (I : jx_I) : Prop :=
  (-2147483648 ≤ l5 ∧ l5 < 2147483648) ∧ (
  (0 ≤ l5 → (
    (X.2.1 a0 = some (4, 0)) ∧ (
    ((I a0 12).toInt < 200 → (
      ∃ q57 : Nat, (
      (R a0 8 = some q57) ∧ (
      ∃ n59 : Nat, (
      (X.2.1 q57 = some (100, n59) ∧ n59 < 2147483648) ∧ (
      (0 ≤ (I a0 12).toInt ∧ (I a0 12).toInt < n59) ∧ (
      ∀ I62 : jx_I, I62 = jx_u I q57 ((I a0 12).toInt).toNat (Int32.ofInt l4) → (
      ∃ q63 : Nat, (
      (R a0 9 = some q63) ∧ (
      ∃ n65 : Nat, (
      (X.2.1 q63 = some (100, n65) ∧ n65 < 2147483648) ∧ (
      (0 ≤ (I62 a0 12).toInt ∧ (I62 a0 12).toInt < n65) ∧ (
      ∀ I68 : jx_I, I68 = jx_u I62 q63 ((I62 a0 12).toInt).toNat (Int32.ofInt l5) → (
      ∃ q69 : Nat, (
      (R a0 10 = some q69) ∧ (
      ∃ n71 : Nat, (
      (X.2.1 q69 = some (100, n71) ∧ n71 < 2147483648) ∧ (
      (0 ≤ (I68 a0 12).toInt ∧ (I68 a0 12).toInt < n71) ∧ (
      ∀ I74 : jx_I, I74 = jx_u I68 q69 ((I68 a0 12).toInt).toNat (Int32.ofInt a3) → (
      ∀ I75 : jx_I, I75 = jx_u I74 a0 12 (Int32.ofInt ((I74 a0 12).toInt + 1)) → (
      Q (some (jy 1)) I75)))))))))))))))))))
    )) ∧ (¬ (I a0 12).toInt < 200 → (
      (X.2.1 a1 = some (8, 0)) ∧ (
      ∃ Q77 : Option Value → jx_I → Prop, (
      (jc V 2 107 (0, 0) [.ref a1, jy 3] X I R Q77 (fun _ _ => False)) ∧ (
      ∀ rv I79, Q77 rv I79 → ∃ r80 : Int, rv = some (jy r80) ∧ (
      (r80 = 0 ∨ r80 = 1) ∧ (
      Q (some (jy r80)) I79)))))
    )))
  )) ∧ (¬ 0 ≤ l5 → (
    Q (some (jy 0)) I
  )))
/-- GC$Plan.readTerm -/
def wz_63 (V : jx_V) (X : jx_X) (R : jx_R) (Q : Option Value → jx_I → Prop) (QE : String → jx_I → Prop) (J68 : Int → Int → jx_I → Prop) (a0 : Nat) (a1 : Nat) (a2 : Nat) (a3 : Int) (I : jx_I) : Prop :=
  (X.2.1 a1 = some (8, 0)) ∧ (
  ∃ Q2 : Option Value → jx_I → Prop, (
  (jc V 1 114 (0, 0) [.ref a1] X I R Q2 (fun _ _ => False)) ∧ (
  ∀ rv I4, Q2 rv I4 → ∃ r5 : Int, rv = some (jy r5) ∧ (
  (-2147483648 ≤ r5 ∧ r5 < 2147483648) ∧ (
  (r5 = 0 → (
    ∃ Q7 : Option Value → jx_I → Prop, (
    (jc V 2 116 (0, 0) [.ref a1] X I4 R Q7 (fun _ _ => False)) ∧ (
    ∀ rv I9, Q7 rv I9 → rv = none ∧ (
    (X.2.1 a0 = some (4, 0)) ∧ (
    ∃ Q12 : Option Value → jx_I → Prop, (
    (jc V 6 64 (0, 0) [.ref a0, .ref a1] X I9 R Q12 (fun _ _ => False)) ∧ (
    ∀ rv I14, Q12 rv I14 → ∃ r15 : Int, rv = some (jy r15) ∧ (
    (-2147483648 ≤ r15 ∧ r15 < 2147483648) ∧ (
    (0 ≤ r15 → (
      (r15 ≠ 7 → (
        (0 ≤ (0 : Int) → (
          ((I14 a0 12).toInt < 200 → (
            ∃ q17 : Nat, (
            (R a0 8 = some q17) ∧ (
            ∃ n19 : Nat, (
            (X.2.1 q17 = some (100, n19) ∧ n19 < 2147483648) ∧ (
            (0 ≤ (I14 a0 12).toInt ∧ (I14 a0 12).toInt < n19) ∧ (
            ∀ I22 : jx_I, I22 = jx_u I14 q17 ((I14 a0 12).toInt).toNat (Int32.ofInt r15) → (
            ∃ q23 : Nat, (
            (R a0 9 = some q23) ∧ (
            ∃ n25 : Nat, (
            (X.2.1 q23 = some (100, n25) ∧ n25 < 2147483648) ∧ (
            (0 ≤ (I22 a0 12).toInt ∧ (I22 a0 12).toInt < n25) ∧ (
            ∀ I28 : jx_I, I28 = jx_u I22 q23 ((I22 a0 12).toInt).toNat (Int32.ofInt 0) → (
            ∃ q29 : Nat, (
            (R a0 10 = some q29) ∧ (
            ∃ n31 : Nat, (
            (X.2.1 q29 = some (100, n31) ∧ n31 < 2147483648) ∧ (
            (0 ≤ (I28 a0 12).toInt ∧ (I28 a0 12).toInt < n31) ∧ (
            ∀ I34 : jx_I, I34 = jx_u I28 q29 ((I28 a0 12).toInt).toNat (Int32.ofInt a3) → (
            ∀ I35 : jx_I, I35 = jx_u I34 a0 12 (Int32.ofInt ((I34 a0 12).toInt + 1)) → (
            Q (some (jy 1)) I35)))))))))))))))))))
          )) ∧ (¬ (I14 a0 12).toInt < 200 → (
            ∃ Q36 : Option Value → jx_I → Prop, (
            (jc V 2 107 (0, 0) [.ref a1, jy 3] X I14 R Q36 (fun _ _ => False)) ∧ (
            ∀ rv I38, Q36 rv I38 → ∃ r39 : Int, rv = some (jy r39) ∧ (
            (r39 = 0 ∨ r39 = 1) ∧ (
            Q (some (jy r39)) I38))))
          ))
        )) ∧ (¬ 0 ≤ (0 : Int) → (
          Q (some (jy 0)) I14
        ))
      )) ∧ (r15 = 7 → (
        (X.2.1 a2 = some (2, 0)) ∧ (
        ∃ Q42 : Option Value → jx_I → Prop, (
        (jc V 2 118 (0, 0) [.ref a1, jy 0, jy ((I14 a2 8).toInt - 1)] X I14 R Q42 (fun _ _ => False)) ∧ (
        ∀ rv I44, Q42 rv I44 → ∃ r45 : Int, rv = some (jy r45) ∧ (
        J68 r15 r45 I44))))
      ))
    )) ∧ (¬ 0 ≤ r15 → (
      ∃ Q46 : Option Value → jx_I → Prop, (
      (jc V 2 108 (0, 0) [.ref a1, jy 1] X I14 R Q46 (fun _ _ => False)) ∧ (
      ∀ rv I48, Q46 rv I48 → ∃ r49 : Int, rv = some (jy r49) ∧ (
      (r49 = 0 ∨ r49 = 1) ∧ (
      Q (some (jy r49)) I48))))
    ))))))))))
  )) ∧ (¬ r5 = 0 → (
    ∃ Q51 : Option Value → jx_I → Prop, (
    (jc V 2 118 (0, 0) [.ref a1, jy 0, jy 999] X I4 R Q51 (fun _ _ => False)) ∧ (
    ∀ rv I53, Q51 rv I53 → ∃ r54 : Int, rv = some (jy r54) ∧ (
    J68 0 r54 I53)))
  )))))))
set_option maxRecDepth 20000 in
theorem wm_63 {V : jx_V} (hV : V.1.stackTraces = false) {X : jx_X} {R : jx_R} {I : jx_I} {Q : Option Value → jx_I → Prop} {QE : String → jx_I → Prop} {a0 : Nat} {a1 : Nat} {a2 : Nat} {a3 : Int} (r_a3 : -2147483648 ≤ a3 ∧ a3 < 2147483648) 
    (h : ∀ (J68 : Int → Int → jx_I → Prop), ((∀ (l4 : Int) (l5 : Int) I, wz_63_68 V X R Q QE J68 a0 a1 a2 a3 l4 l5 I → J68 l4 l5 I)) → wz_63 V X R Q QE J68 a0 a1 a2 a3 I) : jc V 7 63 (0, 0) [.ref a0, .ref a1, .ref a2, jy a3] X I R Q QE := by
  refine jy_met hV (by decide) (n := 6) (rt := some .boolean) (hh := []) (ini := false) (C := jx_c63) (L := [some (.ref a0), some (.ref a1), some (.ref a2), some (jy a3), none, none]) jt_63 (Nat.le_of_ble_eq_true rfl) rfl ?_
  intro J hS
  have h := h (fun l4 l5 I => J 68 [] [some (.ref a0), some (.ref a1), none, some (jy a3), some (jy l4), some (jy l5)] (0, 0) X I R) ?_
  · unfold wz_63 at h
    refine jy_iconst hS rfl ?_
    refine jy_istore hS rfl (Nat.le_of_ble_eq_true rfl) (L' := [some (.ref a0), some (.ref a1), some (.ref a2), some (jy a3), some (jy 0), none]) rfl ?_
    refine jy_iconst hS rfl ?_
    refine jy_istore hS rfl (Nat.le_of_ble_eq_true rfl) (L' := [some (.ref a0), some (.ref a1), some (.ref a2), some (jy a3), some (jy 0), some (jy 0)]) rfl ?_
    refine jy_aload_n hS rfl rfl ?_
    obtain ⟨g1, h⟩ := h
    obtain ⟨Q2, h⟩ := h
    obtain ⟨g3, h⟩ := h
    refine jy_callV hS rfl rfl rfl (Nat.le_of_ble_eq_true rfl) (Or.inl g1) g3 (by decide) ⟨by decide, by decide⟩ (Nat.le_of_ble_eq_true rfl) ?_ ?_
    rotate_left
    · exact fun Ex Xx Ix Rx hp => hp.2.2.2.elim
    intro rv Xx I4 Rx hp
    obtain ⟨e1, e2, hp⟩ := hp
    rw [e1, e2]
    clear e1 e2
    obtain ⟨r5, e1, h⟩ := h rv I4 hp
    rw [e1]
    clear e1
    change J 10 [jy r5] _ (0, 0) _ _ _
    obtain ⟨g6, h⟩ := h
    refine jy_if_eq hS rfl g6 (fun hq => ?_) (fun hq => ?_)
    · have h := h.1 hq
      refine jy_aload_n hS rfl rfl ?_
      obtain ⟨Q7, h⟩ := h
      obtain ⟨g8, h⟩ := h
      refine jy_callV hS rfl rfl rfl (Nat.le_of_ble_eq_true rfl) (Or.inl g1) g8 (by decide) ⟨by decide, by decide⟩ (Nat.le_of_ble_eq_true rfl) ?_ ?_
      rotate_left
      · exact fun Ex Xx Ix Rx hp => hp.2.2.2.elim
      intro rv Xx I9 Rx hp
      obtain ⟨e1, e2, hp⟩ := hp
      rw [e1, e2]
      clear e1 e2
      obtain ⟨e1, h⟩ := h rv I9 hp
      rw [e1]
      clear e1
      change J 30 [] _ (0, 0) _ _ _
      refine jy_aload_n hS rfl rfl ?_
      refine jy_aload_n hS rfl rfl ?_
      obtain ⟨g11, h⟩ := h
      obtain ⟨Q12, h⟩ := h
      obtain ⟨g13, h⟩ := h
      refine jy_callV hS rfl rfl rfl (Nat.le_of_ble_eq_true rfl) (Or.inl g11) g13 (by decide) ⟨by decide, by decide⟩ (Nat.le_of_ble_eq_true rfl) ?_ ?_
      rotate_left
      · exact fun Ex Xx Ix Rx hp => hp.2.2.2.elim
      intro rv Xx I14 Rx hp
      obtain ⟨e1, e2, hp⟩ := hp
      rw [e1, e2]
      clear e1 e2
      obtain ⟨r15, e1, h⟩ := h rv I14 hp
      rw [e1]
      clear e1
      change J 35 [jy r15] _ (0, 0) _ _ _
      refine jy_istore hS rfl (Nat.le_of_ble_eq_true rfl) (L' := [some (.ref a0), some (.ref a1), some (.ref a2), some (jy a3), some (jy r15), some (jy 0)]) rfl ?_
      refine jy_iload hS rfl rfl ?_
      obtain ⟨g16, h⟩ := h
      refine jy_if_ge hS rfl g16 (fun hq => ?_) (fun hq => ?_)
      · have h := h.1 hq
        refine jy_iload hS rfl rfl ?_
        refine jy_bipush hS rfl (by decide) ?_
        refine jy_icmp_ne hS rfl ⟨g16, ⟨by decide, by decide⟩⟩ (fun hq => ?_) (fun hq => ?_)
        · have h := h.1 hq
          refine jy_iload hS rfl rfl ?_
          refine jy_if_ge hS rfl ⟨by decide, by decide⟩ (fun hq => ?_) (fun hq => ?_)
          · have h := h.1 hq
            refine jy_aload_n hS rfl rfl ?_
            refine jy_getI hS rfl (by decide) g11 ?_
            refine jy_sipush hS rfl (by decide) ?_
            refine jy_icmp_lt hS rfl ⟨(jy_rng _), ⟨by decide, by decide⟩⟩ (fun hq => ?_) (fun hq => ?_)
            · have h := h.1 hq
              refine jy_aload_n hS rfl rfl ?_
              obtain ⟨q17, h⟩ := h
              obtain ⟨g18, h⟩ := h
              refine jy_getR hS rfl (by decide) g11 g18 ?_
              refine jy_aload_n hS rfl rfl ?_
              refine jy_getI hS rfl (by decide) g11 ?_
              refine jy_iload hS rfl rfl ?_
              obtain ⟨n19, h⟩ := h
              obtain ⟨g20, h⟩ := h
              obtain ⟨g21, h⟩ := h
              refine jy_iast hS rfl g20.1 (Nat.le_of_lt g20.2) g21 ?_
              intro I22 e9
              have h := h I22 e9
              clear e9
              refine jy_aload_n hS rfl rfl ?_
              obtain ⟨q23, h⟩ := h
              obtain ⟨g24, h⟩ := h
              refine jy_getR hS rfl (by decide) g11 g24 ?_
              refine jy_aload_n hS rfl rfl ?_
              refine jy_getI hS rfl (by decide) g11 ?_
              refine jy_iload hS rfl rfl ?_
              obtain ⟨n25, h⟩ := h
              obtain ⟨g26, h⟩ := h
              obtain ⟨g27, h⟩ := h
              refine jy_iast hS rfl g26.1 (Nat.le_of_lt g26.2) g27 ?_
              intro I28 e9
              have h := h I28 e9
              clear e9
              refine jy_aload_n hS rfl rfl ?_
              obtain ⟨q29, h⟩ := h
              obtain ⟨g30, h⟩ := h
              refine jy_getR hS rfl (by decide) g11 g30 ?_
              refine jy_aload_n hS rfl rfl ?_
              refine jy_getI hS rfl (by decide) g11 ?_
              refine jy_iload_n hS rfl rfl ?_
              obtain ⟨n31, h⟩ := h
              obtain ⟨g32, h⟩ := h
              obtain ⟨g33, h⟩ := h
              refine jy_iast hS rfl g32.1 (Nat.le_of_lt g32.2) g33 ?_
              intro I34 e9
              have h := h I34 e9
              clear e9
              refine jy_aload_n hS rfl rfl ?_
              refine jy_dup hS rfl rfl ?_
              refine jy_getI hS rfl (by decide) g11 ?_
              refine jy_iconst hS rfl ?_
              refine jy_iadd hS rfl ?_
              refine jy_putI hS rfl (by decide) g11 ?_
              intro I35 e9
              have h := h I35 e9
              clear e9
              refine jy_iconst hS rfl ?_
              exact jy_iret hS rfl rfl ⟨rfl, rfl, h⟩
            · have h := h.2 hq
              refine jy_aload_n hS rfl rfl ?_
              refine jy_iconst hS rfl ?_
              obtain ⟨Q36, h⟩ := h
              obtain ⟨g37, h⟩ := h
              refine jy_callV hS rfl rfl rfl (Nat.le_of_ble_eq_true rfl) (Or.inl g1) g37 (by decide) ⟨by decide, by decide⟩ (Nat.le_of_ble_eq_true rfl) ?_ ?_
              rotate_left
              · exact fun Ex Xx Ix Rx hp => hp.2.2.2.elim
              intro rv Xx I38 Rx hp
              obtain ⟨e1, e2, hp⟩ := hp
              rw [e1, e2]
              clear e1 e2
              obtain ⟨r39, e1, h⟩ := h rv I38 hp
              rw [e1]
              clear e1
              change J 90 [jy r39] _ (0, 0) _ _ _
              obtain ⟨g40, h⟩ := h
              exact jy_iret hS rfl (by rcases g40 with q | q <;> rw [q] <;> rfl) ⟨rfl, rfl, h⟩
          · have h := h.2 hq
            refine jy_iconst hS rfl ?_
            exact jy_iret hS rfl rfl ⟨rfl, rfl, h⟩
        · have h := h.2 hq
          refine jy_aload_n hS rfl rfl ?_
          refine jy_iconst hS rfl ?_
          refine jy_aload_n hS rfl rfl ?_
          obtain ⟨g41, h⟩ := h
          refine jy_getI hS rfl (by decide) g41 ?_
          refine jy_iconst hS rfl ?_
          refine jy_isub hS rfl ?_
          obtain ⟨Q42, h⟩ := h
          obtain ⟨g43, h⟩ := h
          refine jy_callV hS rfl rfl rfl (Nat.le_of_ble_eq_true rfl) (Or.inl g1) g43 (by decide) ⟨by decide, by decide⟩ (Nat.le_of_ble_eq_true rfl) ?_ ?_
          rotate_left
          · exact fun Ex Xx Ix Rx hp => hp.2.2.2.elim
          intro rv Xx I44 Rx hp
          obtain ⟨e1, e2, hp⟩ := hp
          rw [e1, e2]
          clear e1 e2
          obtain ⟨r45, e1, h⟩ := h rv I44 hp
          rw [e1]
          clear e1
          change J 66 [jy r45] _ (0, 0) _ _ _
          refine jy_istore hS rfl (Nat.le_of_ble_eq_true rfl) (L' := [some (.ref a0), some (.ref a1), some (.ref a2), some (jy a3), some (jy r15), some (jy r45)]) rfl ?_
          exact jy_join hS h rfl (jy_sub_s (jy_sub_s (jy_sub_n (jy_sub_s (jy_sub_s (jy_sub_s jy_sub_0))))))
      · have h := h.2 hq
        refine jy_aload_n hS rfl rfl ?_
        refine jy_iconst hS rfl ?_
        obtain ⟨Q46, h⟩ := h
        obtain ⟨g47, h⟩ := h
        refine jy_callV hS rfl rfl rfl (Nat.le_of_ble_eq_true rfl) (Or.inl g1) g47 (by decide) ⟨by decide, by decide⟩ (Nat.le_of_ble_eq_true rfl) ?_ ?_
        rotate_left
        · exact fun Ex Xx Ix Rx hp => hp.2.2.2.elim
        intro rv Xx I48 Rx hp
        obtain ⟨e1, e2, hp⟩ := hp
        rw [e1, e2]
        clear e1 e2
        obtain ⟨r49, e1, h⟩ := h rv I48 hp
        rw [e1]
        clear e1
        change J 47 [jy r49] _ (0, 0) _ _ _
        obtain ⟨g50, h⟩ := h
        exact jy_iret hS rfl (by rcases g50 with q | q <;> rw [q] <;> rfl) ⟨rfl, rfl, h⟩
    · have h := h.2 hq
      refine jy_aload_n hS rfl rfl ?_
      refine jy_iconst hS rfl ?_
      refine jy_sipush hS rfl (by decide) ?_
      obtain ⟨Q51, h⟩ := h
      obtain ⟨g52, h⟩ := h
      refine jy_callV hS rfl rfl rfl (Nat.le_of_ble_eq_true rfl) (Or.inl g1) g52 (by decide) ⟨by decide, by decide⟩ (Nat.le_of_ble_eq_true rfl) ?_ ?_
      rotate_left
      · exact fun Ex Xx Ix Rx hp => hp.2.2.2.elim
      intro rv Xx I53 Rx hp
      obtain ⟨e1, e2, hp⟩ := hp
      rw [e1, e2]
      clear e1 e2
      obtain ⟨r54, e1, h⟩ := h rv I53 hp
      rw [e1]
      clear e1
      change J 21 [jy r54] _ (0, 0) _ _ _
      refine jy_istore hS rfl (Nat.le_of_ble_eq_true rfl) (L' := [some (.ref a0), some (.ref a1), some (.ref a2), some (jy a3), some (jy 0), some (jy r54)]) rfl ?_
      refine jy_goto hS rfl ?_
      exact jy_join hS h rfl (jy_sub_s (jy_sub_s (jy_sub_n (jy_sub_s (jy_sub_s (jy_sub_s jy_sub_0))))))
  · intro l4 l5 I h
    unfold wz_63_68 at h
    refine jy_iload hS rfl rfl ?_
    obtain ⟨g55, h⟩ := h
    refine jy_if_ge hS rfl g55 (fun hq => ?_) (fun hq => ?_)
    · have h := h.1 hq
      refine jy_aload_n hS rfl rfl ?_
      obtain ⟨g56, h⟩ := h
      refine jy_getI hS rfl (by decide) g56 ?_
      refine jy_sipush hS rfl (by decide) ?_
      refine jy_icmp_lt hS rfl ⟨(jy_rng _), ⟨by decide, by decide⟩⟩ (fun hq => ?_) (fun hq => ?_)
      · have h := h.1 hq
        refine jy_aload_n hS rfl rfl ?_
        obtain ⟨q57, h⟩ := h
        obtain ⟨g58, h⟩ := h
        refine jy_getR hS rfl (by decide) g56 g58 ?_
        refine jy_aload_n hS rfl rfl ?_
        refine jy_getI hS rfl (by decide) g56 ?_
        refine jy_iload hS rfl rfl ?_
        obtain ⟨n59, h⟩ := h
        obtain ⟨g60, h⟩ := h
        obtain ⟨g61, h⟩ := h
        refine jy_iast hS rfl g60.1 (Nat.le_of_lt g60.2) g61 ?_
        intro I62 e9
        have h := h I62 e9
        clear e9
        refine jy_aload_n hS rfl rfl ?_
        obtain ⟨q63, h⟩ := h
        obtain ⟨g64, h⟩ := h
        refine jy_getR hS rfl (by decide) g56 g64 ?_
        refine jy_aload_n hS rfl rfl ?_
        refine jy_getI hS rfl (by decide) g56 ?_
        refine jy_iload hS rfl rfl ?_
        obtain ⟨n65, h⟩ := h
        obtain ⟨g66, h⟩ := h
        obtain ⟨g67, h⟩ := h
        refine jy_iast hS rfl g66.1 (Nat.le_of_lt g66.2) g67 ?_
        intro I68 e9
        have h := h I68 e9
        clear e9
        refine jy_aload_n hS rfl rfl ?_
        obtain ⟨q69, h⟩ := h
        obtain ⟨g70, h⟩ := h
        refine jy_getR hS rfl (by decide) g56 g70 ?_
        refine jy_aload_n hS rfl rfl ?_
        refine jy_getI hS rfl (by decide) g56 ?_
        refine jy_iload_n hS rfl rfl ?_
        obtain ⟨n71, h⟩ := h
        obtain ⟨g72, h⟩ := h
        obtain ⟨g73, h⟩ := h
        refine jy_iast hS rfl g72.1 (Nat.le_of_lt g72.2) g73 ?_
        intro I74 e9
        have h := h I74 e9
        clear e9
        refine jy_aload_n hS rfl rfl ?_
        refine jy_dup hS rfl rfl ?_
        refine jy_getI hS rfl (by decide) g56 ?_
        refine jy_iconst hS rfl ?_
        refine jy_iadd hS rfl ?_
        refine jy_putI hS rfl (by decide) g56 ?_
        intro I75 e9
        have h := h I75 e9
        clear e9
        refine jy_iconst hS rfl ?_
        exact jy_iret hS rfl rfl ⟨rfl, rfl, h⟩
      · have h := h.2 hq
        refine jy_aload_n hS rfl rfl ?_
        refine jy_iconst hS rfl ?_
        obtain ⟨g76, h⟩ := h
        obtain ⟨Q77, h⟩ := h
        obtain ⟨g78, h⟩ := h
        refine jy_callV hS rfl rfl rfl (Nat.le_of_ble_eq_true rfl) (Or.inl g76) g78 (by decide) ⟨by decide, by decide⟩ (Nat.le_of_ble_eq_true rfl) ?_ ?_
        rotate_left
        · exact fun Ex Xx Ix Rx hp => hp.2.2.2.elim
        intro rv Xx I79 Rx hp
        obtain ⟨e1, e2, hp⟩ := hp
        rw [e1, e2]
        clear e1 e2
        obtain ⟨r80, e1, h⟩ := h rv I79 hp
        rw [e1]
        clear e1
        change J 90 [jy r80] _ (0, 0) _ _ _
        obtain ⟨g81, h⟩ := h
        exact jy_iret hS rfl (by rcases g81 with q | q <;> rw [q] <;> rfl) ⟨rfl, rfl, h⟩
    · have h := h.2 hq
      refine jy_iconst hS rfl ?_
      exact jy_iret hS rfl rfl ⟨rfl, rfl, h⟩
theorem jt_64 : jx_ml 64 = 2 ∧ jx_rt 64 = some .int ∧ jx_hz 64 = [] ∧ decide ((jx_nm 64).name = "<init>") = false ∧ jx_code 64 = jx_c64 := by decide +kernel
/-- GC$Plan.kindOfTerm -/
def wz_64 (V : jx_V) (X : jx_X) (R : jx_R) (Q : Option Value → jx_I → Prop) (QE : String → jx_I → Prop)  (a0 : Nat) (a1 : Nat) (I : jx_I) : Prop :=
  (X.2.1 a1 = some (8, 0)) ∧ (
  ∃ Q2 : Option Value → jx_I → Prop, (
  (jc V 5 117 (0, 0) [.ref a1, .ref (V.2.2.2.1 26)] X I R Q2 (fun _ _ => False)) ∧ (
  ∀ rv I4, Q2 rv I4 → ∃ r5 : Int, rv = some (jy r5) ∧ (
  (-2147483648 ≤ r5 ∧ r5 < 2147483648) ∧ (
  (r5 = 0 → (
    ∃ Q7 : Option Value → jx_I → Prop, (
    (jc V 5 117 (0, 0) [.ref a1, .ref (V.2.2.2.1 27)] X I4 R Q7 (fun _ _ => False)) ∧ (
    ∀ rv I9, Q7 rv I9 → ∃ r10 : Int, rv = some (jy r10) ∧ (
    (-2147483648 ≤ r10 ∧ r10 < 2147483648) ∧ (
    (r10 = 0 → (
      ∃ Q12 : Option Value → jx_I → Prop, (
      (jc V 5 117 (0, 0) [.ref a1, .ref (V.2.2.2.1 28)] X I9 R Q12 (fun _ _ => False)) ∧ (
      ∀ rv I14, Q12 rv I14 → ∃ r15 : Int, rv = some (jy r15) ∧ (
      (-2147483648 ≤ r15 ∧ r15 < 2147483648) ∧ (
      (r15 = 0 → (
        ∃ Q17 : Option Value → jx_I → Prop, (
        (jc V 5 117 (0, 0) [.ref a1, .ref (V.2.2.2.1 29)] X I14 R Q17 (fun _ _ => False)) ∧ (
        ∀ rv I19, Q17 rv I19 → ∃ r20 : Int, rv = some (jy r20) ∧ (
        (-2147483648 ≤ r20 ∧ r20 < 2147483648) ∧ (
        (r20 = 0 → (
          ∃ Q22 : Option Value → jx_I → Prop, (
          (jc V 5 117 (0, 0) [.ref a1, .ref (V.2.2.2.1 30)] X I19 R Q22 (fun _ _ => False)) ∧ (
          ∀ rv I24, Q22 rv I24 → ∃ r25 : Int, rv = some (jy r25) ∧ (
          (-2147483648 ≤ r25 ∧ r25 < 2147483648) ∧ (
          (r25 = 0 → (
            ∃ Q27 : Option Value → jx_I → Prop, (
            (jc V 5 117 (0, 0) [.ref a1, .ref (V.2.2.2.1 31)] X I24 R Q27 (fun _ _ => False)) ∧ (
            ∀ rv I29, Q27 rv I29 → ∃ r30 : Int, rv = some (jy r30) ∧ (
            (-2147483648 ≤ r30 ∧ r30 < 2147483648) ∧ (
            (r30 = 0 → (
              ∃ Q32 : Option Value → jx_I → Prop, (
              (jc V 5 117 (0, 0) [.ref a1, .ref (V.2.2.2.1 32)] X I29 R Q32 (fun _ _ => False)) ∧ (
              ∀ rv I34, Q32 rv I34 → ∃ r35 : Int, rv = some (jy r35) ∧ (
              (-2147483648 ≤ r35 ∧ r35 < 2147483648) ∧ (
              (r35 = 0 → (
                Q (some (jy (-1))) I34
              )) ∧ (¬ r35 = 0 → (
                Q (some (jy 7)) I34
              ))))))
            )) ∧ (¬ r30 = 0 → (
              Q (some (jy 6)) I29
            ))))))
          )) ∧ (¬ r25 = 0 → (
            Q (some (jy 5)) I24
          ))))))
        )) ∧ (¬ r20 = 0 → (
          Q (some (jy 4)) I19
        ))))))
      )) ∧ (¬ r15 = 0 → (
        Q (some (jy 3)) I14
      ))))))
    )) ∧ (¬ r10 = 0 → (
      Q (some (jy 2)) I9
    ))))))
  )) ∧ (¬ r5 = 0 → (
    Q (some (jy 1)) I4
  )))))))
set_option maxRecDepth 20000 in
theorem wm_64 {V : jx_V} (hV : V.1.stackTraces = false) {X : jx_X} {R : jx_R} {I : jx_I} {Q : Option Value → jx_I → Prop} {QE : String → jx_I → Prop} {a0 : Nat} {a1 : Nat}  
    (h : wz_64 V X R Q QE  a0 a1 I) : jc V 6 64 (0, 0) [.ref a0, .ref a1] X I R Q QE := by
  refine jy_met hV (by decide) (n := 2) (rt := some .int) (hh := []) (ini := false) (C := jx_c64) (L := [some (.ref a0), some (.ref a1)]) jt_64 (Nat.le_of_ble_eq_true rfl) rfl ?_
  intro J hS
  unfold wz_64 at h
  refine jy_aload_n hS rfl rfl ?_
  refine jy_ldcS hS rfl ?_
  obtain ⟨g1, h⟩ := h
  obtain ⟨Q2, h⟩ := h
  obtain ⟨g3, h⟩ := h
  refine jy_callV hS rfl rfl rfl (Nat.le_of_ble_eq_true rfl) (Or.inl g1) g3 (by decide) ⟨by decide, by decide⟩ (Nat.le_of_ble_eq_true rfl) ?_ ?_
  rotate_left
  · exact fun Ex Xx Ix Rx hp => hp.2.2.2.elim
  intro rv Xx I4 Rx hp
  obtain ⟨e1, e2, hp⟩ := hp
  rw [e1, e2]
  clear e1 e2
  obtain ⟨r5, e1, h⟩ := h rv I4 hp
  rw [e1]
  clear e1
  change J 6 [jy r5] _ (0, 0) _ _ _
  obtain ⟨g6, h⟩ := h
  refine jy_if_eq hS rfl g6 (fun hq => ?_) (fun hq => ?_)
  · have h := h.1 hq
    refine jy_aload_n hS rfl rfl ?_
    refine jy_ldcS hS rfl ?_
    obtain ⟨Q7, h⟩ := h
    obtain ⟨g8, h⟩ := h
    refine jy_callV hS rfl rfl rfl (Nat.le_of_ble_eq_true rfl) (Or.inl g1) g8 (by decide) ⟨by decide, by decide⟩ (Nat.le_of_ble_eq_true rfl) ?_ ?_
    rotate_left
    · exact fun Ex Xx Ix Rx hp => hp.2.2.2.elim
    intro rv Xx I9 Rx hp
    obtain ⟨e1, e2, hp⟩ := hp
    rw [e1, e2]
    clear e1 e2
    obtain ⟨r10, e1, h⟩ := h rv I9 hp
    rw [e1]
    clear e1
    change J 17 [jy r10] _ (0, 0) _ _ _
    obtain ⟨g11, h⟩ := h
    refine jy_if_eq hS rfl g11 (fun hq => ?_) (fun hq => ?_)
    · have h := h.1 hq
      refine jy_aload_n hS rfl rfl ?_
      refine jy_ldcS hS rfl ?_
      obtain ⟨Q12, h⟩ := h
      obtain ⟨g13, h⟩ := h
      refine jy_callV hS rfl rfl rfl (Nat.le_of_ble_eq_true rfl) (Or.inl g1) g13 (by decide) ⟨by decide, by decide⟩ (Nat.le_of_ble_eq_true rfl) ?_ ?_
      rotate_left
      · exact fun Ex Xx Ix Rx hp => hp.2.2.2.elim
      intro rv Xx I14 Rx hp
      obtain ⟨e1, e2, hp⟩ := hp
      rw [e1, e2]
      clear e1 e2
      obtain ⟨r15, e1, h⟩ := h rv I14 hp
      rw [e1]
      clear e1
      change J 28 [jy r15] _ (0, 0) _ _ _
      obtain ⟨g16, h⟩ := h
      refine jy_if_eq hS rfl g16 (fun hq => ?_) (fun hq => ?_)
      · have h := h.1 hq
        refine jy_aload_n hS rfl rfl ?_
        refine jy_ldcS hS rfl ?_
        obtain ⟨Q17, h⟩ := h
        obtain ⟨g18, h⟩ := h
        refine jy_callV hS rfl rfl rfl (Nat.le_of_ble_eq_true rfl) (Or.inl g1) g18 (by decide) ⟨by decide, by decide⟩ (Nat.le_of_ble_eq_true rfl) ?_ ?_
        rotate_left
        · exact fun Ex Xx Ix Rx hp => hp.2.2.2.elim
        intro rv Xx I19 Rx hp
        obtain ⟨e1, e2, hp⟩ := hp
        rw [e1, e2]
        clear e1 e2
        obtain ⟨r20, e1, h⟩ := h rv I19 hp
        rw [e1]
        clear e1
        change J 39 [jy r20] _ (0, 0) _ _ _
        obtain ⟨g21, h⟩ := h
        refine jy_if_eq hS rfl g21 (fun hq => ?_) (fun hq => ?_)
        · have h := h.1 hq
          refine jy_aload_n hS rfl rfl ?_
          refine jy_ldcS hS rfl ?_
          obtain ⟨Q22, h⟩ := h
          obtain ⟨g23, h⟩ := h
          refine jy_callV hS rfl rfl rfl (Nat.le_of_ble_eq_true rfl) (Or.inl g1) g23 (by decide) ⟨by decide, by decide⟩ (Nat.le_of_ble_eq_true rfl) ?_ ?_
          rotate_left
          · exact fun Ex Xx Ix Rx hp => hp.2.2.2.elim
          intro rv Xx I24 Rx hp
          obtain ⟨e1, e2, hp⟩ := hp
          rw [e1, e2]
          clear e1 e2
          obtain ⟨r25, e1, h⟩ := h rv I24 hp
          rw [e1]
          clear e1
          change J 50 [jy r25] _ (0, 0) _ _ _
          obtain ⟨g26, h⟩ := h
          refine jy_if_eq hS rfl g26 (fun hq => ?_) (fun hq => ?_)
          · have h := h.1 hq
            refine jy_aload_n hS rfl rfl ?_
            refine jy_ldcS hS rfl ?_
            obtain ⟨Q27, h⟩ := h
            obtain ⟨g28, h⟩ := h
            refine jy_callV hS rfl rfl rfl (Nat.le_of_ble_eq_true rfl) (Or.inl g1) g28 (by decide) ⟨by decide, by decide⟩ (Nat.le_of_ble_eq_true rfl) ?_ ?_
            rotate_left
            · exact fun Ex Xx Ix Rx hp => hp.2.2.2.elim
            intro rv Xx I29 Rx hp
            obtain ⟨e1, e2, hp⟩ := hp
            rw [e1, e2]
            clear e1 e2
            obtain ⟨r30, e1, h⟩ := h rv I29 hp
            rw [e1]
            clear e1
            change J 61 [jy r30] _ (0, 0) _ _ _
            obtain ⟨g31, h⟩ := h
            refine jy_if_eq hS rfl g31 (fun hq => ?_) (fun hq => ?_)
            · have h := h.1 hq
              refine jy_aload_n hS rfl rfl ?_
              refine jy_ldcS hS rfl ?_
              obtain ⟨Q32, h⟩ := h
              obtain ⟨g33, h⟩ := h
              refine jy_callV hS rfl rfl rfl (Nat.le_of_ble_eq_true rfl) (Or.inl g1) g33 (by decide) ⟨by decide, by decide⟩ (Nat.le_of_ble_eq_true rfl) ?_ ?_
              rotate_left
              · exact fun Ex Xx Ix Rx hp => hp.2.2.2.elim
              intro rv Xx I34 Rx hp
              obtain ⟨e1, e2, hp⟩ := hp
              rw [e1, e2]
              clear e1 e2
              obtain ⟨r35, e1, h⟩ := h rv I34 hp
              rw [e1]
              clear e1
              change J 73 [jy r35] _ (0, 0) _ _ _
              obtain ⟨g36, h⟩ := h
              refine jy_if_eq hS rfl g36 (fun hq => ?_) (fun hq => ?_)
              · have h := h.1 hq
                refine jy_iconst hS rfl ?_
                exact jy_iret hS rfl rfl ⟨rfl, rfl, h⟩
              · have h := h.2 hq
                refine jy_bipush hS rfl (by decide) ?_
                refine jy_goto hS rfl ?_
                exact jy_iret hS rfl rfl ⟨rfl, rfl, h⟩
            · have h := h.2 hq
              refine jy_bipush hS rfl (by decide) ?_
              exact jy_iret hS rfl rfl ⟨rfl, rfl, h⟩
          · have h := h.2 hq
            refine jy_iconst hS rfl ?_
            exact jy_iret hS rfl rfl ⟨rfl, rfl, h⟩
        · have h := h.2 hq
          refine jy_iconst hS rfl ?_
          exact jy_iret hS rfl rfl ⟨rfl, rfl, h⟩
      · have h := h.2 hq
        refine jy_iconst hS rfl ?_
        exact jy_iret hS rfl rfl ⟨rfl, rfl, h⟩
    · have h := h.2 hq
      refine jy_iconst hS rfl ?_
      exact jy_iret hS rfl rfl ⟨rfl, rfl, h⟩
  · have h := h.2 hq
    refine jy_iconst hS rfl ?_
    exact jy_iret hS rfl rfl ⟨rfl, rfl, h⟩
theorem jt_65 : jx_ml 65 = 2 ∧ jx_rt 65 = some .int ∧ jx_hz 65 = [] ∧ decide ((jx_nm 65).name = "<init>") = false ∧ jx_code 65 = jx_c65 := by decide +kernel
/-- GC$Plan.kindOfWord -/
def wz_65 (V : jx_V) (X : jx_X) (R : jx_R) (Q : Option Value → jx_I → Prop) (QE : String → jx_I → Prop)  (a0 : Nat) (a1 : Nat) (I : jx_I) : Prop :=
  (X.2.1 a1 = some (8, 0)) ∧ (
  ∃ Q2 : Option Value → jx_I → Prop, (
  (jc V 5 117 (0, 0) [.ref a1, .ref (V.2.2.2.1 16)] X I R Q2 (fun _ _ => False)) ∧ (
  ∀ rv I4, Q2 rv I4 → ∃ r5 : Int, rv = some (jy r5) ∧ (
  (-2147483648 ≤ r5 ∧ r5 < 2147483648) ∧ (
  (r5 = 0 → (
    ∃ Q7 : Option Value → jx_I → Prop, (
    (jc V 5 117 (0, 0) [.ref a1, .ref (V.2.2.2.1 17)] X I4 R Q7 (fun _ _ => False)) ∧ (
    ∀ rv I9, Q7 rv I9 → ∃ r10 : Int, rv = some (jy r10) ∧ (
    (-2147483648 ≤ r10 ∧ r10 < 2147483648) ∧ (
    (r10 = 0 → (
      ∃ Q12 : Option Value → jx_I → Prop, (
      (jc V 5 117 (0, 0) [.ref a1, .ref (V.2.2.2.1 18)] X I9 R Q12 (fun _ _ => False)) ∧ (
      ∀ rv I14, Q12 rv I14 → ∃ r15 : Int, rv = some (jy r15) ∧ (
      (-2147483648 ≤ r15 ∧ r15 < 2147483648) ∧ (
      (r15 = 0 → (
        ∃ Q17 : Option Value → jx_I → Prop, (
        (jc V 5 117 (0, 0) [.ref a1, .ref (V.2.2.2.1 19)] X I14 R Q17 (fun _ _ => False)) ∧ (
        ∀ rv I19, Q17 rv I19 → ∃ r20 : Int, rv = some (jy r20) ∧ (
        (-2147483648 ≤ r20 ∧ r20 < 2147483648) ∧ (
        (r20 = 0 → (
          ∃ Q22 : Option Value → jx_I → Prop, (
          (jc V 5 117 (0, 0) [.ref a1, .ref (V.2.2.2.1 20)] X I19 R Q22 (fun _ _ => False)) ∧ (
          ∀ rv I24, Q22 rv I24 → ∃ r25 : Int, rv = some (jy r25) ∧ (
          (-2147483648 ≤ r25 ∧ r25 < 2147483648) ∧ (
          (r25 = 0 → (
            ∃ Q27 : Option Value → jx_I → Prop, (
            (jc V 5 117 (0, 0) [.ref a1, .ref (V.2.2.2.1 21)] X I24 R Q27 (fun _ _ => False)) ∧ (
            ∀ rv I29, Q27 rv I29 → ∃ r30 : Int, rv = some (jy r30) ∧ (
            (-2147483648 ≤ r30 ∧ r30 < 2147483648) ∧ (
            (r30 = 0 → (
              ∃ Q32 : Option Value → jx_I → Prop, (
              (jc V 5 117 (0, 0) [.ref a1, .ref (V.2.2.2.1 22)] X I29 R Q32 (fun _ _ => False)) ∧ (
              ∀ rv I34, Q32 rv I34 → ∃ r35 : Int, rv = some (jy r35) ∧ (
              (-2147483648 ≤ r35 ∧ r35 < 2147483648) ∧ (
              (r35 = 0 → (
                (X.2.1 a0 = some (4, 0)) ∧ (
                ∃ Q38 : Option Value → jx_I → Prop, (
                (jc V 6 66 (0, 0) [.ref a0, .ref a1] X I34 R Q38 (fun _ _ => False)) ∧ (
                ∀ rv I40, Q38 rv I40 → ∃ r41 : Int, rv = some (jy r41) ∧ (
                Q (some (jy r41)) I40))))
              )) ∧ (¬ r35 = 0 → (
                Q (some (jy 6)) I34
              ))))))
            )) ∧ (¬ r30 = 0 → (
              Q (some (jy 5)) I29
            ))))))
          )) ∧ (¬ r25 = 0 → (
            Q (some (jy 4)) I24
          ))))))
        )) ∧ (¬ r20 = 0 → (
          Q (some (jy 3)) I19
        ))))))
      )) ∧ (¬ r15 = 0 → (
        Q (some (jy 2)) I14
      ))))))
    )) ∧ (¬ r10 = 0 → (
      Q (some (jy 1)) I9
    ))))))
  )) ∧ (¬ r5 = 0 → (
    Q (some (jy 0)) I4
  )))))))
set_option maxRecDepth 20000 in
theorem wm_65 {V : jx_V} (hV : V.1.stackTraces = false) {X : jx_X} {R : jx_R} {I : jx_I} {Q : Option Value → jx_I → Prop} {QE : String → jx_I → Prop} {a0 : Nat} {a1 : Nat}  
    (h : wz_65 V X R Q QE  a0 a1 I) : jc V 7 65 (0, 0) [.ref a0, .ref a1] X I R Q QE := by
  refine jy_met hV (by decide) (n := 2) (rt := some .int) (hh := []) (ini := false) (C := jx_c65) (L := [some (.ref a0), some (.ref a1)]) jt_65 (Nat.le_of_ble_eq_true rfl) rfl ?_
  intro J hS
  unfold wz_65 at h
  refine jy_aload_n hS rfl rfl ?_
  refine jy_ldcS hS rfl ?_
  obtain ⟨g1, h⟩ := h
  obtain ⟨Q2, h⟩ := h
  obtain ⟨g3, h⟩ := h
  refine jy_callV hS rfl rfl rfl (Nat.le_of_ble_eq_true rfl) (Or.inl g1) g3 (by decide) ⟨by decide, by decide⟩ (Nat.le_of_ble_eq_true rfl) ?_ ?_
  rotate_left
  · exact fun Ex Xx Ix Rx hp => hp.2.2.2.elim
  intro rv Xx I4 Rx hp
  obtain ⟨e1, e2, hp⟩ := hp
  rw [e1, e2]
  clear e1 e2
  obtain ⟨r5, e1, h⟩ := h rv I4 hp
  rw [e1]
  clear e1
  change J 6 [jy r5] _ (0, 0) _ _ _
  obtain ⟨g6, h⟩ := h
  refine jy_if_eq hS rfl g6 (fun hq => ?_) (fun hq => ?_)
  · have h := h.1 hq
    refine jy_aload_n hS rfl rfl ?_
    refine jy_ldcS hS rfl ?_
    obtain ⟨Q7, h⟩ := h
    obtain ⟨g8, h⟩ := h
    refine jy_callV hS rfl rfl rfl (Nat.le_of_ble_eq_true rfl) (Or.inl g1) g8 (by decide) ⟨by decide, by decide⟩ (Nat.le_of_ble_eq_true rfl) ?_ ?_
    rotate_left
    · exact fun Ex Xx Ix Rx hp => hp.2.2.2.elim
    intro rv Xx I9 Rx hp
    obtain ⟨e1, e2, hp⟩ := hp
    rw [e1, e2]
    clear e1 e2
    obtain ⟨r10, e1, h⟩ := h rv I9 hp
    rw [e1]
    clear e1
    change J 17 [jy r10] _ (0, 0) _ _ _
    obtain ⟨g11, h⟩ := h
    refine jy_if_eq hS rfl g11 (fun hq => ?_) (fun hq => ?_)
    · have h := h.1 hq
      refine jy_aload_n hS rfl rfl ?_
      refine jy_ldcS hS rfl ?_
      obtain ⟨Q12, h⟩ := h
      obtain ⟨g13, h⟩ := h
      refine jy_callV hS rfl rfl rfl (Nat.le_of_ble_eq_true rfl) (Or.inl g1) g13 (by decide) ⟨by decide, by decide⟩ (Nat.le_of_ble_eq_true rfl) ?_ ?_
      rotate_left
      · exact fun Ex Xx Ix Rx hp => hp.2.2.2.elim
      intro rv Xx I14 Rx hp
      obtain ⟨e1, e2, hp⟩ := hp
      rw [e1, e2]
      clear e1 e2
      obtain ⟨r15, e1, h⟩ := h rv I14 hp
      rw [e1]
      clear e1
      change J 28 [jy r15] _ (0, 0) _ _ _
      obtain ⟨g16, h⟩ := h
      refine jy_if_eq hS rfl g16 (fun hq => ?_) (fun hq => ?_)
      · have h := h.1 hq
        refine jy_aload_n hS rfl rfl ?_
        refine jy_ldcS hS rfl ?_
        obtain ⟨Q17, h⟩ := h
        obtain ⟨g18, h⟩ := h
        refine jy_callV hS rfl rfl rfl (Nat.le_of_ble_eq_true rfl) (Or.inl g1) g18 (by decide) ⟨by decide, by decide⟩ (Nat.le_of_ble_eq_true rfl) ?_ ?_
        rotate_left
        · exact fun Ex Xx Ix Rx hp => hp.2.2.2.elim
        intro rv Xx I19 Rx hp
        obtain ⟨e1, e2, hp⟩ := hp
        rw [e1, e2]
        clear e1 e2
        obtain ⟨r20, e1, h⟩ := h rv I19 hp
        rw [e1]
        clear e1
        change J 39 [jy r20] _ (0, 0) _ _ _
        obtain ⟨g21, h⟩ := h
        refine jy_if_eq hS rfl g21 (fun hq => ?_) (fun hq => ?_)
        · have h := h.1 hq
          refine jy_aload_n hS rfl rfl ?_
          refine jy_ldcS hS rfl ?_
          obtain ⟨Q22, h⟩ := h
          obtain ⟨g23, h⟩ := h
          refine jy_callV hS rfl rfl rfl (Nat.le_of_ble_eq_true rfl) (Or.inl g1) g23 (by decide) ⟨by decide, by decide⟩ (Nat.le_of_ble_eq_true rfl) ?_ ?_
          rotate_left
          · exact fun Ex Xx Ix Rx hp => hp.2.2.2.elim
          intro rv Xx I24 Rx hp
          obtain ⟨e1, e2, hp⟩ := hp
          rw [e1, e2]
          clear e1 e2
          obtain ⟨r25, e1, h⟩ := h rv I24 hp
          rw [e1]
          clear e1
          change J 50 [jy r25] _ (0, 0) _ _ _
          obtain ⟨g26, h⟩ := h
          refine jy_if_eq hS rfl g26 (fun hq => ?_) (fun hq => ?_)
          · have h := h.1 hq
            refine jy_aload_n hS rfl rfl ?_
            refine jy_ldcS hS rfl ?_
            obtain ⟨Q27, h⟩ := h
            obtain ⟨g28, h⟩ := h
            refine jy_callV hS rfl rfl rfl (Nat.le_of_ble_eq_true rfl) (Or.inl g1) g28 (by decide) ⟨by decide, by decide⟩ (Nat.le_of_ble_eq_true rfl) ?_ ?_
            rotate_left
            · exact fun Ex Xx Ix Rx hp => hp.2.2.2.elim
            intro rv Xx I29 Rx hp
            obtain ⟨e1, e2, hp⟩ := hp
            rw [e1, e2]
            clear e1 e2
            obtain ⟨r30, e1, h⟩ := h rv I29 hp
            rw [e1]
            clear e1
            change J 61 [jy r30] _ (0, 0) _ _ _
            obtain ⟨g31, h⟩ := h
            refine jy_if_eq hS rfl g31 (fun hq => ?_) (fun hq => ?_)
            · have h := h.1 hq
              refine jy_aload_n hS rfl rfl ?_
              refine jy_ldcS hS rfl ?_
              obtain ⟨Q32, h⟩ := h
              obtain ⟨g33, h⟩ := h
              refine jy_callV hS rfl rfl rfl (Nat.le_of_ble_eq_true rfl) (Or.inl g1) g33 (by decide) ⟨by decide, by decide⟩ (Nat.le_of_ble_eq_true rfl) ?_ ?_
              rotate_left
              · exact fun Ex Xx Ix Rx hp => hp.2.2.2.elim
              intro rv Xx I34 Rx hp
              obtain ⟨e1, e2, hp⟩ := hp
              rw [e1, e2]
              clear e1 e2
              obtain ⟨r35, e1, h⟩ := h rv I34 hp
              rw [e1]
              clear e1
              change J 72 [jy r35] _ (0, 0) _ _ _
              obtain ⟨g36, h⟩ := h
              refine jy_if_eq hS rfl g36 (fun hq => ?_) (fun hq => ?_)
              · have h := h.1 hq
                refine jy_aload_n hS rfl rfl ?_
                refine jy_aload_n hS rfl rfl ?_
                obtain ⟨g37, h⟩ := h
                obtain ⟨Q38, h⟩ := h
                obtain ⟨g39, h⟩ := h
                refine jy_callV hS rfl rfl rfl (Nat.le_of_ble_eq_true rfl) (Or.inl g37) g39 (by decide) ⟨by decide, by decide⟩ (Nat.le_of_ble_eq_true rfl) ?_ ?_
                rotate_left
                · exact fun Ex Xx Ix Rx hp => hp.2.2.2.elim
                intro rv Xx I40 Rx hp
                obtain ⟨e1, e2, hp⟩ := hp
                rw [e1, e2]
                clear e1 e2
                obtain ⟨r41, e1, h⟩ := h rv I40 hp
                rw [e1]
                clear e1
                change J 83 [jy r41] _ (0, 0) _ _ _
                exact jy_iret hS rfl rfl ⟨rfl, rfl, h⟩
              · have h := h.2 hq
                refine jy_bipush hS rfl (by decide) ?_
                exact jy_iret hS rfl rfl ⟨rfl, rfl, h⟩
            · have h := h.2 hq
              refine jy_iconst hS rfl ?_
              exact jy_iret hS rfl rfl ⟨rfl, rfl, h⟩
          · have h := h.2 hq
            refine jy_iconst hS rfl ?_
            exact jy_iret hS rfl rfl ⟨rfl, rfl, h⟩
        · have h := h.2 hq
          refine jy_iconst hS rfl ?_
          exact jy_iret hS rfl rfl ⟨rfl, rfl, h⟩
      · have h := h.2 hq
        refine jy_iconst hS rfl ?_
        exact jy_iret hS rfl rfl ⟨rfl, rfl, h⟩
    · have h := h.2 hq
      refine jy_iconst hS rfl ?_
      exact jy_iret hS rfl rfl ⟨rfl, rfl, h⟩
  · have h := h.2 hq
    refine jy_iconst hS rfl ?_
    exact jy_iret hS rfl rfl ⟨rfl, rfl, h⟩
theorem jt_66 : jx_ml 66 = 2 ∧ jx_rt 66 = some .int ∧ jx_hz 66 = [] ∧ decide ((jx_nm 66).name = "<init>") = false ∧ jx_code 66 = jx_c66 := by decide +kernel
/-- GC$Plan.kindOfNestedWord -/
def wz_66 (V : jx_V) (X : jx_X) (R : jx_R) (Q : Option Value → jx_I → Prop) (QE : String → jx_I → Prop)  (a0 : Nat) (a1 : Nat) (I : jx_I) : Prop :=
  (X.2.1 a1 = some (8, 0)) ∧ (
  ∃ Q2 : Option Value → jx_I → Prop, (
  (jc V 5 117 (0, 0) [.ref a1, .ref (V.2.2.2.1 23)] X I R Q2 (fun _ _ => False)) ∧ (
  ∀ rv I4, Q2 rv I4 → ∃ r5 : Int, rv = some (jy r5) ∧ (
  (-2147483648 ≤ r5 ∧ r5 < 2147483648) ∧ (
  (r5 = 0 → (
    ∃ Q7 : Option Value → jx_I → Prop, (
    (jc V 5 117 (0, 0) [.ref a1, .ref (V.2.2.2.1 24)] X I4 R Q7 (fun _ _ => False)) ∧ (
    ∀ rv I9, Q7 rv I9 → ∃ r10 : Int, rv = some (jy r10) ∧ (
    (-2147483648 ≤ r10 ∧ r10 < 2147483648) ∧ (
    (r10 = 0 → (
      ∃ Q12 : Option Value → jx_I → Prop, (
      (jc V 5 117 (0, 0) [.ref a1, .ref (V.2.2.2.1 25)] X I9 R Q12 (fun _ _ => False)) ∧ (
      ∀ rv I14, Q12 rv I14 → ∃ r15 : Int, rv = some (jy r15) ∧ (
      (-2147483648 ≤ r15 ∧ r15 < 2147483648) ∧ (
      (r15 = 0 → (
        Q (some (jy (-1))) I14
      )) ∧ (¬ r15 = 0 → (
        Q (some (jy 9)) I14
      ))))))
    )) ∧ (¬ r10 = 0 → (
      Q (some (jy 8)) I9
    ))))))
  )) ∧ (¬ r5 = 0 → (
    Q (some (jy 7)) I4
  )))))))
set_option maxRecDepth 20000 in
theorem wm_66 {V : jx_V} (hV : V.1.stackTraces = false) {X : jx_X} {R : jx_R} {I : jx_I} {Q : Option Value → jx_I → Prop} {QE : String → jx_I → Prop} {a0 : Nat} {a1 : Nat}  
    (h : wz_66 V X R Q QE  a0 a1 I) : jc V 6 66 (0, 0) [.ref a0, .ref a1] X I R Q QE := by
  refine jy_met hV (by decide) (n := 2) (rt := some .int) (hh := []) (ini := false) (C := jx_c66) (L := [some (.ref a0), some (.ref a1)]) jt_66 (Nat.le_of_ble_eq_true rfl) rfl ?_
  intro J hS
  unfold wz_66 at h
  refine jy_aload_n hS rfl rfl ?_
  refine jy_ldcS hS rfl ?_
  obtain ⟨g1, h⟩ := h
  obtain ⟨Q2, h⟩ := h
  obtain ⟨g3, h⟩ := h
  refine jy_callV hS rfl rfl rfl (Nat.le_of_ble_eq_true rfl) (Or.inl g1) g3 (by decide) ⟨by decide, by decide⟩ (Nat.le_of_ble_eq_true rfl) ?_ ?_
  rotate_left
  · exact fun Ex Xx Ix Rx hp => hp.2.2.2.elim
  intro rv Xx I4 Rx hp
  obtain ⟨e1, e2, hp⟩ := hp
  rw [e1, e2]
  clear e1 e2
  obtain ⟨r5, e1, h⟩ := h rv I4 hp
  rw [e1]
  clear e1
  change J 6 [jy r5] _ (0, 0) _ _ _
  obtain ⟨g6, h⟩ := h
  refine jy_if_eq hS rfl g6 (fun hq => ?_) (fun hq => ?_)
  · have h := h.1 hq
    refine jy_aload_n hS rfl rfl ?_
    refine jy_ldcS hS rfl ?_
    obtain ⟨Q7, h⟩ := h
    obtain ⟨g8, h⟩ := h
    refine jy_callV hS rfl rfl rfl (Nat.le_of_ble_eq_true rfl) (Or.inl g1) g8 (by decide) ⟨by decide, by decide⟩ (Nat.le_of_ble_eq_true rfl) ?_ ?_
    rotate_left
    · exact fun Ex Xx Ix Rx hp => hp.2.2.2.elim
    intro rv Xx I9 Rx hp
    obtain ⟨e1, e2, hp⟩ := hp
    rw [e1, e2]
    clear e1 e2
    obtain ⟨r10, e1, h⟩ := h rv I9 hp
    rw [e1]
    clear e1
    change J 18 [jy r10] _ (0, 0) _ _ _
    obtain ⟨g11, h⟩ := h
    refine jy_if_eq hS rfl g11 (fun hq => ?_) (fun hq => ?_)
    · have h := h.1 hq
      refine jy_aload_n hS rfl rfl ?_
      refine jy_ldcS hS rfl ?_
      obtain ⟨Q12, h⟩ := h
      obtain ⟨g13, h⟩ := h
      refine jy_callV hS rfl rfl rfl (Nat.le_of_ble_eq_true rfl) (Or.inl g1) g13 (by decide) ⟨by decide, by decide⟩ (Nat.le_of_ble_eq_true rfl) ?_ ?_
      rotate_left
      · exact fun Ex Xx Ix Rx hp => hp.2.2.2.elim
      intro rv Xx I14 Rx hp
      obtain ⟨e1, e2, hp⟩ := hp
      rw [e1, e2]
      clear e1 e2
      obtain ⟨r15, e1, h⟩ := h rv I14 hp
      rw [e1]
      clear e1
      change J 30 [jy r15] _ (0, 0) _ _ _
      obtain ⟨g16, h⟩ := h
      refine jy_if_eq hS rfl g16 (fun hq => ?_) (fun hq => ?_)
      · have h := h.1 hq
        refine jy_iconst hS rfl ?_
        exact jy_iret hS rfl rfl ⟨rfl, rfl, h⟩
      · have h := h.2 hq
        refine jy_bipush hS rfl (by decide) ?_
        refine jy_goto hS rfl ?_
        exact jy_iret hS rfl rfl ⟨rfl, rfl, h⟩
    · have h := h.2 hq
      refine jy_bipush hS rfl (by decide) ?_
      exact jy_iret hS rfl rfl ⟨rfl, rfl, h⟩
  · have h := h.2 hq
    refine jy_bipush hS rfl (by decide) ?_
    exact jy_iret hS rfl rfl ⟨rfl, rfl, h⟩
theorem jt_68 : jx_ml 68 = 1 ∧ jx_rt 68 = none ∧ jx_hz 68 = [] ∧ decide ((jx_nm 68).name = "<init>") = false ∧ jx_code 68 = jx_c68 := by decide +kernel
/-- GC$Row.empty -/
def wz_68 (V : jx_V) (X : jx_X) (R : jx_R) (Q : Option Value → jx_I → Prop) (QE : String → jx_I → Prop)  (a0 : Nat) (I : jx_I) : Prop :=
  (X.2.1 a0 = some (5, 0)) ∧ (
  ∀ I2 : jx_I, I2 = jx_u I a0 1 (Int32.ofInt 0) → (
  Q none I2))
set_option maxRecDepth 20000 in
theorem wm_68 {V : jx_V} (hV : V.1.stackTraces = false) {X : jx_X} {R : jx_R} {I : jx_I} {Q : Option Value → jx_I → Prop} {QE : String → jx_I → Prop} {a0 : Nat}  
    (h : wz_68 V X R Q QE  a0 I) : jc V 1 68 (0, 0) [.ref a0] X I R Q QE := by
  refine jy_met hV (by decide) (n := 1) (rt := none) (hh := []) (ini := false) (C := jx_c68) (L := [some (.ref a0)]) jt_68 (Nat.le_of_ble_eq_true rfl) rfl ?_
  intro J hS
  unfold wz_68 at h
  refine jy_aload_n hS rfl rfl ?_
  refine jy_iconst hS rfl ?_
  obtain ⟨g1, h⟩ := h
  refine jy_putI hS rfl (by decide) g1 ?_
  intro I2 e9
  have h := h I2 e9
  clear e9
  exact jy_ret hS rfl rfl ⟨rfl, rfl, h⟩
theorem jt_69 : jx_ml 69 = 2 ∧ jx_rt 69 = none ∧ jx_hz 69 = [] ∧ decide ((jx_nm 69).name = "<init>") = false ∧ jx_code 69 = jx_c69 := by decide +kernel
/-- GC$Row.add -/
def wz_69 (V : jx_V) (X : jx_X) (R : jx_R) (Q : Option Value → jx_I → Prop) (QE : String → jx_I → Prop)  (a0 : Nat) (a1 : Int) (I : jx_I) : Prop :=
  (X.2.1 a0 = some (5, 0)) ∧ (
  ∃ q2 : Nat, (
  (R a0 0 = some q2) ∧ (
  ∃ n4 : Nat, (
  (X.2.1 q2 = some (100, n4) ∧ n4 < 2147483648) ∧ (
  ((n4 : Int) ≤ (I a0 1).toInt → (
    Q none I
  )) ∧ (¬ (n4 : Int) ≤ (I a0 1).toInt → (
    (0 ≤ (I a0 1).toInt ∧ (I a0 1).toInt < n4) ∧ (
    ∀ I7 : jx_I, I7 = jx_u I q2 ((I a0 1).toInt).toNat (Int32.ofInt a1) → (
    ∀ I8 : jx_I, I8 = jx_u I7 a0 1 (Int32.ofInt ((I7 a0 1).toInt + 1)) → (
    Q none I8)))
  )))))))
set_option maxRecDepth 20000 in
theorem wm_69 {V : jx_V} (hV : V.1.stackTraces = false) {X : jx_X} {R : jx_R} {I : jx_I} {Q : Option Value → jx_I → Prop} {QE : String → jx_I → Prop} {a0 : Nat} {a1 : Int} (r_a1 : -2147483648 ≤ a1 ∧ a1 < 2147483648) 
    (h : wz_69 V X R Q QE  a0 a1 I) : jc V 1 69 (0, 0) [.ref a0, jy a1] X I R Q QE := by
  refine jy_met hV (by decide) (n := 2) (rt := none) (hh := []) (ini := false) (C := jx_c69) (L := [some (.ref a0), some (jy a1)]) jt_69 (Nat.le_of_ble_eq_true rfl) rfl ?_
  intro J hS
  unfold wz_69 at h
  refine jy_aload_n hS rfl rfl ?_
  obtain ⟨g1, h⟩ := h
  refine jy_getI hS rfl (by decide) g1 ?_
  refine jy_aload_n hS rfl rfl ?_
  obtain ⟨q2, h⟩ := h
  obtain ⟨g3, h⟩ := h
  refine jy_getR hS rfl (by decide) g1 g3 ?_
  obtain ⟨n4, h⟩ := h
  obtain ⟨g5, h⟩ := h
  refine jy_alen hS rfl g5.1 (by decide) g5.2 ?_
  refine jy_icmp_ge hS rfl ⟨(jy_rng _), (by omega)⟩ (fun hq => ?_) (fun hq => ?_)
  · have h := h.1 hq
    exact jy_ret hS rfl rfl ⟨rfl, rfl, h⟩
  · have h := h.2 hq
    refine jy_aload_n hS rfl rfl ?_
    refine jy_getR hS rfl (by decide) g1 g3 ?_
    refine jy_aload_n hS rfl rfl ?_
    refine jy_getI hS rfl (by decide) g1 ?_
    refine jy_iload_n hS rfl rfl ?_
    obtain ⟨g6, h⟩ := h
    refine jy_iast hS rfl g5.1 (Nat.le_of_lt g5.2) g6 ?_
    intro I7 e9
    have h := h I7 e9
    clear e9
    refine jy_aload_n hS rfl rfl ?_
    refine jy_dup hS rfl rfl ?_
    refine jy_getI hS rfl (by decide) g1 ?_
    refine jy_iconst hS rfl ?_
    refine jy_iadd hS rfl ?_
    refine jy_putI hS rfl (by decide) g1 ?_
    intro I8 e9
    have h := h I8 e9
    clear e9
    exact jy_ret hS rfl rfl ⟨rfl, rfl, h⟩
theorem jt_70 : jx_ml 70 = 3 ∧ jx_rt 70 = none ∧ jx_hz 70 = [] ∧ decide ((jx_nm 70).name = "<init>") = false ∧ jx_code 70 = jx_c70 := by decide +kernel
/-- GC$Row.putFirst, from 17 -/
def wz_70_17 (V : jx_V) (X : jx_X) (R : jx_R) (Q : Option Value → jx_I → Prop) (QE : String → jx_I → Prop) (J17 : Int → jx_I → Prop) (a0 : Nat) (a1 : Int) (l2 : Int) (I : jx_I) : Prop :=
  (-2147483648 ≤ l2 ∧ l2 < 2147483648) ∧ (
  (l2 ≤ 0 → (
    (X.2.1 a0 = some (5, 0)) ∧ (
    ∃ q8 : Nat, (
    (R a0 0 = some q8) ∧ (
    ∃ n10 : Nat, (
    (X.2.1 q8 = some (100, n10) ∧ n10 < 2147483648) ∧ (
    (0 ≤ (0 : Int) ∧ (0 : Int) < n10) ∧ (
    ∀ I13 : jx_I, I13 = jx_u I q8 (0 : Int).toNat (Int32.ofInt a1) → (
    ∀ I14 : jx_I, I14 = jx_u I13 a0 1 (Int32.ofInt ((I13 a0 1).toInt + 1)) → (
    Q none I14))))))))
  )) ∧ (¬ l2 ≤ 0 → (
    (X.2.1 a0 = some (5, 0)) ∧ (
    ∃ q16 : Nat, (
    (R a0 0 = some q16) ∧ (
    ∃ n18 : Nat, (
    (X.2.1 q16 = some (100, n18) ∧ n18 < 2147483648) ∧ (
    (0 ≤ (l2 - 1) ∧ (l2 - 1) < n18) ∧ (
    (0 ≤ l2 ∧ l2 < n18) ∧ (
    ∀ I22 : jx_I, I22 = jx_u I q16 l2.toNat (Int32.ofInt ((I q16 (l2 - 1).toNat).toInt)) → (
    J17 (l2 + (-1)) I22))))))))
  )))
/-- GC$Row.putFirst -/
def wz_70 (V : jx_V) (X : jx_X) (R : jx_R) (Q : Option Value → jx_I → Prop) (QE : String → jx_I → Prop) (J17 : Int → jx_I → Prop) (a0 : Nat) (a1 : Int) (I : jx_I) : Prop :=
  (X.2.1 a0 = some (5, 0)) ∧ (
  ∃ q2 : Nat, (
  (R a0 0 = some q2) ∧ (
  ∃ n4 : Nat, (
  (X.2.1 q2 = some (100, n4) ∧ n4 < 2147483648) ∧ (
  ((n4 : Int) ≤ (I a0 1).toInt → (
    Q none I
  )) ∧ (¬ (n4 : Int) ≤ (I a0 1).toInt → (
    J17 ((I a0 1).toInt) I
  )))))))
set_option maxRecDepth 20000 in
theorem wm_70 {V : jx_V} (hV : V.1.stackTraces = false) {X : jx_X} {R : jx_R} {I : jx_I} {Q : Option Value → jx_I → Prop} {QE : String → jx_I → Prop} {a0 : Nat} {a1 : Int} (r_a1 : -2147483648 ≤ a1 ∧ a1 < 2147483648) 
    (h : ∀ (J17 : Int → jx_I → Prop), ((∀ (l2 : Int) I, wz_70_17 V X R Q QE J17 a0 a1 l2 I → J17 l2 I)) → wz_70 V X R Q QE J17 a0 a1 I) : jc V 1 70 (0, 0) [.ref a0, jy a1] X I R Q QE := by
  refine jy_met hV (by decide) (n := 3) (rt := none) (hh := []) (ini := false) (C := jx_c70) (L := [some (.ref a0), some (jy a1), none]) jt_70 (Nat.le_of_ble_eq_true rfl) rfl ?_
  intro J hS
  have h := h (fun l2 I => J 17 [] [some (.ref a0), some (jy a1), some (jy l2)] (0, 0) X I R) ?_
  · unfold wz_70 at h
    refine jy_aload_n hS rfl rfl ?_
    obtain ⟨g1, h⟩ := h
    refine jy_getI hS rfl (by decide) g1 ?_
    refine jy_aload_n hS rfl rfl ?_
    obtain ⟨q2, h⟩ := h
    obtain ⟨g3, h⟩ := h
    refine jy_getR hS rfl (by decide) g1 g3 ?_
    obtain ⟨n4, h⟩ := h
    obtain ⟨g5, h⟩ := h
    refine jy_alen hS rfl g5.1 (by decide) g5.2 ?_
    refine jy_icmp_ge hS rfl ⟨(jy_rng _), (by omega)⟩ (fun hq => ?_) (fun hq => ?_)
    · have h := h.1 hq
      exact jy_ret hS rfl rfl ⟨rfl, rfl, h⟩
    · have h := h.2 hq
      refine jy_aload_n hS rfl rfl ?_
      refine jy_getI hS rfl (by decide) g1 ?_
      refine jy_istore_n hS rfl (Nat.le_of_ble_eq_true rfl) (L' := [some (.ref a0), some (jy a1), some (jy ((I a0 1).toInt))]) rfl ?_
      exact jy_join hS h rfl (jy_sub_s (jy_sub_s (jy_sub_s jy_sub_0)))
  · intro l2 I h
    unfold wz_70_17 at h
    refine jy_iload_n hS rfl rfl ?_
    obtain ⟨g6, h⟩ := h
    refine jy_if_le hS rfl g6 (fun hq => ?_) (fun hq => ?_)
    · have h := h.1 hq
      refine jy_aload_n hS rfl rfl ?_
      obtain ⟨g7, h⟩ := h
      obtain ⟨q8, h⟩ := h
      obtain ⟨g9, h⟩ := h
      refine jy_getR hS rfl (by decide) g7 g9 ?_
      refine jy_iconst hS rfl ?_
      refine jy_iload_n hS rfl rfl ?_
      obtain ⟨n10, h⟩ := h
      obtain ⟨g11, h⟩ := h
      obtain ⟨g12, h⟩ := h
      refine jy_iast hS rfl g11.1 (Nat.le_of_lt g11.2) g12 ?_
      intro I13 e9
      have h := h I13 e9
      clear e9
      refine jy_aload_n hS rfl rfl ?_
      refine jy_dup hS rfl rfl ?_
      refine jy_getI hS rfl (by decide) g7 ?_
      refine jy_iconst hS rfl ?_
      refine jy_iadd hS rfl ?_
      refine jy_putI hS rfl (by decide) g7 ?_
      intro I14 e9
      have h := h I14 e9
      clear e9
      exact jy_ret hS rfl rfl ⟨rfl, rfl, h⟩
    · have h := h.2 hq
      refine jy_aload_n hS rfl rfl ?_
      obtain ⟨g15, h⟩ := h
      obtain ⟨q16, h⟩ := h
      obtain ⟨g17, h⟩ := h
      refine jy_getR hS rfl (by decide) g15 g17 ?_
      refine jy_iload_n hS rfl rfl ?_
      refine jy_aload_n hS rfl rfl ?_
      refine jy_getR hS rfl (by decide) g15 g17 ?_
      refine jy_iload_n hS rfl rfl ?_
      refine jy_iconst hS rfl ?_
      refine jy_isub hS rfl ?_
      obtain ⟨n18, h⟩ := h
      obtain ⟨g19, h⟩ := h
      obtain ⟨g20, h⟩ := h
      refine jy_iald hS rfl g19.1 (Nat.le_of_lt g19.2) g20 ?_
      obtain ⟨g21, h⟩ := h
      refine jy_iast hS rfl g19.1 (Nat.le_of_lt g19.2) g21 ?_
      intro I22 e9
      have h := h I22 e9
      clear e9
      refine jy_iinc hS rfl rfl (L' := [some (.ref a0), some (jy a1), some (jy (l2 + (-1)))]) rfl ?_
      refine jy_goto hS rfl ?_
      exact jy_join hS h rfl (jy_sub_s (jy_sub_s (jy_sub_s jy_sub_0)))
theorem jt_71 : jx_ml 71 = 4 ∧ jx_rt 71 = none ∧ jx_hz 71 = [] ∧ decide ((jx_nm 71).name = "<init>") = false ∧ jx_code 71 = jx_c71 := by decide +kernel
/-- GC$Row.takeOut, from 4 -/
def wz_71_4 (V : jx_V) (X : jx_X) (R : jx_R) (Q : Option Value → jx_I → Prop) (QE : String → jx_I → Prop) (J4 : Int → Int → jx_I → Prop) (J37 : Int → Int → jx_I → Prop) (a0 : Nat) (a1 : Int) (l2 : Int) (l3 : Int) (I : jx_I) : Prop :=
  (X.2.1 a0 = some (5, 0)) ∧ (
  (-2147483648 ≤ l3 ∧ l3 < 2147483648) ∧ (
  ((I a0 1).toInt ≤ l3 → (
    ∀ I3 : jx_I, I3 = jx_u I a0 1 (Int32.ofInt l2) → (
    Q none I3)
  )) ∧ (¬ (I a0 1).toInt ≤ l3 → (
    ∃ q4 : Nat, (
    (R a0 0 = some q4) ∧ (
    ∃ n6 : Nat, (
    (X.2.1 q4 = some (100, n6) ∧ n6 < 2147483648) ∧ (
    (0 ≤ l3 ∧ l3 < n6) ∧ (
    ((I q4 l3.toNat).toInt = a1 → (
      J4 l2 (l3 + 1) I
    )) ∧ (¬ (I q4 l3.toNat).toInt = a1 → (
      (0 ≤ l3 ∧ l3 < n6) ∧ (
      (0 ≤ l2 ∧ l2 < n6) ∧ (
      ∀ I11 : jx_I, I11 = jx_u I q4 l2.toNat (Int32.ofInt ((I q4 l3.toNat).toInt)) → (
      J37 (l2 + 1) l3 I11)))
    )))))))
  ))))
/-- GC$Row.takeOut, from 37 -/
def wz_71_37 (V : jx_V) (X : jx_X) (R : jx_R) (Q : Option Value → jx_I → Prop) (QE : String → jx_I → Prop) (J4 : Int → Int → jx_I → Prop) (J37 : Int → Int → jx_I → Prop) (a0 : Nat) (a1 : Int) (l2 : Int) (l3 : Int) (I : jx_I) : Prop :=
  J4 l2 (l3 + 1) I
/-- GC$Row.takeOut -/
def wz_71 (V : jx_V) (X : jx_X) (R : jx_R) (Q : Option Value → jx_I → Prop) (QE : String → jx_I → Prop) (J4 : Int → Int → jx_I → Prop) (J37 : Int → Int → jx_I → Prop) (a0 : Nat) (a1 : Int) (I : jx_I) : Prop :=
  J4 0 0 I
set_option maxRecDepth 20000 in
theorem wm_71 {V : jx_V} (hV : V.1.stackTraces = false) {X : jx_X} {R : jx_R} {I : jx_I} {Q : Option Value → jx_I → Prop} {QE : String → jx_I → Prop} {a0 : Nat} {a1 : Int} (r_a1 : -2147483648 ≤ a1 ∧ a1 < 2147483648) 
    (h : ∀ (J4 : Int → Int → jx_I → Prop) (J37 : Int → Int → jx_I → Prop), ((∀ (l2 : Int) (l3 : Int) I, wz_71_4 V X R Q QE J4 J37 a0 a1 l2 l3 I → J4 l2 l3 I) ∧ (∀ (l2 : Int) (l3 : Int) I, wz_71_37 V X R Q QE J4 J37 a0 a1 l2 l3 I → J37 l2 l3 I)) → wz_71 V X R Q QE J4 J37 a0 a1 I) : jc V 1 71 (0, 0) [.ref a0, jy a1] X I R Q QE := by
  refine jy_met hV (by decide) (n := 4) (rt := none) (hh := []) (ini := false) (C := jx_c71) (L := [some (.ref a0), some (jy a1), none, none]) jt_71 (Nat.le_of_ble_eq_true rfl) rfl ?_
  intro J hS
  have h := h (fun l2 l3 I => J 4 [] [some (.ref a0), some (jy a1), some (jy l2), some (jy l3)] (0, 0) X I R) (fun l2 l3 I => J 37 [] [some (.ref a0), some (jy a1), some (jy l2), some (jy l3)] (0, 0) X I R) ?_
  · unfold wz_71 at h
    refine jy_iconst hS rfl ?_
    refine jy_istore_n hS rfl (Nat.le_of_ble_eq_true rfl) (L' := [some (.ref a0), some (jy a1), some (jy 0), none]) rfl ?_
    refine jy_iconst hS rfl ?_
    refine jy_istore_n hS rfl (Nat.le_of_ble_eq_true rfl) (L' := [some (.ref a0), some (jy a1), some (jy 0), some (jy 0)]) rfl ?_
    exact jy_join hS h rfl (jy_sub_s (jy_sub_s (jy_sub_s (jy_sub_s jy_sub_0))))
  refine ⟨?_, ?_⟩
  · intro l2 l3 I h
    unfold wz_71_4 at h
    refine jy_iload_n hS rfl rfl ?_
    refine jy_aload_n hS rfl rfl ?_
    obtain ⟨g1, h⟩ := h
    refine jy_getI hS rfl (by decide) g1 ?_
    obtain ⟨g2, h⟩ := h
    refine jy_icmp_ge hS rfl ⟨g2, (jy_rng _)⟩ (fun hq => ?_) (fun hq => ?_)
    · have h := h.1 hq
      refine jy_aload_n hS rfl rfl ?_
      refine jy_iload_n hS rfl rfl ?_
      refine jy_putI hS rfl (by decide) g1 ?_
      intro I3 e9
      have h := h I3 e9
      clear e9
      exact jy_ret hS rfl rfl ⟨rfl, rfl, h⟩
    · have h := h.2 hq
      refine jy_aload_n hS rfl rfl ?_
      obtain ⟨q4, h⟩ := h
      obtain ⟨g5, h⟩ := h
      refine jy_getR hS rfl (by decide) g1 g5 ?_
      refine jy_iload_n hS rfl rfl ?_
      obtain ⟨n6, h⟩ := h
      obtain ⟨g7, h⟩ := h
      obtain ⟨g8, h⟩ := h
      refine jy_iald hS rfl g7.1 (Nat.le_of_lt g7.2) g8 ?_
      refine jy_iload_n hS rfl rfl ?_
      refine jy_icmp_eq hS rfl ⟨(jy_rng _), r_a1⟩ (fun hq => ?_) (fun hq => ?_)
      · have h := h.1 hq
        refine jy_iinc hS rfl rfl (L' := [some (.ref a0), some (jy a1), some (jy l2), some (jy (l3 + 1))]) rfl ?_
        refine jy_goto hS rfl ?_
        exact jy_join hS h rfl (jy_sub_s (jy_sub_s (jy_sub_s (jy_sub_s jy_sub_0))))
      · have h := h.2 hq
        refine jy_aload_n hS rfl rfl ?_
        refine jy_getR hS rfl (by decide) g1 g5 ?_
        refine jy_iload_n hS rfl rfl ?_
        refine jy_aload_n hS rfl rfl ?_
        refine jy_getR hS rfl (by decide) g1 g5 ?_
        refine jy_iload_n hS rfl rfl ?_
        obtain ⟨g9, h⟩ := h
        refine jy_iald hS rfl g7.1 (Nat.le_of_lt g7.2) g9 ?_
        obtain ⟨g10, h⟩ := h
        refine jy_iast hS rfl g7.1 (Nat.le_of_lt g7.2) g10 ?_
        intro I11 e9
        have h := h I11 e9
        clear e9
        refine jy_iinc hS rfl rfl (L' := [some (.ref a0), some (jy a1), some (jy (l2 + 1)), some (jy l3)]) rfl ?_
        exact jy_join hS h rfl (jy_sub_s (jy_sub_s (jy_sub_s (jy_sub_s jy_sub_0))))
  · intro l2 l3 I h
    unfold wz_71_37 at h
    refine jy_iinc hS rfl rfl (L' := [some (.ref a0), some (jy a1), some (jy l2), some (jy (l3 + 1))]) rfl ?_
    refine jy_goto hS rfl ?_
    exact jy_join hS h rfl (jy_sub_s (jy_sub_s (jy_sub_s (jy_sub_s jy_sub_0))))
theorem jt_72 : jx_ml 72 = 3 ∧ jx_rt 72 = some .boolean ∧ jx_hz 72 = [] ∧ decide ((jx_nm 72).name = "<init>") = false ∧ jx_code 72 = jx_c72 := by decide +kernel
/-- GC$Row.has, from 2 -/
def wz_72_2 (V : jx_V) (X : jx_X) (R : jx_R) (Q : Option Value → jx_I → Prop) (QE : String → jx_I → Prop) (J2 : Int → jx_I → Prop) (a0 : Nat) (a1 : Int) (l2 : Int) (I : jx_I) : Prop :=
  (X.2.1 a0 = some (5, 0)) ∧ (
  (-2147483648 ≤ l2 ∧ l2 < 2147483648) ∧ (
  ((I a0 1).toInt ≤ l2 → (
    Q (some (jy 0)) I
  )) ∧ (¬ (I a0 1).toInt ≤ l2 → (
    ∃ q3 : Nat, (
    (R a0 0 = some q3) ∧ (
    ∃ n5 : Nat, (
    (X.2.1 q3 = some (100, n5) ∧ n5 < 2147483648) ∧ (
    (0 ≤ l2 ∧ l2 < n5) ∧ (
    ((I q3 l2.toNat).toInt ≠ a1 → (
      J2 (l2 + 1) I
    )) ∧ ((I q3 l2.toNat).toInt = a1 → (
      Q (some (jy 1)) I
    )))))))
  ))))
/-- GC$Row.has -/
def wz_72 (V : jx_V) (X : jx_X) (R : jx_R) (Q : Option Value → jx_I → Prop) (QE : String → jx_I → Prop) (J2 : Int → jx_I → Prop) (a0 : Nat) (a1 : Int) (I : jx_I) : Prop :=
  J2 0 I
set_option maxRecDepth 20000 in
theorem wm_72 {V : jx_V} (hV : V.1.stackTraces = false) {X : jx_X} {R : jx_R} {I : jx_I} {Q : Option Value → jx_I → Prop} {QE : String → jx_I → Prop} {a0 : Nat} {a1 : Int} (r_a1 : -2147483648 ≤ a1 ∧ a1 < 2147483648) 
    (h : ∀ (J2 : Int → jx_I → Prop), ((∀ (l2 : Int) I, wz_72_2 V X R Q QE J2 a0 a1 l2 I → J2 l2 I)) → wz_72 V X R Q QE J2 a0 a1 I) : jc V 1 72 (0, 0) [.ref a0, jy a1] X I R Q QE := by
  refine jy_met hV (by decide) (n := 3) (rt := some .boolean) (hh := []) (ini := false) (C := jx_c72) (L := [some (.ref a0), some (jy a1), none]) jt_72 (Nat.le_of_ble_eq_true rfl) rfl ?_
  intro J hS
  have h := h (fun l2 I => J 2 [] [some (.ref a0), some (jy a1), some (jy l2)] (0, 0) X I R) ?_
  · unfold wz_72 at h
    refine jy_iconst hS rfl ?_
    refine jy_istore_n hS rfl (Nat.le_of_ble_eq_true rfl) (L' := [some (.ref a0), some (jy a1), some (jy 0)]) rfl ?_
    exact jy_join hS h rfl (jy_sub_s (jy_sub_s (jy_sub_s jy_sub_0)))
  · intro l2 I h
    unfold wz_72_2 at h
    refine jy_iload_n hS rfl rfl ?_
    refine jy_aload_n hS rfl rfl ?_
    obtain ⟨g1, h⟩ := h
    refine jy_getI hS rfl (by decide) g1 ?_
    obtain ⟨g2, h⟩ := h
    refine jy_icmp_ge hS rfl ⟨g2, (jy_rng _)⟩ (fun hq => ?_) (fun hq => ?_)
    · have h := h.1 hq
      refine jy_iconst hS rfl ?_
      exact jy_iret hS rfl rfl ⟨rfl, rfl, h⟩
    · have h := h.2 hq
      refine jy_aload_n hS rfl rfl ?_
      obtain ⟨q3, h⟩ := h
      obtain ⟨g4, h⟩ := h
      refine jy_getR hS rfl (by decide) g1 g4 ?_
      refine jy_iload_n hS rfl rfl ?_
      obtain ⟨n5, h⟩ := h
      obtain ⟨g6, h⟩ := h
      obtain ⟨g7, h⟩ := h
      refine jy_iald hS rfl g6.1 (Nat.le_of_lt g6.2) g7 ?_
      refine jy_iload_n hS rfl rfl ?_
      refine jy_icmp_ne hS rfl ⟨(jy_rng _), r_a1⟩ (fun hq => ?_) (fun hq => ?_)
      · have h := h.1 hq
        refine jy_iinc hS rfl rfl (L' := [some (.ref a0), some (jy a1), some (jy (l2 + 1))]) rfl ?_
        refine jy_goto hS rfl ?_
        exact jy_join hS h rfl (jy_sub_s (jy_sub_s (jy_sub_s jy_sub_0)))
      · have h := h.2 hq
        refine jy_iconst hS rfl ?_
        exact jy_iret hS rfl rfl ⟨rfl, rfl, h⟩
theorem jt_73 : jx_ml 73 = 2 ∧ jx_rt 73 = some .int ∧ jx_hz 73 = [] ∧ decide ((jx_nm 73).name = "<init>") = false ∧ jx_code 73 = jx_c73 := by decide +kernel
/-- GC$Row.itemAt -/
def wz_73 (V : jx_V) (X : jx_X) (R : jx_R) (Q : Option Value → jx_I → Prop) (QE : String → jx_I → Prop)  (a0 : Nat) (a1 : Int) (I : jx_I) : Prop :=
  (a1 < 0 → (
    Q (some (jy (-1))) I
  )) ∧ (¬ a1 < 0 → (
    (X.2.1 a0 = some (5, 0)) ∧ (
    ((I a0 1).toInt ≤ a1 → (
      Q (some (jy (-1))) I
    )) ∧ (¬ (I a0 1).toInt ≤ a1 → (
      ∃ q2 : Nat, (
      (R a0 0 = some q2) ∧ (
      ∃ n4 : Nat, (
      (X.2.1 q2 = some (100, n4) ∧ n4 < 2147483648) ∧ (
      (0 ≤ a1 ∧ a1 < n4) ∧ (
      Q (some (jy ((I q2 a1.toNat).toInt))) I)))))
    )))
  ))
set_option maxRecDepth 20000 in
theorem wm_73 {V : jx_V} (hV : V.1.stackTraces = false) {X : jx_X} {R : jx_R} {I : jx_I} {Q : Option Value → jx_I → Prop} {QE : String → jx_I → Prop} {a0 : Nat} {a1 : Int} (r_a1 : -2147483648 ≤ a1 ∧ a1 < 2147483648) 
    (h : wz_73 V X R Q QE  a0 a1 I) : jc V 1 73 (0, 0) [.ref a0, jy a1] X I R Q QE := by
  refine jy_met hV (by decide) (n := 2) (rt := some .int) (hh := []) (ini := false) (C := jx_c73) (L := [some (.ref a0), some (jy a1)]) jt_73 (Nat.le_of_ble_eq_true rfl) rfl ?_
  intro J hS
  unfold wz_73 at h
  refine jy_iload_n hS rfl rfl ?_
  refine jy_if_lt hS rfl r_a1 (fun hq => ?_) (fun hq => ?_)
  · have h := h.1 hq
    refine jy_iconst hS rfl ?_
    exact jy_iret hS rfl rfl ⟨rfl, rfl, h⟩
  · have h := h.2 hq
    refine jy_iload_n hS rfl rfl ?_
    refine jy_aload_n hS rfl rfl ?_
    obtain ⟨g1, h⟩ := h
    refine jy_getI hS rfl (by decide) g1 ?_
    refine jy_icmp_ge hS rfl ⟨r_a1, (jy_rng _)⟩ (fun hq => ?_) (fun hq => ?_)
    · have h := h.1 hq
      refine jy_iconst hS rfl ?_
      exact jy_iret hS rfl rfl ⟨rfl, rfl, h⟩
    · have h := h.2 hq
      refine jy_aload_n hS rfl rfl ?_
      obtain ⟨q2, h⟩ := h
      obtain ⟨g3, h⟩ := h
      refine jy_getR hS rfl (by decide) g1 g3 ?_
      refine jy_iload_n hS rfl rfl ?_
      obtain ⟨n4, h⟩ := h
      obtain ⟨g5, h⟩ := h
      obtain ⟨g6, h⟩ := h
      refine jy_iald hS rfl g5.1 (Nat.le_of_lt g5.2) g6 ?_
      refine jy_goto hS rfl ?_
      exact jy_iret hS rfl rfl ⟨rfl, rfl, h⟩
theorem jt_74 : jx_ml 74 = 2 ∧ jx_rt 74 = none ∧ jx_hz 74 = [] ∧ decide ((jx_nm 74).name = "<init>") = false ∧ jx_code 74 = jx_c74 := by decide +kernel
/-- GC$Row.copyFrom -/
def wz_74 (V : jx_V) (X : jx_X) (R : jx_R) (Q : Option Value → jx_I → Prop) (QE : String → jx_I → Prop)  (a0 : Nat) (a1 : Nat) (I : jx_I) : Prop :=
  (X.2.1 a1 = some (5, 0)) ∧ (
  (X.2.1 a0 = some (5, 0)) ∧ (
  ∀ I3 : jx_I, I3 = jx_u I a0 1 (Int32.ofInt ((I a1 1).toInt)) → (
  ∃ q4 : Nat, (
  (R a1 0 = some q4) ∧ (
  ∃ q6 : Nat, (
  (R a0 0 = some q6) ∧ (
  ∃ n8 : Nat, (
  (X.2.1 q6 = some (100, n8) ∧ n8 < 2147483648) ∧ (
  ∃ n10 : Nat, (
  (X.2.1 q4 = some (100, n10) ∧ n10 < 2147483648) ∧ (
  ((0 ≤ (0 : Int) ∧ (0 : Int) + (n8 : Int) ≤ n10) ∧ (0 ≤ (0 : Int) ∧ (0 : Int) + (n8 : Int) ≤ n8) ∧ 0 ≤ (n8 : Int)) ∧ (
  ∀ I13 : jx_I, I13 = jx_cp I3 q4 q6 (0 : Int).toNat (0 : Int).toNat ((n8 : Int) : Int).toNat → (
  Q none I13)))))))))))))
set_option maxRecDepth 20000 in
theorem wm_74 {V : jx_V} (hV : V.1.stackTraces = false) {X : jx_X} {R : jx_R} {I : jx_I} {Q : Option Value → jx_I → Prop} {QE : String → jx_I → Prop} {a0 : Nat} {a1 : Nat}  
    (h : wz_74 V X R Q QE  a0 a1 I) : jc V 1 74 (0, 0) [.ref a0, .ref a1] X I R Q QE := by
  refine jy_met hV (by decide) (n := 2) (rt := none) (hh := []) (ini := false) (C := jx_c74) (L := [some (.ref a0), some (.ref a1)]) jt_74 (Nat.le_of_ble_eq_true rfl) rfl ?_
  intro J hS
  unfold wz_74 at h
  refine jy_aload_n hS rfl rfl ?_
  refine jy_aload_n hS rfl rfl ?_
  obtain ⟨g1, h⟩ := h
  refine jy_getI hS rfl (by decide) g1 ?_
  obtain ⟨g2, h⟩ := h
  refine jy_putI hS rfl (by decide) g2 ?_
  intro I3 e9
  have h := h I3 e9
  clear e9
  refine jy_aload_n hS rfl rfl ?_
  obtain ⟨q4, h⟩ := h
  obtain ⟨g5, h⟩ := h
  refine jy_getR hS rfl (by decide) g1 g5 ?_
  refine jy_iconst hS rfl ?_
  refine jy_aload_n hS rfl rfl ?_
  obtain ⟨q6, h⟩ := h
  obtain ⟨g7, h⟩ := h
  refine jy_getR hS rfl (by decide) g2 g7 ?_
  refine jy_iconst hS rfl ?_
  refine jy_aload_n hS rfl rfl ?_
  refine jy_getR hS rfl (by decide) g2 g7 ?_
  obtain ⟨n8, h⟩ := h
  obtain ⟨g9, h⟩ := h
  refine jy_alen hS rfl g9.1 (by decide) g9.2 ?_
  obtain ⟨n10, h⟩ := h
  obtain ⟨g11, h⟩ := h
  obtain ⟨g12, h⟩ := h
  refine jy_copy hS rfl (by decide) g11 g9 g12 (Nat.le_of_ble_eq_true rfl) ?_
  intro I13 e9
  have h := h I13 e9
  clear e9
  exact jy_ret hS rfl rfl ⟨rfl, rfl, h⟩
theorem jt_75 : jx_ml 75 = 3 ∧ jx_rt 75 = none ∧ jx_hz 75 = [] ∧ decide ((jx_nm 75).name = "<init>") = false ∧ jx_code 75 = jx_c75 := by decide +kernel
/-- GC$Row.takeFirst, from 6 -/
def wz_75_6 (V : jx_V) (X : jx_X) (R : jx_R) (Q : Option Value → jx_I → Prop) (QE : String → jx_I → Prop) (J6 : Int → jx_I → Prop) (a0 : Nat) (a1 : Int) (l2 : Int) (I : jx_I) : Prop :=
  (-2147483648 ≤ l2 ∧ l2 < 2147483648) ∧ (
  (a1 ≤ l2 → (
    Q none I
  )) ∧ (¬ a1 ≤ l2 → (
    (X.2.1 a0 = some (5, 0)) ∧ (
    ∃ Q8 : Option Value → jx_I → Prop, (
    (jc V 1 69 (0, 0) [.ref a0, jy l2] X I R Q8 (fun _ _ => False)) ∧ (
    ∀ rv I10, Q8 rv I10 → rv = none ∧ (
    J6 (l2 + 1) I10))))
  )))
/-- GC$Row.takeFirst -/
def wz_75 (V : jx_V) (X : jx_X) (R : jx_R) (Q : Option Value → jx_I → Prop) (QE : String → jx_I → Prop) (J6 : Int → jx_I → Prop) (a0 : Nat) (a1 : Int) (I : jx_I) : Prop :=
  (X.2.1 a0 = some (5, 0)) ∧ (
  ∃ Q2 : Option Value → jx_I → Prop, (
  (jc V 1 68 (0, 0) [.ref a0] X I R Q2 (fun _ _ => False)) ∧ (
  ∀ rv I4, Q2 rv I4 → rv = none ∧ (
  J6 0 I4))))
set_option maxRecDepth 20000 in
theorem wm_75 {V : jx_V} (hV : V.1.stackTraces = false) {X : jx_X} {R : jx_R} {I : jx_I} {Q : Option Value → jx_I → Prop} {QE : String → jx_I → Prop} {a0 : Nat} {a1 : Int} (r_a1 : -2147483648 ≤ a1 ∧ a1 < 2147483648) 
    (h : ∀ (J6 : Int → jx_I → Prop), ((∀ (l2 : Int) I, wz_75_6 V X R Q QE J6 a0 a1 l2 I → J6 l2 I)) → wz_75 V X R Q QE J6 a0 a1 I) : jc V 2 75 (0, 0) [.ref a0, jy a1] X I R Q QE := by
  refine jy_met hV (by decide) (n := 3) (rt := none) (hh := []) (ini := false) (C := jx_c75) (L := [some (.ref a0), some (jy a1), none]) jt_75 (Nat.le_of_ble_eq_true rfl) rfl ?_
  intro J hS
  have h := h (fun l2 I => J 6 [] [some (.ref a0), some (jy a1), some (jy l2)] (0, 0) X I R) ?_
  · unfold wz_75 at h
    refine jy_aload_n hS rfl rfl ?_
    obtain ⟨g1, h⟩ := h
    obtain ⟨Q2, h⟩ := h
    obtain ⟨g3, h⟩ := h
    refine jy_callV hS rfl rfl rfl (Nat.le_of_ble_eq_true rfl) (Or.inl g1) g3 (by decide) ⟨by decide, by decide⟩ (Nat.le_of_ble_eq_true rfl) ?_ ?_
    rotate_left
    · exact fun Ex Xx Ix Rx hp => hp.2.2.2.elim
    intro rv Xx I4 Rx hp
    obtain ⟨e1, e2, hp⟩ := hp
    rw [e1, e2]
    clear e1 e2
    obtain ⟨e1, h⟩ := h rv I4 hp
    rw [e1]
    clear e1
    change J 4 [] _ (0, 0) _ _ _
    refine jy_iconst hS rfl ?_
    refine jy_istore_n hS rfl (Nat.le_of_ble_eq_true rfl) (L' := [some (.ref a0), some (jy a1), some (jy 0)]) rfl ?_
    exact jy_join hS h rfl (jy_sub_s (jy_sub_s (jy_sub_s jy_sub_0)))
  · intro l2 I h
    unfold wz_75_6 at h
    refine jy_iload_n hS rfl rfl ?_
    refine jy_iload_n hS rfl rfl ?_
    obtain ⟨g6, h⟩ := h
    refine jy_icmp_ge hS rfl ⟨g6, r_a1⟩ (fun hq => ?_) (fun hq => ?_)
    · have h := h.1 hq
      exact jy_ret hS rfl rfl ⟨rfl, rfl, h⟩
    · have h := h.2 hq
      refine jy_aload_n hS rfl rfl ?_
      refine jy_iload_n hS rfl rfl ?_
      obtain ⟨g7, h⟩ := h
      obtain ⟨Q8, h⟩ := h
      obtain ⟨g9, h⟩ := h
      refine jy_callV hS rfl rfl rfl (Nat.le_of_ble_eq_true rfl) (Or.inl g7) g9 (by decide) ⟨by decide, by decide⟩ (Nat.le_of_ble_eq_true rfl) ?_ ?_
      rotate_left
      · exact fun Ex Xx Ix Rx hp => hp.2.2.2.elim
      intro rv Xx I10 Rx hp
      obtain ⟨e1, e2, hp⟩ := hp
      rw [e1, e2]
      clear e1 e2
      obtain ⟨e1, h⟩ := h rv I10 hp
      rw [e1]
      clear e1
      change J 16 [] _ (0, 0) _ _ _
      refine jy_iinc hS rfl rfl (L' := [some (.ref a0), some (jy a1), some (jy (l2 + 1))]) rfl ?_
      refine jy_goto hS rfl ?_
      exact jy_join hS h rfl (jy_sub_s (jy_sub_s (jy_sub_s jy_sub_0)))
theorem jt_76 : jx_ml 76 = 3 ∧ jx_rt 76 = none ∧ jx_hz 76 = [] ∧ decide ((jx_nm 76).name = "<init>") = false ∧ jx_code 76 = jx_c76 := by decide +kernel
/-- GC$Row.takeBits, from 6 -/
def wz_76_6 (V : jx_V) (X : jx_X) (R : jx_R) (Q : Option Value → jx_I → Prop) (QE : String → jx_I → Prop) (J6 : Int → jx_I → Prop) (J25 : Int → jx_I → Prop) (a0 : Nat) (a1 : Int) (l2 : Int) (I : jx_I) : Prop :=
  (-2147483648 ≤ l2 ∧ l2 < 2147483648) ∧ (
  (8 ≤ l2 → (
    Q none I
  )) ∧ (¬ 8 ≤ l2 → (
    ((Int32.ofInt ((Int32.ofInt a1 >>> (Int32.ofInt l2 &&& 31)).toInt) &&& Int32.ofInt 1).toInt = 0 → (
      J6 (l2 + 1) I
    )) ∧ (¬ (Int32.ofInt ((Int32.ofInt a1 >>> (Int32.ofInt l2 &&& 31)).toInt) &&& Int32.ofInt 1).toInt = 0 → (
      (X.2.1 a0 = some (5, 0)) ∧ (
      ∃ Q8 : Option Value → jx_I → Prop, (
      (jc V 1 69 (0, 0) [.ref a0, jy l2] X I R Q8 (fun _ _ => False)) ∧ (
      ∀ rv I10, Q8 rv I10 → rv = none ∧ (
      J25 l2 I10))))
    ))
  )))
/-- GC$Row.takeBits, from 25 -/
def wz_76_25 (V : jx_V) (X : jx_X) (R : jx_R) (Q : Option Value → jx_I → Prop) (QE : String → jx_I → Prop) (J6 : Int → jx_I → Prop) (J25 : Int → jx_I → Prop) (a0 : Nat) (a1 : Int) (l2 : Int) (I : jx_I) : Prop :=
  J6 (l2 + 1) I
/-- GC$Row.takeBits -/
def wz_76 (V : jx_V) (X : jx_X) (R : jx_R) (Q : Option Value → jx_I → Prop) (QE : String → jx_I → Prop) (J6 : Int → jx_I → Prop) (J25 : Int → jx_I → Prop) (a0 : Nat) (a1 : Int) (I : jx_I) : Prop :=
  (X.2.1 a0 = some (5, 0)) ∧ (
  ∃ Q2 : Option Value → jx_I → Prop, (
  (jc V 1 68 (0, 0) [.ref a0] X I R Q2 (fun _ _ => False)) ∧ (
  ∀ rv I4, Q2 rv I4 → rv = none ∧ (
  J6 0 I4))))
set_option maxRecDepth 20000 in
theorem wm_76 {V : jx_V} (hV : V.1.stackTraces = false) {X : jx_X} {R : jx_R} {I : jx_I} {Q : Option Value → jx_I → Prop} {QE : String → jx_I → Prop} {a0 : Nat} {a1 : Int} (r_a1 : -2147483648 ≤ a1 ∧ a1 < 2147483648) 
    (h : ∀ (J6 : Int → jx_I → Prop) (J25 : Int → jx_I → Prop), ((∀ (l2 : Int) I, wz_76_6 V X R Q QE J6 J25 a0 a1 l2 I → J6 l2 I) ∧ (∀ (l2 : Int) I, wz_76_25 V X R Q QE J6 J25 a0 a1 l2 I → J25 l2 I)) → wz_76 V X R Q QE J6 J25 a0 a1 I) : jc V 2 76 (0, 0) [.ref a0, jy a1] X I R Q QE := by
  refine jy_met hV (by decide) (n := 3) (rt := none) (hh := []) (ini := false) (C := jx_c76) (L := [some (.ref a0), some (jy a1), none]) jt_76 (Nat.le_of_ble_eq_true rfl) rfl ?_
  intro J hS
  have h := h (fun l2 I => J 6 [] [some (.ref a0), some (jy a1), some (jy l2)] (0, 0) X I R) (fun l2 I => J 25 [] [some (.ref a0), some (jy a1), some (jy l2)] (0, 0) X I R) ?_
  · unfold wz_76 at h
    refine jy_aload_n hS rfl rfl ?_
    obtain ⟨g1, h⟩ := h
    obtain ⟨Q2, h⟩ := h
    obtain ⟨g3, h⟩ := h
    refine jy_callV hS rfl rfl rfl (Nat.le_of_ble_eq_true rfl) (Or.inl g1) g3 (by decide) ⟨by decide, by decide⟩ (Nat.le_of_ble_eq_true rfl) ?_ ?_
    rotate_left
    · exact fun Ex Xx Ix Rx hp => hp.2.2.2.elim
    intro rv Xx I4 Rx hp
    obtain ⟨e1, e2, hp⟩ := hp
    rw [e1, e2]
    clear e1 e2
    obtain ⟨e1, h⟩ := h rv I4 hp
    rw [e1]
    clear e1
    change J 4 [] _ (0, 0) _ _ _
    refine jy_iconst hS rfl ?_
    refine jy_istore_n hS rfl (Nat.le_of_ble_eq_true rfl) (L' := [some (.ref a0), some (jy a1), some (jy 0)]) rfl ?_
    exact jy_join hS h rfl (jy_sub_s (jy_sub_s (jy_sub_s jy_sub_0)))
  refine ⟨?_, ?_⟩
  · intro l2 I h
    unfold wz_76_6 at h
    refine jy_iload_n hS rfl rfl ?_
    refine jy_bipush hS rfl (by decide) ?_
    obtain ⟨g6, h⟩ := h
    refine jy_icmp_ge hS rfl ⟨g6, ⟨by decide, by decide⟩⟩ (fun hq => ?_) (fun hq => ?_)
    · have h := h.1 hq
      exact jy_ret hS rfl rfl ⟨rfl, rfl, h⟩
    · have h := h.2 hq
      refine jy_iload_n hS rfl rfl ?_
      refine jy_iload_n hS rfl rfl ?_
      refine jy_ishrX hS rfl rfl ?_
      refine jy_iconst hS rfl ?_
      refine jy_iandX hS rfl rfl ?_
      refine jy_if_eq hS rfl (jy_rng _) (fun hq => ?_) (fun hq => ?_)
      · have h := h.1 hq
        refine jy_iinc hS rfl rfl (L' := [some (.ref a0), some (jy a1), some (jy (l2 + 1))]) rfl ?_
        refine jy_goto hS rfl ?_
        exact jy_join hS h rfl (jy_sub_s (jy_sub_s (jy_sub_s jy_sub_0)))
      · have h := h.2 hq
        refine jy_aload_n hS rfl rfl ?_
        refine jy_iload_n hS rfl rfl ?_
        obtain ⟨g7, h⟩ := h
        obtain ⟨Q8, h⟩ := h
        obtain ⟨g9, h⟩ := h
        refine jy_callV hS rfl rfl rfl (Nat.le_of_ble_eq_true rfl) (Or.inl g7) g9 (by decide) ⟨by decide, by decide⟩ (Nat.le_of_ble_eq_true rfl) ?_ ?_
        rotate_left
        · exact fun Ex Xx Ix Rx hp => hp.2.2.2.elim
        intro rv Xx I10 Rx hp
        obtain ⟨e1, e2, hp⟩ := hp
        rw [e1, e2]
        clear e1 e2
        obtain ⟨e1, h⟩ := h rv I10 hp
        rw [e1]
        clear e1
        change J 25 [] _ (0, 0) _ _ _
        exact jy_join hS h rfl (jy_sub_s (jy_sub_s (jy_sub_s jy_sub_0)))
  · intro l2 I h
    unfold wz_76_25 at h
    refine jy_iinc hS rfl rfl (L' := [some (.ref a0), some (jy a1), some (jy (l2 + 1))]) rfl ?_
    refine jy_goto hS rfl ?_
    exact jy_join hS h rfl (jy_sub_s (jy_sub_s (jy_sub_s jy_sub_0)))
theorem jt_77 : jx_ml 77 = 4 ∧ jx_rt 77 = none ∧ jx_hz 77 = [] ∧ decide ((jx_nm 77).name = "<init>") = false ∧ jx_code 77 = jx_c77 := by decide +kernel
/-- GC$Row.takeFrom, from 6 -/
def wz_77_6 (V : jx_V) (X : jx_X) (R : jx_R) (Q : Option Value → jx_I → Prop) (QE : String → jx_I → Prop) (J6 : Int → jx_I → Prop) (J37 : Int → jx_I → Prop) (a0 : Nat) (a1 : Nat) (a2 : Int) (l3 : Int) (I : jx_I) : Prop :=
  (X.2.1 a1 = some (5, 0)) ∧ (
  (-2147483648 ≤ l3 ∧ l3 < 2147483648) ∧ (
  ((I a1 1).toInt ≤ l3 → (
    Q none I
  )) ∧ (¬ (I a1 1).toInt ≤ l3 → (
    ∃ q8 : Nat, (
    (R a1 0 = some q8) ∧ (
    ∃ n10 : Nat, (
    (X.2.1 q8 = some (100, n10) ∧ n10 < 2147483648) ∧ (
    (0 ≤ l3 ∧ l3 < n10) ∧ (
    ((Int32.ofInt ((Int32.ofInt a2 >>> (Int32.ofInt ((I q8 l3.toNat).toInt) &&& 31)).toInt) &&& Int32.ofInt 1).toInt = 0 → (
      J6 (l3 + 1) I
    )) ∧ (¬ (Int32.ofInt ((Int32.ofInt a2 >>> (Int32.ofInt ((I q8 l3.toNat).toInt) &&& 31)).toInt) &&& Int32.ofInt 1).toInt = 0 → (
      (0 ≤ l3 ∧ l3 < n10) ∧ (
      (X.2.1 a0 = some (5, 0)) ∧ (
      ∃ Q15 : Option Value → jx_I → Prop, (
      (jc V 1 69 (0, 0) [.ref a0, jy ((I q8 l3.toNat).toInt)] X I R Q15 (fun _ _ => False)) ∧ (
      ∀ rv I17, Q15 rv I17 → rv = none ∧ (
      J37 l3 I17)))))
    )))))))
  ))))
/-- GC$Row.takeFrom, from 37 -/
def wz_77_37 (V : jx_V) (X : jx_X) (R : jx_R) (Q : Option Value → jx_I → Prop) (QE : String → jx_I → Prop) (J6 : Int → jx_I → Prop) (J37 : Int → jx_I → Prop) (a0 : Nat) (a1 : Nat) (a2 : Int) (l3 : Int) (I : jx_I) : Prop :=
  J6 (l3 + 1) I
/-- GC$Row.takeFrom -/
def wz_77 (V : jx_V) (X : jx_X) (R : jx_R) (Q : Option Value → jx_I → Prop) (QE : String → jx_I → Prop) (J6 : Int → jx_I → Prop) (J37 : Int → jx_I → Prop) (a0 : Nat) (a1 : Nat) (a2 : Int) (I : jx_I) : Prop :=
  (X.2.1 a0 = some (5, 0)) ∧ (
  ∃ Q2 : Option Value → jx_I → Prop, (
  (jc V 1 68 (0, 0) [.ref a0] X I R Q2 (fun _ _ => False)) ∧ (
  ∀ rv I4, Q2 rv I4 → rv = none ∧ (
  J6 0 I4))))
set_option maxRecDepth 20000 in
theorem wm_77 {V : jx_V} (hV : V.1.stackTraces = false) {X : jx_X} {R : jx_R} {I : jx_I} {Q : Option Value → jx_I → Prop} {QE : String → jx_I → Prop} {a0 : Nat} {a1 : Nat} {a2 : Int} (r_a2 : -2147483648 ≤ a2 ∧ a2 < 2147483648) 
    (h : ∀ (J6 : Int → jx_I → Prop) (J37 : Int → jx_I → Prop), ((∀ (l3 : Int) I, wz_77_6 V X R Q QE J6 J37 a0 a1 a2 l3 I → J6 l3 I) ∧ (∀ (l3 : Int) I, wz_77_37 V X R Q QE J6 J37 a0 a1 a2 l3 I → J37 l3 I)) → wz_77 V X R Q QE J6 J37 a0 a1 a2 I) : jc V 2 77 (0, 0) [.ref a0, .ref a1, jy a2] X I R Q QE := by
  refine jy_met hV (by decide) (n := 4) (rt := none) (hh := []) (ini := false) (C := jx_c77) (L := [some (.ref a0), some (.ref a1), some (jy a2), none]) jt_77 (Nat.le_of_ble_eq_true rfl) rfl ?_
  intro J hS
  have h := h (fun l3 I => J 6 [] [some (.ref a0), some (.ref a1), some (jy a2), some (jy l3)] (0, 0) X I R) (fun l3 I => J 37 [] [some (.ref a0), some (.ref a1), some (jy a2), some (jy l3)] (0, 0) X I R) ?_
  · unfold wz_77 at h
    refine jy_aload_n hS rfl rfl ?_
    obtain ⟨g1, h⟩ := h
    obtain ⟨Q2, h⟩ := h
    obtain ⟨g3, h⟩ := h
    refine jy_callV hS rfl rfl rfl (Nat.le_of_ble_eq_true rfl) (Or.inl g1) g3 (by decide) ⟨by decide, by decide⟩ (Nat.le_of_ble_eq_true rfl) ?_ ?_
    rotate_left
    · exact fun Ex Xx Ix Rx hp => hp.2.2.2.elim
    intro rv Xx I4 Rx hp
    obtain ⟨e1, e2, hp⟩ := hp
    rw [e1, e2]
    clear e1 e2
    obtain ⟨e1, h⟩ := h rv I4 hp
    rw [e1]
    clear e1
    change J 4 [] _ (0, 0) _ _ _
    refine jy_iconst hS rfl ?_
    refine jy_istore_n hS rfl (Nat.le_of_ble_eq_true rfl) (L' := [some (.ref a0), some (.ref a1), some (jy a2), some (jy 0)]) rfl ?_
    exact jy_join hS h rfl (jy_sub_s (jy_sub_s (jy_sub_s (jy_sub_s jy_sub_0))))
  refine ⟨?_, ?_⟩
  · intro l3 I h
    unfold wz_77_6 at h
    refine jy_iload_n hS rfl rfl ?_
    refine jy_aload_n hS rfl rfl ?_
    obtain ⟨g6, h⟩ := h
    refine jy_getI hS rfl (by decide) g6 ?_
    obtain ⟨g7, h⟩ := h
    refine jy_icmp_ge hS rfl ⟨g7, (jy_rng _)⟩ (fun hq => ?_) (fun hq => ?_)
    · have h := h.1 hq
      exact jy_ret hS rfl rfl ⟨rfl, rfl, h⟩
    · have h := h.2 hq
      refine jy_iload_n hS rfl rfl ?_
      refine jy_aload_n hS rfl rfl ?_
      obtain ⟨q8, h⟩ := h
      obtain ⟨g9, h⟩ := h
      refine jy_getR hS rfl (by decide) g6 g9 ?_
      refine jy_iload_n hS rfl rfl ?_
      obtain ⟨n10, h⟩ := h
      obtain ⟨g11, h⟩ := h
      obtain ⟨g12, h⟩ := h
      refine jy_iald hS rfl g11.1 (Nat.le_of_lt g11.2) g12 ?_
      refine jy_ishrX hS rfl rfl ?_
      refine jy_iconst hS rfl ?_
      refine jy_iandX hS rfl rfl ?_
      refine jy_if_eq hS rfl (jy_rng _) (fun hq => ?_) (fun hq => ?_)
      · have h := h.1 hq
        refine jy_iinc hS rfl rfl (L' := [some (.ref a0), some (.ref a1), some (jy a2), some (jy (l3 + 1))]) rfl ?_
        refine jy_goto hS rfl ?_
        exact jy_join hS h rfl (jy_sub_s (jy_sub_s (jy_sub_s (jy_sub_s jy_sub_0))))
      · have h := h.2 hq
        refine jy_aload_n hS rfl rfl ?_
        refine jy_aload_n hS rfl rfl ?_
        refine jy_getR hS rfl (by decide) g6 g9 ?_
        refine jy_iload_n hS rfl rfl ?_
        obtain ⟨g13, h⟩ := h
        refine jy_iald hS rfl g11.1 (Nat.le_of_lt g11.2) g13 ?_
        obtain ⟨g14, h⟩ := h
        obtain ⟨Q15, h⟩ := h
        obtain ⟨g16, h⟩ := h
        refine jy_callV hS rfl rfl rfl (Nat.le_of_ble_eq_true rfl) (Or.inl g14) g16 (by decide) ⟨by decide, by decide⟩ (Nat.le_of_ble_eq_true rfl) ?_ ?_
        rotate_left
        · exact fun Ex Xx Ix Rx hp => hp.2.2.2.elim
        intro rv Xx I17 Rx hp
        obtain ⟨e1, e2, hp⟩ := hp
        rw [e1, e2]
        clear e1 e2
        obtain ⟨e1, h⟩ := h rv I17 hp
        rw [e1]
        clear e1
        change J 37 [] _ (0, 0) _ _ _
        exact jy_join hS h rfl (jy_sub_s (jy_sub_s (jy_sub_s (jy_sub_s jy_sub_0))))
  · intro l3 I h
    unfold wz_77_37 at h
    refine jy_iinc hS rfl rfl (L' := [some (.ref a0), some (.ref a1), some (jy a2), some (jy (l3 + 1))]) rfl ?_
    refine jy_goto hS rfl ?_
    exact jy_join hS h rfl (jy_sub_s (jy_sub_s (jy_sub_s (jy_sub_s jy_sub_0))))
theorem jt_78 : jx_ml 78 = 9 ∧ jx_rt 78 = some .boolean ∧ jx_hz 78 = [] ∧ decide ((jx_nm 78).name = "<init>") = false ∧ jx_code 78 = jx_c78 := by decide +kernel
/-- GC$Row.takeDigits, from 27 -/
def wz_78_27 (V : jx_V) (X : jx_X) (R : jx_R) (Q : Option Value → jx_I → Prop) (QE : String → jx_I → Prop) (J27 : Int64 → Int → jx_I → Prop) (a0 : Nat) (a1 : Int) (a2 : Int64) (a3 : Int) (l5 : Int64) (l7 : Int) (I : jx_I) : Prop :=
  (-2147483648 ≤ l7 ∧ l7 < 2147483648) ∧ (
  (l7 < 0 → (
    (X.2.1 a0 = some (5, 0)) ∧ (
    ∀ I12 : jx_I, I12 = jx_u I a0 1 (Int32.ofInt a1) → (
    ((lg_cmp l5 (0 : Int64)).toInt ≠ 0 → (
      Q (some (jy 0)) I12
    )) ∧ ((lg_cmp l5 (0 : Int64)).toInt = 0 → (
      Q (some (jy 1)) I12
    ))))
  )) ∧ (¬ l7 < 0 → (
    (((l5 - l5 / (10 : Int64) * (10 : Int64)).toInt32).toInt < 0 → (
      Q (some (jy 0)) I
    )) ∧ (¬ ((l5 - l5 / (10 : Int64) * (10 : Int64)).toInt32).toInt < 0 → (
      (((l5 - l5 / (10 : Int64) * (10 : Int64)).toInt32).toInt < a3 → (
        (X.2.1 a0 = some (5, 0)) ∧ (
        ∃ q14 : Nat, (
        (R a0 0 = some q14) ∧ (
        ∃ n16 : Nat, (
        (X.2.1 q14 = some (100, n16) ∧ n16 < 2147483648) ∧ (
        (0 ≤ l7 ∧ l7 < n16) ∧ (
        ∀ I19 : jx_I, I19 = jx_u I q14 l7.toNat (Int32.ofInt (((l5 - l5 / (10 : Int64) * (10 : Int64)).toInt32).toInt)) → (
        J27 (l5 / (10 : Int64)) (l7 + (-1)) I19)))))))
      )) ∧ (¬ ((l5 - l5 / (10 : Int64) * (10 : Int64)).toInt32).toInt < a3 → (
        Q (some (jy 0)) I
      ))
    ))
  )))
/-- GC$Row.takeDigits -/
def wz_78 (V : jx_V) (X : jx_X) (R : jx_R) (Q : Option Value → jx_I → Prop) (QE : String → jx_I → Prop) (J27 : Int64 → Int → jx_I → Prop) (a0 : Nat) (a1 : Int) (a2 : Int64) (a3 : Int) (I : jx_I) : Prop :=
  (X.2.1 a0 = some (5, 0)) ∧ (
  ∃ Q2 : Option Value → jx_I → Prop, (
  (jc V 1 68 (0, 0) [.ref a0] X I R Q2 (fun _ _ => False)) ∧ (
  ∀ rv I4, Q2 rv I4 → rv = none ∧ (
  (a1 < 0 → (
    Q (some (jy 0)) I4
  )) ∧ (¬ a1 < 0 → (
    ∃ q6 : Nat, (
    (R a0 0 = some q6) ∧ (
    ∃ n8 : Nat, (
    (X.2.1 q6 = some (100, n8) ∧ n8 < 2147483648) ∧ (
    (a1 ≤ (n8 : Int) → (
      J27 a2 (a1 - 1) I4
    )) ∧ (¬ a1 ≤ (n8 : Int) → (
      Q (some (jy 0)) I4
    ))))))
  ))))))
set_option maxRecDepth 20000 in
theorem wm_78 {V : jx_V} (hV : V.1.stackTraces = false) {X : jx_X} {R : jx_R} {I : jx_I} {Q : Option Value → jx_I → Prop} {QE : String → jx_I → Prop} {a0 : Nat} {a1 : Int} {a2 : Int64} {a3 : Int} (r_a1 : -2147483648 ≤ a1 ∧ a1 < 2147483648) (r_a3 : -2147483648 ≤ a3 ∧ a3 < 2147483648) 
    (h : ∀ (J27 : Int64 → Int → jx_I → Prop), ((∀ (l5 : Int64) (l7 : Int) I, wz_78_27 V X R Q QE J27 a0 a1 a2 a3 l5 l7 I → J27 l5 l7 I)) → wz_78 V X R Q QE J27 a0 a1 a2 a3 I) : jc V 2 78 (0, 0) [.ref a0, jy a1, .long a2, jy a3] X I R Q QE := by
  refine jy_met hV (by decide) (n := 9) (rt := some .boolean) (hh := []) (ini := false) (C := jx_c78) (L := [some (.ref a0), some (jy a1), some (.long a2), none, some (jy a3), none, none, none, none]) jt_78 (Nat.le_of_ble_eq_true rfl) rfl ?_
  intro J hS
  have h := h (fun l5 l7 I => J 27 [] [some (.ref a0), some (jy a1), none, none, some (jy a3), some (.long l5), none, some (jy l7), none] (0, 0) X I R) ?_
  · unfold wz_78 at h
    refine jy_aload_n hS rfl rfl ?_
    obtain ⟨g1, h⟩ := h
    obtain ⟨Q2, h⟩ := h
    obtain ⟨g3, h⟩ := h
    refine jy_callV hS rfl rfl rfl (Nat.le_of_ble_eq_true rfl) (Or.inl g1) g3 (by decide) ⟨by decide, by decide⟩ (Nat.le_of_ble_eq_true rfl) ?_ ?_
    rotate_left
    · exact fun Ex Xx Ix Rx hp => hp.2.2.2.elim
    intro rv Xx I4 Rx hp
    obtain ⟨e1, e2, hp⟩ := hp
    rw [e1, e2]
    clear e1 e2
    obtain ⟨e1, h⟩ := h rv I4 hp
    rw [e1]
    clear e1
    change J 4 [] _ (0, 0) _ _ _
    refine jy_iload_n hS rfl rfl ?_
    refine jy_if_lt hS rfl r_a1 (fun hq => ?_) (fun hq => ?_)
    · have h := h.1 hq
      refine jy_iconst hS rfl ?_
      exact jy_iret hS rfl rfl ⟨rfl, rfl, h⟩
    · have h := h.2 hq
      refine jy_iload_n hS rfl rfl ?_
      refine jy_aload_n hS rfl rfl ?_
      obtain ⟨q6, h⟩ := h
      obtain ⟨g7, h⟩ := h
      refine jy_getR hS rfl (by decide) g1 g7 ?_
      obtain ⟨n8, h⟩ := h
      obtain ⟨g9, h⟩ := h
      refine jy_alen hS rfl g9.1 (by decide) g9.2 ?_
      refine jy_icmp_le hS rfl ⟨r_a1, (by omega)⟩ (fun hq => ?_) (fun hq => ?_)
      · have h := h.1 hq
        refine jy_lload_n hS rfl rfl ?_
        refine jy_lstore hS rfl (Nat.le_of_ble_eq_true rfl) (L' := [some (.ref a0), some (jy a1), some (.long a2), none, some (jy a3), some (.long a2), none, none, none]) rfl ?_
        refine jy_iload_n hS rfl rfl ?_
        refine jy_iconst hS rfl ?_
        refine jy_isub hS rfl ?_
        refine jy_istore hS rfl (Nat.le_of_ble_eq_true rfl) (L' := [some (.ref a0), some (jy a1), some (.long a2), none, some (jy a3), some (.long a2), none, some (jy (a1 - 1)), none]) rfl ?_
        exact jy_join hS h rfl (jy_sub_s (jy_sub_s (jy_sub_n (jy_sub_n (jy_sub_s (jy_sub_s (jy_sub_n (jy_sub_s (jy_sub_n jy_sub_0)))))))))
      · have h := h.2 hq
        refine jy_iconst hS rfl ?_
        exact jy_iret hS rfl rfl ⟨rfl, rfl, h⟩
  · intro l5 l7 I h
    unfold wz_78_27 at h
    refine jy_iload hS rfl rfl ?_
    obtain ⟨g10, h⟩ := h
    refine jy_if_lt hS rfl g10 (fun hq => ?_) (fun hq => ?_)
    · have h := h.1 hq
      refine jy_aload_n hS rfl rfl ?_
      refine jy_iload_n hS rfl rfl ?_
      obtain ⟨g11, h⟩ := h
      refine jy_putI hS rfl (by decide) g11 ?_
      intro I12 e9
      have h := h I12 e9
      clear e9
      refine jy_lload hS rfl rfl ?_
      refine jy_lconst hS rfl ?_
      refine jy_lcmp hS rfl ?_
      refine jy_if_ne hS rfl (jy_rng _) (fun hq => ?_) (fun hq => ?_)
      · have h := h.1 hq
        refine jy_iconst hS rfl ?_
        exact jy_iret hS rfl rfl ⟨rfl, rfl, h⟩
      · have h := h.2 hq
        refine jy_iconst hS rfl ?_
        refine jy_goto hS rfl ?_
        exact jy_iret hS rfl rfl ⟨rfl, rfl, h⟩
    · have h := h.2 hq
      refine jy_lload hS rfl rfl ?_
      refine jy_ldc2 hS rfl (n := 10) (by decide) ?_
      refine jy_lrem hS rfl (by decide) rfl ?_
      refine jy_l2i hS rfl rfl ?_
      refine jy_istore hS rfl (Nat.le_of_ble_eq_true rfl) (L' := [some (.ref a0), some (jy a1), none, none, some (jy a3), some (.long l5), none, some (jy l7), some (jy (((l5 - l5 / (10 : Int64) * (10 : Int64)).toInt32).toInt))]) rfl ?_
      refine jy_iload hS rfl rfl ?_
      refine jy_if_lt hS rfl (jy_rng _) (fun hq => ?_) (fun hq => ?_)
      · have h := h.1 hq
        refine jy_iconst hS rfl ?_
        exact jy_iret hS rfl rfl ⟨rfl, rfl, h⟩
      · have h := h.2 hq
        refine jy_iload hS rfl rfl ?_
        refine jy_iload hS rfl rfl ?_
        refine jy_icmp_lt hS rfl ⟨(jy_rng _), r_a3⟩ (fun hq => ?_) (fun hq => ?_)
        · have h := h.1 hq
          refine jy_aload_n hS rfl rfl ?_
          obtain ⟨g13, h⟩ := h
          obtain ⟨q14, h⟩ := h
          obtain ⟨g15, h⟩ := h
          refine jy_getR hS rfl (by decide) g13 g15 ?_
          refine jy_iload hS rfl rfl ?_
          refine jy_iload hS rfl rfl ?_
          obtain ⟨n16, h⟩ := h
          obtain ⟨g17, h⟩ := h
          obtain ⟨g18, h⟩ := h
          refine jy_iast hS rfl g17.1 (Nat.le_of_lt g17.2) g18 ?_
          intro I19 e9
          have h := h I19 e9
          clear e9
          refine jy_lload hS rfl rfl ?_
          refine jy_ldc2 hS rfl (n := 10) (by decide) ?_
          refine jy_ldiv hS rfl (by decide) rfl ?_
          refine jy_lstore hS rfl (Nat.le_of_ble_eq_true rfl) (L' := [some (.ref a0), some (jy a1), none, none, some (jy a3), some (.long (l5 / (10 : Int64))), none, some (jy l7), some (jy (((l5 - l5 / (10 : Int64) * (10 : Int64)).toInt32).toInt))]) rfl ?_
          refine jy_iinc hS rfl rfl (L' := [some (.ref a0), some (jy a1), none, none, some (jy a3), some (.long (l5 / (10 : Int64))), none, some (jy (l7 + (-1))), some (jy (((l5 - l5 / (10 : Int64) * (10 : Int64)).toInt32).toInt))]) rfl ?_
          refine jy_goto hS rfl ?_
          exact jy_join hS h rfl (jy_sub_s (jy_sub_s (jy_sub_n (jy_sub_n (jy_sub_s (jy_sub_s (jy_sub_n (jy_sub_s (jy_sub_n jy_sub_0)))))))))
        · have h := h.2 hq
          refine jy_iconst hS rfl ?_
          exact jy_iret hS rfl rfl ⟨rfl, rfl, h⟩
theorem jt_79 : jx_ml 79 = 1 ∧ jx_rt 79 = some .boolean ∧ jx_hz 79 = [] ∧ decide ((jx_nm 79).name = "<init>") = false ∧ jx_code 79 = jx_c79 := by decide +kernel
/-- GC$Row.holdsOneTwice -/
def wz_79 (V : jx_V) (X : jx_X) (R : jx_R) (Q : Option Value → jx_I → Prop) (QE : String → jx_I → Prop)  (a0 : Nat) (I : jx_I) : Prop :=
  (X.2.1 a0 = some (5, 0)) ∧ (
  ∃ Q2 : Option Value → jx_I → Prop, (
  (jc V 1 80 (0, 0) [.ref a0] X I R Q2 (fun _ _ => False)) ∧ (
  ∀ rv I4, Q2 rv I4 → ∃ r5 : Int, rv = some (jy r5) ∧ (
  ∃ Q6 : Option Value → jx_I → Prop, (
  (jc V 1 327 (0, 0) [jy r5] X I4 R Q6 (fun _ _ => False)) ∧ (
  ∀ rv I8, Q6 rv I8 → ∃ r9 : Int, rv = some (jy r9) ∧ (
  (-2147483648 ≤ r9 ∧ r9 < 2147483648) ∧ (
  (r9 = (I8 a0 1).toInt → (
    Q (some (jy 0)) I8
  )) ∧ (¬ r9 = (I8 a0 1).toInt → (
    Q (some (jy 1)) I8
  ))))))))))
set_option maxRecDepth 20000 in
theorem wm_79 {V : jx_V} (hV : V.1.stackTraces = false) {X : jx_X} {R : jx_R} {I : jx_I} {Q : Option Value → jx_I → Prop} {QE : String → jx_I → Prop} {a0 : Nat}  
    (h : wz_79 V X R Q QE  a0 I) : jc V 2 79 (0, 0) [.ref a0] X I R Q QE := by
  refine jy_met hV (by decide) (n := 1) (rt := some .boolean) (hh := []) (ini := false) (C := jx_c79) (L := [some (.ref a0)]) jt_79 (Nat.le_of_ble_eq_true rfl) rfl ?_
  intro J hS
  unfold wz_79 at h
  refine jy_aload_n hS rfl rfl ?_
  obtain ⟨g1, h⟩ := h
  obtain ⟨Q2, h⟩ := h
  obtain ⟨g3, h⟩ := h
  refine jy_callV hS rfl rfl rfl (Nat.le_of_ble_eq_true rfl) (Or.inl g1) g3 (by decide) ⟨by decide, by decide⟩ (Nat.le_of_ble_eq_true rfl) ?_ ?_
  rotate_left
  · exact fun Ex Xx Ix Rx hp => hp.2.2.2.elim
  intro rv Xx I4 Rx hp
  obtain ⟨e1, e2, hp⟩ := hp
  rw [e1, e2]
  clear e1 e2
  obtain ⟨r5, e1, h⟩ := h rv I4 hp
  rw [e1]
  clear e1
  change J 4 [jy r5] _ (0, 0) _ _ _
  obtain ⟨Q6, h⟩ := h
  obtain ⟨g7, h⟩ := h
  refine jy_callS hS rfl rfl rfl (Nat.le_of_ble_eq_true rfl) g7 (by decide) ⟨by decide, by decide⟩ (Nat.le_of_ble_eq_true rfl) ?_ ?_
  rotate_left
  · exact fun Ex Xx Ix Rx hp => hp.2.2.2.elim
  intro rv Xx I8 Rx hp
  obtain ⟨e1, e2, hp⟩ := hp
  rw [e1, e2]
  clear e1 e2
  obtain ⟨r9, e1, h⟩ := h rv I8 hp
  rw [e1]
  clear e1
  change J 7 [jy r9] _ (0, 0) _ _ _
  refine jy_aload_n hS rfl rfl ?_
  refine jy_getI hS rfl (by decide) g1 ?_
  obtain ⟨g10, h⟩ := h
  refine jy_icmp_eq hS rfl ⟨g10, (jy_rng _)⟩ (fun hq => ?_) (fun hq => ?_)
  · have h := h.1 hq
    refine jy_iconst hS rfl ?_
    exact jy_iret hS rfl rfl ⟨rfl, rfl, h⟩
  · have h := h.2 hq
    refine jy_iconst hS rfl ?_
    refine jy_goto hS rfl ?_
    exact jy_iret hS rfl rfl ⟨rfl, rfl, h⟩
theorem jt_80 : jx_ml 80 = 3 ∧ jx_rt 80 = some .int ∧ jx_hz 80 = [] ∧ decide ((jx_nm 80).name = "<init>") = false ∧ jx_code 80 = jx_c80 := by decide +kernel
/-- GC$Row.asBits, from 4 -/
def wz_80_4 (V : jx_V) (X : jx_X) (R : jx_R) (Q : Option Value → jx_I → Prop) (QE : String → jx_I → Prop) (J4 : Int → Int → jx_I → Prop) (a0 : Nat) (l1 : Int) (l2 : Int) (I : jx_I) : Prop :=
  (X.2.1 a0 = some (5, 0)) ∧ (
  (-2147483648 ≤ l2 ∧ l2 < 2147483648) ∧ (
  ((I a0 1).toInt ≤ l2 → (
    Q (some (jy l1)) I
  )) ∧ (¬ (I a0 1).toInt ≤ l2 → (
    ∃ q3 : Nat, (
    (R a0 0 = some q3) ∧ (
    ∃ n5 : Nat, (
    (X.2.1 q3 = some (100, n5) ∧ n5 < 2147483648) ∧ (
    (0 ≤ l2 ∧ l2 < n5) ∧ (
    J4 ((Int32.ofInt l1 ||| Int32.ofInt ((Int32.ofInt 1 <<< (Int32.ofInt ((I q3 l2.toNat).toInt) &&& 31)).toInt)).toInt) (l2 + 1) I)))))
  ))))
/-- GC$Row.asBits -/
def wz_80 (V : jx_V) (X : jx_X) (R : jx_R) (Q : Option Value → jx_I → Prop) (QE : String → jx_I → Prop) (J4 : Int → Int → jx_I → Prop) (a0 : Nat) (I : jx_I) : Prop :=
  J4 0 0 I
set_option maxRecDepth 20000 in
theorem wm_80 {V : jx_V} (hV : V.1.stackTraces = false) {X : jx_X} {R : jx_R} {I : jx_I} {Q : Option Value → jx_I → Prop} {QE : String → jx_I → Prop} {a0 : Nat}  
    (h : ∀ (J4 : Int → Int → jx_I → Prop), ((∀ (l1 : Int) (l2 : Int) I, wz_80_4 V X R Q QE J4 a0 l1 l2 I → J4 l1 l2 I)) → wz_80 V X R Q QE J4 a0 I) : jc V 1 80 (0, 0) [.ref a0] X I R Q QE := by
  refine jy_met hV (by decide) (n := 3) (rt := some .int) (hh := []) (ini := false) (C := jx_c80) (L := [some (.ref a0), none, none]) jt_80 (Nat.le_of_ble_eq_true rfl) rfl ?_
  intro J hS
  have h := h (fun l1 l2 I => J 4 [] [some (.ref a0), some (jy l1), some (jy l2)] (0, 0) X I R) ?_
  · unfold wz_80 at h
    refine jy_iconst hS rfl ?_
    refine jy_istore_n hS rfl (Nat.le_of_ble_eq_true rfl) (L' := [some (.ref a0), some (jy 0), none]) rfl ?_
    refine jy_iconst hS rfl ?_
    refine jy_istore_n hS rfl (Nat.le_of_ble_eq_true rfl) (L' := [some (.ref a0), some (jy 0), some (jy 0)]) rfl ?_
    exact jy_join hS h rfl (jy_sub_s (jy_sub_s (jy_sub_s jy_sub_0)))
  · intro l1 l2 I h
    unfold wz_80_4 at h
    refine jy_iload_n hS rfl rfl ?_
    refine jy_aload_n hS rfl rfl ?_
    obtain ⟨g1, h⟩ := h
    refine jy_getI hS rfl (by decide) g1 ?_
    obtain ⟨g2, h⟩ := h
    refine jy_icmp_ge hS rfl ⟨g2, (jy_rng _)⟩ (fun hq => ?_) (fun hq => ?_)
    · have h := h.1 hq
      refine jy_iload_n hS rfl rfl ?_
      exact jy_iret hS rfl rfl ⟨rfl, rfl, h⟩
    · have h := h.2 hq
      refine jy_iload_n hS rfl rfl ?_
      refine jy_iconst hS rfl ?_
      refine jy_aload_n hS rfl rfl ?_
      obtain ⟨q3, h⟩ := h
      obtain ⟨g4, h⟩ := h
      refine jy_getR hS rfl (by decide) g1 g4 ?_
      refine jy_iload_n hS rfl rfl ?_
      obtain ⟨n5, h⟩ := h
      obtain ⟨g6, h⟩ := h
      obtain ⟨g7, h⟩ := h
      refine jy_iald hS rfl g6.1 (Nat.le_of_lt g6.2) g7 ?_
      refine jy_ishlX hS rfl rfl ?_
      refine jy_iorX hS rfl rfl ?_
      refine jy_istore_n hS rfl (Nat.le_of_ble_eq_true rfl) (L' := [some (.ref a0), some (jy ((Int32.ofInt l1 ||| Int32.ofInt ((Int32.ofInt 1 <<< (Int32.ofInt ((I q3 l2.toNat).toInt) &&& 31)).toInt)).toInt)), some (jy l2)]) rfl ?_
      refine jy_iinc hS rfl rfl (L' := [some (.ref a0), some (jy ((Int32.ofInt l1 ||| Int32.ofInt ((Int32.ofInt 1 <<< (Int32.ofInt ((I q3 l2.toNat).toInt) &&& 31)).toInt)).toInt)), some (jy (l2 + 1))]) rfl ?_
      refine jy_goto hS rfl ?_
      exact jy_join hS h rfl (jy_sub_s (jy_sub_s (jy_sub_s jy_sub_0)))
theorem jt_81 : jx_ml 81 = 4 ∧ jx_rt 81 = some .long ∧ jx_hz 81 = [] ∧ decide ((jx_nm 81).name = "<init>") = false ∧ jx_code 81 = jx_c81 := by decide +kernel
/-- GC$Row.asDigits, from 4 -/
def wz_81_4 (V : jx_V) (X : jx_X) (R : jx_R) (Q : Option Value → jx_I → Prop) (QE : String → jx_I → Prop) (J4 : Int64 → Int → jx_I → Prop) (a0 : Nat) (l1 : Int64) (l3 : Int) (I : jx_I) : Prop :=
  (X.2.1 a0 = some (5, 0)) ∧ (
  (-2147483648 ≤ l3 ∧ l3 < 2147483648) ∧ (
  ((I a0 1).toInt ≤ l3 → (
    Q (some (.long l1)) I
  )) ∧ (¬ (I a0 1).toInt ≤ l3 → (
    ∃ q3 : Nat, (
    (R a0 0 = some q3) ∧ (
    ∃ n5 : Nat, (
    (X.2.1 q3 = some (100, n5) ∧ n5 < 2147483648) ∧ (
    (0 ≤ l3 ∧ l3 < n5) ∧ (
    J4 ((l1 * (10 : Int64)) + (Int32.ofInt ((I q3 l3.toNat).toInt)).toInt64) (l3 + 1) I)))))
  ))))
/-- GC$Row.asDigits -/
def wz_81 (V : jx_V) (X : jx_X) (R : jx_R) (Q : Option Value → jx_I → Prop) (QE : String → jx_I → Prop) (J4 : Int64 → Int → jx_I → Prop) (a0 : Nat) (I : jx_I) : Prop :=
  J4 (0 : Int64) 0 I
set_option maxRecDepth 20000 in
theorem wm_81 {V : jx_V} (hV : V.1.stackTraces = false) {X : jx_X} {R : jx_R} {I : jx_I} {Q : Option Value → jx_I → Prop} {QE : String → jx_I → Prop} {a0 : Nat}  
    (h : ∀ (J4 : Int64 → Int → jx_I → Prop), ((∀ (l1 : Int64) (l3 : Int) I, wz_81_4 V X R Q QE J4 a0 l1 l3 I → J4 l1 l3 I)) → wz_81 V X R Q QE J4 a0 I) : jc V 1 81 (0, 0) [.ref a0] X I R Q QE := by
  refine jy_met hV (by decide) (n := 4) (rt := some .long) (hh := []) (ini := false) (C := jx_c81) (L := [some (.ref a0), none, none, none]) jt_81 (Nat.le_of_ble_eq_true rfl) rfl ?_
  intro J hS
  have h := h (fun l1 l3 I => J 4 [] [some (.ref a0), some (.long l1), none, some (jy l3)] (0, 0) X I R) ?_
  · unfold wz_81 at h
    refine jy_lconst hS rfl ?_
    refine jy_lstore_n hS rfl (Nat.le_of_ble_eq_true rfl) (L' := [some (.ref a0), some (.long (0 : Int64)), none, none]) rfl ?_
    refine jy_iconst hS rfl ?_
    refine jy_istore_n hS rfl (Nat.le_of_ble_eq_true rfl) (L' := [some (.ref a0), some (.long (0 : Int64)), none, some (jy 0)]) rfl ?_
    exact jy_join hS h rfl (jy_sub_s (jy_sub_s (jy_sub_n (jy_sub_s jy_sub_0))))
  · intro l1 l3 I h
    unfold wz_81_4 at h
    refine jy_iload_n hS rfl rfl ?_
    refine jy_aload_n hS rfl rfl ?_
    obtain ⟨g1, h⟩ := h
    refine jy_getI hS rfl (by decide) g1 ?_
    obtain ⟨g2, h⟩ := h
    refine jy_icmp_ge hS rfl ⟨g2, (jy_rng _)⟩ (fun hq => ?_) (fun hq => ?_)
    · have h := h.1 hq
      refine jy_lload_n hS rfl rfl ?_
      exact jy_lret hS rfl rfl ⟨rfl, rfl, h⟩
    · have h := h.2 hq
      refine jy_lload_n hS rfl rfl ?_
      refine jy_ldc2 hS rfl (n := 10) (by decide) ?_
      refine jy_lmul hS rfl rfl ?_
      refine jy_aload_n hS rfl rfl ?_
      obtain ⟨q3, h⟩ := h
      obtain ⟨g4, h⟩ := h
      refine jy_getR hS rfl (by decide) g1 g4 ?_
      refine jy_iload_n hS rfl rfl ?_
      obtain ⟨n5, h⟩ := h
      obtain ⟨g6, h⟩ := h
      obtain ⟨g7, h⟩ := h
      refine jy_iald hS rfl g6.1 (Nat.le_of_lt g6.2) g7 ?_
      refine jy_i2l hS rfl rfl ?_
      refine jy_ladd hS rfl rfl ?_
      refine jy_lstore_n hS rfl (Nat.le_of_ble_eq_true rfl) (L' := [some (.ref a0), some (.long ((l1 * (10 : Int64)) + (Int32.ofInt ((I q3 l3.toNat).toInt)).toInt64)), none, some (jy l3)]) rfl ?_
      refine jy_iinc hS rfl rfl (L' := [some (.ref a0), some (.long ((l1 * (10 : Int64)) + (Int32.ofInt ((I q3 l3.toNat).toInt)).toInt64)), none, some (jy (l3 + 1))]) rfl ?_
      refine jy_goto hS rfl ?_
      exact jy_join hS h rfl (jy_sub_s (jy_sub_s (jy_sub_n (jy_sub_s jy_sub_0))))
theorem jt_82 : jx_ml 82 = 5 ∧ jx_rt 82 = some .boolean ∧ jx_hz 82 = [] ∧ decide ((jx_nm 82).name = "<init>") = false ∧ jx_code 82 = jx_c82 := by decide +kernel
/-- GC$Row.turnToNextOrder, from 7 -/
def wz_82_7 (V : jx_V) (X : jx_X) (R : jx_R) (Q : Option Value → jx_I → Prop) (QE : String → jx_I → Prop) (J7 : Int → jx_I → Prop) (J47 : Int → Int → jx_I → Prop) (J93 : Int → Int → jx_I → Prop) (a0 : Nat) (l1 : Int) (I : jx_I) : Prop :=
  (-2147483648 ≤ l1 ∧ l1 < 2147483648) ∧ (
  (l1 < 0 → (
    (0 ≤ l1 → (
      (X.2.1 a0 = some (5, 0)) ∧ (
      J47 l1 ((I a0 1).toInt - 1) I)
    )) ∧ (¬ 0 ≤ l1 → (
      Q (some (jy 0)) I
    ))
  )) ∧ (¬ l1 < 0 → (
    (X.2.1 a0 = some (5, 0)) ∧ (
    ∃ q5 : Nat, (
    (R a0 0 = some q5) ∧ (
    ∃ n7 : Nat, (
    (X.2.1 q5 = some (100, n7) ∧ n7 < 2147483648) ∧ (
    (0 ≤ l1 ∧ l1 < n7) ∧ (
    (0 ≤ (l1 + 1) ∧ (l1 + 1) < n7) ∧ (
    ((I q5 l1.toNat).toInt < (I q5 (l1 + 1).toNat).toInt → (
      (0 ≤ l1 → (
        J47 l1 ((I a0 1).toInt - 1) I
      )) ∧ (¬ 0 ≤ l1 → (
        Q (some (jy 0)) I
      ))
    )) ∧ (¬ (I q5 l1.toNat).toInt < (I q5 (l1 + 1).toNat).toInt → (
      J7 (l1 + (-1)) I
    )))))))))
  )))
/-- GC$Row.turnToNextOrder, from 47 -/
def wz_82_47 (V : jx_V) (X : jx_X) (R : jx_R) (Q : Option Value → jx_I → Prop) (QE : String → jx_I → Prop) (J7 : Int → jx_I → Prop) (J47 : Int → Int → jx_I → Prop) (J93 : Int → Int → jx_I → Prop) (a0 : Nat) (l1 : Int) (l2 : Int) (I : jx_I) : Prop :=
  (-2147483648 ≤ l2 ∧ l2 < 2147483648) ∧ (
  (-2147483648 ≤ (l1 + 1) ∧ (l1 + 1) < 2147483648) ∧ (
  (l2 ≤ (l1 + 1) → (
    (X.2.1 a0 = some (5, 0)) ∧ (
    ∃ Q14 : Option Value → jx_I → Prop, (
    (jc V 1 83 (0, 0) [.ref a0, jy l1, jy l2] X I R Q14 (fun _ _ => False)) ∧ (
    ∀ rv I16, Q14 rv I16 → rv = none ∧ (
    J93 ((I16 a0 1).toInt - 1) (l1 + 1) I16))))
  )) ∧ (¬ l2 ≤ (l1 + 1) → (
    (X.2.1 a0 = some (5, 0)) ∧ (
    ∃ q19 : Nat, (
    (R a0 0 = some q19) ∧ (
    ∃ n21 : Nat, (
    (X.2.1 q19 = some (100, n21) ∧ n21 < 2147483648) ∧ (
    (0 ≤ l2 ∧ l2 < n21) ∧ (
    (0 ≤ l1 ∧ l1 < n21) ∧ (
    ((I q19 l1.toNat).toInt < (I q19 l2.toNat).toInt → (
      ∃ Q25 : Option Value → jx_I → Prop, (
      (jc V 1 83 (0, 0) [.ref a0, jy l1, jy l2] X I R Q25 (fun _ _ => False)) ∧ (
      ∀ rv I27, Q25 rv I27 → rv = none ∧ (
      J93 ((I27 a0 1).toInt - 1) (l1 + 1) I27)))
    )) ∧ (¬ (I q19 l1.toNat).toInt < (I q19 l2.toNat).toInt → (
      J47 l1 (l2 + (-1)) I
    )))))))))
  ))))
/-- GC$Row.turnToNextOrder, from 93 -/
def wz_82_93 (V : jx_V) (X : jx_X) (R : jx_R) (Q : Option Value → jx_I → Prop) (QE : String → jx_I → Prop) (J7 : Int → jx_I → Prop) (J47 : Int → Int → jx_I → Prop) (J93 : Int → Int → jx_I → Prop) (a0 : Nat) (l3 : Int) (l4 : Int) (I : jx_I) : Prop :=
  (-2147483648 ≤ l4 ∧ l4 < 2147483648) ∧ (
  (-2147483648 ≤ l3 ∧ l3 < 2147483648) ∧ (
  (l3 ≤ l4 → (
    Q (some (jy 1)) I
  )) ∧ (¬ l3 ≤ l4 → (
    (X.2.1 a0 = some (5, 0)) ∧ (
    ∃ Q32 : Option Value → jx_I → Prop, (
    (jc V 1 83 (0, 0) [.ref a0, jy l4, jy l3] X I R Q32 (fun _ _ => False)) ∧ (
    ∀ rv I34, Q32 rv I34 → rv = none ∧ (
    J93 (l3 + (-1)) (l4 + 1) I34))))
  ))))
/-- GC$Row.turnToNextOrder -/
def wz_82 (V : jx_V) (X : jx_X) (R : jx_R) (Q : Option Value → jx_I → Prop) (QE : String → jx_I → Prop) (J7 : Int → jx_I → Prop) (J47 : Int → Int → jx_I → Prop) (J93 : Int → Int → jx_I → Prop) (a0 : Nat) (I : jx_I) : Prop :=
  (X.2.1 a0 = some (5, 0)) ∧ (
  J7 ((I a0 1).toInt - 2) I)
set_option maxRecDepth 20000 in
theorem wm_82 {V : jx_V} (hV : V.1.stackTraces = false) {X : jx_X} {R : jx_R} {I : jx_I} {Q : Option Value → jx_I → Prop} {QE : String → jx_I → Prop} {a0 : Nat}  
    (h : ∀ (J7 : Int → jx_I → Prop) (J47 : Int → Int → jx_I → Prop) (J93 : Int → Int → jx_I → Prop), ((∀ (l1 : Int) I, wz_82_7 V X R Q QE J7 J47 J93 a0 l1 I → J7 l1 I) ∧ (∀ (l1 : Int) (l2 : Int) I, wz_82_47 V X R Q QE J7 J47 J93 a0 l1 l2 I → J47 l1 l2 I) ∧ (∀ (l3 : Int) (l4 : Int) I, wz_82_93 V X R Q QE J7 J47 J93 a0 l3 l4 I → J93 l3 l4 I)) → wz_82 V X R Q QE J7 J47 J93 a0 I) : jc V 2 82 (0, 0) [.ref a0] X I R Q QE := by
  refine jy_met hV (by decide) (n := 5) (rt := some .boolean) (hh := []) (ini := false) (C := jx_c82) (L := [some (.ref a0), none, none, none, none]) jt_82 (Nat.le_of_ble_eq_true rfl) rfl ?_
  intro J hS
  have h := h (fun l1 I => J 7 [] [some (.ref a0), some (jy l1), none, none, none] (0, 0) X I R) (fun l1 l2 I => J 47 [] [some (.ref a0), some (jy l1), some (jy l2), none, none] (0, 0) X I R) (fun l3 l4 I => J 93 [] [some (.ref a0), none, none, some (jy l3), some (jy l4)] (0, 0) X I R) ?_
  · unfold wz_82 at h
    refine jy_aload_n hS rfl rfl ?_
    obtain ⟨g1, h⟩ := h
    refine jy_getI hS rfl (by decide) g1 ?_
    refine jy_iconst hS rfl ?_
    refine jy_isub hS rfl ?_
    refine jy_istore_n hS rfl (Nat.le_of_ble_eq_true rfl) (L' := [some (.ref a0), some (jy ((I a0 1).toInt - 2)), none, none, none]) rfl ?_
    exact jy_join hS h rfl (jy_sub_s (jy_sub_s (jy_sub_n (jy_sub_n (jy_sub_n jy_sub_0)))))
  refine ⟨?_, ?_, ?_⟩
  · intro l1 I h
    unfold wz_82_7 at h
    refine jy_iload_n hS rfl rfl ?_
    obtain ⟨g2, h⟩ := h
    refine jy_if_lt hS rfl g2 (fun hq => ?_) (fun hq => ?_)
    · have h := h.1 hq
      refine jy_iload_n hS rfl rfl ?_
      refine jy_if_ge hS rfl g2 (fun hq => ?_) (fun hq => ?_)
      · have h := h.1 hq
        refine jy_aload_n hS rfl rfl ?_
        obtain ⟨g3, h⟩ := h
        refine jy_getI hS rfl (by decide) g3 ?_
        refine jy_iconst hS rfl ?_
        refine jy_isub hS rfl ?_
        refine jy_istore_n hS rfl (Nat.le_of_ble_eq_true rfl) (L' := [some (.ref a0), some (jy l1), some (jy ((I a0 1).toInt - 1)), none, none]) rfl ?_
        exact jy_join hS h rfl (jy_sub_s (jy_sub_s (jy_sub_s (jy_sub_n (jy_sub_n jy_sub_0)))))
      · have h := h.2 hq
        refine jy_iconst hS rfl ?_
        exact jy_iret hS rfl rfl ⟨rfl, rfl, h⟩
    · have h := h.2 hq
      refine jy_aload_n hS rfl rfl ?_
      obtain ⟨g4, h⟩ := h
      obtain ⟨q5, h⟩ := h
      obtain ⟨g6, h⟩ := h
      refine jy_getR hS rfl (by decide) g4 g6 ?_
      refine jy_iload_n hS rfl rfl ?_
      obtain ⟨n7, h⟩ := h
      obtain ⟨g8, h⟩ := h
      obtain ⟨g9, h⟩ := h
      refine jy_iald hS rfl g8.1 (Nat.le_of_lt g8.2) g9 ?_
      refine jy_aload_n hS rfl rfl ?_
      refine jy_getR hS rfl (by decide) g4 g6 ?_
      refine jy_iload_n hS rfl rfl ?_
      refine jy_iconst hS rfl ?_
      refine jy_iadd hS rfl ?_
      obtain ⟨g10, h⟩ := h
      refine jy_iald hS rfl g8.1 (Nat.le_of_lt g8.2) g10 ?_
      refine jy_icmp_lt hS rfl ⟨(jy_rng _), (jy_rng _)⟩ (fun hq => ?_) (fun hq => ?_)
      · have h := h.1 hq
        refine jy_iload_n hS rfl rfl ?_
        refine jy_if_ge hS rfl g2 (fun hq => ?_) (fun hq => ?_)
        · have h := h.1 hq
          refine jy_aload_n hS rfl rfl ?_
          refine jy_getI hS rfl (by decide) g4 ?_
          refine jy_iconst hS rfl ?_
          refine jy_isub hS rfl ?_
          refine jy_istore_n hS rfl (Nat.le_of_ble_eq_true rfl) (L' := [some (.ref a0), some (jy l1), some (jy ((I a0 1).toInt - 1)), none, none]) rfl ?_
          exact jy_join hS h rfl (jy_sub_s (jy_sub_s (jy_sub_s (jy_sub_n (jy_sub_n jy_sub_0)))))
        · have h := h.2 hq
          refine jy_iconst hS rfl ?_
          exact jy_iret hS rfl rfl ⟨rfl, rfl, h⟩
      · have h := h.2 hq
        refine jy_iinc hS rfl rfl (L' := [some (.ref a0), some (jy (l1 + (-1))), none, none, none]) rfl ?_
        refine jy_goto hS rfl ?_
        exact jy_join hS h rfl (jy_sub_s (jy_sub_s (jy_sub_n (jy_sub_n (jy_sub_n jy_sub_0)))))
  · intro l1 l2 I h
    unfold wz_82_47 at h
    refine jy_iload_n hS rfl rfl ?_
    refine jy_iload_n hS rfl rfl ?_
    refine jy_iconst hS rfl ?_
    refine jy_iadd hS rfl ?_
    obtain ⟨g11, h⟩ := h
    obtain ⟨g12, h⟩ := h
    refine jy_icmp_le hS rfl ⟨g11, g12⟩ (fun hq => ?_) (fun hq => ?_)
    · have h := h.1 hq
      refine jy_aload_n hS rfl rfl ?_
      refine jy_iload_n hS rfl rfl ?_
      refine jy_iload_n hS rfl rfl ?_
      obtain ⟨g13, h⟩ := h
      obtain ⟨Q14, h⟩ := h
      obtain ⟨g15, h⟩ := h
      refine jy_callV hS rfl rfl rfl (Nat.le_of_ble_eq_true rfl) (Or.inl g13) g15 (by decide) ⟨by decide, by decide⟩ (Nat.le_of_ble_eq_true rfl) ?_ ?_
      rotate_left
      · exact fun Ex Xx Ix Rx hp => hp.2.2.2.elim
      intro rv Xx I16 Rx hp
      obtain ⟨e1, e2, hp⟩ := hp
      rw [e1, e2]
      clear e1 e2
      obtain ⟨e1, h⟩ := h rv I16 hp
      rw [e1]
      clear e1
      change J 81 [] _ (0, 0) _ _ _
      refine jy_aload_n hS rfl rfl ?_
      refine jy_getI hS rfl (by decide) g13 ?_
      refine jy_iconst hS rfl ?_
      refine jy_isub hS rfl ?_
      refine jy_istore_n hS rfl (Nat.le_of_ble_eq_true rfl) (L' := [some (.ref a0), some (jy l1), some (jy l2), some (jy ((I16 a0 1).toInt - 1)), none]) rfl ?_
      refine jy_iload_n hS rfl rfl ?_
      refine jy_iconst hS rfl ?_
      refine jy_iadd hS rfl ?_
      refine jy_istore hS rfl (Nat.le_of_ble_eq_true rfl) (L' := [some (.ref a0), some (jy l1), some (jy l2), some (jy ((I16 a0 1).toInt - 1)), some (jy (l1 + 1))]) rfl ?_
      exact jy_join hS h rfl (jy_sub_s (jy_sub_n (jy_sub_n (jy_sub_s (jy_sub_s jy_sub_0)))))
    · have h := h.2 hq
      refine jy_aload_n hS rfl rfl ?_
      obtain ⟨g18, h⟩ := h
      obtain ⟨q19, h⟩ := h
      obtain ⟨g20, h⟩ := h
      refine jy_getR hS rfl (by decide) g18 g20 ?_
      refine jy_iload_n hS rfl rfl ?_
      obtain ⟨n21, h⟩ := h
      obtain ⟨g22, h⟩ := h
      obtain ⟨g23, h⟩ := h
      refine jy_iald hS rfl g22.1 (Nat.le_of_lt g22.2) g23 ?_
      refine jy_aload_n hS rfl rfl ?_
      refine jy_getR hS rfl (by decide) g18 g20 ?_
      refine jy_iload_n hS rfl rfl ?_
      obtain ⟨g24, h⟩ := h
      refine jy_iald hS rfl g22.1 (Nat.le_of_lt g22.2) g24 ?_
      refine jy_icmp_gt hS rfl ⟨(jy_rng _), (jy_rng _)⟩ (fun hq => ?_) (fun hq => ?_)
      · have h := h.1 hq
        refine jy_aload_n hS rfl rfl ?_
        refine jy_iload_n hS rfl rfl ?_
        refine jy_iload_n hS rfl rfl ?_
        obtain ⟨Q25, h⟩ := h
        obtain ⟨g26, h⟩ := h
        refine jy_callV hS rfl rfl rfl (Nat.le_of_ble_eq_true rfl) (Or.inl g18) g26 (by decide) ⟨by decide, by decide⟩ (Nat.le_of_ble_eq_true rfl) ?_ ?_
        rotate_left
        · exact fun Ex Xx Ix Rx hp => hp.2.2.2.elim
        intro rv Xx I27 Rx hp
        obtain ⟨e1, e2, hp⟩ := hp
        rw [e1, e2]
        clear e1 e2
        obtain ⟨e1, h⟩ := h rv I27 hp
        rw [e1]
        clear e1
        change J 81 [] _ (0, 0) _ _ _
        refine jy_aload_n hS rfl rfl ?_
        refine jy_getI hS rfl (by decide) g18 ?_
        refine jy_iconst hS rfl ?_
        refine jy_isub hS rfl ?_
        refine jy_istore_n hS rfl (Nat.le_of_ble_eq_true rfl) (L' := [some (.ref a0), some (jy l1), some (jy l2), some (jy ((I27 a0 1).toInt - 1)), none]) rfl ?_
        refine jy_iload_n hS rfl rfl ?_
        refine jy_iconst hS rfl ?_
        refine jy_iadd hS rfl ?_
        refine jy_istore hS rfl (Nat.le_of_ble_eq_true rfl) (L' := [some (.ref a0), some (jy l1), some (jy l2), some (jy ((I27 a0 1).toInt - 1)), some (jy (l1 + 1))]) rfl ?_
        exact jy_join hS h rfl (jy_sub_s (jy_sub_n (jy_sub_n (jy_sub_s (jy_sub_s jy_sub_0)))))
      · have h := h.2 hq
        refine jy_iinc hS rfl rfl (L' := [some (.ref a0), some (jy l1), some (jy (l2 + (-1))), none, none]) rfl ?_
        refine jy_goto hS rfl ?_
        exact jy_join hS h rfl (jy_sub_s (jy_sub_s (jy_sub_s (jy_sub_n (jy_sub_n jy_sub_0)))))
  · intro l3 l4 I h
    unfold wz_82_93 at h
    refine jy_iload hS rfl rfl ?_
    refine jy_iload_n hS rfl rfl ?_
    obtain ⟨g29, h⟩ := h
    obtain ⟨g30, h⟩ := h
    refine jy_icmp_ge hS rfl ⟨g29, g30⟩ (fun hq => ?_) (fun hq => ?_)
    · have h := h.1 hq
      refine jy_iconst hS rfl ?_
      exact jy_iret hS rfl rfl ⟨rfl, rfl, h⟩
    · have h := h.2 hq
      refine jy_aload_n hS rfl rfl ?_
      refine jy_iload hS rfl rfl ?_
      refine jy_iload_n hS rfl rfl ?_
      obtain ⟨g31, h⟩ := h
      obtain ⟨Q32, h⟩ := h
      obtain ⟨g33, h⟩ := h
      refine jy_callV hS rfl rfl rfl (Nat.le_of_ble_eq_true rfl) (Or.inl g31) g33 (by decide) ⟨by decide, by decide⟩ (Nat.le_of_ble_eq_true rfl) ?_ ?_
      rotate_left
      · exact fun Ex Xx Ix Rx hp => hp.2.2.2.elim
      intro rv Xx I34 Rx hp
      obtain ⟨e1, e2, hp⟩ := hp
      rw [e1, e2]
      clear e1 e2
      obtain ⟨e1, h⟩ := h rv I34 hp
      rw [e1]
      clear e1
      change J 106 [] _ (0, 0) _ _ _
      refine jy_iinc hS rfl rfl (L' := [some (.ref a0), none, none, some (jy (l3 + (-1))), some (jy l4)]) rfl ?_
      refine jy_iinc hS rfl rfl (L' := [some (.ref a0), none, none, some (jy (l3 + (-1))), some (jy (l4 + 1))]) rfl ?_
      refine jy_goto hS rfl ?_
      exact jy_join hS h rfl (jy_sub_s (jy_sub_n (jy_sub_n (jy_sub_s (jy_sub_s jy_sub_0)))))
theorem jt_83 : jx_ml 83 = 4 ∧ jx_rt 83 = none ∧ jx_hz 83 = [] ∧ decide ((jx_nm 83).name = "<init>") = false ∧ jx_code 83 = jx_c83 := by decide +kernel
/-- GC$Row.swap -/
def wz_83 (V : jx_V) (X : jx_X) (R : jx_R) (Q : Option Value → jx_I → Prop) (QE : String → jx_I → Prop)  (a0 : Nat) (a1 : Int) (a2 : Int) (I : jx_I) : Prop :=
  (X.2.1 a0 = some (5, 0)) ∧ (
  ∃ q2 : Nat, (
  (R a0 0 = some q2) ∧ (
  ∃ n4 : Nat, (
  (X.2.1 q2 = some (100, n4) ∧ n4 < 2147483648) ∧ (
  (0 ≤ a1 ∧ a1 < n4) ∧ (
  (0 ≤ a2 ∧ a2 < n4) ∧ (
  (0 ≤ a1 ∧ a1 < n4) ∧ (
  ∀ I9 : jx_I, I9 = jx_u I q2 a1.toNat (Int32.ofInt ((I q2 a2.toNat).toInt)) → (
  (0 ≤ a2 ∧ a2 < n4) ∧ (
  ∀ I11 : jx_I, I11 = jx_u I9 q2 a2.toNat (Int32.ofInt ((I q2 a1.toNat).toInt)) → (
  Q none I11)))))))))))
set_option maxRecDepth 20000 in
theorem wm_83 {V : jx_V} (hV : V.1.stackTraces = false) {X : jx_X} {R : jx_R} {I : jx_I} {Q : Option Value → jx_I → Prop} {QE : String → jx_I → Prop} {a0 : Nat} {a1 : Int} {a2 : Int} (r_a1 : -2147483648 ≤ a1 ∧ a1 < 2147483648) (r_a2 : -2147483648 ≤ a2 ∧ a2 < 2147483648) 
    (h : wz_83 V X R Q QE  a0 a1 a2 I) : jc V 1 83 (0, 0) [.ref a0, jy a1, jy a2] X I R Q QE := by
  refine jy_met hV (by decide) (n := 4) (rt := none) (hh := []) (ini := false) (C := jx_c83) (L := [some (.ref a0), some (jy a1), some (jy a2), none]) jt_83 (Nat.le_of_ble_eq_true rfl) rfl ?_
  intro J hS
  unfold wz_83 at h
  refine jy_aload_n hS rfl rfl ?_
  obtain ⟨g1, h⟩ := h
  obtain ⟨q2, h⟩ := h
  obtain ⟨g3, h⟩ := h
  refine jy_getR hS rfl (by decide) g1 g3 ?_
  refine jy_iload_n hS rfl rfl ?_
  obtain ⟨n4, h⟩ := h
  obtain ⟨g5, h⟩ := h
  obtain ⟨g6, h⟩ := h
  refine jy_iald hS rfl g5.1 (Nat.le_of_lt g5.2) g6 ?_
  refine jy_istore_n hS rfl (Nat.le_of_ble_eq_true rfl) (L' := [some (.ref a0), some (jy a1), some (jy a2), some (jy ((I q2 a1.toNat).toInt))]) rfl ?_
  refine jy_aload_n hS rfl rfl ?_
  refine jy_getR hS rfl (by decide) g1 g3 ?_
  refine jy_iload_n hS rfl rfl ?_
  refine jy_aload_n hS rfl rfl ?_
  refine jy_getR hS rfl (by decide) g1 g3 ?_
  refine jy_iload_n hS rfl rfl ?_
  obtain ⟨g7, h⟩ := h
  refine jy_iald hS rfl g5.1 (Nat.le_of_lt g5.2) g7 ?_
  obtain ⟨g8, h⟩ := h
  refine jy_iast hS rfl g5.1 (Nat.le_of_lt g5.2) g8 ?_
  intro I9 e9
  have h := h I9 e9
  clear e9
  refine jy_aload_n hS rfl rfl ?_
  refine jy_getR hS rfl (by decide) g1 g3 ?_
  refine jy_iload_n hS rfl rfl ?_
  refine jy_iload_n hS rfl rfl ?_
  obtain ⟨g10, h⟩ := h
  refine jy_iast hS rfl g5.1 (Nat.le_of_lt g5.2) g10 ?_
  intro I11 e9
  have h := h I11 e9
  clear e9
  exact jy_ret hS rfl rfl ⟨rfl, rfl, h⟩
theorem jt_85 : jx_ml 85 = 5 ∧ jx_rt 85 = none ∧ jx_hz 85 = [] ∧ decide ((jx_nm 85).name = "<init>") = false ∧ jx_code 85 = jx_c85 := by decide +kernel
/-- GC$Runner.runFrom, from 74 -/
def wz_85_74 (V : jx_V) (X : jx_X) (Q : Option Value → jx_I → jx_R → Prop) (QE : String → jx_I → jx_R → Prop) (J74 : Nat → Int → jx_I → jx_R → Prop) (a0 : Nat) (a1 : Nat) (a2 : Nat) (a3 : Nat) (a4 : Int) (s0 : Nat) (s1 : Int) (I : jx_I) (R : jx_R) : Prop :=
  (X.2.1 s0 = some (6, 0)) ∧ (
  ∃ d33 : Nat, d33 < 201 ∧ (
  ∃ Q32 : Option Value → jx_I → Prop, (
  (jc V d33 86 (0, 0) [.ref s0, jy s1, jy 0] X I R Q32 (fun _ _ => False)) ∧ (
  ∀ rv I36, Q32 rv I36 → rv = none ∧ (
  Q none I36 R)))))
/-- GC$Runner.runFrom -/
def wz_85 (V : jx_V) (X : jx_X) (Q : Option Value → jx_I → jx_R → Prop) (QE : String → jx_I → jx_R → Prop) (J74 : Nat → Int → jx_I → jx_R → Prop) (a0 : Nat) (a1 : Nat) (a2 : Nat) (a3 : Nat) (a4 : Int) (I : jx_I) (R : jx_R) : Prop :=
  (X.2.1 a0 = some (6, 0)) ∧ (
  ∀ R2 : jx_R, R2 = jx_u R a0 2 (some a1) → (
  ∀ R3 : jx_R, R3 = jx_u R2 a0 3 (some a2) → (
  ∃ q4 : Nat, (
  (R3 a0 0 = some q4) ∧ (
  (X.2.1 a3 = some (7, 0)) ∧ (
  ∃ q7 : Nat, (
  (R3 a3 0 = some q7) ∧ (
  (X.2.1 q4 = some (1, 0)) ∧ (
  ∃ Q10 : Option Value → jx_I → Prop, (
  (jc V 1 9 (0, 0) [.ref q4, .ref q7] X I R3 Q10 (fun _ _ => False)) ∧ (
  ∀ rv I12, Q10 rv I12 → rv = none ∧ (
  ∃ q14 : Nat, (
  (R3 a0 1 = some q14) ∧ (
  ∃ q16 : Nat, (
  (R3 a3 1 = some q16) ∧ (
  (X.2.1 q14 = some (5, 0)) ∧ (
  ∃ Q19 : Option Value → jx_I → Prop, (
  (jc V 1 74 (0, 0) [.ref q14, .ref q16] X I12 R3 Q19 (fun _ _ => False)) ∧ (
  ∀ rv I21, Q19 rv I21 → rv = none ∧ (
  ∀ I23 : jx_I, I23 = jx_u I21 a0 4 (Int32.ofInt a4) → (
  ∀ I24 : jx_I, I24 = jx_u I23 a0 5 (Int32.ofInt 0) → (
  ∀ I25 : jx_I, I25 = jx_u I24 a0 6 (Int32.ofInt 0) → (
  ∀ I26 : jx_I, I26 = jx_u I25 a0 7 (Int32.ofInt 0) → (
  ∀ I27 : jx_I, I27 = jx_u I26 a0 8 (Int32.ofInt 0) → (
  ∃ q28 : Nat, (
  (R3 a0 3 = some q28) ∧ (
  (X.2.1 q28 = some (4, 0)) ∧ (
  ((I27 q28 11).toInt ≤ 0 → (
    J74 a0 (-1) I27 R3
  )) ∧ (¬ (I27 q28 11).toInt ≤ 0 → (
    J74 a0 0 I27 R3
  ))))))))))))))))))))))))))))))
set_option maxRecDepth 20000 in
theorem wm_85 {V : jx_V} (hV : V.1.stackTraces = false) {X : jx_X} {R : jx_R} {I : jx_I} {Q : Option Value → jx_I → jx_R → Prop} {QE : String → jx_I → jx_R → Prop} {a0 : Nat} {a1 : Nat} {a2 : Nat} {a3 : Nat} {a4 : Int} (r_a4 : -2147483648 ≤ a4 ∧ a4 < 2147483648) 
    (h : ∀ (J74 : Nat → Int → jx_I → jx_R → Prop), ((∀ (s0 : Nat) (s1 : Int) I R, wz_85_74 V X Q QE J74 a0 a1 a2 a3 a4 s0 s1 I R → J74 s0 s1 I R)) → wz_85 V X Q QE J74 a0 a1 a2 a3 a4 I R) : jd V 201 85 (0, 0) [.ref a0, .ref a1, .ref a2, .ref a3, jy a4] X I R Q QE := by
  refine jy_met hV (by decide) (n := 5) (rt := none) (hh := []) (ini := false) (C := jx_c85) (L := [some (.ref a0), some (.ref a1), some (.ref a2), some (.ref a3), some (jy a4)]) jt_85 (Nat.le_of_ble_eq_true rfl) rfl ?_
  intro J hS
  have h := h (fun s0 s1 I R => J 74 [jy s1, .ref s0] [none, none, none, none, none] (0, 0) X I R) ?_
  · unfold wz_85 at h
    refine jy_aload_n hS rfl rfl ?_
    refine jy_aload_n hS rfl rfl ?_
    obtain ⟨g1, h⟩ := h
    refine jy_putR hS rfl (by decide) (by decide) g1 ?_
    intro R2 e9
    have h := h R2 e9
    clear e9
    refine jy_aload_n hS rfl rfl ?_
    refine jy_aload_n hS rfl rfl ?_
    refine jy_putR hS rfl (by decide) (by decide) g1 ?_
    intro R3 e9
    have h := h R3 e9
    clear e9
    refine jy_aload_n hS rfl rfl ?_
    obtain ⟨q4, h⟩ := h
    obtain ⟨g5, h⟩ := h
    refine jy_getR hS rfl (by decide) g1 g5 ?_
    refine jy_aload_n hS rfl rfl ?_
    obtain ⟨g6, h⟩ := h
    obtain ⟨q7, h⟩ := h
    obtain ⟨g8, h⟩ := h
    refine jy_getR hS rfl (by decide) g6 g8 ?_
    obtain ⟨g9, h⟩ := h
    obtain ⟨Q10, h⟩ := h
    obtain ⟨g11, h⟩ := h
    refine jy_callV hS rfl rfl rfl (Nat.le_of_ble_eq_true rfl) (Or.inl g9) g11 (by decide) ⟨by decide, by decide⟩ (Nat.le_of_ble_eq_true rfl) ?_ ?_
    rotate_left
    · exact fun Ex Xx Ix Rx hp => hp.2.2.2.elim
    intro rv Xx I12 Rx hp
    obtain ⟨e1, e2, hp⟩ := hp
    rw [e1, e2]
    clear e1 e2
    obtain ⟨e1, h⟩ := h rv I12 hp
    rw [e1]
    clear e1
    change J 21 [] _ (0, 0) _ _ _
    refine jy_aload_n hS rfl rfl ?_
    obtain ⟨q14, h⟩ := h
    obtain ⟨g15, h⟩ := h
    refine jy_getR hS rfl (by decide) g1 g15 ?_
    refine jy_aload_n hS rfl rfl ?_
    obtain ⟨q16, h⟩ := h
    obtain ⟨g17, h⟩ := h
    refine jy_getR hS rfl (by decide) g6 g17 ?_
    obtain ⟨g18, h⟩ := h
    obtain ⟨Q19, h⟩ := h
    obtain ⟨g20, h⟩ := h
    refine jy_callV hS rfl rfl rfl (Nat.le_of_ble_eq_true rfl) (Or.inl g18) g20 (by decide) ⟨by decide, by decide⟩ (Nat.le_of_ble_eq_true rfl) ?_ ?_
    rotate_left
    · exact fun Ex Xx Ix Rx hp => hp.2.2.2.elim
    intro rv Xx I21 Rx hp
    obtain ⟨e1, e2, hp⟩ := hp
    rw [e1, e2]
    clear e1 e2
    obtain ⟨e1, h⟩ := h rv I21 hp
    rw [e1]
    clear e1
    change J 32 [] _ (0, 0) _ _ _
    refine jy_aload_n hS rfl rfl ?_
    refine jy_iload hS rfl rfl ?_
    refine jy_putI hS rfl (by decide) g1 ?_
    intro I23 e9
    have h := h I23 e9
    clear e9
    refine jy_aload_n hS rfl rfl ?_
    refine jy_iconst hS rfl ?_
    refine jy_putI hS rfl (by decide) g1 ?_
    intro I24 e9
    have h := h I24 e9
    clear e9
    refine jy_aload_n hS rfl rfl ?_
    refine jy_iconst hS rfl ?_
    refine jy_putI hS rfl (by decide) g1 ?_
    intro I25 e9
    have h := h I25 e9
    clear e9
    refine jy_aload_n hS rfl rfl ?_
    refine jy_iconst hS rfl ?_
    refine jy_putI hS rfl (by decide) g1 ?_
    intro I26 e9
    have h := h I26 e9
    clear e9
    refine jy_aload_n hS rfl rfl ?_
    refine jy_iconst hS rfl ?_
    refine jy_putB hS rfl (by decide) (Or.inl rfl) g1 ?_
    intro I27 e9
    have h := h I27 e9
    clear e9
    refine jy_aload_n hS rfl rfl ?_
    refine jy_aload_n hS rfl rfl ?_
    obtain ⟨q28, h⟩ := h
    obtain ⟨g29, h⟩ := h
    refine jy_getR hS rfl (by decide) g1 g29 ?_
    obtain ⟨g30, h⟩ := h
    refine jy_getI hS rfl (by decide) g30 ?_
    refine jy_if_le hS rfl (jy_rng _) (fun hq => ?_) (fun hq => ?_)
    · have h := h.1 hq
      refine jy_iconst hS rfl ?_
      exact jy_join hS h rfl (jy_sub_n (jy_sub_n (jy_sub_n (jy_sub_n (jy_sub_n jy_sub_0)))))
    · have h := h.2 hq
      refine jy_iconst hS rfl ?_
      refine jy_goto hS rfl ?_
      exact jy_join hS h rfl (jy_sub_n (jy_sub_n (jy_sub_n (jy_sub_n (jy_sub_n jy_sub_0)))))
  · intro s0 s1 I R h
    unfold wz_85_74 at h
    refine jy_iconst hS rfl ?_
    obtain ⟨g31, h⟩ := h
    obtain ⟨d33, g34, h⟩ := h
    obtain ⟨Q32, h⟩ := h
    obtain ⟨g35, h⟩ := h
    refine jy_callV hS rfl rfl rfl (Nat.le_of_ble_eq_true rfl) (Or.inl g31) g35 g34 ⟨by decide, by decide⟩ (Nat.le_of_ble_eq_true rfl) ?_ ?_
    rotate_left
    · exact fun Ex Xx Ix Rx hp => hp.2.2.2.elim
    intro rv Xx I36 Rx hp
    obtain ⟨e1, e2, hp⟩ := hp
    rw [e1, e2]
    clear e1 e2
    obtain ⟨e1, h⟩ := h rv I36 hp
    rw [e1]
    clear e1
    change J 78 [] _ (0, 0) _ _ _
    exact jy_ret hS rfl rfl ⟨rfl, h⟩
theorem jt_86 : jx_ml 86 = 5 ∧ jx_rt 86 = none ∧ jx_hz 86 = [] ∧ decide ((jx_nm 86).name = "<init>") = false ∧ jx_code 86 = jx_c86 := by decide +kernel
/-- GC$Runner.runSteps, from 12 -/
def wz_86_12 (d : Nat) (V : jx_V) (X : jx_X) (R : jx_R) (Q : Option Value → jx_I → Prop) (QE : String → jx_I → Prop) (J12 : Int → Int → jx_I → Prop) (a0 : Nat) (a1 : Int) (a2 : Int) (l3 : Int) (l4 : Int) (I : jx_I) : Prop :=
  (-2147483648 ≤ l4 ∧ l4 < 2147483648) ∧ (
  (100 ≤ l4 → (
    Q none I
  )) ∧ (¬ 100 ≤ l4 → (
    (-2147483648 ≤ l3 ∧ l3 < 2147483648) ∧ (
    (l3 < 0 → (
      Q none I
    )) ∧ (¬ l3 < 0 → (
      (X.2.1 a0 = some (6, 0)) ∧ (
      ((I a0 8).toInt ≠ 0 → (
        Q none I
      )) ∧ ((I a0 8).toInt = 0 → (
        ∃ d5 : Nat, d5 < d ∧ (
        ∃ Q4 : Option Value → jx_I → Prop, (
        (jc V d5 87 (0, 0) [.ref a0, jy l3, jy a2] X I R Q4 (fun _ _ => False)) ∧ (
        ∀ rv I8, Q4 rv I8 → rv = none ∧ (
        ∃ q10 : Nat, (
        (R a0 3 = some q10) ∧ (
        (X.2.1 q10 = some (4, 0)) ∧ (
        ∃ q13 : Nat, (
        (R q10 2 = some q13) ∧ (
        ∃ n15 : Nat, (
        (X.2.1 q13 = some (100, n15) ∧ n15 < 2147483648) ∧ (
        (0 ≤ l3 ∧ l3 < n15) ∧ (
        J12 ((I8 q13 l3.toNat).toInt) (l4 + 1) I8))))))))))))
      )))
    )))
  )))
/-- GC$Runner.runSteps -/
def wz_86 (d : Nat) (V : jx_V) (X : jx_X) (R : jx_R) (Q : Option Value → jx_I → Prop) (QE : String → jx_I → Prop) (J12 : Int → Int → jx_I → Prop) (a0 : Nat) (a1 : Int) (a2 : Int) (I : jx_I) : Prop :=
  (a2 < 7 → (
    J12 a1 0 I
  )) ∧ (¬ a2 < 7 → (
    Q none I
  ))
set_option maxRecDepth 20000 in
theorem wm_86 {V : jx_V} (hV : V.1.stackTraces = false) {d : Nat} {X : jx_X} {R : jx_R} {I : jx_I} {Q : Option Value → jx_I → Prop} {QE : String → jx_I → Prop} {a0 : Nat} {a1 : Int} {a2 : Int} (r_a1 : -2147483648 ≤ a1 ∧ a1 < 2147483648) (r_a2 : -2147483648 ≤ a2 ∧ a2 < 2147483648) 
    (h : ∀ (J12 : Int → Int → jx_I → Prop), ((∀ (l3 : Int) (l4 : Int) I, wz_86_12 d V X R Q QE J12 a0 a1 a2 l3 l4 I → J12 l3 l4 I)) → wz_86 d V X R Q QE J12 a0 a1 a2 I) : jc V d 86 (0, 0) [.ref a0, jy a1, jy a2] X I R Q QE := by
  refine jy_met hV (by decide) (n := 5) (rt := none) (hh := []) (ini := false) (C := jx_c86) (L := [some (.ref a0), some (jy a1), some (jy a2), none, none]) jt_86 (Nat.le_of_ble_eq_true rfl) rfl ?_
  intro J hS
  have h := h (fun l3 l4 I => J 12 [] [some (.ref a0), none, some (jy a2), some (jy l3), some (jy l4)] (0, 0) X I R) ?_
  · unfold wz_86 at h
    refine jy_iload_n hS rfl rfl ?_
    refine jy_bipush hS rfl (by decide) ?_
    refine jy_icmp_lt hS rfl ⟨r_a2, ⟨by decide, by decide⟩⟩ (fun hq => ?_) (fun hq => ?_)
    · have h := h.1 hq
      refine jy_iload_n hS rfl rfl ?_
      refine jy_istore_n hS rfl (Nat.le_of_ble_eq_true rfl) (L' := [some (.ref a0), some (jy a1), some (jy a2), some (jy a1), none]) rfl ?_
      refine jy_iconst hS rfl ?_
      refine jy_istore hS rfl (Nat.le_of_ble_eq_true rfl) (L' := [some (.ref a0), some (jy a1), some (jy a2), some (jy a1), some (jy 0)]) rfl ?_
      exact jy_join hS h rfl (jy_sub_s (jy_sub_n (jy_sub_s (jy_sub_s (jy_sub_s jy_sub_0)))))
    · have h := h.2 hq
      exact jy_ret hS rfl rfl ⟨rfl, rfl, h⟩
  · intro l3 l4 I h
    unfold wz_86_12 at h
    refine jy_iload hS rfl rfl ?_
    refine jy_bipush hS rfl (by decide) ?_
    obtain ⟨g1, h⟩ := h
    refine jy_icmp_ge hS rfl ⟨g1, ⟨by decide, by decide⟩⟩ (fun hq => ?_) (fun hq => ?_)
    · have h := h.1 hq
      exact jy_ret hS rfl rfl ⟨rfl, rfl, h⟩
    · have h := h.2 hq
      refine jy_iload_n hS rfl rfl ?_
      obtain ⟨g2, h⟩ := h
      refine jy_if_lt hS rfl g2 (fun hq => ?_) (fun hq => ?_)
      · have h := h.1 hq
        exact jy_ret hS rfl rfl ⟨rfl, rfl, h⟩
      · have h := h.2 hq
        refine jy_aload_n hS rfl rfl ?_
        obtain ⟨g3, h⟩ := h
        refine jy_getI hS rfl (by decide) g3 ?_
        refine jy_if_ne hS rfl (jy_rng _) (fun hq => ?_) (fun hq => ?_)
        · have h := h.1 hq
          exact jy_ret hS rfl rfl ⟨rfl, rfl, h⟩
        · have h := h.2 hq
          refine jy_aload_n hS rfl rfl ?_
          refine jy_iload_n hS rfl rfl ?_
          refine jy_iload_n hS rfl rfl ?_
          obtain ⟨d5, g6, h⟩ := h
          obtain ⟨Q4, h⟩ := h
          obtain ⟨g7, h⟩ := h
          refine jy_callV hS rfl rfl rfl (Nat.le_of_ble_eq_true rfl) (Or.inl g3) g7 g6 ⟨by decide, by decide⟩ (Nat.le_of_ble_eq_true rfl) ?_ ?_
          rotate_left
          · exact fun Ex Xx Ix Rx hp => hp.2.2.2.elim
          intro rv Xx I8 Rx hp
          obtain ⟨e1, e2, hp⟩ := hp
          rw [e1, e2]
          clear e1 e2
          obtain ⟨e1, h⟩ := h rv I8 hp
          rw [e1]
          clear e1
          change J 36 [] _ (0, 0) _ _ _
          refine jy_aload_n hS rfl rfl ?_
          obtain ⟨q10, h⟩ := h
          obtain ⟨g11, h⟩ := h
          refine jy_getR hS rfl (by decide) g3 g11 ?_
          obtain ⟨g12, h⟩ := h
          obtain ⟨q13, h⟩ := h
          obtain ⟨g14, h⟩ := h
          refine jy_getR hS rfl (by decide) g12 g14 ?_
          refine jy_iload_n hS rfl rfl ?_
          obtain ⟨n15, h⟩ := h
          obtain ⟨g16, h⟩ := h
          obtain ⟨g17, h⟩ := h
          refine jy_iald hS rfl g16.1 (Nat.le_of_lt g16.2) g17 ?_
          refine jy_istore_n hS rfl (Nat.le_of_ble_eq_true rfl) (L' := [some (.ref a0), none, some (jy a2), some (jy ((I8 q13 l3.toNat).toInt)), some (jy l4)]) rfl ?_
          refine jy_iinc hS rfl rfl (L' := [some (.ref a0), none, some (jy a2), some (jy ((I8 q13 l3.toNat).toInt)), some (jy (l4 + 1))]) rfl ?_
          refine jy_goto hS rfl ?_
          exact jy_join hS h rfl (jy_sub_s (jy_sub_n (jy_sub_s (jy_sub_s (jy_sub_s jy_sub_0)))))
