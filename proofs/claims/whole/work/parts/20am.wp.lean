theorem jt_237 : jx_ml 237 = 4 ∧ jx_rt 237 = some .int ∧ jx_hz 237 = [] ∧ decide ((jx_nm 237).name = "<init>") = false ∧ jx_code 237 = jx_c237 := by decide +kernel
/-- GCModel.grief, from 19 -/
def wz_237_19 (V : jx_V) (X : jx_X) (R : jx_R) (Q : Option Value → jx_I → Prop) (QE : String → jx_I → Prop) (J19 : Nat → Int → jx_I → Prop) (J41 : Nat → Int → jx_I → Prop) (J64 : Nat → Int → jx_I → Prop) (a0 : Nat) (a1 : Int) (a2 : Int) (a3 : Int) (s0 : Nat) (s1 : Int) (I : jx_I) : Prop :=
  (X.2.1 s0 = some (12, 0)) ∧ (
  ∃ Q9 : Option Value → jx_I → Prop, (
  (jc V 1 202 (0, 0) [.ref s0, jy s1, jy 1, jy 0] X I R Q9 (fun _ _ => False)) ∧ (
  ∀ rv I11, Q9 rv I11 → ∃ r12 : Int, rv = some (jy r12) ∧ (
  (-2147483648 ≤ r12 ∧ r12 < 2147483648) ∧ (
  (r12 ≠ 0 → (
    Q (some (jy 0)) I11
  )) ∧ (r12 = 0 → (
    (X.2.1 a0 = some (12, 0)) ∧ (
    ∃ Q15 : Option Value → jx_I → Prop, (
    (jc V 2 233 (0, 0) [.ref a0, jy a2] X I11 R Q15 (fun _ _ => False)) ∧ (
    ∀ rv I17, Q15 rv I17 → ∃ r18 : Int, rv = some (jy r18) ∧ (
    (-2147483648 ≤ r18 ∧ r18 < 2147483648) ∧ (
    (r18 ≠ 0 → (
      J41 a0 0 I17
    )) ∧ (r18 = 0 → (
      J41 a0 1 I17
    )))))))
  )))))))
/-- GCModel.grief, from 41 -/
def wz_237_41 (V : jx_V) (X : jx_X) (R : jx_R) (Q : Option Value → jx_I → Prop) (QE : String → jx_I → Prop) (J19 : Nat → Int → jx_I → Prop) (J41 : Nat → Int → jx_I → Prop) (J64 : Nat → Int → jx_I → Prop) (a0 : Nat) (a1 : Int) (a2 : Int) (a3 : Int) (s0 : Nat) (s1 : Int) (I : jx_I) : Prop :=
  (X.2.1 s0 = some (12, 0)) ∧ (
  ∃ Q21 : Option Value → jx_I → Prop, (
  (jc V 1 202 (0, 0) [.ref s0, jy s1, jy 2, jy 1] X I R Q21 (fun _ _ => False)) ∧ (
  ∀ rv I23, Q21 rv I23 → ∃ r24 : Int, rv = some (jy r24) ∧ (
  (-2147483648 ≤ r24 ∧ r24 < 2147483648) ∧ (
  (r24 ≠ 0 → (
    Q (some (jy 0)) I23
  )) ∧ (r24 = 0 → (
    ∃ Q26 : Option Value → jx_I → Prop, (
    (jc V 1 203 (0, 0) [jy a3, jy 0, jy 1] X I23 R Q26 (fun _ _ => False)) ∧ (
    ∀ rv I28, Q26 rv I28 → ∃ r29 : Int, rv = some (jy r29) ∧ (
    (-2147483648 ≤ r29 ∧ r29 < 2147483648) ∧ (
    (r29 ≠ 0 → (
      J64 a0 0 I28
    )) ∧ (r29 = 0 → (
      J64 a0 1 I28
    ))))))
  )))))))
/-- GCModel.grief, from 64 -/
def wz_237_64 (V : jx_V) (X : jx_X) (R : jx_R) (Q : Option Value → jx_I → Prop) (QE : String → jx_I → Prop) (J19 : Nat → Int → jx_I → Prop) (J41 : Nat → Int → jx_I → Prop) (J64 : Nat → Int → jx_I → Prop) (a0 : Nat) (a1 : Int) (a2 : Int) (a3 : Int) (s0 : Nat) (s1 : Int) (I : jx_I) : Prop :=
  (X.2.1 s0 = some (12, 0)) ∧ (
  ∃ Q32 : Option Value → jx_I → Prop, (
  (jc V 1 202 (0, 0) [.ref s0, jy s1, jy 3, jy 2] X I R Q32 (fun _ _ => False)) ∧ (
  ∀ rv I34, Q32 rv I34 → ∃ r35 : Int, rv = some (jy r35) ∧ (
  (-2147483648 ≤ r35 ∧ r35 < 2147483648) ∧ (
  (r35 = 0 → (
    (a3 ≠ 0 → (
      (X.2.1 a0 = some (12, 0)) ∧ (
      ∃ q38 : Nat, (
      (R a0 30 = some q38) ∧ (
      ∃ n40 : Nat, (
      (X.2.1 q38 = some (104, n40) ∧ n40 < 2147483648) ∧ (
      (0 ≤ a2 ∧ a2 < n40) ∧ (
      ∃ q43 : Nat, (
      (R q38 a2.toNat = some q43) ∧ (
      ∃ n45 : Nat, (
      (X.2.1 q43 = some (100, n45) ∧ n45 < 2147483648) ∧ (
      (0 ≤ a1 ∧ a1 < n45) ∧ (
      Q (some (jy ((I34 q43 a1.toNat).toInt))) I34)))))))))))
    )) ∧ (a3 = 0 → (
      (X.2.1 a0 = some (12, 0)) ∧ (
      ∃ q49 : Nat, (
      (R a0 29 = some q49) ∧ (
      ∃ n51 : Nat, (
      (X.2.1 q49 = some (104, n51) ∧ n51 < 2147483648) ∧ (
      (0 ≤ a2 ∧ a2 < n51) ∧ (
      ∃ q54 : Nat, (
      (R q49 a2.toNat = some q54) ∧ (
      ∃ n56 : Nat, (
      (X.2.1 q54 = some (100, n56) ∧ n56 < 2147483648) ∧ (
      (0 ≤ a1 ∧ a1 < n56) ∧ (
      Q (some (jy ((I34 q54 a1.toNat).toInt))) I34)))))))))))
    ))
  )) ∧ (¬ r35 = 0 → (
    Q (some (jy 0)) I34
  )))))))
/-- GCModel.grief -/
def wz_237 (V : jx_V) (X : jx_X) (R : jx_R) (Q : Option Value → jx_I → Prop) (QE : String → jx_I → Prop) (J19 : Nat → Int → jx_I → Prop) (J41 : Nat → Int → jx_I → Prop) (J64 : Nat → Int → jx_I → Prop) (a0 : Nat) (a1 : Int) (a2 : Int) (a3 : Int) (I : jx_I) : Prop :=
  (X.2.1 a0 = some (12, 0)) ∧ (
  ∀ I2 : jx_I, I2 = jx_u I a0 0 (Int32.ofInt 0) → (
  ∃ Q3 : Option Value → jx_I → Prop, (
  (jc V 2 232 (0, 0) [.ref a0, jy a1] X I2 R Q3 (fun _ _ => False)) ∧ (
  ∀ rv I5, Q3 rv I5 → ∃ r6 : Int, rv = some (jy r6) ∧ (
  (-2147483648 ≤ r6 ∧ r6 < 2147483648) ∧ (
  (r6 ≠ 0 → (
    J19 a0 0 I5
  )) ∧ (r6 = 0 → (
    J19 a0 1 I5
  ))))))))
set_option maxRecDepth 20000 in
theorem wm_237 {V : jx_V} (hV : V.1.stackTraces = false) {X : jx_X} {R : jx_R} {I : jx_I} {Q : Option Value → jx_I → Prop} {QE : String → jx_I → Prop} {a0 : Nat} {a1 : Int} {a2 : Int} {a3 : Int} (r_a1 : -2147483648 ≤ a1 ∧ a1 < 2147483648) (r_a2 : -2147483648 ≤ a2 ∧ a2 < 2147483648) (r_a3 : -2147483648 ≤ a3 ∧ a3 < 2147483648) 
    (h : ∀ (J19 : Nat → Int → jx_I → Prop) (J41 : Nat → Int → jx_I → Prop) (J64 : Nat → Int → jx_I → Prop), ((∀ (s0 : Nat) (s1 : Int) I, wz_237_19 V X R Q QE J19 J41 J64 a0 a1 a2 a3 s0 s1 I → J19 s0 s1 I) ∧ (∀ (s0 : Nat) (s1 : Int) I, wz_237_41 V X R Q QE J19 J41 J64 a0 a1 a2 a3 s0 s1 I → J41 s0 s1 I) ∧ (∀ (s0 : Nat) (s1 : Int) I, wz_237_64 V X R Q QE J19 J41 J64 a0 a1 a2 a3 s0 s1 I → J64 s0 s1 I)) → wz_237 V X R Q QE J19 J41 J64 a0 a1 a2 a3 I) : jc V 3 237 (0, 0) [.ref a0, jy a1, jy a2, jy a3] X I R Q QE := by
  refine jy_met hV (by decide) (n := 4) (rt := some .int) (hh := []) (ini := false) (C := jx_c237) (L := [some (.ref a0), some (jy a1), some (jy a2), some (jy a3)]) jt_237 (Nat.le_of_ble_eq_true rfl) rfl ?_
  intro J hS
  have h := h (fun s0 s1 I => J 19 [jy s1, .ref s0] [some (.ref a0), some (jy a1), some (jy a2), some (jy a3)] (0, 0) X I R) (fun s0 s1 I => J 41 [jy s1, .ref s0] [some (.ref a0), some (jy a1), some (jy a2), some (jy a3)] (0, 0) X I R) (fun s0 s1 I => J 64 [jy s1, .ref s0] [some (.ref a0), some (jy a1), some (jy a2), some (jy a3)] (0, 0) X I R) ?_
  · unfold wz_237 at h
    refine jy_aload_n hS rfl rfl ?_
    refine jy_iconst hS rfl ?_
    obtain ⟨g1, h⟩ := h
    refine jy_putI hS rfl (by decide) g1 ?_
    intro I2 e9
    have h := h I2 e9
    clear e9
    refine jy_aload_n hS rfl rfl ?_
    refine jy_aload_n hS rfl rfl ?_
    refine jy_iload_n hS rfl rfl ?_
    obtain ⟨Q3, h⟩ := h
    obtain ⟨g4, h⟩ := h
    refine jy_callV hS rfl rfl rfl (Nat.le_of_ble_eq_true rfl) (Or.inl g1) g4 (by decide) ⟨by decide, by decide⟩ (Nat.le_of_ble_eq_true rfl) ?_ ?_
    rotate_left
    · exact fun Ex Xx Ix Rx hp => hp.2.2.2.elim
    intro rv Xx I5 Rx hp
    obtain ⟨e1, e2, hp⟩ := hp
    rw [e1, e2]
    clear e1 e2
    obtain ⟨r6, e1, h⟩ := h rv I5 hp
    rw [e1]
    clear e1
    change J 11 [jy r6, .ref a0] _ (0, 0) _ _ _
    obtain ⟨g7, h⟩ := h
    refine jy_if_ne hS rfl g7 (fun hq => ?_) (fun hq => ?_)
    · have h := h.1 hq
      refine jy_iconst hS rfl ?_
      exact jy_join hS h rfl (jy_sub_s (jy_sub_s (jy_sub_s (jy_sub_s jy_sub_0))))
    · have h := h.2 hq
      refine jy_iconst hS rfl ?_
      refine jy_goto hS rfl ?_
      exact jy_join hS h rfl (jy_sub_s (jy_sub_s (jy_sub_s (jy_sub_s jy_sub_0))))
  refine ⟨?_, ?_, ?_⟩
  · intro s0 s1 I h
    unfold wz_237_19 at h
    refine jy_iconst hS rfl ?_
    refine jy_iconst hS rfl ?_
    obtain ⟨g8, h⟩ := h
    obtain ⟨Q9, h⟩ := h
    obtain ⟨g10, h⟩ := h
    refine jy_callV hS rfl rfl rfl (Nat.le_of_ble_eq_true rfl) (Or.inl g8) g10 (by decide) ⟨by decide, by decide⟩ (Nat.le_of_ble_eq_true rfl) ?_ ?_
    rotate_left
    · exact fun Ex Xx Ix Rx hp => hp.2.2.2.elim
    intro rv Xx I11 Rx hp
    obtain ⟨e1, e2, hp⟩ := hp
    rw [e1, e2]
    clear e1 e2
    obtain ⟨r12, e1, h⟩ := h rv I11 hp
    rw [e1]
    clear e1
    change J 24 [jy r12] _ (0, 0) _ _ _
    obtain ⟨g13, h⟩ := h
    refine jy_if_ne hS rfl g13 (fun hq => ?_) (fun hq => ?_)
    · have h := h.1 hq
      refine jy_iconst hS rfl ?_
      exact jy_iret hS rfl rfl ⟨rfl, rfl, h⟩
    · have h := h.2 hq
      refine jy_aload_n hS rfl rfl ?_
      refine jy_aload_n hS rfl rfl ?_
      refine jy_iload_n hS rfl rfl ?_
      obtain ⟨g14, h⟩ := h
      obtain ⟨Q15, h⟩ := h
      obtain ⟨g16, h⟩ := h
      refine jy_callV hS rfl rfl rfl (Nat.le_of_ble_eq_true rfl) (Or.inl g14) g16 (by decide) ⟨by decide, by decide⟩ (Nat.le_of_ble_eq_true rfl) ?_ ?_
      rotate_left
      · exact fun Ex Xx Ix Rx hp => hp.2.2.2.elim
      intro rv Xx I17 Rx hp
      obtain ⟨e1, e2, hp⟩ := hp
      rw [e1, e2]
      clear e1 e2
      obtain ⟨r18, e1, h⟩ := h rv I17 hp
      rw [e1]
      clear e1
      change J 33 [jy r18, .ref a0] _ (0, 0) _ _ _
      obtain ⟨g19, h⟩ := h
      refine jy_if_ne hS rfl g19 (fun hq => ?_) (fun hq => ?_)
      · have h := h.1 hq
        refine jy_iconst hS rfl ?_
        exact jy_join hS h rfl (jy_sub_s (jy_sub_s (jy_sub_s (jy_sub_s jy_sub_0))))
      · have h := h.2 hq
        refine jy_iconst hS rfl ?_
        refine jy_goto hS rfl ?_
        exact jy_join hS h rfl (jy_sub_s (jy_sub_s (jy_sub_s (jy_sub_s jy_sub_0))))
  · intro s0 s1 I h
    unfold wz_237_41 at h
    refine jy_iconst hS rfl ?_
    refine jy_iconst hS rfl ?_
    obtain ⟨g20, h⟩ := h
    obtain ⟨Q21, h⟩ := h
    obtain ⟨g22, h⟩ := h
    refine jy_callV hS rfl rfl rfl (Nat.le_of_ble_eq_true rfl) (Or.inl g20) g22 (by decide) ⟨by decide, by decide⟩ (Nat.le_of_ble_eq_true rfl) ?_ ?_
    rotate_left
    · exact fun Ex Xx Ix Rx hp => hp.2.2.2.elim
    intro rv Xx I23 Rx hp
    obtain ⟨e1, e2, hp⟩ := hp
    rw [e1, e2]
    clear e1 e2
    obtain ⟨r24, e1, h⟩ := h rv I23 hp
    rw [e1]
    clear e1
    change J 46 [jy r24] _ (0, 0) _ _ _
    obtain ⟨g25, h⟩ := h
    refine jy_if_ne hS rfl g25 (fun hq => ?_) (fun hq => ?_)
    · have h := h.1 hq
      refine jy_iconst hS rfl ?_
      exact jy_iret hS rfl rfl ⟨rfl, rfl, h⟩
    · have h := h.2 hq
      refine jy_aload_n hS rfl rfl ?_
      refine jy_iload_n hS rfl rfl ?_
      refine jy_iconst hS rfl ?_
      refine jy_iconst hS rfl ?_
      obtain ⟨Q26, h⟩ := h
      obtain ⟨g27, h⟩ := h
      refine jy_callS hS rfl rfl rfl (Nat.le_of_ble_eq_true rfl) g27 (by decide) ⟨by decide, by decide⟩ (Nat.le_of_ble_eq_true rfl) ?_ ?_
      rotate_left
      · exact fun Ex Xx Ix Rx hp => hp.2.2.2.elim
      intro rv Xx I28 Rx hp
      obtain ⟨e1, e2, hp⟩ := hp
      rw [e1, e2]
      clear e1 e2
      obtain ⟨r29, e1, h⟩ := h rv I28 hp
      rw [e1]
      clear e1
      change J 56 [jy r29, .ref a0] _ (0, 0) _ _ _
      obtain ⟨g30, h⟩ := h
      refine jy_if_ne hS rfl g30 (fun hq => ?_) (fun hq => ?_)
      · have h := h.1 hq
        refine jy_iconst hS rfl ?_
        exact jy_join hS h rfl (jy_sub_s (jy_sub_s (jy_sub_s (jy_sub_s jy_sub_0))))
      · have h := h.2 hq
        refine jy_iconst hS rfl ?_
        refine jy_goto hS rfl ?_
        exact jy_join hS h rfl (jy_sub_s (jy_sub_s (jy_sub_s (jy_sub_s jy_sub_0))))
  · intro s0 s1 I h
    unfold wz_237_64 at h
    refine jy_iconst hS rfl ?_
    refine jy_iconst hS rfl ?_
    obtain ⟨g31, h⟩ := h
    obtain ⟨Q32, h⟩ := h
    obtain ⟨g33, h⟩ := h
    refine jy_callV hS rfl rfl rfl (Nat.le_of_ble_eq_true rfl) (Or.inl g31) g33 (by decide) ⟨by decide, by decide⟩ (Nat.le_of_ble_eq_true rfl) ?_ ?_
    rotate_left
    · exact fun Ex Xx Ix Rx hp => hp.2.2.2.elim
    intro rv Xx I34 Rx hp
    obtain ⟨e1, e2, hp⟩ := hp
    rw [e1, e2]
    clear e1 e2
    obtain ⟨r35, e1, h⟩ := h rv I34 hp
    rw [e1]
    clear e1
    change J 69 [jy r35] _ (0, 0) _ _ _
    obtain ⟨g36, h⟩ := h
    refine jy_if_eq hS rfl g36 (fun hq => ?_) (fun hq => ?_)
    · have h := h.1 hq
      refine jy_iload_n hS rfl rfl ?_
      refine jy_if_ne hS rfl r_a3 (fun hq => ?_) (fun hq => ?_)
      · have h := h.1 hq
        refine jy_aload_n hS rfl rfl ?_
        obtain ⟨g37, h⟩ := h
        obtain ⟨q38, h⟩ := h
        obtain ⟨g39, h⟩ := h
        refine jy_getR hS rfl (by decide) g37 g39 ?_
        refine jy_iload_n hS rfl rfl ?_
        obtain ⟨n40, h⟩ := h
        obtain ⟨g41, h⟩ := h
        obtain ⟨g42, h⟩ := h
        obtain ⟨q43, h⟩ := h
        obtain ⟨g44, h⟩ := h
        refine jy_aald hS rfl g41.1 (by decide) (Nat.le_of_lt g41.2) g42 g44 ?_
        refine jy_iload_n hS rfl rfl ?_
        obtain ⟨n45, h⟩ := h
        obtain ⟨g46, h⟩ := h
        obtain ⟨g47, h⟩ := h
        refine jy_iald hS rfl g46.1 (Nat.le_of_lt g46.2) g47 ?_
        exact jy_iret hS rfl rfl ⟨rfl, rfl, h⟩
      · have h := h.2 hq
        refine jy_aload_n hS rfl rfl ?_
        obtain ⟨g48, h⟩ := h
        obtain ⟨q49, h⟩ := h
        obtain ⟨g50, h⟩ := h
        refine jy_getR hS rfl (by decide) g48 g50 ?_
        refine jy_iload_n hS rfl rfl ?_
        obtain ⟨n51, h⟩ := h
        obtain ⟨g52, h⟩ := h
        obtain ⟨g53, h⟩ := h
        obtain ⟨q54, h⟩ := h
        obtain ⟨g55, h⟩ := h
        refine jy_aald hS rfl g52.1 (by decide) (Nat.le_of_lt g52.2) g53 g55 ?_
        refine jy_iload_n hS rfl rfl ?_
        obtain ⟨n56, h⟩ := h
        obtain ⟨g57, h⟩ := h
        obtain ⟨g58, h⟩ := h
        refine jy_iald hS rfl g57.1 (Nat.le_of_lt g57.2) g58 ?_
        refine jy_goto hS rfl ?_
        exact jy_iret hS rfl rfl ⟨rfl, rfl, h⟩
    · have h := h.2 hq
      refine jy_iconst hS rfl ?_
      exact jy_iret hS rfl rfl ⟨rfl, rfl, h⟩
theorem jt_238 : jx_ml 238 = 4 ∧ jx_rt 238 = some .int ∧ jx_hz 238 = [] ∧ decide ((jx_nm 238).name = "<init>") = false ∧ jx_code 238 = jx_c238 := by decide +kernel
/-- GCModel.hurt, from 19 -/
def wz_238_19 (V : jx_V) (X : jx_X) (R : jx_R) (Q : Option Value → jx_I → Prop) (QE : String → jx_I → Prop) (J19 : Nat → Int → jx_I → Prop) (J41 : Nat → Int → jx_I → Prop) (J65 : Nat → Int → jx_I → Prop) (a0 : Nat) (a1 : Int) (a2 : Int) (a3 : Int) (s0 : Nat) (s1 : Int) (I : jx_I) : Prop :=
  (X.2.1 s0 = some (12, 0)) ∧ (
  ∃ Q9 : Option Value → jx_I → Prop, (
  (jc V 1 202 (0, 0) [.ref s0, jy s1, jy 1, jy 0] X I R Q9 (fun _ _ => False)) ∧ (
  ∀ rv I11, Q9 rv I11 → ∃ r12 : Int, rv = some (jy r12) ∧ (
  (-2147483648 ≤ r12 ∧ r12 < 2147483648) ∧ (
  (r12 ≠ 0 → (
    Q (some (jy 0)) I11
  )) ∧ (r12 = 0 → (
    (X.2.1 a0 = some (12, 0)) ∧ (
    ∃ Q15 : Option Value → jx_I → Prop, (
    (jc V 2 233 (0, 0) [.ref a0, jy a2] X I11 R Q15 (fun _ _ => False)) ∧ (
    ∀ rv I17, Q15 rv I17 → ∃ r18 : Int, rv = some (jy r18) ∧ (
    (-2147483648 ≤ r18 ∧ r18 < 2147483648) ∧ (
    (r18 ≠ 0 → (
      J41 a0 0 I17
    )) ∧ (r18 = 0 → (
      J41 a0 1 I17
    )))))))
  )))))))
/-- GCModel.hurt, from 41 -/
def wz_238_41 (V : jx_V) (X : jx_X) (R : jx_R) (Q : Option Value → jx_I → Prop) (QE : String → jx_I → Prop) (J19 : Nat → Int → jx_I → Prop) (J41 : Nat → Int → jx_I → Prop) (J65 : Nat → Int → jx_I → Prop) (a0 : Nat) (a1 : Int) (a2 : Int) (a3 : Int) (s0 : Nat) (s1 : Int) (I : jx_I) : Prop :=
  (X.2.1 s0 = some (12, 0)) ∧ (
  ∃ Q21 : Option Value → jx_I → Prop, (
  (jc V 1 202 (0, 0) [.ref s0, jy s1, jy 2, jy 1] X I R Q21 (fun _ _ => False)) ∧ (
  ∀ rv I23, Q21 rv I23 → ∃ r24 : Int, rv = some (jy r24) ∧ (
  (-2147483648 ≤ r24 ∧ r24 < 2147483648) ∧ (
  (r24 ≠ 0 → (
    Q (some (jy 0)) I23
  )) ∧ (r24 = 0 → (
    ∃ Q26 : Option Value → jx_I → Prop, (
    (jc V 1 203 (0, 0) [jy a3, jy 1, jy 20] X I23 R Q26 (fun _ _ => False)) ∧ (
    ∀ rv I28, Q26 rv I28 → ∃ r29 : Int, rv = some (jy r29) ∧ (
    (-2147483648 ≤ r29 ∧ r29 < 2147483648) ∧ (
    (r29 ≠ 0 → (
      J65 a0 0 I28
    )) ∧ (r29 = 0 → (
      J65 a0 1 I28
    ))))))
  )))))))
/-- GCModel.hurt, from 65 -/
def wz_238_65 (V : jx_V) (X : jx_X) (R : jx_R) (Q : Option Value → jx_I → Prop) (QE : String → jx_I → Prop) (J19 : Nat → Int → jx_I → Prop) (J41 : Nat → Int → jx_I → Prop) (J65 : Nat → Int → jx_I → Prop) (a0 : Nat) (a1 : Int) (a2 : Int) (a3 : Int) (s0 : Nat) (s1 : Int) (I : jx_I) : Prop :=
  (X.2.1 s0 = some (12, 0)) ∧ (
  ∃ Q32 : Option Value → jx_I → Prop, (
  (jc V 1 202 (0, 0) [.ref s0, jy s1, jy 3, jy 2] X I R Q32 (fun _ _ => False)) ∧ (
  ∀ rv I34, Q32 rv I34 → ∃ r35 : Int, rv = some (jy r35) ∧ (
  (-2147483648 ≤ r35 ∧ r35 < 2147483648) ∧ (
  (r35 = 0 → (
    (X.2.1 a0 = some (12, 0)) ∧ (
    ∃ q38 : Nat, (
    (R a0 29 = some q38) ∧ (
    ∃ n40 : Nat, (
    (X.2.1 q38 = some (104, n40) ∧ n40 < 2147483648) ∧ (
    (0 ≤ a2 ∧ a2 < n40) ∧ (
    ∃ q43 : Nat, (
    (R q38 a2.toNat = some q43) ∧ (
    (0 ≤ a2 ∧ a2 < n40) ∧ (
    ∃ q46 : Nat, (
    (R q38 a2.toNat = some q46) ∧ (
    ∃ n48 : Nat, (
    (X.2.1 q46 = some (100, n48) ∧ n48 < 2147483648) ∧ (
    (0 ≤ a1 ∧ a1 < n48) ∧ (
    ∃ Q51 : Option Value → jx_I → Prop, (
    (jc V 1 204 (0, 0) [jy 20, jy ((I34 q46 a1.toNat).toInt + a3)] X I34 R Q51 (fun _ _ => False)) ∧ (
    ∀ rv I53, Q51 rv I53 → ∃ r54 : Int, rv = some (jy r54) ∧ (
    ∃ n55 : Nat, (
    (X.2.1 q43 = some (100, n55) ∧ n55 < 2147483648) ∧ (
    (0 ≤ a1 ∧ a1 < n55) ∧ (
    ∀ I58 : jx_I, I58 = jx_u I53 q43 a1.toNat (Int32.ofInt r54) → (
    ∃ q59 : Nat, (
    (R a0 30 = some q59) ∧ (
    ∃ n61 : Nat, (
    (X.2.1 q59 = some (104, n61) ∧ n61 < 2147483648) ∧ (
    (0 ≤ a2 ∧ a2 < n61) ∧ (
    ∃ q64 : Nat, (
    (R q59 a2.toNat = some q64) ∧ (
    (0 ≤ a2 ∧ a2 < n61) ∧ (
    ∃ q67 : Nat, (
    (R q59 a2.toNat = some q67) ∧ (
    ∃ n69 : Nat, (
    (X.2.1 q67 = some (100, n69) ∧ n69 < 2147483648) ∧ (
    (0 ≤ a1 ∧ a1 < n69) ∧ (
    ∃ Q72 : Option Value → jx_I → Prop, (
    (jc V 1 204 (0, 0) [jy 20, jy ((I58 q67 a1.toNat).toInt + a3)] X I58 R Q72 (fun _ _ => False)) ∧ (
    ∀ rv I74, Q72 rv I74 → ∃ r75 : Int, rv = some (jy r75) ∧ (
    ∃ n76 : Nat, (
    (X.2.1 q64 = some (100, n76) ∧ n76 < 2147483648) ∧ (
    (0 ≤ a1 ∧ a1 < n76) ∧ (
    ∀ I79 : jx_I, I79 = jx_u I74 q64 a1.toNat (Int32.ofInt r75) → (
    (0 ≤ a2 ∧ a2 < n40) ∧ (
    ∃ q81 : Nat, (
    (R q38 a2.toNat = some q81) ∧ (
    ∃ n83 : Nat, (
    (X.2.1 q81 = some (100, n83) ∧ n83 < 2147483648) ∧ (
    (0 ≤ a1 ∧ a1 < n83) ∧ (
    Q (some (jy ((I79 q81 a1.toNat).toInt))) I79)))))))))))))))))))))))))))))))))))))))))))))))
  )) ∧ (¬ r35 = 0 → (
    Q (some (jy 0)) I34
  )))))))
/-- GCModel.hurt -/
def wz_238 (V : jx_V) (X : jx_X) (R : jx_R) (Q : Option Value → jx_I → Prop) (QE : String → jx_I → Prop) (J19 : Nat → Int → jx_I → Prop) (J41 : Nat → Int → jx_I → Prop) (J65 : Nat → Int → jx_I → Prop) (a0 : Nat) (a1 : Int) (a2 : Int) (a3 : Int) (I : jx_I) : Prop :=
  (X.2.1 a0 = some (12, 0)) ∧ (
  ∀ I2 : jx_I, I2 = jx_u I a0 0 (Int32.ofInt 0) → (
  ∃ Q3 : Option Value → jx_I → Prop, (
  (jc V 2 232 (0, 0) [.ref a0, jy a1] X I2 R Q3 (fun _ _ => False)) ∧ (
  ∀ rv I5, Q3 rv I5 → ∃ r6 : Int, rv = some (jy r6) ∧ (
  (-2147483648 ≤ r6 ∧ r6 < 2147483648) ∧ (
  (r6 ≠ 0 → (
    J19 a0 0 I5
  )) ∧ (r6 = 0 → (
    J19 a0 1 I5
  ))))))))
set_option maxRecDepth 20000 in
theorem wm_238 {V : jx_V} (hV : V.1.stackTraces = false) {X : jx_X} {R : jx_R} {I : jx_I} {Q : Option Value → jx_I → Prop} {QE : String → jx_I → Prop} {a0 : Nat} {a1 : Int} {a2 : Int} {a3 : Int} (r_a1 : -2147483648 ≤ a1 ∧ a1 < 2147483648) (r_a2 : -2147483648 ≤ a2 ∧ a2 < 2147483648) (r_a3 : -2147483648 ≤ a3 ∧ a3 < 2147483648) 
    (h : ∀ (J19 : Nat → Int → jx_I → Prop) (J41 : Nat → Int → jx_I → Prop) (J65 : Nat → Int → jx_I → Prop), ((∀ (s0 : Nat) (s1 : Int) I, wz_238_19 V X R Q QE J19 J41 J65 a0 a1 a2 a3 s0 s1 I → J19 s0 s1 I) ∧ (∀ (s0 : Nat) (s1 : Int) I, wz_238_41 V X R Q QE J19 J41 J65 a0 a1 a2 a3 s0 s1 I → J41 s0 s1 I) ∧ (∀ (s0 : Nat) (s1 : Int) I, wz_238_65 V X R Q QE J19 J41 J65 a0 a1 a2 a3 s0 s1 I → J65 s0 s1 I)) → wz_238 V X R Q QE J19 J41 J65 a0 a1 a2 a3 I) : jc V 3 238 (0, 0) [.ref a0, jy a1, jy a2, jy a3] X I R Q QE := by
  refine jy_met hV (by decide) (n := 4) (rt := some .int) (hh := []) (ini := false) (C := jx_c238) (L := [some (.ref a0), some (jy a1), some (jy a2), some (jy a3)]) jt_238 (Nat.le_of_ble_eq_true rfl) rfl ?_
  intro J hS
  have h := h (fun s0 s1 I => J 19 [jy s1, .ref s0] [some (.ref a0), some (jy a1), some (jy a2), some (jy a3)] (0, 0) X I R) (fun s0 s1 I => J 41 [jy s1, .ref s0] [some (.ref a0), some (jy a1), some (jy a2), some (jy a3)] (0, 0) X I R) (fun s0 s1 I => J 65 [jy s1, .ref s0] [some (.ref a0), some (jy a1), some (jy a2), some (jy a3)] (0, 0) X I R) ?_
  · unfold wz_238 at h
    refine jy_aload_n hS rfl rfl ?_
    refine jy_iconst hS rfl ?_
    obtain ⟨g1, h⟩ := h
    refine jy_putI hS rfl (by decide) g1 ?_
    intro I2 e9
    have h := h I2 e9
    clear e9
    refine jy_aload_n hS rfl rfl ?_
    refine jy_aload_n hS rfl rfl ?_
    refine jy_iload_n hS rfl rfl ?_
    obtain ⟨Q3, h⟩ := h
    obtain ⟨g4, h⟩ := h
    refine jy_callV hS rfl rfl rfl (Nat.le_of_ble_eq_true rfl) (Or.inl g1) g4 (by decide) ⟨by decide, by decide⟩ (Nat.le_of_ble_eq_true rfl) ?_ ?_
    rotate_left
    · exact fun Ex Xx Ix Rx hp => hp.2.2.2.elim
    intro rv Xx I5 Rx hp
    obtain ⟨e1, e2, hp⟩ := hp
    rw [e1, e2]
    clear e1 e2
    obtain ⟨r6, e1, h⟩ := h rv I5 hp
    rw [e1]
    clear e1
    change J 11 [jy r6, .ref a0] _ (0, 0) _ _ _
    obtain ⟨g7, h⟩ := h
    refine jy_if_ne hS rfl g7 (fun hq => ?_) (fun hq => ?_)
    · have h := h.1 hq
      refine jy_iconst hS rfl ?_
      exact jy_join hS h rfl (jy_sub_s (jy_sub_s (jy_sub_s (jy_sub_s jy_sub_0))))
    · have h := h.2 hq
      refine jy_iconst hS rfl ?_
      refine jy_goto hS rfl ?_
      exact jy_join hS h rfl (jy_sub_s (jy_sub_s (jy_sub_s (jy_sub_s jy_sub_0))))
  refine ⟨?_, ?_, ?_⟩
  · intro s0 s1 I h
    unfold wz_238_19 at h
    refine jy_iconst hS rfl ?_
    refine jy_iconst hS rfl ?_
    obtain ⟨g8, h⟩ := h
    obtain ⟨Q9, h⟩ := h
    obtain ⟨g10, h⟩ := h
    refine jy_callV hS rfl rfl rfl (Nat.le_of_ble_eq_true rfl) (Or.inl g8) g10 (by decide) ⟨by decide, by decide⟩ (Nat.le_of_ble_eq_true rfl) ?_ ?_
    rotate_left
    · exact fun Ex Xx Ix Rx hp => hp.2.2.2.elim
    intro rv Xx I11 Rx hp
    obtain ⟨e1, e2, hp⟩ := hp
    rw [e1, e2]
    clear e1 e2
    obtain ⟨r12, e1, h⟩ := h rv I11 hp
    rw [e1]
    clear e1
    change J 24 [jy r12] _ (0, 0) _ _ _
    obtain ⟨g13, h⟩ := h
    refine jy_if_ne hS rfl g13 (fun hq => ?_) (fun hq => ?_)
    · have h := h.1 hq
      refine jy_iconst hS rfl ?_
      exact jy_iret hS rfl rfl ⟨rfl, rfl, h⟩
    · have h := h.2 hq
      refine jy_aload_n hS rfl rfl ?_
      refine jy_aload_n hS rfl rfl ?_
      refine jy_iload_n hS rfl rfl ?_
      obtain ⟨g14, h⟩ := h
      obtain ⟨Q15, h⟩ := h
      obtain ⟨g16, h⟩ := h
      refine jy_callV hS rfl rfl rfl (Nat.le_of_ble_eq_true rfl) (Or.inl g14) g16 (by decide) ⟨by decide, by decide⟩ (Nat.le_of_ble_eq_true rfl) ?_ ?_
      rotate_left
      · exact fun Ex Xx Ix Rx hp => hp.2.2.2.elim
      intro rv Xx I17 Rx hp
      obtain ⟨e1, e2, hp⟩ := hp
      rw [e1, e2]
      clear e1 e2
      obtain ⟨r18, e1, h⟩ := h rv I17 hp
      rw [e1]
      clear e1
      change J 33 [jy r18, .ref a0] _ (0, 0) _ _ _
      obtain ⟨g19, h⟩ := h
      refine jy_if_ne hS rfl g19 (fun hq => ?_) (fun hq => ?_)
      · have h := h.1 hq
        refine jy_iconst hS rfl ?_
        exact jy_join hS h rfl (jy_sub_s (jy_sub_s (jy_sub_s (jy_sub_s jy_sub_0))))
      · have h := h.2 hq
        refine jy_iconst hS rfl ?_
        refine jy_goto hS rfl ?_
        exact jy_join hS h rfl (jy_sub_s (jy_sub_s (jy_sub_s (jy_sub_s jy_sub_0))))
  · intro s0 s1 I h
    unfold wz_238_41 at h
    refine jy_iconst hS rfl ?_
    refine jy_iconst hS rfl ?_
    obtain ⟨g20, h⟩ := h
    obtain ⟨Q21, h⟩ := h
    obtain ⟨g22, h⟩ := h
    refine jy_callV hS rfl rfl rfl (Nat.le_of_ble_eq_true rfl) (Or.inl g20) g22 (by decide) ⟨by decide, by decide⟩ (Nat.le_of_ble_eq_true rfl) ?_ ?_
    rotate_left
    · exact fun Ex Xx Ix Rx hp => hp.2.2.2.elim
    intro rv Xx I23 Rx hp
    obtain ⟨e1, e2, hp⟩ := hp
    rw [e1, e2]
    clear e1 e2
    obtain ⟨r24, e1, h⟩ := h rv I23 hp
    rw [e1]
    clear e1
    change J 46 [jy r24] _ (0, 0) _ _ _
    obtain ⟨g25, h⟩ := h
    refine jy_if_ne hS rfl g25 (fun hq => ?_) (fun hq => ?_)
    · have h := h.1 hq
      refine jy_iconst hS rfl ?_
      exact jy_iret hS rfl rfl ⟨rfl, rfl, h⟩
    · have h := h.2 hq
      refine jy_aload_n hS rfl rfl ?_
      refine jy_iload_n hS rfl rfl ?_
      refine jy_iconst hS rfl ?_
      refine jy_bipush hS rfl (by decide) ?_
      obtain ⟨Q26, h⟩ := h
      obtain ⟨g27, h⟩ := h
      refine jy_callS hS rfl rfl rfl (Nat.le_of_ble_eq_true rfl) g27 (by decide) ⟨by decide, by decide⟩ (Nat.le_of_ble_eq_true rfl) ?_ ?_
      rotate_left
      · exact fun Ex Xx Ix Rx hp => hp.2.2.2.elim
      intro rv Xx I28 Rx hp
      obtain ⟨e1, e2, hp⟩ := hp
      rw [e1, e2]
      clear e1 e2
      obtain ⟨r29, e1, h⟩ := h rv I28 hp
      rw [e1]
      clear e1
      change J 57 [jy r29, .ref a0] _ (0, 0) _ _ _
      obtain ⟨g30, h⟩ := h
      refine jy_if_ne hS rfl g30 (fun hq => ?_) (fun hq => ?_)
      · have h := h.1 hq
        refine jy_iconst hS rfl ?_
        exact jy_join hS h rfl (jy_sub_s (jy_sub_s (jy_sub_s (jy_sub_s jy_sub_0))))
      · have h := h.2 hq
        refine jy_iconst hS rfl ?_
        refine jy_goto hS rfl ?_
        exact jy_join hS h rfl (jy_sub_s (jy_sub_s (jy_sub_s (jy_sub_s jy_sub_0))))
  · intro s0 s1 I h
    unfold wz_238_65 at h
    refine jy_iconst hS rfl ?_
    refine jy_iconst hS rfl ?_
    obtain ⟨g31, h⟩ := h
    obtain ⟨Q32, h⟩ := h
    obtain ⟨g33, h⟩ := h
    refine jy_callV hS rfl rfl rfl (Nat.le_of_ble_eq_true rfl) (Or.inl g31) g33 (by decide) ⟨by decide, by decide⟩ (Nat.le_of_ble_eq_true rfl) ?_ ?_
    rotate_left
    · exact fun Ex Xx Ix Rx hp => hp.2.2.2.elim
    intro rv Xx I34 Rx hp
    obtain ⟨e1, e2, hp⟩ := hp
    rw [e1, e2]
    clear e1 e2
    obtain ⟨r35, e1, h⟩ := h rv I34 hp
    rw [e1]
    clear e1
    change J 70 [jy r35] _ (0, 0) _ _ _
    obtain ⟨g36, h⟩ := h
    refine jy_if_eq hS rfl g36 (fun hq => ?_) (fun hq => ?_)
    · have h := h.1 hq
      refine jy_aload_n hS rfl rfl ?_
      obtain ⟨g37, h⟩ := h
      obtain ⟨q38, h⟩ := h
      obtain ⟨g39, h⟩ := h
      refine jy_getR hS rfl (by decide) g37 g39 ?_
      refine jy_iload_n hS rfl rfl ?_
      obtain ⟨n40, h⟩ := h
      obtain ⟨g41, h⟩ := h
      obtain ⟨g42, h⟩ := h
      obtain ⟨q43, h⟩ := h
      obtain ⟨g44, h⟩ := h
      refine jy_aald hS rfl g41.1 (by decide) (Nat.le_of_lt g41.2) g42 g44 ?_
      refine jy_iload_n hS rfl rfl ?_
      refine jy_bipush hS rfl (by decide) ?_
      refine jy_aload_n hS rfl rfl ?_
      refine jy_getR hS rfl (by decide) g37 g39 ?_
      refine jy_iload_n hS rfl rfl ?_
      obtain ⟨g45, h⟩ := h
      obtain ⟨q46, h⟩ := h
      obtain ⟨g47, h⟩ := h
      refine jy_aald hS rfl g41.1 (by decide) (Nat.le_of_lt g41.2) g45 g47 ?_
      refine jy_iload_n hS rfl rfl ?_
      obtain ⟨n48, h⟩ := h
      obtain ⟨g49, h⟩ := h
      obtain ⟨g50, h⟩ := h
      refine jy_iald hS rfl g49.1 (Nat.le_of_lt g49.2) g50 ?_
      refine jy_iload_n hS rfl rfl ?_
      refine jy_iadd hS rfl ?_
      obtain ⟨Q51, h⟩ := h
      obtain ⟨g52, h⟩ := h
      refine jy_callS hS rfl rfl rfl (Nat.le_of_ble_eq_true rfl) g52 (by decide) ⟨by decide, by decide⟩ (Nat.le_of_ble_eq_true rfl) ?_ ?_
      rotate_left
      · exact fun Ex Xx Ix Rx hp => hp.2.2.2.elim
      intro rv Xx I53 Rx hp
      obtain ⟨e1, e2, hp⟩ := hp
      rw [e1, e2]
      clear e1 e2
      obtain ⟨r54, e1, h⟩ := h rv I53 hp
      rw [e1]
      clear e1
      change J 97 [jy r54, jy a1, .ref q43] _ (0, 0) _ _ _
      obtain ⟨n55, h⟩ := h
      obtain ⟨g56, h⟩ := h
      obtain ⟨g57, h⟩ := h
      refine jy_iast hS rfl g56.1 (Nat.le_of_lt g56.2) g57 ?_
      intro I58 e9
      have h := h I58 e9
      clear e9
      refine jy_aload_n hS rfl rfl ?_
      obtain ⟨q59, h⟩ := h
      obtain ⟨g60, h⟩ := h
      refine jy_getR hS rfl (by decide) g37 g60 ?_
      refine jy_iload_n hS rfl rfl ?_
      obtain ⟨n61, h⟩ := h
      obtain ⟨g62, h⟩ := h
      obtain ⟨g63, h⟩ := h
      obtain ⟨q64, h⟩ := h
      obtain ⟨g65, h⟩ := h
      refine jy_aald hS rfl g62.1 (by decide) (Nat.le_of_lt g62.2) g63 g65 ?_
      refine jy_iload_n hS rfl rfl ?_
      refine jy_bipush hS rfl (by decide) ?_
      refine jy_aload_n hS rfl rfl ?_
      refine jy_getR hS rfl (by decide) g37 g60 ?_
      refine jy_iload_n hS rfl rfl ?_
      obtain ⟨g66, h⟩ := h
      obtain ⟨q67, h⟩ := h
      obtain ⟨g68, h⟩ := h
      refine jy_aald hS rfl g62.1 (by decide) (Nat.le_of_lt g62.2) g66 g68 ?_
      refine jy_iload_n hS rfl rfl ?_
      obtain ⟨n69, h⟩ := h
      obtain ⟨g70, h⟩ := h
      obtain ⟨g71, h⟩ := h
      refine jy_iald hS rfl g70.1 (Nat.le_of_lt g70.2) g71 ?_
      refine jy_iload_n hS rfl rfl ?_
      refine jy_iadd hS rfl ?_
      obtain ⟨Q72, h⟩ := h
      obtain ⟨g73, h⟩ := h
      refine jy_callS hS rfl rfl rfl (Nat.le_of_ble_eq_true rfl) g73 (by decide) ⟨by decide, by decide⟩ (Nat.le_of_ble_eq_true rfl) ?_ ?_
      rotate_left
      · exact fun Ex Xx Ix Rx hp => hp.2.2.2.elim
      intro rv Xx I74 Rx hp
      obtain ⟨e1, e2, hp⟩ := hp
      rw [e1, e2]
      clear e1 e2
      obtain ⟨r75, e1, h⟩ := h rv I74 hp
      rw [e1]
      clear e1
      change J 120 [jy r75, jy a1, .ref q64] _ (0, 0) _ _ _
      obtain ⟨n76, h⟩ := h
      obtain ⟨g77, h⟩ := h
      obtain ⟨g78, h⟩ := h
      refine jy_iast hS rfl g77.1 (Nat.le_of_lt g77.2) g78 ?_
      intro I79 e9
      have h := h I79 e9
      clear e9
      refine jy_aload_n hS rfl rfl ?_
      refine jy_getR hS rfl (by decide) g37 g39 ?_
      refine jy_iload_n hS rfl rfl ?_
      obtain ⟨g80, h⟩ := h
      obtain ⟨q81, h⟩ := h
      obtain ⟨g82, h⟩ := h
      refine jy_aald hS rfl g41.1 (by decide) (Nat.le_of_lt g41.2) g80 g82 ?_
      refine jy_iload_n hS rfl rfl ?_
      obtain ⟨n83, h⟩ := h
      obtain ⟨g84, h⟩ := h
      obtain ⟨g85, h⟩ := h
      refine jy_iald hS rfl g84.1 (Nat.le_of_lt g84.2) g85 ?_
      exact jy_iret hS rfl rfl ⟨rfl, rfl, h⟩
    · have h := h.2 hq
      refine jy_iconst hS rfl ?_
      exact jy_iret hS rfl rfl ⟨rfl, rfl, h⟩
theorem jt_239 : jx_ml 239 = 4 ∧ jx_rt 239 = some .int ∧ jx_hz 239 = [] ∧ decide ((jx_nm 239).name = "<init>") = false ∧ jx_code 239 = jx_c239 := by decide +kernel
/-- GCModel.soothe, from 19 -/
def wz_239_19 (V : jx_V) (X : jx_X) (R : jx_R) (Q : Option Value → jx_I → Prop) (QE : String → jx_I → Prop) (J19 : Nat → Int → jx_I → Prop) (J41 : Nat → Int → jx_I → Prop) (a0 : Nat) (a1 : Int) (a2 : Int) (s0 : Nat) (s1 : Int) (I : jx_I) : Prop :=
  (X.2.1 s0 = some (12, 0)) ∧ (
  ∃ Q9 : Option Value → jx_I → Prop, (
  (jc V 1 202 (0, 0) [.ref s0, jy s1, jy 1, jy 0] X I R Q9 (fun _ _ => False)) ∧ (
  ∀ rv I11, Q9 rv I11 → ∃ r12 : Int, rv = some (jy r12) ∧ (
  (-2147483648 ≤ r12 ∧ r12 < 2147483648) ∧ (
  (r12 ≠ 0 → (
    Q (some (jy 0)) I11
  )) ∧ (r12 = 0 → (
    (X.2.1 a0 = some (12, 0)) ∧ (
    ∃ Q15 : Option Value → jx_I → Prop, (
    (jc V 2 233 (0, 0) [.ref a0, jy a2] X I11 R Q15 (fun _ _ => False)) ∧ (
    ∀ rv I17, Q15 rv I17 → ∃ r18 : Int, rv = some (jy r18) ∧ (
    (-2147483648 ≤ r18 ∧ r18 < 2147483648) ∧ (
    (r18 ≠ 0 → (
      J41 a0 0 I17
    )) ∧ (r18 = 0 → (
      J41 a0 1 I17
    )))))))
  )))))))
/-- GCModel.soothe, from 41 -/
def wz_239_41 (V : jx_V) (X : jx_X) (R : jx_R) (Q : Option Value → jx_I → Prop) (QE : String → jx_I → Prop) (J19 : Nat → Int → jx_I → Prop) (J41 : Nat → Int → jx_I → Prop) (a0 : Nat) (a1 : Int) (a2 : Int) (s0 : Nat) (s1 : Int) (I : jx_I) : Prop :=
  (X.2.1 s0 = some (12, 0)) ∧ (
  ∃ Q21 : Option Value → jx_I → Prop, (
  (jc V 1 202 (0, 0) [.ref s0, jy s1, jy 2, jy 1] X I R Q21 (fun _ _ => False)) ∧ (
  ∀ rv I23, Q21 rv I23 → ∃ r24 : Int, rv = some (jy r24) ∧ (
  (-2147483648 ≤ r24 ∧ r24 < 2147483648) ∧ (
  (r24 = 0 → (
    (X.2.1 a0 = some (12, 0)) ∧ (
    ∃ q27 : Nat, (
    (R a0 29 = some q27) ∧ (
    ∃ n29 : Nat, (
    (X.2.1 q27 = some (104, n29) ∧ n29 < 2147483648) ∧ (
    (0 ≤ a2 ∧ a2 < n29) ∧ (
    ∃ q32 : Nat, (
    (R q27 a2.toNat = some q32) ∧ (
    ∃ n34 : Nat, (
    (X.2.1 q32 = some (100, n34) ∧ n34 < 2147483648) ∧ (
    (0 ≤ a1 ∧ a1 < n34) ∧ (
    (0 ≤ a2 ∧ a2 < n29) ∧ (
    ∃ q38 : Nat, (
    (R q27 a2.toNat = some q38) ∧ (
    ∃ n40 : Nat, (
    (X.2.1 q38 = some (100, n40) ∧ n40 < 2147483648) ∧ (
    (0 ≤ a1 ∧ a1 < n40) ∧ (
    ∀ I43 : jx_I, I43 = jx_u I23 q38 a1.toNat (Int32.ofInt 0) → (
    Q (some (jy ((I23 q32 a1.toNat).toInt))) I43))))))))))))))))))
  )) ∧ (¬ r24 = 0 → (
    Q (some (jy 0)) I23
  )))))))
/-- GCModel.soothe -/
def wz_239 (V : jx_V) (X : jx_X) (R : jx_R) (Q : Option Value → jx_I → Prop) (QE : String → jx_I → Prop) (J19 : Nat → Int → jx_I → Prop) (J41 : Nat → Int → jx_I → Prop) (a0 : Nat) (a1 : Int) (a2 : Int) (I : jx_I) : Prop :=
  (X.2.1 a0 = some (12, 0)) ∧ (
  ∀ I2 : jx_I, I2 = jx_u I a0 0 (Int32.ofInt 0) → (
  ∃ Q3 : Option Value → jx_I → Prop, (
  (jc V 2 232 (0, 0) [.ref a0, jy a1] X I2 R Q3 (fun _ _ => False)) ∧ (
  ∀ rv I5, Q3 rv I5 → ∃ r6 : Int, rv = some (jy r6) ∧ (
  (-2147483648 ≤ r6 ∧ r6 < 2147483648) ∧ (
  (r6 ≠ 0 → (
    J19 a0 0 I5
  )) ∧ (r6 = 0 → (
    J19 a0 1 I5
  ))))))))
set_option maxRecDepth 20000 in
theorem wm_239 {V : jx_V} (hV : V.1.stackTraces = false) {X : jx_X} {R : jx_R} {I : jx_I} {Q : Option Value → jx_I → Prop} {QE : String → jx_I → Prop} {a0 : Nat} {a1 : Int} {a2 : Int} (r_a1 : -2147483648 ≤ a1 ∧ a1 < 2147483648) (r_a2 : -2147483648 ≤ a2 ∧ a2 < 2147483648) 
    (h : ∀ (J19 : Nat → Int → jx_I → Prop) (J41 : Nat → Int → jx_I → Prop), ((∀ (s0 : Nat) (s1 : Int) I, wz_239_19 V X R Q QE J19 J41 a0 a1 a2 s0 s1 I → J19 s0 s1 I) ∧ (∀ (s0 : Nat) (s1 : Int) I, wz_239_41 V X R Q QE J19 J41 a0 a1 a2 s0 s1 I → J41 s0 s1 I)) → wz_239 V X R Q QE J19 J41 a0 a1 a2 I) : jc V 3 239 (0, 0) [.ref a0, jy a1, jy a2] X I R Q QE := by
  refine jy_met hV (by decide) (n := 4) (rt := some .int) (hh := []) (ini := false) (C := jx_c239) (L := [some (.ref a0), some (jy a1), some (jy a2), none]) jt_239 (Nat.le_of_ble_eq_true rfl) rfl ?_
  intro J hS
  have h := h (fun s0 s1 I => J 19 [jy s1, .ref s0] [some (.ref a0), some (jy a1), some (jy a2), none] (0, 0) X I R) (fun s0 s1 I => J 41 [jy s1, .ref s0] [some (.ref a0), some (jy a1), some (jy a2), none] (0, 0) X I R) ?_
  · unfold wz_239 at h
    refine jy_aload_n hS rfl rfl ?_
    refine jy_iconst hS rfl ?_
    obtain ⟨g1, h⟩ := h
    refine jy_putI hS rfl (by decide) g1 ?_
    intro I2 e9
    have h := h I2 e9
    clear e9
    refine jy_aload_n hS rfl rfl ?_
    refine jy_aload_n hS rfl rfl ?_
    refine jy_iload_n hS rfl rfl ?_
    obtain ⟨Q3, h⟩ := h
    obtain ⟨g4, h⟩ := h
    refine jy_callV hS rfl rfl rfl (Nat.le_of_ble_eq_true rfl) (Or.inl g1) g4 (by decide) ⟨by decide, by decide⟩ (Nat.le_of_ble_eq_true rfl) ?_ ?_
    rotate_left
    · exact fun Ex Xx Ix Rx hp => hp.2.2.2.elim
    intro rv Xx I5 Rx hp
    obtain ⟨e1, e2, hp⟩ := hp
    rw [e1, e2]
    clear e1 e2
    obtain ⟨r6, e1, h⟩ := h rv I5 hp
    rw [e1]
    clear e1
    change J 11 [jy r6, .ref a0] _ (0, 0) _ _ _
    obtain ⟨g7, h⟩ := h
    refine jy_if_ne hS rfl g7 (fun hq => ?_) (fun hq => ?_)
    · have h := h.1 hq
      refine jy_iconst hS rfl ?_
      exact jy_join hS h rfl (jy_sub_s (jy_sub_s (jy_sub_s (jy_sub_n jy_sub_0))))
    · have h := h.2 hq
      refine jy_iconst hS rfl ?_
      refine jy_goto hS rfl ?_
      exact jy_join hS h rfl (jy_sub_s (jy_sub_s (jy_sub_s (jy_sub_n jy_sub_0))))
  refine ⟨?_, ?_⟩
  · intro s0 s1 I h
    unfold wz_239_19 at h
    refine jy_iconst hS rfl ?_
    refine jy_iconst hS rfl ?_
    obtain ⟨g8, h⟩ := h
    obtain ⟨Q9, h⟩ := h
    obtain ⟨g10, h⟩ := h
    refine jy_callV hS rfl rfl rfl (Nat.le_of_ble_eq_true rfl) (Or.inl g8) g10 (by decide) ⟨by decide, by decide⟩ (Nat.le_of_ble_eq_true rfl) ?_ ?_
    rotate_left
    · exact fun Ex Xx Ix Rx hp => hp.2.2.2.elim
    intro rv Xx I11 Rx hp
    obtain ⟨e1, e2, hp⟩ := hp
    rw [e1, e2]
    clear e1 e2
    obtain ⟨r12, e1, h⟩ := h rv I11 hp
    rw [e1]
    clear e1
    change J 24 [jy r12] _ (0, 0) _ _ _
    obtain ⟨g13, h⟩ := h
    refine jy_if_ne hS rfl g13 (fun hq => ?_) (fun hq => ?_)
    · have h := h.1 hq
      refine jy_iconst hS rfl ?_
      exact jy_iret hS rfl rfl ⟨rfl, rfl, h⟩
    · have h := h.2 hq
      refine jy_aload_n hS rfl rfl ?_
      refine jy_aload_n hS rfl rfl ?_
      refine jy_iload_n hS rfl rfl ?_
      obtain ⟨g14, h⟩ := h
      obtain ⟨Q15, h⟩ := h
      obtain ⟨g16, h⟩ := h
      refine jy_callV hS rfl rfl rfl (Nat.le_of_ble_eq_true rfl) (Or.inl g14) g16 (by decide) ⟨by decide, by decide⟩ (Nat.le_of_ble_eq_true rfl) ?_ ?_
      rotate_left
      · exact fun Ex Xx Ix Rx hp => hp.2.2.2.elim
      intro rv Xx I17 Rx hp
      obtain ⟨e1, e2, hp⟩ := hp
      rw [e1, e2]
      clear e1 e2
      obtain ⟨r18, e1, h⟩ := h rv I17 hp
      rw [e1]
      clear e1
      change J 33 [jy r18, .ref a0] _ (0, 0) _ _ _
      obtain ⟨g19, h⟩ := h
      refine jy_if_ne hS rfl g19 (fun hq => ?_) (fun hq => ?_)
      · have h := h.1 hq
        refine jy_iconst hS rfl ?_
        exact jy_join hS h rfl (jy_sub_s (jy_sub_s (jy_sub_s (jy_sub_n jy_sub_0))))
      · have h := h.2 hq
        refine jy_iconst hS rfl ?_
        refine jy_goto hS rfl ?_
        exact jy_join hS h rfl (jy_sub_s (jy_sub_s (jy_sub_s (jy_sub_n jy_sub_0))))
  · intro s0 s1 I h
    unfold wz_239_41 at h
    refine jy_iconst hS rfl ?_
    refine jy_iconst hS rfl ?_
    obtain ⟨g20, h⟩ := h
    obtain ⟨Q21, h⟩ := h
    obtain ⟨g22, h⟩ := h
    refine jy_callV hS rfl rfl rfl (Nat.le_of_ble_eq_true rfl) (Or.inl g20) g22 (by decide) ⟨by decide, by decide⟩ (Nat.le_of_ble_eq_true rfl) ?_ ?_
    rotate_left
    · exact fun Ex Xx Ix Rx hp => hp.2.2.2.elim
    intro rv Xx I23 Rx hp
    obtain ⟨e1, e2, hp⟩ := hp
    rw [e1, e2]
    clear e1 e2
    obtain ⟨r24, e1, h⟩ := h rv I23 hp
    rw [e1]
    clear e1
    change J 46 [jy r24] _ (0, 0) _ _ _
    obtain ⟨g25, h⟩ := h
    refine jy_if_eq hS rfl g25 (fun hq => ?_) (fun hq => ?_)
    · have h := h.1 hq
      refine jy_aload_n hS rfl rfl ?_
      obtain ⟨g26, h⟩ := h
      obtain ⟨q27, h⟩ := h
      obtain ⟨g28, h⟩ := h
      refine jy_getR hS rfl (by decide) g26 g28 ?_
      refine jy_iload_n hS rfl rfl ?_
      obtain ⟨n29, h⟩ := h
      obtain ⟨g30, h⟩ := h
      obtain ⟨g31, h⟩ := h
      obtain ⟨q32, h⟩ := h
      obtain ⟨g33, h⟩ := h
      refine jy_aald hS rfl g30.1 (by decide) (Nat.le_of_lt g30.2) g31 g33 ?_
      refine jy_iload_n hS rfl rfl ?_
      obtain ⟨n34, h⟩ := h
      obtain ⟨g35, h⟩ := h
      obtain ⟨g36, h⟩ := h
      refine jy_iald hS rfl g35.1 (Nat.le_of_lt g35.2) g36 ?_
      refine jy_istore_n hS rfl (Nat.le_of_ble_eq_true rfl) (L' := [some (.ref a0), some (jy a1), some (jy a2), some (jy ((I23 q32 a1.toNat).toInt))]) rfl ?_
      refine jy_aload_n hS rfl rfl ?_
      refine jy_getR hS rfl (by decide) g26 g28 ?_
      refine jy_iload_n hS rfl rfl ?_
      obtain ⟨g37, h⟩ := h
      obtain ⟨q38, h⟩ := h
      obtain ⟨g39, h⟩ := h
      refine jy_aald hS rfl g30.1 (by decide) (Nat.le_of_lt g30.2) g37 g39 ?_
      refine jy_iload_n hS rfl rfl ?_
      refine jy_iconst hS rfl ?_
      obtain ⟨n40, h⟩ := h
      obtain ⟨g41, h⟩ := h
      obtain ⟨g42, h⟩ := h
      refine jy_iast hS rfl g41.1 (Nat.le_of_lt g41.2) g42 ?_
      intro I43 e9
      have h := h I43 e9
      clear e9
      refine jy_iload_n hS rfl rfl ?_
      exact jy_iret hS rfl rfl ⟨rfl, rfl, h⟩
    · have h := h.2 hq
      refine jy_iconst hS rfl ?_
      exact jy_iret hS rfl rfl ⟨rfl, rfl, h⟩
theorem jt_240 : jx_ml 240 = 7 ∧ jx_rt 240 = some .boolean ∧ jx_hz 240 = [] ∧ decide ((jx_nm 240).name = "<init>") = false ∧ jx_code 240 = jx_c240 := by decide +kernel
/-- GCModel.laysDigits, from 8 -/
def wz_240_8 (V : jx_V) (X : jx_X) (R : jx_R) (Q : Option Value → jx_I → Prop) (QE : String → jx_I → Prop) (J8 : Int64 → Int → jx_I → Prop) (a0 : Nat) (a1 : Int64) (a2 : Int) (l4 : Int64) (l6 : Int) (I : jx_I) : Prop :=
  (-2147483648 ≤ l6 ∧ l6 < 2147483648) ∧ (
  (l6 < 0 → (
    ((lg_cmp a1 (0 : Int64)).toInt < 0 → (
      Q (some (jy 0)) I
    )) ∧ (¬ (lg_cmp a1 (0 : Int64)).toInt < 0 → (
      ((lg_cmp l4 (0 : Int64)).toInt ≠ 0 → (
        Q (some (jy 0)) I
      )) ∧ ((lg_cmp l4 (0 : Int64)).toInt = 0 → (
        Q (some (jy 1)) I
      ))
    ))
  )) ∧ (¬ l6 < 0 → (
    (X.2.1 a0 = some (12, 0)) ∧ (
    ∃ q3 : Nat, (
    (R a0 47 = some q3) ∧ (
    ∃ n5 : Nat, (
    (X.2.1 q3 = some (100, n5) ∧ n5 < 2147483648) ∧ (
    (0 ≤ l6 ∧ l6 < n5) ∧ (
    ∀ I8 : jx_I, I8 = jx_u I q3 l6.toNat (Int32.ofInt (((l4 - l4 / (10 : Int64) * (10 : Int64)).toInt32).toInt)) → (
    J8 (l4 / (10 : Int64)) (l6 + (-1)) I8)))))))
  )))
/-- GCModel.laysDigits -/
def wz_240 (V : jx_V) (X : jx_X) (R : jx_R) (Q : Option Value → jx_I → Prop) (QE : String → jx_I → Prop) (J8 : Int64 → Int → jx_I → Prop) (a0 : Nat) (a1 : Int64) (a2 : Int) (I : jx_I) : Prop :=
  J8 a1 (a2 - 1) I
set_option maxRecDepth 20000 in
theorem wm_240 {V : jx_V} (hV : V.1.stackTraces = false) {X : jx_X} {R : jx_R} {I : jx_I} {Q : Option Value → jx_I → Prop} {QE : String → jx_I → Prop} {a0 : Nat} {a1 : Int64} {a2 : Int} (r_a2 : -2147483648 ≤ a2 ∧ a2 < 2147483648) 
    (h : ∀ (J8 : Int64 → Int → jx_I → Prop), ((∀ (l4 : Int64) (l6 : Int) I, wz_240_8 V X R Q QE J8 a0 a1 a2 l4 l6 I → J8 l4 l6 I)) → wz_240 V X R Q QE J8 a0 a1 a2 I) : jc V 1 240 (0, 0) [.ref a0, .long a1, jy a2] X I R Q QE := by
  refine jy_met hV (by decide) (n := 7) (rt := some .boolean) (hh := []) (ini := false) (C := jx_c240) (L := [some (.ref a0), some (.long a1), none, some (jy a2), none, none, none]) jt_240 (Nat.le_of_ble_eq_true rfl) rfl ?_
  intro J hS
  have h := h (fun l4 l6 I => J 8 [] [some (.ref a0), some (.long a1), none, none, some (.long l4), none, some (jy l6)] (0, 0) X I R) ?_
  · unfold wz_240 at h
    refine jy_lload_n hS rfl rfl ?_
    refine jy_lstore hS rfl (Nat.le_of_ble_eq_true rfl) (L' := [some (.ref a0), some (.long a1), none, some (jy a2), some (.long a1), none, none]) rfl ?_
    refine jy_iload_n hS rfl rfl ?_
    refine jy_iconst hS rfl ?_
    refine jy_isub hS rfl ?_
    refine jy_istore hS rfl (Nat.le_of_ble_eq_true rfl) (L' := [some (.ref a0), some (.long a1), none, some (jy a2), some (.long a1), none, some (jy (a2 - 1))]) rfl ?_
    exact jy_join hS h rfl (jy_sub_s (jy_sub_s (jy_sub_n (jy_sub_n (jy_sub_s (jy_sub_n (jy_sub_s jy_sub_0)))))))
  · intro l4 l6 I h
    unfold wz_240_8 at h
    refine jy_iload hS rfl rfl ?_
    obtain ⟨g1, h⟩ := h
    refine jy_if_lt hS rfl g1 (fun hq => ?_) (fun hq => ?_)
    · have h := h.1 hq
      refine jy_lload_n hS rfl rfl ?_
      refine jy_lconst hS rfl ?_
      refine jy_lcmp hS rfl ?_
      refine jy_if_lt hS rfl (jy_rng _) (fun hq => ?_) (fun hq => ?_)
      · have h := h.1 hq
        refine jy_iconst hS rfl ?_
        exact jy_iret hS rfl rfl ⟨rfl, rfl, h⟩
      · have h := h.2 hq
        refine jy_lload hS rfl rfl ?_
        refine jy_lconst hS rfl ?_
        refine jy_lcmp hS rfl ?_
        refine jy_if_ne hS rfl (jy_rng _) (fun hq => ?_) (fun hq => ?_)
        · have h := h.1 hq
          refine jy_iconst hS rfl ?_
          exact jy_iret hS rfl rfl ⟨rfl, rfl, h⟩
        · have h := h.2 hq
          refine jy_iconst hS rfl ?_
          refine jy_goto hS rfl ?_
          exact jy_iret hS rfl rfl ⟨rfl, rfl, h⟩
    · have h := h.2 hq
      refine jy_aload_n hS rfl rfl ?_
      obtain ⟨g2, h⟩ := h
      obtain ⟨q3, h⟩ := h
      obtain ⟨g4, h⟩ := h
      refine jy_getR hS rfl (by decide) g2 g4 ?_
      refine jy_iload hS rfl rfl ?_
      refine jy_lload hS rfl rfl ?_
      refine jy_ldc2 hS rfl (n := 10) (by decide) ?_
      refine jy_lrem hS rfl (by decide) rfl ?_
      refine jy_l2i hS rfl rfl ?_
      obtain ⟨n5, h⟩ := h
      obtain ⟨g6, h⟩ := h
      obtain ⟨g7, h⟩ := h
      refine jy_iast hS rfl g6.1 (Nat.le_of_lt g6.2) g7 ?_
      intro I8 e9
      have h := h I8 e9
      clear e9
      refine jy_lload hS rfl rfl ?_
      refine jy_ldc2 hS rfl (n := 10) (by decide) ?_
      refine jy_ldiv hS rfl (by decide) rfl ?_
      refine jy_lstore hS rfl (Nat.le_of_ble_eq_true rfl) (L' := [some (.ref a0), some (.long a1), none, none, some (.long (l4 / (10 : Int64))), none, some (jy l6)]) rfl ?_
      refine jy_iinc hS rfl rfl (L' := [some (.ref a0), some (.long a1), none, none, some (.long (l4 / (10 : Int64))), none, some (jy (l6 + (-1)))]) rfl ?_
      refine jy_goto hS rfl ?_
      exact jy_join hS h rfl (jy_sub_s (jy_sub_s (jy_sub_n (jy_sub_n (jy_sub_s (jy_sub_n (jy_sub_s jy_sub_0)))))))
theorem jt_241 : jx_ml 241 = 6 ∧ jx_rt 241 = some .int ∧ jx_hz 241 = [] ∧ decide ((jx_nm 241).name = "<init>") = false ∧ jx_code 241 = jx_c241 := by decide +kernel
/-- GCModel.string, from 21 -/
def wz_241_21 (V : jx_V) (X : jx_X) (R : jx_R) (Q : Option Value → jx_I → Prop) (QE : String → jx_I → Prop) (J21 : Nat → Int → jx_I → Prop) (J48 : Int → Int → jx_I → Prop) (J109 : Int → jx_I → Prop) (a0 : Nat) (a1 : Int) (a2 : Int64) (s0 : Nat) (s1 : Int) (I : jx_I) : Prop :=
  (X.2.1 s0 = some (12, 0)) ∧ (
  ∃ Q9 : Option Value → jx_I → Prop, (
  (jc V 1 202 (0, 0) [.ref s0, jy s1, jy 1, jy 2] X I R Q9 (fun _ _ => False)) ∧ (
  ∀ rv I11, Q9 rv I11 → ∃ r12 : Int, rv = some (jy r12) ∧ (
  (-2147483648 ≤ r12 ∧ r12 < 2147483648) ∧ (
  (r12 = 0 → (
    (X.2.1 a0 = some (12, 0)) ∧ (
    ∃ Q15 : Option Value → jx_I → Prop, (
    (jc V 1 240 (0, 0) [.ref a0, .long a2, jy a1] X I11 R Q15 (fun _ _ => False)) ∧ (
    ∀ rv I17, Q15 rv I17 → ∃ r18 : Int, rv = some (jy r18) ∧ (
    (-2147483648 ≤ r18 ∧ r18 < 2147483648) ∧ (
    (r18 ≠ 0 → (
      J48 0 0 I17
    )) ∧ (r18 = 0 → (
      Q (some (jy 0)) I17
    )))))))
  )) ∧ (¬ r12 = 0 → (
    Q (some (jy 0)) I11
  )))))))
/-- GCModel.string, from 48 -/
def wz_241_48 (V : jx_V) (X : jx_X) (R : jx_R) (Q : Option Value → jx_I → Prop) (QE : String → jx_I → Prop) (J21 : Nat → Int → jx_I → Prop) (J48 : Int → Int → jx_I → Prop) (J109 : Int → jx_I → Prop) (a0 : Nat) (a1 : Int) (a2 : Int64) (l4 : Int) (l5 : Int) (I : jx_I) : Prop :=
  (-2147483648 ≤ l5 ∧ l5 < 2147483648) ∧ (
  (a1 ≤ l5 → (
    J109 0 I
  )) ∧ (¬ a1 ≤ l5 → (
    (X.2.1 a0 = some (12, 0)) ∧ (
    ∃ q22 : Nat, (
    (R a0 47 = some q22) ∧ (
    ∃ n24 : Nat, (
    (X.2.1 q22 = some (100, n24) ∧ n24 < 2147483648) ∧ (
    (0 ≤ l5 ∧ l5 < n24) ∧ (
    ∃ Q27 : Option Value → jx_I → Prop, (
    (jc V 2 233 (0, 0) [.ref a0, jy ((I q22 l5.toNat).toInt)] X I R Q27 (fun _ _ => False)) ∧ (
    ∀ rv I29, Q27 rv I29 → ∃ r30 : Int, rv = some (jy r30) ∧ (
    (-2147483648 ≤ r30 ∧ r30 < 2147483648) ∧ (
    (r30 = 0 → (
      Q (some (jy 0)) I29
    )) ∧ (¬ r30 = 0 → (
      (0 ≤ l5 ∧ l5 < n24) ∧ (
      ((Int32.ofInt ((Int32.ofInt l4 >>> (Int32.ofInt ((I29 q22 l5.toNat).toInt) &&& 31)).toInt) &&& Int32.ofInt 1).toInt ≠ 1 → (
        (0 ≤ l5 ∧ l5 < n24) ∧ (
        J48 ((Int32.ofInt l4 ||| Int32.ofInt ((Int32.ofInt 1 <<< (Int32.ofInt ((I29 q22 l5.toNat).toInt) &&& 31)).toInt)).toInt) (l5 + 1) I29)
      )) ∧ ((Int32.ofInt ((Int32.ofInt l4 >>> (Int32.ofInt ((I29 q22 l5.toNat).toInt) &&& 31)).toInt) &&& Int32.ofInt 1).toInt = 1 → (
        Q (some (jy 0)) I29
      )))
    ))))))))))))
  )))
/-- GCModel.string, from 109 -/
def wz_241_109 (V : jx_V) (X : jx_X) (R : jx_R) (Q : Option Value → jx_I → Prop) (QE : String → jx_I → Prop) (J21 : Nat → Int → jx_I → Prop) (J48 : Int → Int → jx_I → Prop) (J109 : Int → jx_I → Prop) (a0 : Nat) (a1 : Int) (a2 : Int64) (l5 : Int) (I : jx_I) : Prop :=
  (-2147483648 ≤ l5 ∧ l5 < 2147483648) ∧ (
  (a1 ≤ l5 → (
    (X.2.1 a0 = some (12, 0)) ∧ (
    ∀ I36 : jx_I, I36 = jx_u I a0 36 (Int32.ofInt a1) → (
    Q (some (jy 1)) I36))
  )) ∧ (¬ a1 ≤ l5 → (
    (X.2.1 a0 = some (12, 0)) ∧ (
    ∃ q38 : Nat, (
    (R a0 34 = some q38) ∧ (
    ∃ q40 : Nat, (
    (R a0 47 = some q40) ∧ (
    ∃ n42 : Nat, (
    (X.2.1 q40 = some (100, n42) ∧ n42 < 2147483648) ∧ (
    (0 ≤ l5 ∧ l5 < n42) ∧ (
    ∃ n45 : Nat, (
    (X.2.1 q38 = some (100, n45) ∧ n45 < 2147483648) ∧ (
    (0 ≤ l5 ∧ l5 < n45) ∧ (
    ∀ I48 : jx_I, I48 = jx_u I q38 l5.toNat (Int32.ofInt ((I q40 l5.toNat).toInt)) → (
    J109 (l5 + 1) I48))))))))))))
  )))
/-- GCModel.string -/
def wz_241 (V : jx_V) (X : jx_X) (R : jx_R) (Q : Option Value → jx_I → Prop) (QE : String → jx_I → Prop) (J21 : Nat → Int → jx_I → Prop) (J48 : Int → Int → jx_I → Prop) (J109 : Int → jx_I → Prop) (a0 : Nat) (a1 : Int) (a2 : Int64) (I : jx_I) : Prop :=
  (X.2.1 a0 = some (12, 0)) ∧ (
  ∀ I2 : jx_I, I2 = jx_u I a0 0 (Int32.ofInt 0) → (
  ∃ Q3 : Option Value → jx_I → Prop, (
  (jc V 1 203 (0, 0) [jy a1, jy 0, jy 8] X I2 R Q3 (fun _ _ => False)) ∧ (
  ∀ rv I5, Q3 rv I5 → ∃ r6 : Int, rv = some (jy r6) ∧ (
  (-2147483648 ≤ r6 ∧ r6 < 2147483648) ∧ (
  (r6 ≠ 0 → (
    J21 a0 0 I5
  )) ∧ (r6 = 0 → (
    J21 a0 1 I5
  ))))))))
set_option maxRecDepth 20000 in
theorem wm_241 {V : jx_V} (hV : V.1.stackTraces = false) {X : jx_X} {R : jx_R} {I : jx_I} {Q : Option Value → jx_I → Prop} {QE : String → jx_I → Prop} {a0 : Nat} {a1 : Int} {a2 : Int64} (r_a1 : -2147483648 ≤ a1 ∧ a1 < 2147483648) 
    (h : ∀ (J21 : Nat → Int → jx_I → Prop) (J48 : Int → Int → jx_I → Prop) (J109 : Int → jx_I → Prop), ((∀ (s0 : Nat) (s1 : Int) I, wz_241_21 V X R Q QE J21 J48 J109 a0 a1 a2 s0 s1 I → J21 s0 s1 I) ∧ (∀ (l4 : Int) (l5 : Int) I, wz_241_48 V X R Q QE J21 J48 J109 a0 a1 a2 l4 l5 I → J48 l4 l5 I) ∧ (∀ (l5 : Int) I, wz_241_109 V X R Q QE J21 J48 J109 a0 a1 a2 l5 I → J109 l5 I)) → wz_241 V X R Q QE J21 J48 J109 a0 a1 a2 I) : jc V 3 241 (0, 0) [.ref a0, jy a1, .long a2] X I R Q QE := by
  refine jy_met hV (by decide) (n := 6) (rt := some .int) (hh := []) (ini := false) (C := jx_c241) (L := [some (.ref a0), some (jy a1), some (.long a2), none, none, none]) jt_241 (Nat.le_of_ble_eq_true rfl) rfl ?_
  intro J hS
  have h := h (fun s0 s1 I => J 21 [jy s1, .ref s0] [some (.ref a0), some (jy a1), some (.long a2), none, none, none] (0, 0) X I R) (fun l4 l5 I => J 48 [] [some (.ref a0), some (jy a1), none, none, some (jy l4), some (jy l5)] (0, 0) X I R) (fun l5 I => J 109 [] [some (.ref a0), some (jy a1), none, none, none, some (jy l5)] (0, 0) X I R) ?_
  · unfold wz_241 at h
    refine jy_aload_n hS rfl rfl ?_
    refine jy_iconst hS rfl ?_
    obtain ⟨g1, h⟩ := h
    refine jy_putI hS rfl (by decide) g1 ?_
    intro I2 e9
    have h := h I2 e9
    clear e9
    refine jy_aload_n hS rfl rfl ?_
    refine jy_iload_n hS rfl rfl ?_
    refine jy_iconst hS rfl ?_
    refine jy_bipush hS rfl (by decide) ?_
    obtain ⟨Q3, h⟩ := h
    obtain ⟨g4, h⟩ := h
    refine jy_callS hS rfl rfl rfl (Nat.le_of_ble_eq_true rfl) g4 (by decide) ⟨by decide, by decide⟩ (Nat.le_of_ble_eq_true rfl) ?_ ?_
    rotate_left
    · exact fun Ex Xx Ix Rx hp => hp.2.2.2.elim
    intro rv Xx I5 Rx hp
    obtain ⟨e1, e2, hp⟩ := hp
    rw [e1, e2]
    clear e1 e2
    obtain ⟨r6, e1, h⟩ := h rv I5 hp
    rw [e1]
    clear e1
    change J 13 [jy r6, .ref a0] _ (0, 0) _ _ _
    obtain ⟨g7, h⟩ := h
    refine jy_if_ne hS rfl g7 (fun hq => ?_) (fun hq => ?_)
    · have h := h.1 hq
      refine jy_iconst hS rfl ?_
      exact jy_join hS h rfl (jy_sub_s (jy_sub_s (jy_sub_s (jy_sub_n (jy_sub_n (jy_sub_n jy_sub_0))))))
    · have h := h.2 hq
      refine jy_iconst hS rfl ?_
      refine jy_goto hS rfl ?_
      exact jy_join hS h rfl (jy_sub_s (jy_sub_s (jy_sub_s (jy_sub_n (jy_sub_n (jy_sub_n jy_sub_0))))))
  refine ⟨?_, ?_, ?_⟩
  · intro s0 s1 I h
    unfold wz_241_21 at h
    refine jy_iconst hS rfl ?_
    refine jy_iconst hS rfl ?_
    obtain ⟨g8, h⟩ := h
    obtain ⟨Q9, h⟩ := h
    obtain ⟨g10, h⟩ := h
    refine jy_callV hS rfl rfl rfl (Nat.le_of_ble_eq_true rfl) (Or.inl g8) g10 (by decide) ⟨by decide, by decide⟩ (Nat.le_of_ble_eq_true rfl) ?_ ?_
    rotate_left
    · exact fun Ex Xx Ix Rx hp => hp.2.2.2.elim
    intro rv Xx I11 Rx hp
    obtain ⟨e1, e2, hp⟩ := hp
    rw [e1, e2]
    clear e1 e2
    obtain ⟨r12, e1, h⟩ := h rv I11 hp
    rw [e1]
    clear e1
    change J 26 [jy r12] _ (0, 0) _ _ _
    obtain ⟨g13, h⟩ := h
    refine jy_if_eq hS rfl g13 (fun hq => ?_) (fun hq => ?_)
    · have h := h.1 hq
      refine jy_aload_n hS rfl rfl ?_
      refine jy_lload_n hS rfl rfl ?_
      refine jy_iload_n hS rfl rfl ?_
      obtain ⟨g14, h⟩ := h
      obtain ⟨Q15, h⟩ := h
      obtain ⟨g16, h⟩ := h
      refine jy_callV hS rfl rfl rfl (Nat.le_of_ble_eq_true rfl) (Or.inl g14) g16 (by decide) ⟨by decide, by decide⟩ (Nat.le_of_ble_eq_true rfl) ?_ ?_
      rotate_left
      · exact fun Ex Xx Ix Rx hp => hp.2.2.2.elim
      intro rv Xx I17 Rx hp
      obtain ⟨e1, e2, hp⟩ := hp
      rw [e1, e2]
      clear e1 e2
      obtain ⟨r18, e1, h⟩ := h rv I17 hp
      rw [e1]
      clear e1
      change J 37 [jy r18] _ (0, 0) _ _ _
      obtain ⟨g19, h⟩ := h
      refine jy_if_ne hS rfl g19 (fun hq => ?_) (fun hq => ?_)
      · have h := h.1 hq
        refine jy_iconst hS rfl ?_
        refine jy_istore hS rfl (Nat.le_of_ble_eq_true rfl) (L' := [some (.ref a0), some (jy a1), some (.long a2), none, some (jy 0), none]) rfl ?_
        refine jy_iconst hS rfl ?_
        refine jy_istore hS rfl (Nat.le_of_ble_eq_true rfl) (L' := [some (.ref a0), some (jy a1), some (.long a2), none, some (jy 0), some (jy 0)]) rfl ?_
        exact jy_join hS h rfl (jy_sub_s (jy_sub_s (jy_sub_n (jy_sub_n (jy_sub_s (jy_sub_s jy_sub_0))))))
      · have h := h.2 hq
        refine jy_iconst hS rfl ?_
        exact jy_iret hS rfl rfl ⟨rfl, rfl, h⟩
    · have h := h.2 hq
      refine jy_iconst hS rfl ?_
      exact jy_iret hS rfl rfl ⟨rfl, rfl, h⟩
  · intro l4 l5 I h
    unfold wz_241_48 at h
    refine jy_iload hS rfl rfl ?_
    refine jy_iload_n hS rfl rfl ?_
    obtain ⟨g20, h⟩ := h
    refine jy_icmp_ge hS rfl ⟨g20, r_a1⟩ (fun hq => ?_) (fun hq => ?_)
    · have h := h.1 hq
      refine jy_iconst hS rfl ?_
      refine jy_istore hS rfl (Nat.le_of_ble_eq_true rfl) (L' := [some (.ref a0), some (jy a1), none, none, some (jy l4), some (jy 0)]) rfl ?_
      exact jy_join hS h rfl (jy_sub_s (jy_sub_s (jy_sub_n (jy_sub_n (jy_sub_n (jy_sub_s jy_sub_0))))))
    · have h := h.2 hq
      refine jy_aload_n hS rfl rfl ?_
      refine jy_aload_n hS rfl rfl ?_
      obtain ⟨g21, h⟩ := h
      obtain ⟨q22, h⟩ := h
      obtain ⟨g23, h⟩ := h
      refine jy_getR hS rfl (by decide) g21 g23 ?_
      refine jy_iload hS rfl rfl ?_
      obtain ⟨n24, h⟩ := h
      obtain ⟨g25, h⟩ := h
      obtain ⟨g26, h⟩ := h
      refine jy_iald hS rfl g25.1 (Nat.le_of_lt g25.2) g26 ?_
      obtain ⟨Q27, h⟩ := h
      obtain ⟨g28, h⟩ := h
      refine jy_callV hS rfl rfl rfl (Nat.le_of_ble_eq_true rfl) (Or.inl g21) g28 (by decide) ⟨by decide, by decide⟩ (Nat.le_of_ble_eq_true rfl) ?_ ?_
      rotate_left
      · exact fun Ex Xx Ix Rx hp => hp.2.2.2.elim
      intro rv Xx I29 Rx hp
      obtain ⟨e1, e2, hp⟩ := hp
      rw [e1, e2]
      clear e1 e2
      obtain ⟨r30, e1, h⟩ := h rv I29 hp
      rw [e1]
      clear e1
      change J 65 [jy r30] _ (0, 0) _ _ _
      obtain ⟨g31, h⟩ := h
      refine jy_if_eq hS rfl g31 (fun hq => ?_) (fun hq => ?_)
      · have h := h.1 hq
        refine jy_iconst hS rfl ?_
        exact jy_iret hS rfl rfl ⟨rfl, rfl, h⟩
      · have h := h.2 hq
        refine jy_iload hS rfl rfl ?_
        refine jy_aload_n hS rfl rfl ?_
        refine jy_getR hS rfl (by decide) g21 g23 ?_
        refine jy_iload hS rfl rfl ?_
        obtain ⟨g32, h⟩ := h
        refine jy_iald hS rfl g25.1 (Nat.le_of_lt g25.2) g32 ?_
        refine jy_ishrX hS rfl rfl ?_
        refine jy_iconst hS rfl ?_
        refine jy_iandX hS rfl rfl ?_
        refine jy_iconst hS rfl ?_
        refine jy_icmp_ne hS rfl ⟨(jy_rng _), ⟨by decide, by decide⟩⟩ (fun hq => ?_) (fun hq => ?_)
        · have h := h.1 hq
          refine jy_iload hS rfl rfl ?_
          refine jy_iconst hS rfl ?_
          refine jy_aload_n hS rfl rfl ?_
          refine jy_getR hS rfl (by decide) g21 g23 ?_
          refine jy_iload hS rfl rfl ?_
          obtain ⟨g33, h⟩ := h
          refine jy_iald hS rfl g25.1 (Nat.le_of_lt g25.2) g33 ?_
          refine jy_ishlX hS rfl rfl ?_
          refine jy_iorX hS rfl rfl ?_
          refine jy_istore hS rfl (Nat.le_of_ble_eq_true rfl) (L' := [some (.ref a0), some (jy a1), none, none, some (jy ((Int32.ofInt l4 ||| Int32.ofInt ((Int32.ofInt 1 <<< (Int32.ofInt ((I29 q22 l5.toNat).toInt) &&& 31)).toInt)).toInt)), some (jy l5)]) rfl ?_
          refine jy_iinc hS rfl rfl (L' := [some (.ref a0), some (jy a1), none, none, some (jy ((Int32.ofInt l4 ||| Int32.ofInt ((Int32.ofInt 1 <<< (Int32.ofInt ((I29 q22 l5.toNat).toInt) &&& 31)).toInt)).toInt)), some (jy (l5 + 1))]) rfl ?_
          refine jy_goto hS rfl ?_
          exact jy_join hS h rfl (jy_sub_s (jy_sub_s (jy_sub_n (jy_sub_n (jy_sub_s (jy_sub_s jy_sub_0))))))
        · have h := h.2 hq
          refine jy_iconst hS rfl ?_
          exact jy_iret hS rfl rfl ⟨rfl, rfl, h⟩
  · intro l5 I h
    unfold wz_241_109 at h
    refine jy_iload hS rfl rfl ?_
    refine jy_iload_n hS rfl rfl ?_
    obtain ⟨g34, h⟩ := h
    refine jy_icmp_ge hS rfl ⟨g34, r_a1⟩ (fun hq => ?_) (fun hq => ?_)
    · have h := h.1 hq
      refine jy_aload_n hS rfl rfl ?_
      refine jy_iload_n hS rfl rfl ?_
      obtain ⟨g35, h⟩ := h
      refine jy_putI hS rfl (by decide) g35 ?_
      intro I36 e9
      have h := h I36 e9
      clear e9
      refine jy_iconst hS rfl ?_
      exact jy_iret hS rfl rfl ⟨rfl, rfl, h⟩
    · have h := h.2 hq
      refine jy_aload_n hS rfl rfl ?_
      obtain ⟨g37, h⟩ := h
      obtain ⟨q38, h⟩ := h
      obtain ⟨g39, h⟩ := h
      refine jy_getR hS rfl (by decide) g37 g39 ?_
      refine jy_iload hS rfl rfl ?_
      refine jy_aload_n hS rfl rfl ?_
      obtain ⟨q40, h⟩ := h
      obtain ⟨g41, h⟩ := h
      refine jy_getR hS rfl (by decide) g37 g41 ?_
      refine jy_iload hS rfl rfl ?_
      obtain ⟨n42, h⟩ := h
      obtain ⟨g43, h⟩ := h
      obtain ⟨g44, h⟩ := h
      refine jy_iald hS rfl g43.1 (Nat.le_of_lt g43.2) g44 ?_
      obtain ⟨n45, h⟩ := h
      obtain ⟨g46, h⟩ := h
      obtain ⟨g47, h⟩ := h
      refine jy_iast hS rfl g46.1 (Nat.le_of_lt g46.2) g47 ?_
      intro I48 e9
      have h := h I48 e9
      clear e9
      refine jy_iinc hS rfl rfl (L' := [some (.ref a0), some (jy a1), none, none, none, some (jy (l5 + 1))]) rfl ?_
      refine jy_goto hS rfl ?_
      exact jy_join hS h rfl (jy_sub_s (jy_sub_s (jy_sub_n (jy_sub_n (jy_sub_n (jy_sub_s jy_sub_0))))))
theorem jt_242 : jx_ml 242 = 2 ∧ jx_rt 242 = some .int ∧ jx_hz 242 = [] ∧ decide ((jx_nm 242).name = "<init>") = false ∧ jx_code 242 = jx_c242 := by decide +kernel
/-- GCModel.row -/
def wz_242 (V : jx_V) (X : jx_X) (R : jx_R) (Q : Option Value → jx_I → Prop) (QE : String → jx_I → Prop)  (a0 : Nat) (a1 : Int) (I : jx_I) : Prop :=
  (X.2.1 a0 = some (12, 0)) ∧ (
  ∀ I2 : jx_I, I2 = jx_u I a0 0 (Int32.ofInt 0) → (
  ∃ Q3 : Option Value → jx_I → Prop, (
  (jc V 1 203 (0, 0) [jy a1, jy 0, jy ((I2 a0 36).toInt - 1)] X I2 R Q3 (fun _ _ => False)) ∧ (
  ∀ rv I5, Q3 rv I5 → ∃ r6 : Int, rv = some (jy r6) ∧ (
  (-2147483648 ≤ r6 ∧ r6 < 2147483648) ∧ (
  (r6 = 0 → (
    Q (some (jy (-1))) I5
  )) ∧ (¬ r6 = 0 → (
    ∃ q8 : Nat, (
    (R a0 34 = some q8) ∧ (
    ∃ n10 : Nat, (
    (X.2.1 q8 = some (100, n10) ∧ n10 < 2147483648) ∧ (
    (0 ≤ a1 ∧ a1 < n10) ∧ (
    Q (some (jy ((I5 q8 a1.toNat).toInt))) I5)))))
  ))))))))
set_option maxRecDepth 20000 in
theorem wm_242 {V : jx_V} (hV : V.1.stackTraces = false) {X : jx_X} {R : jx_R} {I : jx_I} {Q : Option Value → jx_I → Prop} {QE : String → jx_I → Prop} {a0 : Nat} {a1 : Int} (r_a1 : -2147483648 ≤ a1 ∧ a1 < 2147483648) 
    (h : wz_242 V X R Q QE  a0 a1 I) : jc V 2 242 (0, 0) [.ref a0, jy a1] X I R Q QE := by
  refine jy_met hV (by decide) (n := 2) (rt := some .int) (hh := []) (ini := false) (C := jx_c242) (L := [some (.ref a0), some (jy a1)]) jt_242 (Nat.le_of_ble_eq_true rfl) rfl ?_
  intro J hS
  unfold wz_242 at h
  refine jy_aload_n hS rfl rfl ?_
  refine jy_iconst hS rfl ?_
  obtain ⟨g1, h⟩ := h
  refine jy_putI hS rfl (by decide) g1 ?_
  intro I2 e9
  have h := h I2 e9
  clear e9
  refine jy_iload_n hS rfl rfl ?_
  refine jy_iconst hS rfl ?_
  refine jy_aload_n hS rfl rfl ?_
  refine jy_getI hS rfl (by decide) g1 ?_
  refine jy_iconst hS rfl ?_
  refine jy_isub hS rfl ?_
  obtain ⟨Q3, h⟩ := h
  obtain ⟨g4, h⟩ := h
  refine jy_callS hS rfl rfl rfl (Nat.le_of_ble_eq_true rfl) g4 (by decide) ⟨by decide, by decide⟩ (Nat.le_of_ble_eq_true rfl) ?_ ?_
  rotate_left
  · exact fun Ex Xx Ix Rx hp => hp.2.2.2.elim
  intro rv Xx I5 Rx hp
  obtain ⟨e1, e2, hp⟩ := hp
  rw [e1, e2]
  clear e1 e2
  obtain ⟨r6, e1, h⟩ := h rv I5 hp
  rw [e1]
  clear e1
  change J 16 [jy r6] _ (0, 0) _ _ _
  obtain ⟨g7, h⟩ := h
  refine jy_if_eq hS rfl g7 (fun hq => ?_) (fun hq => ?_)
  · have h := h.1 hq
    refine jy_iconst hS rfl ?_
    exact jy_iret hS rfl rfl ⟨rfl, rfl, h⟩
  · have h := h.2 hq
    refine jy_aload_n hS rfl rfl ?_
    obtain ⟨q8, h⟩ := h
    obtain ⟨g9, h⟩ := h
    refine jy_getR hS rfl (by decide) g1 g9 ?_
    refine jy_iload_n hS rfl rfl ?_
    obtain ⟨n10, h⟩ := h
    obtain ⟨g11, h⟩ := h
    obtain ⟨g12, h⟩ := h
    refine jy_iald hS rfl g11.1 (Nat.le_of_lt g11.2) g12 ?_
    refine jy_goto hS rfl ?_
    exact jy_iret hS rfl rfl ⟨rfl, rfl, h⟩
theorem jt_243 : jx_ml 243 = 3 ∧ jx_rt 243 = none ∧ jx_hz 243 = [] ∧ decide ((jx_nm 243).name = "<init>") = false ∧ jx_code 243 = jx_c243 := by decide +kernel
/-- GCModel.begins, from 2 -/
def wz_243_2 (V : jx_V) (X : jx_X) (R : jx_R) (Q : Option Value → jx_I → Prop) (QE : String → jx_I → Prop) (J2 : Int → jx_I → Prop) (J14 : Int → Int → jx_I → Prop) (J78 : Int → jx_I → Prop) (a0 : Nat) (l1 : Int) (I : jx_I) : Prop :=
  (X.2.1 a0 = some (12, 0)) ∧ (
  ∃ q2 : Nat, (
  (R a0 11 = some q2) ∧ (
  ∃ n4 : Nat, (
  (X.2.1 q2 = some (100, n4) ∧ n4 < 2147483648) ∧ (
  (0 ≤ (1 : Int) ∧ (1 : Int) < n4) ∧ (
  (-2147483648 ≤ l1 ∧ l1 < 2147483648) ∧ (
  ((I q2 (1 : Int).toNat).toInt ≤ l1 → (
    ∀ I8 : jx_I, I8 = jx_u I a0 46 (Int32.ofInt ((I a0 36).toInt)) → (
    J78 0 I8)
  )) ∧ (¬ (I q2 (1 : Int).toNat).toInt ≤ l1 → (
    J14 l1 0 I
  )))))))))
/-- GCModel.begins, from 14 -/
def wz_243_14 (V : jx_V) (X : jx_X) (R : jx_R) (Q : Option Value → jx_I → Prop) (QE : String → jx_I → Prop) (J2 : Int → jx_I → Prop) (J14 : Int → Int → jx_I → Prop) (J78 : Int → jx_I → Prop) (a0 : Nat) (l1 : Int) (l2 : Int) (I : jx_I) : Prop :=
  (X.2.1 a0 = some (12, 0)) ∧ (
  ∃ q10 : Nat, (
  (R a0 11 = some q10) ∧ (
  ∃ n12 : Nat, (
  (X.2.1 q10 = some (100, n12) ∧ n12 < 2147483648) ∧ (
  (0 ≤ (0 : Int) ∧ (0 : Int) < n12) ∧ (
  (-2147483648 ≤ l2 ∧ l2 < 2147483648) ∧ (
  ((I q10 (0 : Int).toNat).toInt ≤ l2 → (
    J2 (l1 + 1) I
  )) ∧ (¬ (I q10 (0 : Int).toNat).toInt ≤ l2 → (
    ∃ q16 : Nat, (
    (R a0 42 = some q16) ∧ (
    ∃ n18 : Nat, (
    (X.2.1 q16 = some (104, n18) ∧ n18 < 2147483648) ∧ (
    (0 ≤ l1 ∧ l1 < n18) ∧ (
    ∃ q21 : Nat, (
    (R q16 l1.toNat = some q21) ∧ (
    ∃ q23 : Nat, (
    (R a0 29 = some q23) ∧ (
    ∃ n25 : Nat, (
    (X.2.1 q23 = some (104, n25) ∧ n25 < 2147483648) ∧ (
    (0 ≤ l1 ∧ l1 < n25) ∧ (
    ∃ q28 : Nat, (
    (R q23 l1.toNat = some q28) ∧ (
    ∃ n30 : Nat, (
    (X.2.1 q28 = some (100, n30) ∧ n30 < 2147483648) ∧ (
    (0 ≤ l2 ∧ l2 < n30) ∧ (
    ∃ n33 : Nat, (
    (X.2.1 q21 = some (100, n33) ∧ n33 < 2147483648) ∧ (
    (0 ≤ l2 ∧ l2 < n33) ∧ (
    ∀ I36 : jx_I, I36 = jx_u I q21 l2.toNat (Int32.ofInt ((I q28 l2.toNat).toInt)) → (
    ∃ q37 : Nat, (
    (R a0 43 = some q37) ∧ (
    ∃ n39 : Nat, (
    (X.2.1 q37 = some (104, n39) ∧ n39 < 2147483648) ∧ (
    (0 ≤ l1 ∧ l1 < n39) ∧ (
    ∃ q42 : Nat, (
    (R q37 l1.toNat = some q42) ∧ (
    ∃ q44 : Nat, (
    (R a0 30 = some q44) ∧ (
    ∃ n46 : Nat, (
    (X.2.1 q44 = some (104, n46) ∧ n46 < 2147483648) ∧ (
    (0 ≤ l1 ∧ l1 < n46) ∧ (
    ∃ q49 : Nat, (
    (R q44 l1.toNat = some q49) ∧ (
    ∃ n51 : Nat, (
    (X.2.1 q49 = some (100, n51) ∧ n51 < 2147483648) ∧ (
    (0 ≤ l2 ∧ l2 < n51) ∧ (
    ∃ n54 : Nat, (
    (X.2.1 q42 = some (100, n54) ∧ n54 < 2147483648) ∧ (
    (0 ≤ l2 ∧ l2 < n54) ∧ (
    ∀ I57 : jx_I, I57 = jx_u I36 q42 l2.toNat (Int32.ofInt ((I36 q49 l2.toNat).toInt)) → (
    J14 l1 (l2 + 1) I57))))))))))))))))))))))))))))))))))))))))))
  )))))))))
/-- GCModel.begins, from 78 -/
def wz_243_78 (V : jx_V) (X : jx_X) (R : jx_R) (Q : Option Value → jx_I → Prop) (QE : String → jx_I → Prop) (J2 : Int → jx_I → Prop) (J14 : Int → Int → jx_I → Prop) (J78 : Int → jx_I → Prop) (a0 : Nat) (l1 : Int) (I : jx_I) : Prop :=
  (X.2.1 a0 = some (12, 0)) ∧ (
  (-2147483648 ≤ l1 ∧ l1 < 2147483648) ∧ (
  ((I a0 36).toInt ≤ l1 → (
    Q none I
  )) ∧ (¬ (I a0 36).toInt ≤ l1 → (
    ∃ q60 : Nat, (
    (R a0 44 = some q60) ∧ (
    ∃ q62 : Nat, (
    (R a0 34 = some q62) ∧ (
    ∃ n64 : Nat, (
    (X.2.1 q62 = some (100, n64) ∧ n64 < 2147483648) ∧ (
    (0 ≤ l1 ∧ l1 < n64) ∧ (
    ∃ n67 : Nat, (
    (X.2.1 q60 = some (100, n67) ∧ n67 < 2147483648) ∧ (
    (0 ≤ l1 ∧ l1 < n67) ∧ (
    ∀ I70 : jx_I, I70 = jx_u I q60 l1.toNat (Int32.ofInt ((I q62 l1.toNat).toInt)) → (
    J78 (l1 + 1) I70)))))))))))
  ))))
/-- GCModel.begins -/
def wz_243 (V : jx_V) (X : jx_X) (R : jx_R) (Q : Option Value → jx_I → Prop) (QE : String → jx_I → Prop) (J2 : Int → jx_I → Prop) (J14 : Int → Int → jx_I → Prop) (J78 : Int → jx_I → Prop) (a0 : Nat) (I : jx_I) : Prop :=
  J2 0 I
set_option maxRecDepth 20000 in
theorem wm_243 {V : jx_V} (hV : V.1.stackTraces = false) {X : jx_X} {R : jx_R} {I : jx_I} {Q : Option Value → jx_I → Prop} {QE : String → jx_I → Prop} {a0 : Nat}  
    (h : ∀ (J2 : Int → jx_I → Prop) (J14 : Int → Int → jx_I → Prop) (J78 : Int → jx_I → Prop), ((∀ (l1 : Int) I, wz_243_2 V X R Q QE J2 J14 J78 a0 l1 I → J2 l1 I) ∧ (∀ (l1 : Int) (l2 : Int) I, wz_243_14 V X R Q QE J2 J14 J78 a0 l1 l2 I → J14 l1 l2 I) ∧ (∀ (l1 : Int) I, wz_243_78 V X R Q QE J2 J14 J78 a0 l1 I → J78 l1 I)) → wz_243 V X R Q QE J2 J14 J78 a0 I) : jc V 1 243 (0, 0) [.ref a0] X I R Q QE := by
  refine jy_met hV (by decide) (n := 3) (rt := none) (hh := []) (ini := false) (C := jx_c243) (L := [some (.ref a0), none, none]) jt_243 (Nat.le_of_ble_eq_true rfl) rfl ?_
  intro J hS
  have h := h (fun l1 I => J 2 [] [some (.ref a0), some (jy l1), none] (0, 0) X I R) (fun l1 l2 I => J 14 [] [some (.ref a0), some (jy l1), some (jy l2)] (0, 0) X I R) (fun l1 I => J 78 [] [some (.ref a0), some (jy l1), none] (0, 0) X I R) ?_
  · unfold wz_243 at h
    refine jy_iconst hS rfl ?_
    refine jy_istore_n hS rfl (Nat.le_of_ble_eq_true rfl) (L' := [some (.ref a0), some (jy 0), none]) rfl ?_
    exact jy_join hS h rfl (jy_sub_s (jy_sub_s (jy_sub_n jy_sub_0)))
  refine ⟨?_, ?_, ?_⟩
  · intro l1 I h
    unfold wz_243_2 at h
    refine jy_iload_n hS rfl rfl ?_
    refine jy_aload_n hS rfl rfl ?_
    obtain ⟨g1, h⟩ := h
    obtain ⟨q2, h⟩ := h
    obtain ⟨g3, h⟩ := h
    refine jy_getR hS rfl (by decide) g1 g3 ?_
    refine jy_iconst hS rfl ?_
    obtain ⟨n4, h⟩ := h
    obtain ⟨g5, h⟩ := h
    obtain ⟨g6, h⟩ := h
    refine jy_iald hS rfl g5.1 (Nat.le_of_lt g5.2) g6 ?_
    obtain ⟨g7, h⟩ := h
    refine jy_icmp_ge hS rfl ⟨g7, (jy_rng _)⟩ (fun hq => ?_) (fun hq => ?_)
    · have h := h.1 hq
      refine jy_aload_n hS rfl rfl ?_
      refine jy_aload_n hS rfl rfl ?_
      refine jy_getI hS rfl (by decide) g1 ?_
      refine jy_putI hS rfl (by decide) g1 ?_
      intro I8 e9
      have h := h I8 e9
      clear e9
      refine jy_iconst hS rfl ?_
      refine jy_istore_n hS rfl (Nat.le_of_ble_eq_true rfl) (L' := [some (.ref a0), some (jy 0), none]) rfl ?_
      exact jy_join hS h rfl (jy_sub_s (jy_sub_s (jy_sub_n jy_sub_0)))
    · have h := h.2 hq
      refine jy_iconst hS rfl ?_
      refine jy_istore_n hS rfl (Nat.le_of_ble_eq_true rfl) (L' := [some (.ref a0), some (jy l1), some (jy 0)]) rfl ?_
      exact jy_join hS h rfl (jy_sub_s (jy_sub_s (jy_sub_s jy_sub_0)))
  · intro l1 l2 I h
    unfold wz_243_14 at h
    refine jy_iload_n hS rfl rfl ?_
    refine jy_aload_n hS rfl rfl ?_
    obtain ⟨g9, h⟩ := h
    obtain ⟨q10, h⟩ := h
    obtain ⟨g11, h⟩ := h
    refine jy_getR hS rfl (by decide) g9 g11 ?_
    refine jy_iconst hS rfl ?_
    obtain ⟨n12, h⟩ := h
    obtain ⟨g13, h⟩ := h
    obtain ⟨g14, h⟩ := h
    refine jy_iald hS rfl g13.1 (Nat.le_of_lt g13.2) g14 ?_
    obtain ⟨g15, h⟩ := h
    refine jy_icmp_ge hS rfl ⟨g15, (jy_rng _)⟩ (fun hq => ?_) (fun hq => ?_)
    · have h := h.1 hq
      refine jy_iinc hS rfl rfl (L' := [some (.ref a0), some (jy (l1 + 1)), some (jy l2)]) rfl ?_
      refine jy_goto hS rfl ?_
      exact jy_join hS h rfl (jy_sub_s (jy_sub_s (jy_sub_n jy_sub_0)))
    · have h := h.2 hq
      refine jy_aload_n hS rfl rfl ?_
      obtain ⟨q16, h⟩ := h
      obtain ⟨g17, h⟩ := h
      refine jy_getR hS rfl (by decide) g9 g17 ?_
      refine jy_iload_n hS rfl rfl ?_
      obtain ⟨n18, h⟩ := h
      obtain ⟨g19, h⟩ := h
      obtain ⟨g20, h⟩ := h
      obtain ⟨q21, h⟩ := h
      obtain ⟨g22, h⟩ := h
      refine jy_aald hS rfl g19.1 (by decide) (Nat.le_of_lt g19.2) g20 g22 ?_
      refine jy_iload_n hS rfl rfl ?_
      refine jy_aload_n hS rfl rfl ?_
      obtain ⟨q23, h⟩ := h
      obtain ⟨g24, h⟩ := h
      refine jy_getR hS rfl (by decide) g9 g24 ?_
      refine jy_iload_n hS rfl rfl ?_
      obtain ⟨n25, h⟩ := h
      obtain ⟨g26, h⟩ := h
      obtain ⟨g27, h⟩ := h
      obtain ⟨q28, h⟩ := h
      obtain ⟨g29, h⟩ := h
      refine jy_aald hS rfl g26.1 (by decide) (Nat.le_of_lt g26.2) g27 g29 ?_
      refine jy_iload_n hS rfl rfl ?_
      obtain ⟨n30, h⟩ := h
      obtain ⟨g31, h⟩ := h
      obtain ⟨g32, h⟩ := h
      refine jy_iald hS rfl g31.1 (Nat.le_of_lt g31.2) g32 ?_
      obtain ⟨n33, h⟩ := h
      obtain ⟨g34, h⟩ := h
      obtain ⟨g35, h⟩ := h
      refine jy_iast hS rfl g34.1 (Nat.le_of_lt g34.2) g35 ?_
      intro I36 e9
      have h := h I36 e9
      clear e9
      refine jy_aload_n hS rfl rfl ?_
      obtain ⟨q37, h⟩ := h
      obtain ⟨g38, h⟩ := h
      refine jy_getR hS rfl (by decide) g9 g38 ?_
      refine jy_iload_n hS rfl rfl ?_
      obtain ⟨n39, h⟩ := h
      obtain ⟨g40, h⟩ := h
      obtain ⟨g41, h⟩ := h
      obtain ⟨q42, h⟩ := h
      obtain ⟨g43, h⟩ := h
      refine jy_aald hS rfl g40.1 (by decide) (Nat.le_of_lt g40.2) g41 g43 ?_
      refine jy_iload_n hS rfl rfl ?_
      refine jy_aload_n hS rfl rfl ?_
      obtain ⟨q44, h⟩ := h
      obtain ⟨g45, h⟩ := h
      refine jy_getR hS rfl (by decide) g9 g45 ?_
      refine jy_iload_n hS rfl rfl ?_
      obtain ⟨n46, h⟩ := h
      obtain ⟨g47, h⟩ := h
      obtain ⟨g48, h⟩ := h
      obtain ⟨q49, h⟩ := h
      obtain ⟨g50, h⟩ := h
      refine jy_aald hS rfl g47.1 (by decide) (Nat.le_of_lt g47.2) g48 g50 ?_
      refine jy_iload_n hS rfl rfl ?_
      obtain ⟨n51, h⟩ := h
      obtain ⟨g52, h⟩ := h
      obtain ⟨g53, h⟩ := h
      refine jy_iald hS rfl g52.1 (Nat.le_of_lt g52.2) g53 ?_
      obtain ⟨n54, h⟩ := h
      obtain ⟨g55, h⟩ := h
      obtain ⟨g56, h⟩ := h
      refine jy_iast hS rfl g55.1 (Nat.le_of_lt g55.2) g56 ?_
      intro I57 e9
      have h := h I57 e9
      clear e9
      refine jy_iinc hS rfl rfl (L' := [some (.ref a0), some (jy l1), some (jy (l2 + 1))]) rfl ?_
      refine jy_goto hS rfl ?_
      exact jy_join hS h rfl (jy_sub_s (jy_sub_s (jy_sub_s jy_sub_0)))
  · intro l1 I h
    unfold wz_243_78 at h
    refine jy_iload_n hS rfl rfl ?_
    refine jy_aload_n hS rfl rfl ?_
    obtain ⟨g58, h⟩ := h
    refine jy_getI hS rfl (by decide) g58 ?_
    obtain ⟨g59, h⟩ := h
    refine jy_icmp_ge hS rfl ⟨g59, (jy_rng _)⟩ (fun hq => ?_) (fun hq => ?_)
    · have h := h.1 hq
      exact jy_ret hS rfl rfl ⟨rfl, rfl, h⟩
    · have h := h.2 hq
      refine jy_aload_n hS rfl rfl ?_
      obtain ⟨q60, h⟩ := h
      obtain ⟨g61, h⟩ := h
      refine jy_getR hS rfl (by decide) g58 g61 ?_
      refine jy_iload_n hS rfl rfl ?_
      refine jy_aload_n hS rfl rfl ?_
      obtain ⟨q62, h⟩ := h
      obtain ⟨g63, h⟩ := h
      refine jy_getR hS rfl (by decide) g58 g63 ?_
      refine jy_iload_n hS rfl rfl ?_
      obtain ⟨n64, h⟩ := h
      obtain ⟨g65, h⟩ := h
      obtain ⟨g66, h⟩ := h
      refine jy_iald hS rfl g65.1 (Nat.le_of_lt g65.2) g66 ?_
      obtain ⟨n67, h⟩ := h
      obtain ⟨g68, h⟩ := h
      obtain ⟨g69, h⟩ := h
      refine jy_iast hS rfl g68.1 (Nat.le_of_lt g68.2) g69 ?_
      intro I70 e9
      have h := h I70 e9
      clear e9
      refine jy_iinc hS rfl rfl (L' := [some (.ref a0), some (jy (l1 + 1)), none]) rfl ?_
      refine jy_goto hS rfl ?_
      exact jy_join hS h rfl (jy_sub_s (jy_sub_s (jy_sub_n jy_sub_0)))
theorem jt_244 : jx_ml 244 = 3 ∧ jx_rt 244 = none ∧ jx_hz 244 = [] ∧ decide ((jx_nm 244).name = "<init>") = false ∧ jx_code 244 = jx_c244 := by decide +kernel
/-- GCModel.rowOf, from 7 -/
def wz_244_7 (V : jx_V) (X : jx_X) (R : jx_R) (Q : Option Value → jx_I → Prop) (QE : String → jx_I → Prop) (J7 : Int → jx_I → Prop) (J48 : Int → jx_I → Prop) (a0 : Nat) (a1 : Int) (l2 : Int) (I : jx_I) : Prop :=
  (X.2.1 a0 = some (12, 0)) ∧ (
  ∃ q4 : Nat, (
  (R a0 11 = some q4) ∧ (
  ∃ n6 : Nat, (
  (X.2.1 q4 = some (100, n6) ∧ n6 < 2147483648) ∧ (
  (0 ≤ (1 : Int) ∧ (1 : Int) < n6) ∧ (
  (-2147483648 ≤ l2 ∧ l2 < 2147483648) ∧ (
  ((I q4 (1 : Int).toNat).toInt ≤ l2 → (
    Q none I
  )) ∧ (¬ (I q4 (1 : Int).toNat).toInt ≤ l2 → (
    ((Int32.ofInt ((Int32.ofInt a1 >>> (Int32.ofInt l2 &&& 31)).toInt) &&& Int32.ofInt 1).toInt ≠ 0 → (
      ∃ q10 : Nat, (
      (R a0 44 = some q10) ∧ (
      ∃ n12 : Nat, (
      (X.2.1 q10 = some (100, n12) ∧ n12 < 2147483648) ∧ (
      (0 ≤ (I a0 46).toInt ∧ (I a0 46).toInt < n12) ∧ (
      ∀ I15 : jx_I, I15 = jx_u I q10 ((I a0 46).toInt).toNat (Int32.ofInt l2) → (
      ∀ I16 : jx_I, I16 = jx_u I15 a0 46 (Int32.ofInt ((I15 a0 46).toInt + 1)) → (
      J48 l2 I16)))))))
    )) ∧ ((Int32.ofInt ((Int32.ofInt a1 >>> (Int32.ofInt l2 &&& 31)).toInt) &&& Int32.ofInt 1).toInt = 0 → (
      J48 l2 I
    ))
  )))))))))
/-- GCModel.rowOf, from 48 -/
def wz_244_48 (V : jx_V) (X : jx_X) (R : jx_R) (Q : Option Value → jx_I → Prop) (QE : String → jx_I → Prop) (J7 : Int → jx_I → Prop) (J48 : Int → jx_I → Prop) (a0 : Nat) (a1 : Int) (l2 : Int) (I : jx_I) : Prop :=
  J7 (l2 + 1) I
/-- GCModel.rowOf -/
def wz_244 (V : jx_V) (X : jx_X) (R : jx_R) (Q : Option Value → jx_I → Prop) (QE : String → jx_I → Prop) (J7 : Int → jx_I → Prop) (J48 : Int → jx_I → Prop) (a0 : Nat) (a1 : Int) (I : jx_I) : Prop :=
  (X.2.1 a0 = some (12, 0)) ∧ (
  ∀ I2 : jx_I, I2 = jx_u I a0 46 (Int32.ofInt 0) → (
  J7 0 I2))
set_option maxRecDepth 20000 in
theorem wm_244 {V : jx_V} (hV : V.1.stackTraces = false) {X : jx_X} {R : jx_R} {I : jx_I} {Q : Option Value → jx_I → Prop} {QE : String → jx_I → Prop} {a0 : Nat} {a1 : Int} (r_a1 : -2147483648 ≤ a1 ∧ a1 < 2147483648) 
    (h : ∀ (J7 : Int → jx_I → Prop) (J48 : Int → jx_I → Prop), ((∀ (l2 : Int) I, wz_244_7 V X R Q QE J7 J48 a0 a1 l2 I → J7 l2 I) ∧ (∀ (l2 : Int) I, wz_244_48 V X R Q QE J7 J48 a0 a1 l2 I → J48 l2 I)) → wz_244 V X R Q QE J7 J48 a0 a1 I) : jc V 1 244 (0, 0) [.ref a0, jy a1] X I R Q QE := by
  refine jy_met hV (by decide) (n := 3) (rt := none) (hh := []) (ini := false) (C := jx_c244) (L := [some (.ref a0), some (jy a1), none]) jt_244 (Nat.le_of_ble_eq_true rfl) rfl ?_
  intro J hS
  have h := h (fun l2 I => J 7 [] [some (.ref a0), some (jy a1), some (jy l2)] (0, 0) X I R) (fun l2 I => J 48 [] [some (.ref a0), some (jy a1), some (jy l2)] (0, 0) X I R) ?_
  · unfold wz_244 at h
    refine jy_aload_n hS rfl rfl ?_
    refine jy_iconst hS rfl ?_
    obtain ⟨g1, h⟩ := h
    refine jy_putI hS rfl (by decide) g1 ?_
    intro I2 e9
    have h := h I2 e9
    clear e9
    refine jy_iconst hS rfl ?_
    refine jy_istore_n hS rfl (Nat.le_of_ble_eq_true rfl) (L' := [some (.ref a0), some (jy a1), some (jy 0)]) rfl ?_
    exact jy_join hS h rfl (jy_sub_s (jy_sub_s (jy_sub_s jy_sub_0)))
  refine ⟨?_, ?_⟩
  · intro l2 I h
    unfold wz_244_7 at h
    refine jy_iload_n hS rfl rfl ?_
    refine jy_aload_n hS rfl rfl ?_
    obtain ⟨g3, h⟩ := h
    obtain ⟨q4, h⟩ := h
    obtain ⟨g5, h⟩ := h
    refine jy_getR hS rfl (by decide) g3 g5 ?_
    refine jy_iconst hS rfl ?_
    obtain ⟨n6, h⟩ := h
    obtain ⟨g7, h⟩ := h
    obtain ⟨g8, h⟩ := h
    refine jy_iald hS rfl g7.1 (Nat.le_of_lt g7.2) g8 ?_
    obtain ⟨g9, h⟩ := h
    refine jy_icmp_ge hS rfl ⟨g9, (jy_rng _)⟩ (fun hq => ?_) (fun hq => ?_)
    · have h := h.1 hq
      exact jy_ret hS rfl rfl ⟨rfl, rfl, h⟩
    · have h := h.2 hq
      refine jy_iload_n hS rfl rfl ?_
      refine jy_iload_n hS rfl rfl ?_
      refine jy_ishrX hS rfl rfl ?_
      refine jy_iconst hS rfl ?_
      refine jy_iandX hS rfl rfl ?_
      refine jy_if_ne hS rfl (jy_rng _) (fun hq => ?_) (fun hq => ?_)
      · have h := h.1 hq
        refine jy_aload_n hS rfl rfl ?_
        obtain ⟨q10, h⟩ := h
        obtain ⟨g11, h⟩ := h
        refine jy_getR hS rfl (by decide) g3 g11 ?_
        refine jy_aload_n hS rfl rfl ?_
        refine jy_getI hS rfl (by decide) g3 ?_
        refine jy_iload_n hS rfl rfl ?_
        obtain ⟨n12, h⟩ := h
        obtain ⟨g13, h⟩ := h
        obtain ⟨g14, h⟩ := h
        refine jy_iast hS rfl g13.1 (Nat.le_of_lt g13.2) g14 ?_
        intro I15 e9
        have h := h I15 e9
        clear e9
        refine jy_aload_n hS rfl rfl ?_
        refine jy_dup hS rfl rfl ?_
        refine jy_getI hS rfl (by decide) g3 ?_
        refine jy_iconst hS rfl ?_
        refine jy_iadd hS rfl ?_
        refine jy_putI hS rfl (by decide) g3 ?_
        intro I16 e9
        have h := h I16 e9
        clear e9
        exact jy_join hS h rfl (jy_sub_s (jy_sub_s (jy_sub_s jy_sub_0)))
      · have h := h.2 hq
        refine jy_goto hS rfl ?_
        exact jy_join hS h rfl (jy_sub_s (jy_sub_s (jy_sub_s jy_sub_0)))
  · intro l2 I h
    unfold wz_244_48 at h
    refine jy_iinc hS rfl rfl (L' := [some (.ref a0), some (jy a1), some (jy (l2 + 1))]) rfl ?_
    refine jy_goto hS rfl ?_
    exact jy_join hS h rfl (jy_sub_s (jy_sub_s (jy_sub_s jy_sub_0)))
theorem jt_245 : jx_ml 245 = 10 ∧ jx_rt 245 = some .int ∧ jx_hz 245 = [] ∧ decide ((jx_nm 245).name = "<init>") = false ∧ jx_code 245 = jx_c245 := by decide +kernel
/-- GCModel.valueOf, from 17 -/
def wz_245_17 (V : jx_V) (X : jx_X) (R : jx_R) (Q : Option Value → jx_I → Prop) (QE : String → jx_I → Prop) (J17 : Int → Int → Int → Int → Int → Int → jx_I → Prop) (J62 : Int → Int → Int → Int → Int → Int → jx_I → Prop) (J82 : Int → Int → Int → Int → Int → Int → jx_I → Prop) (J91 : Int → Int → Int → Int → Int → Int → jx_I → Prop) (a0 : Nat) (a1 : Int) (a2 : Int) (l3 : Int) (l4 : Int) (l5 : Int) (l6 : Int) (l7 : Int) (l8 : Int) (I : jx_I) : Prop :=
  (X.2.1 a0 = some (12, 0)) ∧ (
  (-2147483648 ≤ l8 ∧ l8 < 2147483648) ∧ (
  ((I a0 46).toInt ≤ l8 → (
    (a2 ≠ 0 → (
      (a2 ≠ 1 → (
        (a2 ≠ 2 → (
          (a2 ≠ 3 → (
            Q (some (jy l7)) I
          )) ∧ (a2 = 3 → (
            Q (some (jy l6)) I
          ))
        )) ∧ (a2 = 2 → (
          Q (some (jy l5)) I
        ))
      )) ∧ (a2 = 1 → (
        Q (some (jy l4)) I
      ))
    )) ∧ (a2 = 0 → (
      Q (some (jy l3)) I
    ))
  )) ∧ (¬ (I a0 46).toInt ≤ l8 → (
    ∃ q3 : Nat, (
    (R a0 42 = some q3) ∧ (
    ∃ q5 : Nat, (
    (R a0 44 = some q5) ∧ (
    ∃ n7 : Nat, (
    (X.2.1 q5 = some (100, n7) ∧ n7 < 2147483648) ∧ (
    (0 ≤ l8 ∧ l8 < n7) ∧ (
    ∃ n10 : Nat, (
    (X.2.1 q3 = some (104, n10) ∧ n10 < 2147483648) ∧ (
    (0 ≤ (I q5 l8.toNat).toInt ∧ (I q5 l8.toNat).toInt < n10) ∧ (
    ∃ q13 : Nat, (
    (R q3 ((I q5 l8.toNat).toInt).toNat = some q13) ∧ (
    ∃ n15 : Nat, (
    (X.2.1 q13 = some (100, n15) ∧ n15 < 2147483648) ∧ (
    (0 ≤ a1 ∧ a1 < n15) ∧ (
    ((I q13 a1.toNat).toInt ≠ 0 → (
      (-2147483648 ≤ l3 ∧ l3 < 2147483648) ∧ (
      ((I q13 a1.toNat).toInt ≤ l3 → (
        J62 l3 l4 l5 l7 l8 ((I q13 a1.toNat).toInt) I
      )) ∧ (¬ (I q13 a1.toNat).toInt ≤ l3 → (
        J62 ((I q13 a1.toNat).toInt) l4 l5 l7 l8 ((I q13 a1.toNat).toInt) I
      )))
    )) ∧ ((I q13 a1.toNat).toInt = 0 → (
      J91 l3 l4 l5 l6 l7 l8 I
    )))))))))))))))))
  ))))
/-- GCModel.valueOf, from 62 -/
def wz_245_62 (V : jx_V) (X : jx_X) (R : jx_R) (Q : Option Value → jx_I → Prop) (QE : String → jx_I → Prop) (J17 : Int → Int → Int → Int → Int → Int → jx_I → Prop) (J62 : Int → Int → Int → Int → Int → Int → jx_I → Prop) (J82 : Int → Int → Int → Int → Int → Int → jx_I → Prop) (J91 : Int → Int → Int → Int → Int → Int → jx_I → Prop) (a0 : Nat) (a1 : Int) (a2 : Int) (s0 : Int) (l4 : Int) (l5 : Int) (l7 : Int) (l8 : Int) (l9 : Int) (I : jx_I) : Prop :=
  (-2147483648 ≤ l7 ∧ l7 < 2147483648) ∧ (
  (l7 ≠ 0 → (
    J82 l5 s0 (l4 + l9) l7 l8 l9 I
  )) ∧ (l7 = 0 → (
    J82 l9 s0 (l4 + l9) l7 l8 l9 I
  )))
/-- GCModel.valueOf, from 82 -/
def wz_245_82 (V : jx_V) (X : jx_X) (R : jx_R) (Q : Option Value → jx_I → Prop) (QE : String → jx_I → Prop) (J17 : Int → Int → Int → Int → Int → Int → jx_I → Prop) (J62 : Int → Int → Int → Int → Int → Int → jx_I → Prop) (J82 : Int → Int → Int → Int → Int → Int → jx_I → Prop) (J91 : Int → Int → Int → Int → Int → Int → jx_I → Prop) (a0 : Nat) (a1 : Int) (a2 : Int) (s0 : Int) (l3 : Int) (l4 : Int) (l7 : Int) (l8 : Int) (l9 : Int) (I : jx_I) : Prop :=
  J91 l3 l4 s0 l9 (l7 + 1) l8 I
/-- GCModel.valueOf, from 91 -/
def wz_245_91 (V : jx_V) (X : jx_X) (R : jx_R) (Q : Option Value → jx_I → Prop) (QE : String → jx_I → Prop) (J17 : Int → Int → Int → Int → Int → Int → jx_I → Prop) (J62 : Int → Int → Int → Int → Int → Int → jx_I → Prop) (J82 : Int → Int → Int → Int → Int → Int → jx_I → Prop) (J91 : Int → Int → Int → Int → Int → Int → jx_I → Prop) (a0 : Nat) (a1 : Int) (a2 : Int) (l3 : Int) (l4 : Int) (l5 : Int) (l6 : Int) (l7 : Int) (l8 : Int) (I : jx_I) : Prop :=
  J17 l3 l4 l5 l6 l7 (l8 + 1) I
/-- GCModel.valueOf -/
def wz_245 (V : jx_V) (X : jx_X) (R : jx_R) (Q : Option Value → jx_I → Prop) (QE : String → jx_I → Prop) (J17 : Int → Int → Int → Int → Int → Int → jx_I → Prop) (J62 : Int → Int → Int → Int → Int → Int → jx_I → Prop) (J82 : Int → Int → Int → Int → Int → Int → jx_I → Prop) (J91 : Int → Int → Int → Int → Int → Int → jx_I → Prop) (a0 : Nat) (a1 : Int) (a2 : Int) (I : jx_I) : Prop :=
  J17 0 0 0 0 0 0 I
set_option maxRecDepth 20000 in
theorem wm_245 {V : jx_V} (hV : V.1.stackTraces = false) {X : jx_X} {R : jx_R} {I : jx_I} {Q : Option Value → jx_I → Prop} {QE : String → jx_I → Prop} {a0 : Nat} {a1 : Int} {a2 : Int} (r_a1 : -2147483648 ≤ a1 ∧ a1 < 2147483648) (r_a2 : -2147483648 ≤ a2 ∧ a2 < 2147483648) 
    (h : ∀ (J17 : Int → Int → Int → Int → Int → Int → jx_I → Prop) (J62 : Int → Int → Int → Int → Int → Int → jx_I → Prop) (J82 : Int → Int → Int → Int → Int → Int → jx_I → Prop) (J91 : Int → Int → Int → Int → Int → Int → jx_I → Prop), ((∀ (l3 : Int) (l4 : Int) (l5 : Int) (l6 : Int) (l7 : Int) (l8 : Int) I, wz_245_17 V X R Q QE J17 J62 J82 J91 a0 a1 a2 l3 l4 l5 l6 l7 l8 I → J17 l3 l4 l5 l6 l7 l8 I) ∧ (∀ (s0 : Int) (l4 : Int) (l5 : Int) (l7 : Int) (l8 : Int) (l9 : Int) I, wz_245_62 V X R Q QE J17 J62 J82 J91 a0 a1 a2 s0 l4 l5 l7 l8 l9 I → J62 s0 l4 l5 l7 l8 l9 I) ∧ (∀ (s0 : Int) (l3 : Int) (l4 : Int) (l7 : Int) (l8 : Int) (l9 : Int) I, wz_245_82 V X R Q QE J17 J62 J82 J91 a0 a1 a2 s0 l3 l4 l7 l8 l9 I → J82 s0 l3 l4 l7 l8 l9 I) ∧ (∀ (l3 : Int) (l4 : Int) (l5 : Int) (l6 : Int) (l7 : Int) (l8 : Int) I, wz_245_91 V X R Q QE J17 J62 J82 J91 a0 a1 a2 l3 l4 l5 l6 l7 l8 I → J91 l3 l4 l5 l6 l7 l8 I)) → wz_245 V X R Q QE J17 J62 J82 J91 a0 a1 a2 I) : jc V 1 245 (0, 0) [.ref a0, jy a1, jy a2] X I R Q QE := by
  refine jy_met hV (by decide) (n := 10) (rt := some .int) (hh := []) (ini := false) (C := jx_c245) (L := [some (.ref a0), some (jy a1), some (jy a2), none, none, none, none, none, none, none]) jt_245 (Nat.le_of_ble_eq_true rfl) rfl ?_
  intro J hS
  have h := h (fun l3 l4 l5 l6 l7 l8 I => J 17 [] [some (.ref a0), some (jy a1), some (jy a2), some (jy l3), some (jy l4), some (jy l5), some (jy l6), some (jy l7), some (jy l8), none] (0, 0) X I R) (fun s0 l4 l5 l7 l8 l9 I => J 62 [jy s0] [some (.ref a0), some (jy a1), some (jy a2), none, some (jy l4), some (jy l5), none, some (jy l7), some (jy l8), some (jy l9)] (0, 0) X I R) (fun s0 l3 l4 l7 l8 l9 I => J 82 [jy s0] [some (.ref a0), some (jy a1), some (jy a2), some (jy l3), some (jy l4), none, none, some (jy l7), some (jy l8), some (jy l9)] (0, 0) X I R) (fun l3 l4 l5 l6 l7 l8 I => J 91 [] [some (.ref a0), some (jy a1), some (jy a2), some (jy l3), some (jy l4), some (jy l5), some (jy l6), some (jy l7), some (jy l8), none] (0, 0) X I R) ?_
  · unfold wz_245 at h
    refine jy_iconst hS rfl ?_
    refine jy_istore_n hS rfl (Nat.le_of_ble_eq_true rfl) (L' := [some (.ref a0), some (jy a1), some (jy a2), some (jy 0), none, none, none, none, none, none]) rfl ?_
    refine jy_iconst hS rfl ?_
    refine jy_istore hS rfl (Nat.le_of_ble_eq_true rfl) (L' := [some (.ref a0), some (jy a1), some (jy a2), some (jy 0), some (jy 0), none, none, none, none, none]) rfl ?_
    refine jy_iconst hS rfl ?_
    refine jy_istore hS rfl (Nat.le_of_ble_eq_true rfl) (L' := [some (.ref a0), some (jy a1), some (jy a2), some (jy 0), some (jy 0), some (jy 0), none, none, none, none]) rfl ?_
    refine jy_iconst hS rfl ?_
    refine jy_istore hS rfl (Nat.le_of_ble_eq_true rfl) (L' := [some (.ref a0), some (jy a1), some (jy a2), some (jy 0), some (jy 0), some (jy 0), some (jy 0), none, none, none]) rfl ?_
    refine jy_iconst hS rfl ?_
    refine jy_istore hS rfl (Nat.le_of_ble_eq_true rfl) (L' := [some (.ref a0), some (jy a1), some (jy a2), some (jy 0), some (jy 0), some (jy 0), some (jy 0), some (jy 0), none, none]) rfl ?_
    refine jy_iconst hS rfl ?_
    refine jy_istore hS rfl (Nat.le_of_ble_eq_true rfl) (L' := [some (.ref a0), some (jy a1), some (jy a2), some (jy 0), some (jy 0), some (jy 0), some (jy 0), some (jy 0), some (jy 0), none]) rfl ?_
    exact jy_join hS h rfl (jy_sub_s (jy_sub_s (jy_sub_s (jy_sub_s (jy_sub_s (jy_sub_s (jy_sub_s (jy_sub_s (jy_sub_s (jy_sub_n jy_sub_0))))))))))
  refine ⟨?_, ?_, ?_, ?_⟩
  · intro l3 l4 l5 l6 l7 l8 I h
    unfold wz_245_17 at h
    refine jy_iload hS rfl rfl ?_
    refine jy_aload_n hS rfl rfl ?_
    obtain ⟨g1, h⟩ := h
    refine jy_getI hS rfl (by decide) g1 ?_
    obtain ⟨g2, h⟩ := h
    refine jy_icmp_ge hS rfl ⟨g2, (jy_rng _)⟩ (fun hq => ?_) (fun hq => ?_)
    · have h := h.1 hq
      refine jy_iload_n hS rfl rfl ?_
      refine jy_if_ne hS rfl r_a2 (fun hq => ?_) (fun hq => ?_)
      · have h := h.1 hq
        refine jy_iload_n hS rfl rfl ?_
        refine jy_iconst hS rfl ?_
        refine jy_icmp_ne hS rfl ⟨r_a2, ⟨by decide, by decide⟩⟩ (fun hq => ?_) (fun hq => ?_)
        · have h := h.1 hq
          refine jy_iload_n hS rfl rfl ?_
          refine jy_iconst hS rfl ?_
          refine jy_icmp_ne hS rfl ⟨r_a2, ⟨by decide, by decide⟩⟩ (fun hq => ?_) (fun hq => ?_)
          · have h := h.1 hq
            refine jy_iload_n hS rfl rfl ?_
            refine jy_iconst hS rfl ?_
            refine jy_icmp_ne hS rfl ⟨r_a2, ⟨by decide, by decide⟩⟩ (fun hq => ?_) (fun hq => ?_)
            · have h := h.1 hq
              refine jy_iload hS rfl rfl ?_
              exact jy_iret hS rfl rfl ⟨rfl, rfl, h⟩
            · have h := h.2 hq
              refine jy_iload hS rfl rfl ?_
              refine jy_goto hS rfl ?_
              exact jy_iret hS rfl rfl ⟨rfl, rfl, h⟩
          · have h := h.2 hq
            refine jy_iload hS rfl rfl ?_
            refine jy_goto hS rfl ?_
            exact jy_iret hS rfl rfl ⟨rfl, rfl, h⟩
        · have h := h.2 hq
          refine jy_iload hS rfl rfl ?_
          refine jy_goto hS rfl ?_
          exact jy_iret hS rfl rfl ⟨rfl, rfl, h⟩
      · have h := h.2 hq
        refine jy_iload_n hS rfl rfl ?_
        refine jy_goto hS rfl ?_
        exact jy_iret hS rfl rfl ⟨rfl, rfl, h⟩
    · have h := h.2 hq
      refine jy_aload_n hS rfl rfl ?_
      obtain ⟨q3, h⟩ := h
      obtain ⟨g4, h⟩ := h
      refine jy_getR hS rfl (by decide) g1 g4 ?_
      refine jy_aload_n hS rfl rfl ?_
      obtain ⟨q5, h⟩ := h
      obtain ⟨g6, h⟩ := h
      refine jy_getR hS rfl (by decide) g1 g6 ?_
      refine jy_iload hS rfl rfl ?_
      obtain ⟨n7, h⟩ := h
      obtain ⟨g8, h⟩ := h
      obtain ⟨g9, h⟩ := h
      refine jy_iald hS rfl g8.1 (Nat.le_of_lt g8.2) g9 ?_
      obtain ⟨n10, h⟩ := h
      obtain ⟨g11, h⟩ := h
      obtain ⟨g12, h⟩ := h
      obtain ⟨q13, h⟩ := h
      obtain ⟨g14, h⟩ := h
      refine jy_aald hS rfl g11.1 (by decide) (Nat.le_of_lt g11.2) g12 g14 ?_
      refine jy_iload_n hS rfl rfl ?_
      obtain ⟨n15, h⟩ := h
      obtain ⟨g16, h⟩ := h
      obtain ⟨g17, h⟩ := h
      refine jy_iald hS rfl g16.1 (Nat.le_of_lt g16.2) g17 ?_
      refine jy_istore hS rfl (Nat.le_of_ble_eq_true rfl) (L' := [some (.ref a0), some (jy a1), some (jy a2), some (jy l3), some (jy l4), some (jy l5), some (jy l6), some (jy l7), some (jy l8), some (jy ((I q13 a1.toNat).toInt))]) rfl ?_
      refine jy_iload hS rfl rfl ?_
      refine jy_if_ne hS rfl (jy_rng _) (fun hq => ?_) (fun hq => ?_)
      · have h := h.1 hq
        refine jy_iload hS rfl rfl ?_
        refine jy_iload_n hS rfl rfl ?_
        obtain ⟨g18, h⟩ := h
        refine jy_icmp_le hS rfl ⟨(jy_rng _), g18⟩ (fun hq => ?_) (fun hq => ?_)
        · have h := h.1 hq
          refine jy_iload_n hS rfl rfl ?_
          exact jy_join hS h rfl (jy_sub_s (jy_sub_s (jy_sub_s (jy_sub_n (jy_sub_s (jy_sub_s (jy_sub_n (jy_sub_s (jy_sub_s (jy_sub_s jy_sub_0))))))))))
        · have h := h.2 hq
          refine jy_iload hS rfl rfl ?_
          refine jy_goto hS rfl ?_
          exact jy_join hS h rfl (jy_sub_s (jy_sub_s (jy_sub_s (jy_sub_n (jy_sub_s (jy_sub_s (jy_sub_n (jy_sub_s (jy_sub_s (jy_sub_s jy_sub_0))))))))))
      · have h := h.2 hq
        refine jy_goto hS rfl ?_
        exact jy_join hS h rfl (jy_sub_s (jy_sub_s (jy_sub_s (jy_sub_s (jy_sub_s (jy_sub_s (jy_sub_s (jy_sub_s (jy_sub_s (jy_sub_n jy_sub_0))))))))))
  · intro s0 l4 l5 l7 l8 l9 I h
    unfold wz_245_62 at h
    refine jy_istore_n hS rfl (Nat.le_of_ble_eq_true rfl) (L' := [some (.ref a0), some (jy a1), some (jy a2), some (jy s0), some (jy l4), some (jy l5), none, some (jy l7), some (jy l8), some (jy l9)]) rfl ?_
    refine jy_iload hS rfl rfl ?_
    refine jy_iload hS rfl rfl ?_
    refine jy_iadd hS rfl ?_
    refine jy_istore hS rfl (Nat.le_of_ble_eq_true rfl) (L' := [some (.ref a0), some (jy a1), some (jy a2), some (jy s0), some (jy (l4 + l9)), some (jy l5), none, some (jy l7), some (jy l8), some (jy l9)]) rfl ?_
    refine jy_iload hS rfl rfl ?_
    obtain ⟨g19, h⟩ := h
    refine jy_if_ne hS rfl g19 (fun hq => ?_) (fun hq => ?_)
    · have h := h.1 hq
      refine jy_iload hS rfl rfl ?_
      exact jy_join hS h rfl (jy_sub_s (jy_sub_s (jy_sub_s (jy_sub_s (jy_sub_s (jy_sub_n (jy_sub_n (jy_sub_s (jy_sub_s (jy_sub_s jy_sub_0))))))))))
    · have h := h.2 hq
      refine jy_iload hS rfl rfl ?_
      refine jy_goto hS rfl ?_
      exact jy_join hS h rfl (jy_sub_s (jy_sub_s (jy_sub_s (jy_sub_s (jy_sub_s (jy_sub_n (jy_sub_n (jy_sub_s (jy_sub_s (jy_sub_s jy_sub_0))))))))))
  · intro s0 l3 l4 l7 l8 l9 I h
    unfold wz_245_82 at h
    refine jy_istore hS rfl (Nat.le_of_ble_eq_true rfl) (L' := [some (.ref a0), some (jy a1), some (jy a2), some (jy l3), some (jy l4), some (jy s0), none, some (jy l7), some (jy l8), some (jy l9)]) rfl ?_
    refine jy_iload hS rfl rfl ?_
    refine jy_istore hS rfl (Nat.le_of_ble_eq_true rfl) (L' := [some (.ref a0), some (jy a1), some (jy a2), some (jy l3), some (jy l4), some (jy s0), some (jy l9), some (jy l7), some (jy l8), some (jy l9)]) rfl ?_
    refine jy_iinc hS rfl rfl (L' := [some (.ref a0), some (jy a1), some (jy a2), some (jy l3), some (jy l4), some (jy s0), some (jy l9), some (jy (l7 + 1)), some (jy l8), some (jy l9)]) rfl ?_
    exact jy_join hS h rfl (jy_sub_s (jy_sub_s (jy_sub_s (jy_sub_s (jy_sub_s (jy_sub_s (jy_sub_s (jy_sub_s (jy_sub_s (jy_sub_n jy_sub_0))))))))))
  · intro l3 l4 l5 l6 l7 l8 I h
    unfold wz_245_91 at h
    refine jy_iinc hS rfl rfl (L' := [some (.ref a0), some (jy a1), some (jy a2), some (jy l3), some (jy l4), some (jy l5), some (jy l6), some (jy l7), some (jy (l8 + 1)), none]) rfl ?_
    refine jy_goto hS rfl ?_
    exact jy_join hS h rfl (jy_sub_s (jy_sub_s (jy_sub_s (jy_sub_s (jy_sub_s (jy_sub_s (jy_sub_s (jy_sub_s (jy_sub_s (jy_sub_n jy_sub_0))))))))))
theorem jt_246 : jx_ml 246 = 4 ∧ jx_rt 246 = some .int ∧ jx_hz 246 = [] ∧ decide ((jx_nm 246).name = "<init>") = false ∧ jx_code 246 = jx_c246 := by decide +kernel
/-- GCModel.haltOf -/
def wz_246 (V : jx_V) (X : jx_X) (R : jx_R) (Q : Option Value → jx_I → Prop) (QE : String → jx_I → Prop)  (a0 : Nat) (a1 : Int) (I : jx_I) : Prop :=
  (X.2.1 a0 = some (12, 0)) ∧ (
  ∃ Q2 : Option Value → jx_I → Prop, (
  (jc V 1 245 (0, 0) [.ref a0, jy a1, jy 4] X I R Q2 (fun _ _ => False)) ∧ (
  ∀ rv I4, Q2 rv I4 → ∃ r5 : Int, rv = some (jy r5) ∧ (
  (-2147483648 ≤ r5 ∧ r5 < 2147483648) ∧ (
  (r5 = 0 → (
    Q (some (jy 0)) I4
  )) ∧ (¬ r5 = 0 → (
    ∃ q7 : Nat, (
    (R a0 13 = some q7) ∧ (
    ∃ n9 : Nat, (
    (X.2.1 q7 = some (100, n9) ∧ n9 < 2147483648) ∧ (
    (0 ≤ a1 ∧ a1 < n9) ∧ (
    ((I4 q7 a1.toNat).toInt ≠ 3 → (
      ∃ Q12 : Option Value → jx_I → Prop, (
      (jc V 2 247 (0, 0) [.ref a0, jy a1] X I4 R Q12 (fun _ _ => False)) ∧ (
      ∀ rv I14, Q12 rv I14 → ∃ r15 : Int, rv = some (jy r15) ∧ (
      (-2147483648 ≤ r15 ∧ r15 < 2147483648) ∧ (
      (0 ≤ r15 → (
        ∃ Q17 : Option Value → jx_I → Prop, (
        (jc V 1 204 (0, 0) [jy r15, jy 99] X I14 R Q17 (fun _ _ => False)) ∧ (
        ∀ rv I19, Q17 rv I19 → ∃ r20 : Int, rv = some (jy r20) ∧ (
        Q (some (jy r20)) I19)))
      )) ∧ (¬ 0 ≤ r15 → (
        Q (some (jy 0)) I14
      ))))))
    )) ∧ ((I4 q7 a1.toNat).toInt = 3 → (
      (3 ≤ r5 → (
        ∃ Q21 : Option Value → jx_I → Prop, (
        (jc V 2 247 (0, 0) [.ref a0, jy a1] X I4 R Q21 (fun _ _ => False)) ∧ (
        ∀ rv I23, Q21 rv I23 → ∃ r24 : Int, rv = some (jy r24) ∧ (
        (-2147483648 ≤ r24 ∧ r24 < 2147483648) ∧ (
        (0 ≤ r24 → (
          ∃ Q26 : Option Value → jx_I → Prop, (
          (jc V 1 204 (0, 0) [jy r24, jy 99] X I23 R Q26 (fun _ _ => False)) ∧ (
          ∀ rv I28, Q26 rv I28 → ∃ r29 : Int, rv = some (jy r29) ∧ (
          Q (some (jy r29)) I28)))
        )) ∧ (¬ 0 ≤ r24 → (
          Q (some (jy 0)) I23
        ))))))
      )) ∧ (¬ 3 ≤ r5 → (
        Q (some (jy 0)) I4
      ))
    )))))))
  )))))))
set_option maxRecDepth 20000 in
theorem wm_246 {V : jx_V} (hV : V.1.stackTraces = false) {X : jx_X} {R : jx_R} {I : jx_I} {Q : Option Value → jx_I → Prop} {QE : String → jx_I → Prop} {a0 : Nat} {a1 : Int} (r_a1 : -2147483648 ≤ a1 ∧ a1 < 2147483648) 
    (h : wz_246 V X R Q QE  a0 a1 I) : jc V 3 246 (0, 0) [.ref a0, jy a1] X I R Q QE := by
  refine jy_met hV (by decide) (n := 4) (rt := some .int) (hh := []) (ini := false) (C := jx_c246) (L := [some (.ref a0), some (jy a1), none, none]) jt_246 (Nat.le_of_ble_eq_true rfl) rfl ?_
  intro J hS
  unfold wz_246 at h
  refine jy_aload_n hS rfl rfl ?_
  refine jy_iload_n hS rfl rfl ?_
  refine jy_iconst hS rfl ?_
  obtain ⟨g1, h⟩ := h
  obtain ⟨Q2, h⟩ := h
  obtain ⟨g3, h⟩ := h
  refine jy_callV hS rfl rfl rfl (Nat.le_of_ble_eq_true rfl) (Or.inl g1) g3 (by decide) ⟨by decide, by decide⟩ (Nat.le_of_ble_eq_true rfl) ?_ ?_
  rotate_left
  · exact fun Ex Xx Ix Rx hp => hp.2.2.2.elim
  intro rv Xx I4 Rx hp
  obtain ⟨e1, e2, hp⟩ := hp
  rw [e1, e2]
  clear e1 e2
  obtain ⟨r5, e1, h⟩ := h rv I4 hp
  rw [e1]
  clear e1
  change J 6 [jy r5] _ (0, 0) _ _ _
  refine jy_istore_n hS rfl (Nat.le_of_ble_eq_true rfl) (L' := [some (.ref a0), some (jy a1), some (jy r5), none]) rfl ?_
  refine jy_iload_n hS rfl rfl ?_
  obtain ⟨g6, h⟩ := h
  refine jy_if_eq hS rfl g6 (fun hq => ?_) (fun hq => ?_)
  · have h := h.1 hq
    refine jy_iconst hS rfl ?_
    exact jy_iret hS rfl rfl ⟨rfl, rfl, h⟩
  · have h := h.2 hq
    refine jy_aload_n hS rfl rfl ?_
    obtain ⟨q7, h⟩ := h
    obtain ⟨g8, h⟩ := h
    refine jy_getR hS rfl (by decide) g1 g8 ?_
    refine jy_iload_n hS rfl rfl ?_
    obtain ⟨n9, h⟩ := h
    obtain ⟨g10, h⟩ := h
    obtain ⟨g11, h⟩ := h
    refine jy_iald hS rfl g10.1 (Nat.le_of_lt g10.2) g11 ?_
    refine jy_iconst hS rfl ?_
    refine jy_icmp_ne hS rfl ⟨(jy_rng _), ⟨by decide, by decide⟩⟩ (fun hq => ?_) (fun hq => ?_)
    · have h := h.1 hq
      refine jy_aload_n hS rfl rfl ?_
      refine jy_iload_n hS rfl rfl ?_
      obtain ⟨Q12, h⟩ := h
      obtain ⟨g13, h⟩ := h
      refine jy_callV hS rfl rfl rfl (Nat.le_of_ble_eq_true rfl) (Or.inl g1) g13 (by decide) ⟨by decide, by decide⟩ (Nat.le_of_ble_eq_true rfl) ?_ ?_
      rotate_left
      · exact fun Ex Xx Ix Rx hp => hp.2.2.2.elim
      intro rv Xx I14 Rx hp
      obtain ⟨e1, e2, hp⟩ := hp
      rw [e1, e2]
      clear e1 e2
      obtain ⟨r15, e1, h⟩ := h rv I14 hp
      rw [e1]
      clear e1
      change J 33 [jy r15] _ (0, 0) _ _ _
      refine jy_istore_n hS rfl (Nat.le_of_ble_eq_true rfl) (L' := [some (.ref a0), some (jy a1), some (jy r5), some (jy r15)]) rfl ?_
      refine jy_iload_n hS rfl rfl ?_
      obtain ⟨g16, h⟩ := h
      refine jy_if_ge hS rfl g16 (fun hq => ?_) (fun hq => ?_)
      · have h := h.1 hq
        refine jy_iload_n hS rfl rfl ?_
        refine jy_bipush hS rfl (by decide) ?_
        obtain ⟨Q17, h⟩ := h
        obtain ⟨g18, h⟩ := h
        refine jy_callS hS rfl rfl rfl (Nat.le_of_ble_eq_true rfl) g18 (by decide) ⟨by decide, by decide⟩ (Nat.le_of_ble_eq_true rfl) ?_ ?_
        rotate_left
        · exact fun Ex Xx Ix Rx hp => hp.2.2.2.elim
        intro rv Xx I19 Rx hp
        obtain ⟨e1, e2, hp⟩ := hp
        rw [e1, e2]
        clear e1 e2
        obtain ⟨r20, e1, h⟩ := h rv I19 hp
        rw [e1]
        clear e1
        change J 48 [jy r20] _ (0, 0) _ _ _
        exact jy_iret hS rfl rfl ⟨rfl, rfl, h⟩
      · have h := h.2 hq
        refine jy_iconst hS rfl ?_
        refine jy_goto hS rfl ?_
        exact jy_iret hS rfl rfl ⟨rfl, rfl, h⟩
    · have h := h.2 hq
      refine jy_iload_n hS rfl rfl ?_
      refine jy_iconst hS rfl ?_
      refine jy_icmp_ge hS rfl ⟨g6, ⟨by decide, by decide⟩⟩ (fun hq => ?_) (fun hq => ?_)
      · have h := h.1 hq
        refine jy_aload_n hS rfl rfl ?_
        refine jy_iload_n hS rfl rfl ?_
        obtain ⟨Q21, h⟩ := h
        obtain ⟨g22, h⟩ := h
        refine jy_callV hS rfl rfl rfl (Nat.le_of_ble_eq_true rfl) (Or.inl g1) g22 (by decide) ⟨by decide, by decide⟩ (Nat.le_of_ble_eq_true rfl) ?_ ?_
        rotate_left
        · exact fun Ex Xx Ix Rx hp => hp.2.2.2.elim
        intro rv Xx I23 Rx hp
        obtain ⟨e1, e2, hp⟩ := hp
        rw [e1, e2]
        clear e1 e2
        obtain ⟨r24, e1, h⟩ := h rv I23 hp
        rw [e1]
        clear e1
        change J 33 [jy r24] _ (0, 0) _ _ _
        refine jy_istore_n hS rfl (Nat.le_of_ble_eq_true rfl) (L' := [some (.ref a0), some (jy a1), some (jy r5), some (jy r24)]) rfl ?_
        refine jy_iload_n hS rfl rfl ?_
        obtain ⟨g25, h⟩ := h
        refine jy_if_ge hS rfl g25 (fun hq => ?_) (fun hq => ?_)
        · have h := h.1 hq
          refine jy_iload_n hS rfl rfl ?_
          refine jy_bipush hS rfl (by decide) ?_
          obtain ⟨Q26, h⟩ := h
          obtain ⟨g27, h⟩ := h
          refine jy_callS hS rfl rfl rfl (Nat.le_of_ble_eq_true rfl) g27 (by decide) ⟨by decide, by decide⟩ (Nat.le_of_ble_eq_true rfl) ?_ ?_
          rotate_left
          · exact fun Ex Xx Ix Rx hp => hp.2.2.2.elim
          intro rv Xx I28 Rx hp
          obtain ⟨e1, e2, hp⟩ := hp
          rw [e1, e2]
          clear e1 e2
          obtain ⟨r29, e1, h⟩ := h rv I28 hp
          rw [e1]
          clear e1
          change J 48 [jy r29] _ (0, 0) _ _ _
          exact jy_iret hS rfl rfl ⟨rfl, rfl, h⟩
        · have h := h.2 hq
          refine jy_iconst hS rfl ?_
          refine jy_goto hS rfl ?_
          exact jy_iret hS rfl rfl ⟨rfl, rfl, h⟩
      · have h := h.2 hq
        refine jy_iconst hS rfl ?_
        exact jy_iret hS rfl rfl ⟨rfl, rfl, h⟩
theorem jt_247 : jx_ml 247 = 6 ∧ jx_rt 247 = some .int ∧ jx_hz 247 = [] ∧ decide ((jx_nm 247).name = "<init>") = false ∧ jx_code 247 = jx_c247 := by decide +kernel
/-- GCModel.byLaw, from 4 -/
def wz_247_4 (V : jx_V) (X : jx_X) (R : jx_R) (Q : Option Value → jx_I → Prop) (QE : String → jx_I → Prop) (J4 : Int → Int → jx_I → Prop) (J64 : Nat → Int → Int → Int → Int → jx_I → Prop) (J144 : Nat → Int → Int → Int → Int → jx_I → Prop) (J145 : Int → Int → jx_I → Prop) (a0 : Nat) (a1 : Int) (l2 : Int) (l3 : Int) (I : jx_I) : Prop :=
  (X.2.1 a0 = some (12, 0)) ∧ (
  (-2147483648 ≤ l3 ∧ l3 < 2147483648) ∧ (
  ((I a0 23).toInt ≤ l3 → (
    ∃ q3 : Nat, (
    (R a0 28 = some q3) ∧ (
    ∃ n5 : Nat, (
    (X.2.1 q3 = some (100, n5) ∧ n5 < 2147483648) ∧ (
    (0 ≤ (0 : Int) ∧ (0 : Int) < n5) ∧ (
    Q (some (jy ((I q3 (0 : Int).toNat).toInt))) I)))))
  )) ∧ (¬ (I a0 23).toInt ≤ l3 → (
    ∃ q8 : Nat, (
    (R a0 26 = some q8) ∧ (
    ∃ n10 : Nat, (
    (X.2.1 q8 = some (104, n10) ∧ n10 < 2147483648) ∧ (
    (0 ≤ l3 ∧ l3 < n10) ∧ (
    ∃ q13 : Nat, (
    (R q8 l3.toNat = some q13) ∧ (
    ∃ n15 : Nat, (
    (X.2.1 q13 = some (100, n15) ∧ n15 < 2147483648) ∧ (
    (0 ≤ (0 : Int) ∧ (0 : Int) < n15) ∧ (
    (2 ≤ (I q13 (0 : Int).toNat).toInt → (
      ∃ q18 : Nat, (
      (R a0 28 = some q18) ∧ (
      ∃ n20 : Nat, (
      (X.2.1 q18 = some (100, n20) ∧ n20 < 2147483648) ∧ (
      (0 ≤ ((l2 + (-1)) - 1) ∧ ((l2 + (-1)) - 1) < n20) ∧ (
      (0 ≤ (l2 + (-1)) ∧ (l2 + (-1)) < n20) ∧ (
      (0 ≤ l3 ∧ l3 < n10) ∧ (
      ∃ q25 : Nat, (
      (R q8 l3.toNat = some q25) ∧ (
      ∃ n27 : Nat, (
      (X.2.1 q25 = some (100, n27) ∧ n27 < 2147483648) ∧ (
      (0 ≤ (0 : Int) ∧ (0 : Int) < n27) ∧ (
      ((I q25 (0 : Int).toNat).toInt ≠ 2 → (
        (0 ≤ l3 ∧ l3 < n10) ∧ (
        ∃ q31 : Nat, (
        (R q8 l3.toNat = some q31) ∧ (
        ∃ n33 : Nat, (
        (X.2.1 q31 = some (100, n33) ∧ n33 < 2147483648) ∧ (
        (0 ≤ (0 : Int) ∧ (0 : Int) < n33) ∧ (
        ((I q31 (0 : Int).toNat).toInt ≠ 3 → (
          J144 q18 ((l2 + (-1)) - 1) ((I q18 ((l2 + (-1)) - 1).toNat).toInt * (I q18 (l2 + (-1)).toNat).toInt) (l2 + (-1)) l3 I
        )) ∧ ((I q31 (0 : Int).toNat).toInt = 3 → (
          J144 q18 ((l2 + (-1)) - 1) ((I q18 ((l2 + (-1)) - 1).toNat).toInt - (I q18 (l2 + (-1)).toNat).toInt) (l2 + (-1)) l3 I
        ))))))))
      )) ∧ ((I q25 (0 : Int).toNat).toInt = 2 → (
        J144 q18 ((l2 + (-1)) - 1) ((I q18 ((l2 + (-1)) - 1).toNat).toInt + (I q18 (l2 + (-1)).toNat).toInt) (l2 + (-1)) l3 I
      ))))))))))))))
    )) ∧ (¬ 2 ≤ (I q13 (0 : Int).toNat).toInt → (
      ∃ q36 : Nat, (
      (R a0 28 = some q36) ∧ (
      (0 ≤ l3 ∧ l3 < n10) ∧ (
      ∃ q39 : Nat, (
      (R q8 l3.toNat = some q39) ∧ (
      ∃ n41 : Nat, (
      (X.2.1 q39 = some (100, n41) ∧ n41 < 2147483648) ∧ (
      (0 ≤ (0 : Int) ∧ (0 : Int) < n41) ∧ (
      ((I q39 (0 : Int).toNat).toInt ≠ 0 → (
        (0 ≤ l3 ∧ l3 < n10) ∧ (
        ∃ q45 : Nat, (
        (R q8 l3.toNat = some q45) ∧ (
        ∃ n47 : Nat, (
        (X.2.1 q45 = some (100, n47) ∧ n47 < 2147483648) ∧ (
        (0 ≤ (1 : Int) ∧ (1 : Int) < n47) ∧ (
        ∃ Q50 : Option Value → jx_I → Prop, (
        (jc V 1 245 (0, 0) [.ref a0, jy a1, jy ((I q45 (1 : Int).toNat).toInt)] X I R Q50 (fun _ _ => False)) ∧ (
        ∀ rv I52, Q50 rv I52 → ∃ r53 : Int, rv = some (jy r53) ∧ (
        J64 q36 l2 r53 l2 l3 I52)))))))))
      )) ∧ ((I q39 (0 : Int).toNat).toInt = 0 → (
        (0 ≤ l3 ∧ l3 < n10) ∧ (
        ∃ q55 : Nat, (
        (R q8 l3.toNat = some q55) ∧ (
        ∃ n57 : Nat, (
        (X.2.1 q55 = some (100, n57) ∧ n57 < 2147483648) ∧ (
        (0 ≤ (1 : Int) ∧ (1 : Int) < n57) ∧ (
        J64 q36 l2 ((I q55 (1 : Int).toNat).toInt) l2 l3 I))))))
      ))))))))))
    ))))))))))))
  ))))
/-- GCModel.byLaw, from 64 -/
def wz_247_64 (V : jx_V) (X : jx_X) (R : jx_R) (Q : Option Value → jx_I → Prop) (QE : String → jx_I → Prop) (J4 : Int → Int → jx_I → Prop) (J64 : Nat → Int → Int → Int → Int → jx_I → Prop) (J144 : Nat → Int → Int → Int → Int → jx_I → Prop) (J145 : Int → Int → jx_I → Prop) (a0 : Nat) (a1 : Int) (s0 : Nat) (s1 : Int) (s2 : Int) (l2 : Int) (l3 : Int) (I : jx_I) : Prop :=
  ∃ n60 : Nat, (
  (X.2.1 s0 = some (100, n60) ∧ n60 < 2147483648) ∧ (
  (0 ≤ s1 ∧ s1 < n60) ∧ (
  ∀ I63 : jx_I, I63 = jx_u I s0 s1.toNat (Int32.ofInt s2) → (
  J145 (l2 + 1) l3 I63))))
/-- GCModel.byLaw, from 144 -/
def wz_247_144 (V : jx_V) (X : jx_X) (R : jx_R) (Q : Option Value → jx_I → Prop) (QE : String → jx_I → Prop) (J4 : Int → Int → jx_I → Prop) (J64 : Nat → Int → Int → Int → Int → jx_I → Prop) (J144 : Nat → Int → Int → Int → Int → jx_I → Prop) (J145 : Int → Int → jx_I → Prop) (a0 : Nat) (a1 : Int) (s0 : Nat) (s1 : Int) (s2 : Int) (l2 : Int) (l3 : Int) (I : jx_I) : Prop :=
  ∃ n64 : Nat, (
  (X.2.1 s0 = some (100, n64) ∧ n64 < 2147483648) ∧ (
  (0 ≤ s1 ∧ s1 < n64) ∧ (
  ∀ I67 : jx_I, I67 = jx_u I s0 s1.toNat (Int32.ofInt s2) → (
  J145 l2 l3 I67))))
/-- GCModel.byLaw, from 145 -/
def wz_247_145 (V : jx_V) (X : jx_X) (R : jx_R) (Q : Option Value → jx_I → Prop) (QE : String → jx_I → Prop) (J4 : Int → Int → jx_I → Prop) (J64 : Nat → Int → Int → Int → Int → jx_I → Prop) (J144 : Nat → Int → Int → Int → Int → jx_I → Prop) (J145 : Int → Int → jx_I → Prop) (a0 : Nat) (a1 : Int) (l2 : Int) (l3 : Int) (I : jx_I) : Prop :=
  J4 l2 (l3 + 1) I
/-- GCModel.byLaw -/
def wz_247 (V : jx_V) (X : jx_X) (R : jx_R) (Q : Option Value → jx_I → Prop) (QE : String → jx_I → Prop) (J4 : Int → Int → jx_I → Prop) (J64 : Nat → Int → Int → Int → Int → jx_I → Prop) (J144 : Nat → Int → Int → Int → Int → jx_I → Prop) (J145 : Int → Int → jx_I → Prop) (a0 : Nat) (a1 : Int) (I : jx_I) : Prop :=
  J4 0 0 I
set_option maxRecDepth 20000 in
theorem wm_247 {V : jx_V} (hV : V.1.stackTraces = false) {X : jx_X} {R : jx_R} {I : jx_I} {Q : Option Value → jx_I → Prop} {QE : String → jx_I → Prop} {a0 : Nat} {a1 : Int} (r_a1 : -2147483648 ≤ a1 ∧ a1 < 2147483648) 
    (h : ∀ (J4 : Int → Int → jx_I → Prop) (J64 : Nat → Int → Int → Int → Int → jx_I → Prop) (J144 : Nat → Int → Int → Int → Int → jx_I → Prop) (J145 : Int → Int → jx_I → Prop), ((∀ (l2 : Int) (l3 : Int) I, wz_247_4 V X R Q QE J4 J64 J144 J145 a0 a1 l2 l3 I → J4 l2 l3 I) ∧ (∀ (s0 : Nat) (s1 : Int) (s2 : Int) (l2 : Int) (l3 : Int) I, wz_247_64 V X R Q QE J4 J64 J144 J145 a0 a1 s0 s1 s2 l2 l3 I → J64 s0 s1 s2 l2 l3 I) ∧ (∀ (s0 : Nat) (s1 : Int) (s2 : Int) (l2 : Int) (l3 : Int) I, wz_247_144 V X R Q QE J4 J64 J144 J145 a0 a1 s0 s1 s2 l2 l3 I → J144 s0 s1 s2 l2 l3 I) ∧ (∀ (l2 : Int) (l3 : Int) I, wz_247_145 V X R Q QE J4 J64 J144 J145 a0 a1 l2 l3 I → J145 l2 l3 I)) → wz_247 V X R Q QE J4 J64 J144 J145 a0 a1 I) : jc V 2 247 (0, 0) [.ref a0, jy a1] X I R Q QE := by
  refine jy_met hV (by decide) (n := 6) (rt := some .int) (hh := []) (ini := false) (C := jx_c247) (L := [some (.ref a0), some (jy a1), none, none, none, none]) jt_247 (Nat.le_of_ble_eq_true rfl) rfl ?_
  intro J hS
  have h := h (fun l2 l3 I => J 4 [] [some (.ref a0), some (jy a1), some (jy l2), some (jy l3), none, none] (0, 0) X I R) (fun s0 s1 s2 l2 l3 I => J 64 [jy s2, jy s1, .ref s0] [some (.ref a0), some (jy a1), some (jy l2), some (jy l3), none, none] (0, 0) X I R) (fun s0 s1 s2 l2 l3 I => J 144 [jy s2, jy s1, .ref s0] [some (.ref a0), some (jy a1), some (jy l2), some (jy l3), none, none] (0, 0) X I R) (fun l2 l3 I => J 145 [] [some (.ref a0), some (jy a1), some (jy l2), some (jy l3), none, none] (0, 0) X I R) ?_
  · unfold wz_247 at h
    refine jy_iconst hS rfl ?_
    refine jy_istore_n hS rfl (Nat.le_of_ble_eq_true rfl) (L' := [some (.ref a0), some (jy a1), some (jy 0), none, none, none]) rfl ?_
    refine jy_iconst hS rfl ?_
    refine jy_istore_n hS rfl (Nat.le_of_ble_eq_true rfl) (L' := [some (.ref a0), some (jy a1), some (jy 0), some (jy 0), none, none]) rfl ?_
    exact jy_join hS h rfl (jy_sub_s (jy_sub_s (jy_sub_s (jy_sub_s (jy_sub_n (jy_sub_n jy_sub_0))))))
  refine ⟨?_, ?_, ?_, ?_⟩
  · intro l2 l3 I h
    unfold wz_247_4 at h
    refine jy_iload_n hS rfl rfl ?_
    refine jy_aload_n hS rfl rfl ?_
    obtain ⟨g1, h⟩ := h
    refine jy_getI hS rfl (by decide) g1 ?_
    obtain ⟨g2, h⟩ := h
    refine jy_icmp_ge hS rfl ⟨g2, (jy_rng _)⟩ (fun hq => ?_) (fun hq => ?_)
    · have h := h.1 hq
      refine jy_aload_n hS rfl rfl ?_
      obtain ⟨q3, h⟩ := h
      obtain ⟨g4, h⟩ := h
      refine jy_getR hS rfl (by decide) g1 g4 ?_
      refine jy_iconst hS rfl ?_
      obtain ⟨n5, h⟩ := h
      obtain ⟨g6, h⟩ := h
      obtain ⟨g7, h⟩ := h
      refine jy_iald hS rfl g6.1 (Nat.le_of_lt g6.2) g7 ?_
      exact jy_iret hS rfl rfl ⟨rfl, rfl, h⟩
    · have h := h.2 hq
      refine jy_aload_n hS rfl rfl ?_
      obtain ⟨q8, h⟩ := h
      obtain ⟨g9, h⟩ := h
      refine jy_getR hS rfl (by decide) g1 g9 ?_
      refine jy_iload_n hS rfl rfl ?_
      obtain ⟨n10, h⟩ := h
      obtain ⟨g11, h⟩ := h
      obtain ⟨g12, h⟩ := h
      obtain ⟨q13, h⟩ := h
      obtain ⟨g14, h⟩ := h
      refine jy_aald hS rfl g11.1 (by decide) (Nat.le_of_lt g11.2) g12 g14 ?_
      refine jy_iconst hS rfl ?_
      obtain ⟨n15, h⟩ := h
      obtain ⟨g16, h⟩ := h
      obtain ⟨g17, h⟩ := h
      refine jy_iald hS rfl g16.1 (Nat.le_of_lt g16.2) g17 ?_
      refine jy_iconst hS rfl ?_
      refine jy_icmp_ge hS rfl ⟨(jy_rng _), ⟨by decide, by decide⟩⟩ (fun hq => ?_) (fun hq => ?_)
      · have h := h.1 hq
        refine jy_iinc hS rfl rfl (L' := [some (.ref a0), some (jy a1), some (jy (l2 + (-1))), some (jy l3), none, none]) rfl ?_
        refine jy_aload_n hS rfl rfl ?_
        obtain ⟨q18, h⟩ := h
        obtain ⟨g19, h⟩ := h
        refine jy_getR hS rfl (by decide) g1 g19 ?_
        refine jy_iload_n hS rfl rfl ?_
        refine jy_iconst hS rfl ?_
        refine jy_isub hS rfl ?_
        obtain ⟨n20, h⟩ := h
        obtain ⟨g21, h⟩ := h
        obtain ⟨g22, h⟩ := h
        refine jy_iald hS rfl g21.1 (Nat.le_of_lt g21.2) g22 ?_
        refine jy_istore hS rfl (Nat.le_of_ble_eq_true rfl) (L' := [some (.ref a0), some (jy a1), some (jy (l2 + (-1))), some (jy l3), some (jy ((I q18 ((l2 + (-1)) - 1).toNat).toInt)), none]) rfl ?_
        refine jy_aload_n hS rfl rfl ?_
        refine jy_getR hS rfl (by decide) g1 g19 ?_
        refine jy_iload_n hS rfl rfl ?_
        obtain ⟨g23, h⟩ := h
        refine jy_iald hS rfl g21.1 (Nat.le_of_lt g21.2) g23 ?_
        refine jy_istore hS rfl (Nat.le_of_ble_eq_true rfl) (L' := [some (.ref a0), some (jy a1), some (jy (l2 + (-1))), some (jy l3), some (jy ((I q18 ((l2 + (-1)) - 1).toNat).toInt)), some (jy ((I q18 (l2 + (-1)).toNat).toInt))]) rfl ?_
        refine jy_aload_n hS rfl rfl ?_
        refine jy_getR hS rfl (by decide) g1 g19 ?_
        refine jy_iload_n hS rfl rfl ?_
        refine jy_iconst hS rfl ?_
        refine jy_isub hS rfl ?_
        refine jy_aload_n hS rfl rfl ?_
        refine jy_getR hS rfl (by decide) g1 g9 ?_
        refine jy_iload_n hS rfl rfl ?_
        obtain ⟨g24, h⟩ := h
        obtain ⟨q25, h⟩ := h
        obtain ⟨g26, h⟩ := h
        refine jy_aald hS rfl g11.1 (by decide) (Nat.le_of_lt g11.2) g24 g26 ?_
        refine jy_iconst hS rfl ?_
        obtain ⟨n27, h⟩ := h
        obtain ⟨g28, h⟩ := h
        obtain ⟨g29, h⟩ := h
        refine jy_iald hS rfl g28.1 (Nat.le_of_lt g28.2) g29 ?_
        refine jy_iconst hS rfl ?_
        refine jy_icmp_ne hS rfl ⟨(jy_rng _), ⟨by decide, by decide⟩⟩ (fun hq => ?_) (fun hq => ?_)
        · have h := h.1 hq
          refine jy_aload_n hS rfl rfl ?_
          refine jy_getR hS rfl (by decide) g1 g9 ?_
          refine jy_iload_n hS rfl rfl ?_
          obtain ⟨g30, h⟩ := h
          obtain ⟨q31, h⟩ := h
          obtain ⟨g32, h⟩ := h
          refine jy_aald hS rfl g11.1 (by decide) (Nat.le_of_lt g11.2) g30 g32 ?_
          refine jy_iconst hS rfl ?_
          obtain ⟨n33, h⟩ := h
          obtain ⟨g34, h⟩ := h
          obtain ⟨g35, h⟩ := h
          refine jy_iald hS rfl g34.1 (Nat.le_of_lt g34.2) g35 ?_
          refine jy_iconst hS rfl ?_
          refine jy_icmp_ne hS rfl ⟨(jy_rng _), ⟨by decide, by decide⟩⟩ (fun hq => ?_) (fun hq => ?_)
          · have h := h.1 hq
            refine jy_iload hS rfl rfl ?_
            refine jy_iload hS rfl rfl ?_
            refine jy_imul hS rfl ?_
            exact jy_join hS h rfl (jy_sub_s (jy_sub_s (jy_sub_s (jy_sub_s (jy_sub_n (jy_sub_n jy_sub_0))))))
          · have h := h.2 hq
            refine jy_iload hS rfl rfl ?_
            refine jy_iload hS rfl rfl ?_
            refine jy_isub hS rfl ?_
            refine jy_goto hS rfl ?_
            exact jy_join hS h rfl (jy_sub_s (jy_sub_s (jy_sub_s (jy_sub_s (jy_sub_n (jy_sub_n jy_sub_0))))))
        · have h := h.2 hq
          refine jy_iload hS rfl rfl ?_
          refine jy_iload hS rfl rfl ?_
          refine jy_iadd hS rfl ?_
          refine jy_goto hS rfl ?_
          exact jy_join hS h rfl (jy_sub_s (jy_sub_s (jy_sub_s (jy_sub_s (jy_sub_n (jy_sub_n jy_sub_0))))))
      · have h := h.2 hq
        refine jy_aload_n hS rfl rfl ?_
        obtain ⟨q36, h⟩ := h
        obtain ⟨g37, h⟩ := h
        refine jy_getR hS rfl (by decide) g1 g37 ?_
        refine jy_iload_n hS rfl rfl ?_
        refine jy_aload_n hS rfl rfl ?_
        refine jy_getR hS rfl (by decide) g1 g9 ?_
        refine jy_iload_n hS rfl rfl ?_
        obtain ⟨g38, h⟩ := h
        obtain ⟨q39, h⟩ := h
        obtain ⟨g40, h⟩ := h
        refine jy_aald hS rfl g11.1 (by decide) (Nat.le_of_lt g11.2) g38 g40 ?_
        refine jy_iconst hS rfl ?_
        obtain ⟨n41, h⟩ := h
        obtain ⟨g42, h⟩ := h
        obtain ⟨g43, h⟩ := h
        refine jy_iald hS rfl g42.1 (Nat.le_of_lt g42.2) g43 ?_
        refine jy_if_ne hS rfl (jy_rng _) (fun hq => ?_) (fun hq => ?_)
        · have h := h.1 hq
          refine jy_aload_n hS rfl rfl ?_
          refine jy_iload_n hS rfl rfl ?_
          refine jy_aload_n hS rfl rfl ?_
          refine jy_getR hS rfl (by decide) g1 g9 ?_
          refine jy_iload_n hS rfl rfl ?_
          obtain ⟨g44, h⟩ := h
          obtain ⟨q45, h⟩ := h
          obtain ⟨g46, h⟩ := h
          refine jy_aald hS rfl g11.1 (by decide) (Nat.le_of_lt g11.2) g44 g46 ?_
          refine jy_iconst hS rfl ?_
          obtain ⟨n47, h⟩ := h
          obtain ⟨g48, h⟩ := h
          obtain ⟨g49, h⟩ := h
          refine jy_iald hS rfl g48.1 (Nat.le_of_lt g48.2) g49 ?_
          obtain ⟨Q50, h⟩ := h
          obtain ⟨g51, h⟩ := h
          refine jy_callV hS rfl rfl rfl (Nat.le_of_ble_eq_true rfl) (Or.inl g1) g51 (by decide) ⟨by decide, by decide⟩ (Nat.le_of_ble_eq_true rfl) ?_ ?_
          rotate_left
          · exact fun Ex Xx Ix Rx hp => hp.2.2.2.elim
          intro rv Xx I52 Rx hp
          obtain ⟨e1, e2, hp⟩ := hp
          rw [e1, e2]
          clear e1 e2
          obtain ⟨r53, e1, h⟩ := h rv I52 hp
          rw [e1]
          clear e1
          change J 64 [jy r53, jy l2, .ref q36] _ (0, 0) _ _ _
          exact jy_join hS h rfl (jy_sub_s (jy_sub_s (jy_sub_s (jy_sub_s (jy_sub_n (jy_sub_n jy_sub_0))))))
        · have h := h.2 hq
          refine jy_aload_n hS rfl rfl ?_
          refine jy_getR hS rfl (by decide) g1 g9 ?_
          refine jy_iload_n hS rfl rfl ?_
          obtain ⟨g54, h⟩ := h
          obtain ⟨q55, h⟩ := h
          obtain ⟨g56, h⟩ := h
          refine jy_aald hS rfl g11.1 (by decide) (Nat.le_of_lt g11.2) g54 g56 ?_
          refine jy_iconst hS rfl ?_
          obtain ⟨n57, h⟩ := h
          obtain ⟨g58, h⟩ := h
          obtain ⟨g59, h⟩ := h
          refine jy_iald hS rfl g58.1 (Nat.le_of_lt g58.2) g59 ?_
          refine jy_goto hS rfl ?_
          exact jy_join hS h rfl (jy_sub_s (jy_sub_s (jy_sub_s (jy_sub_s (jy_sub_n (jy_sub_n jy_sub_0))))))
  · intro s0 s1 s2 l2 l3 I h
    unfold wz_247_64 at h
    obtain ⟨n60, h⟩ := h
    obtain ⟨g61, h⟩ := h
    obtain ⟨g62, h⟩ := h
    refine jy_iast hS rfl g61.1 (Nat.le_of_lt g61.2) g62 ?_
    intro I63 e9
    have h := h I63 e9
    clear e9
    refine jy_iinc hS rfl rfl (L' := [some (.ref a0), some (jy a1), some (jy (l2 + 1)), some (jy l3), none, none]) rfl ?_
    refine jy_goto hS rfl ?_
    exact jy_join hS h rfl (jy_sub_s (jy_sub_s (jy_sub_s (jy_sub_s (jy_sub_n (jy_sub_n jy_sub_0))))))
  · intro s0 s1 s2 l2 l3 I h
    unfold wz_247_144 at h
    obtain ⟨n64, h⟩ := h
    obtain ⟨g65, h⟩ := h
    obtain ⟨g66, h⟩ := h
    refine jy_iast hS rfl g65.1 (Nat.le_of_lt g65.2) g66 ?_
    intro I67 e9
    have h := h I67 e9
    clear e9
    exact jy_join hS h rfl (jy_sub_s (jy_sub_s (jy_sub_s (jy_sub_s (jy_sub_n (jy_sub_n jy_sub_0))))))
  · intro l2 l3 I h
    unfold wz_247_145 at h
    refine jy_iinc hS rfl rfl (L' := [some (.ref a0), some (jy a1), some (jy l2), some (jy (l3 + 1)), none, none]) rfl ?_
    refine jy_goto hS rfl ?_
    exact jy_join hS h rfl (jy_sub_s (jy_sub_s (jy_sub_s (jy_sub_s (jy_sub_n (jy_sub_n jy_sub_0))))))
theorem jt_248 : jx_ml 248 = 2 ∧ jx_rt 248 = some .int ∧ jx_hz 248 = [] ∧ decide ((jx_nm 248).name = "<init>") = false ∧ jx_code 248 = jx_c248 := by decide +kernel
/-- GCModel.halt, from 19 -/
def wz_248_19 (V : jx_V) (X : jx_X) (R : jx_R) (Q : Option Value → jx_I → Prop) (QE : String → jx_I → Prop) (J19 : Nat → Int → jx_I → Prop) (a0 : Nat) (a1 : Int) (s0 : Nat) (s1 : Int) (I : jx_I) : Prop :=
  (X.2.1 s0 = some (12, 0)) ∧ (
  ∃ Q9 : Option Value → jx_I → Prop, (
  (jc V 1 202 (0, 0) [.ref s0, jy s1, jy 1, jy 0] X I R Q9 (fun _ _ => False)) ∧ (
  ∀ rv I11, Q9 rv I11 → ∃ r12 : Int, rv = some (jy r12) ∧ (
  (-2147483648 ≤ r12 ∧ r12 < 2147483648) ∧ (
  (r12 = 0 → (
    (X.2.1 a0 = some (12, 0)) ∧ (
    ∃ Q15 : Option Value → jx_I → Prop, (
    (jc V 1 243 (0, 0) [.ref a0] X I11 R Q15 (fun _ _ => False)) ∧ (
    ∀ rv I17, Q15 rv I17 → rv = none ∧ (
    ∃ Q19 : Option Value → jx_I → Prop, (
    (jc V 3 246 (0, 0) [.ref a0, jy a1] X I17 R Q19 (fun _ _ => False)) ∧ (
    ∀ rv I21, Q19 rv I21 → ∃ r22 : Int, rv = some (jy r22) ∧ (
    Q (some (jy r22)) I21)))))))
  )) ∧ (¬ r12 = 0 → (
    Q (some (jy 0)) I11
  )))))))
/-- GCModel.halt -/
def wz_248 (V : jx_V) (X : jx_X) (R : jx_R) (Q : Option Value → jx_I → Prop) (QE : String → jx_I → Prop) (J19 : Nat → Int → jx_I → Prop) (a0 : Nat) (a1 : Int) (I : jx_I) : Prop :=
  (X.2.1 a0 = some (12, 0)) ∧ (
  ∀ I2 : jx_I, I2 = jx_u I a0 0 (Int32.ofInt 0) → (
  ∃ Q3 : Option Value → jx_I → Prop, (
  (jc V 2 232 (0, 0) [.ref a0, jy a1] X I2 R Q3 (fun _ _ => False)) ∧ (
  ∀ rv I5, Q3 rv I5 → ∃ r6 : Int, rv = some (jy r6) ∧ (
  (-2147483648 ≤ r6 ∧ r6 < 2147483648) ∧ (
  (r6 ≠ 0 → (
    J19 a0 0 I5
  )) ∧ (r6 = 0 → (
    J19 a0 1 I5
  ))))))))
set_option maxRecDepth 20000 in
theorem wm_248 {V : jx_V} (hV : V.1.stackTraces = false) {X : jx_X} {R : jx_R} {I : jx_I} {Q : Option Value → jx_I → Prop} {QE : String → jx_I → Prop} {a0 : Nat} {a1 : Int} (r_a1 : -2147483648 ≤ a1 ∧ a1 < 2147483648) 
    (h : ∀ (J19 : Nat → Int → jx_I → Prop), ((∀ (s0 : Nat) (s1 : Int) I, wz_248_19 V X R Q QE J19 a0 a1 s0 s1 I → J19 s0 s1 I)) → wz_248 V X R Q QE J19 a0 a1 I) : jc V 4 248 (0, 0) [.ref a0, jy a1] X I R Q QE := by
  refine jy_met hV (by decide) (n := 2) (rt := some .int) (hh := []) (ini := false) (C := jx_c248) (L := [some (.ref a0), some (jy a1)]) jt_248 (Nat.le_of_ble_eq_true rfl) rfl ?_
  intro J hS
  have h := h (fun s0 s1 I => J 19 [jy s1, .ref s0] [some (.ref a0), some (jy a1)] (0, 0) X I R) ?_
  · unfold wz_248 at h
    refine jy_aload_n hS rfl rfl ?_
    refine jy_iconst hS rfl ?_
    obtain ⟨g1, h⟩ := h
    refine jy_putI hS rfl (by decide) g1 ?_
    intro I2 e9
    have h := h I2 e9
    clear e9
    refine jy_aload_n hS rfl rfl ?_
    refine jy_aload_n hS rfl rfl ?_
    refine jy_iload_n hS rfl rfl ?_
    obtain ⟨Q3, h⟩ := h
    obtain ⟨g4, h⟩ := h
    refine jy_callV hS rfl rfl rfl (Nat.le_of_ble_eq_true rfl) (Or.inl g1) g4 (by decide) ⟨by decide, by decide⟩ (Nat.le_of_ble_eq_true rfl) ?_ ?_
    rotate_left
    · exact fun Ex Xx Ix Rx hp => hp.2.2.2.elim
    intro rv Xx I5 Rx hp
    obtain ⟨e1, e2, hp⟩ := hp
    rw [e1, e2]
    clear e1 e2
    obtain ⟨r6, e1, h⟩ := h rv I5 hp
    rw [e1]
    clear e1
    change J 11 [jy r6, .ref a0] _ (0, 0) _ _ _
    obtain ⟨g7, h⟩ := h
    refine jy_if_ne hS rfl g7 (fun hq => ?_) (fun hq => ?_)
    · have h := h.1 hq
      refine jy_iconst hS rfl ?_
      exact jy_join hS h rfl (jy_sub_s (jy_sub_s jy_sub_0))
    · have h := h.2 hq
      refine jy_iconst hS rfl ?_
      refine jy_goto hS rfl ?_
      exact jy_join hS h rfl (jy_sub_s (jy_sub_s jy_sub_0))
  · intro s0 s1 I h
    unfold wz_248_19 at h
    refine jy_iconst hS rfl ?_
    refine jy_iconst hS rfl ?_
    obtain ⟨g8, h⟩ := h
    obtain ⟨Q9, h⟩ := h
    obtain ⟨g10, h⟩ := h
    refine jy_callV hS rfl rfl rfl (Nat.le_of_ble_eq_true rfl) (Or.inl g8) g10 (by decide) ⟨by decide, by decide⟩ (Nat.le_of_ble_eq_true rfl) ?_ ?_
    rotate_left
    · exact fun Ex Xx Ix Rx hp => hp.2.2.2.elim
    intro rv Xx I11 Rx hp
    obtain ⟨e1, e2, hp⟩ := hp
    rw [e1, e2]
    clear e1 e2
    obtain ⟨r12, e1, h⟩ := h rv I11 hp
    rw [e1]
    clear e1
    change J 24 [jy r12] _ (0, 0) _ _ _
    obtain ⟨g13, h⟩ := h
    refine jy_if_eq hS rfl g13 (fun hq => ?_) (fun hq => ?_)
    · have h := h.1 hq
      refine jy_aload_n hS rfl rfl ?_
      obtain ⟨g14, h⟩ := h
      obtain ⟨Q15, h⟩ := h
      obtain ⟨g16, h⟩ := h
      refine jy_callV hS rfl rfl rfl (Nat.le_of_ble_eq_true rfl) (Or.inl g14) g16 (by decide) ⟨by decide, by decide⟩ (Nat.le_of_ble_eq_true rfl) ?_ ?_
      rotate_left
      · exact fun Ex Xx Ix Rx hp => hp.2.2.2.elim
      intro rv Xx I17 Rx hp
      obtain ⟨e1, e2, hp⟩ := hp
      rw [e1, e2]
      clear e1 e2
      obtain ⟨e1, h⟩ := h rv I17 hp
      rw [e1]
      clear e1
      change J 33 [] _ (0, 0) _ _ _
      refine jy_aload_n hS rfl rfl ?_
      refine jy_iload_n hS rfl rfl ?_
      obtain ⟨Q19, h⟩ := h
      obtain ⟨g20, h⟩ := h
      refine jy_callV hS rfl rfl rfl (Nat.le_of_ble_eq_true rfl) (Or.inl g14) g20 (by decide) ⟨by decide, by decide⟩ (Nat.le_of_ble_eq_true rfl) ?_ ?_
      rotate_left
      · exact fun Ex Xx Ix Rx hp => hp.2.2.2.elim
      intro rv Xx I21 Rx hp
      obtain ⟨e1, e2, hp⟩ := hp
      rw [e1, e2]
      clear e1 e2
      obtain ⟨r22, e1, h⟩ := h rv I21 hp
      rw [e1]
      clear e1
      change J 38 [jy r22] _ (0, 0) _ _ _
      exact jy_iret hS rfl rfl ⟨rfl, rfl, h⟩
    · have h := h.2 hq
      refine jy_iconst hS rfl ?_
      exact jy_iret hS rfl rfl ⟨rfl, rfl, h⟩
theorem jt_249 : jx_ml 249 = 3 ∧ jx_rt 249 = some .int ∧ jx_hz 249 = [] ∧ decide ((jx_nm 249).name = "<init>") = false ∧ jx_code 249 = jx_c249 := by decide +kernel
/-- GCModel.value, from 19 -/
def wz_249_19 (V : jx_V) (X : jx_X) (R : jx_R) (Q : Option Value → jx_I → Prop) (QE : String → jx_I → Prop) (J19 : Nat → Int → jx_I → Prop) (J42 : Nat → Int → jx_I → Prop) (a0 : Nat) (a1 : Int) (a2 : Int) (s0 : Nat) (s1 : Int) (I : jx_I) : Prop :=
  (X.2.1 s0 = some (12, 0)) ∧ (
  ∃ Q9 : Option Value → jx_I → Prop, (
  (jc V 1 202 (0, 0) [.ref s0, jy s1, jy 1, jy 0] X I R Q9 (fun _ _ => False)) ∧ (
  ∀ rv I11, Q9 rv I11 → ∃ r12 : Int, rv = some (jy r12) ∧ (
  (-2147483648 ≤ r12 ∧ r12 < 2147483648) ∧ (
  (r12 ≠ 0 → (
    Q (some (jy 0)) I11
  )) ∧ (r12 = 0 → (
    ∃ Q14 : Option Value → jx_I → Prop, (
    (jc V 1 203 (0, 0) [jy a2, jy 0, jy 4] X I11 R Q14 (fun _ _ => False)) ∧ (
    ∀ rv I16, Q14 rv I16 → ∃ r17 : Int, rv = some (jy r17) ∧ (
    (-2147483648 ≤ r17 ∧ r17 < 2147483648) ∧ (
    (r17 ≠ 0 → (
      J42 a0 0 I16
    )) ∧ (r17 = 0 → (
      J42 a0 1 I16
    ))))))
  )))))))
/-- GCModel.value, from 42 -/
def wz_249_42 (V : jx_V) (X : jx_X) (R : jx_R) (Q : Option Value → jx_I → Prop) (QE : String → jx_I → Prop) (J19 : Nat → Int → jx_I → Prop) (J42 : Nat → Int → jx_I → Prop) (a0 : Nat) (a1 : Int) (a2 : Int) (s0 : Nat) (s1 : Int) (I : jx_I) : Prop :=
  (X.2.1 s0 = some (12, 0)) ∧ (
  ∃ Q20 : Option Value → jx_I → Prop, (
  (jc V 1 202 (0, 0) [.ref s0, jy s1, jy 2, jy 2] X I R Q20 (fun _ _ => False)) ∧ (
  ∀ rv I22, Q20 rv I22 → ∃ r23 : Int, rv = some (jy r23) ∧ (
  (-2147483648 ≤ r23 ∧ r23 < 2147483648) ∧ (
  (r23 = 0 → (
    (X.2.1 a0 = some (12, 0)) ∧ (
    ∃ Q26 : Option Value → jx_I → Prop, (
    (jc V 1 243 (0, 0) [.ref a0] X I22 R Q26 (fun _ _ => False)) ∧ (
    ∀ rv I28, Q26 rv I28 → rv = none ∧ (
    ∃ Q30 : Option Value → jx_I → Prop, (
    (jc V 1 245 (0, 0) [.ref a0, jy a1, jy a2] X I28 R Q30 (fun _ _ => False)) ∧ (
    ∀ rv I32, Q30 rv I32 → ∃ r33 : Int, rv = some (jy r33) ∧ (
    Q (some (jy r33)) I32)))))))
  )) ∧ (¬ r23 = 0 → (
    Q (some (jy 0)) I22
  )))))))
/-- GCModel.value -/
def wz_249 (V : jx_V) (X : jx_X) (R : jx_R) (Q : Option Value → jx_I → Prop) (QE : String → jx_I → Prop) (J19 : Nat → Int → jx_I → Prop) (J42 : Nat → Int → jx_I → Prop) (a0 : Nat) (a1 : Int) (a2 : Int) (I : jx_I) : Prop :=
  (X.2.1 a0 = some (12, 0)) ∧ (
  ∀ I2 : jx_I, I2 = jx_u I a0 0 (Int32.ofInt 0) → (
  ∃ Q3 : Option Value → jx_I → Prop, (
  (jc V 2 232 (0, 0) [.ref a0, jy a1] X I2 R Q3 (fun _ _ => False)) ∧ (
  ∀ rv I5, Q3 rv I5 → ∃ r6 : Int, rv = some (jy r6) ∧ (
  (-2147483648 ≤ r6 ∧ r6 < 2147483648) ∧ (
  (r6 ≠ 0 → (
    J19 a0 0 I5
  )) ∧ (r6 = 0 → (
    J19 a0 1 I5
  ))))))))
set_option maxRecDepth 20000 in
theorem wm_249 {V : jx_V} (hV : V.1.stackTraces = false) {X : jx_X} {R : jx_R} {I : jx_I} {Q : Option Value → jx_I → Prop} {QE : String → jx_I → Prop} {a0 : Nat} {a1 : Int} {a2 : Int} (r_a1 : -2147483648 ≤ a1 ∧ a1 < 2147483648) (r_a2 : -2147483648 ≤ a2 ∧ a2 < 2147483648) 
    (h : ∀ (J19 : Nat → Int → jx_I → Prop) (J42 : Nat → Int → jx_I → Prop), ((∀ (s0 : Nat) (s1 : Int) I, wz_249_19 V X R Q QE J19 J42 a0 a1 a2 s0 s1 I → J19 s0 s1 I) ∧ (∀ (s0 : Nat) (s1 : Int) I, wz_249_42 V X R Q QE J19 J42 a0 a1 a2 s0 s1 I → J42 s0 s1 I)) → wz_249 V X R Q QE J19 J42 a0 a1 a2 I) : jc V 3 249 (0, 0) [.ref a0, jy a1, jy a2] X I R Q QE := by
  refine jy_met hV (by decide) (n := 3) (rt := some .int) (hh := []) (ini := false) (C := jx_c249) (L := [some (.ref a0), some (jy a1), some (jy a2)]) jt_249 (Nat.le_of_ble_eq_true rfl) rfl ?_
  intro J hS
  have h := h (fun s0 s1 I => J 19 [jy s1, .ref s0] [some (.ref a0), some (jy a1), some (jy a2)] (0, 0) X I R) (fun s0 s1 I => J 42 [jy s1, .ref s0] [some (.ref a0), some (jy a1), some (jy a2)] (0, 0) X I R) ?_
  · unfold wz_249 at h
    refine jy_aload_n hS rfl rfl ?_
    refine jy_iconst hS rfl ?_
    obtain ⟨g1, h⟩ := h
    refine jy_putI hS rfl (by decide) g1 ?_
    intro I2 e9
    have h := h I2 e9
    clear e9
    refine jy_aload_n hS rfl rfl ?_
    refine jy_aload_n hS rfl rfl ?_
    refine jy_iload_n hS rfl rfl ?_
    obtain ⟨Q3, h⟩ := h
    obtain ⟨g4, h⟩ := h
    refine jy_callV hS rfl rfl rfl (Nat.le_of_ble_eq_true rfl) (Or.inl g1) g4 (by decide) ⟨by decide, by decide⟩ (Nat.le_of_ble_eq_true rfl) ?_ ?_
    rotate_left
    · exact fun Ex Xx Ix Rx hp => hp.2.2.2.elim
    intro rv Xx I5 Rx hp
    obtain ⟨e1, e2, hp⟩ := hp
    rw [e1, e2]
    clear e1 e2
    obtain ⟨r6, e1, h⟩ := h rv I5 hp
    rw [e1]
    clear e1
    change J 11 [jy r6, .ref a0] _ (0, 0) _ _ _
    obtain ⟨g7, h⟩ := h
    refine jy_if_ne hS rfl g7 (fun hq => ?_) (fun hq => ?_)
    · have h := h.1 hq
      refine jy_iconst hS rfl ?_
      exact jy_join hS h rfl (jy_sub_s (jy_sub_s (jy_sub_s jy_sub_0)))
    · have h := h.2 hq
      refine jy_iconst hS rfl ?_
      refine jy_goto hS rfl ?_
      exact jy_join hS h rfl (jy_sub_s (jy_sub_s (jy_sub_s jy_sub_0)))
  refine ⟨?_, ?_⟩
  · intro s0 s1 I h
    unfold wz_249_19 at h
    refine jy_iconst hS rfl ?_
    refine jy_iconst hS rfl ?_
    obtain ⟨g8, h⟩ := h
    obtain ⟨Q9, h⟩ := h
    obtain ⟨g10, h⟩ := h
    refine jy_callV hS rfl rfl rfl (Nat.le_of_ble_eq_true rfl) (Or.inl g8) g10 (by decide) ⟨by decide, by decide⟩ (Nat.le_of_ble_eq_true rfl) ?_ ?_
    rotate_left
    · exact fun Ex Xx Ix Rx hp => hp.2.2.2.elim
    intro rv Xx I11 Rx hp
    obtain ⟨e1, e2, hp⟩ := hp
    rw [e1, e2]
    clear e1 e2
    obtain ⟨r12, e1, h⟩ := h rv I11 hp
    rw [e1]
    clear e1
    change J 24 [jy r12] _ (0, 0) _ _ _
    obtain ⟨g13, h⟩ := h
    refine jy_if_ne hS rfl g13 (fun hq => ?_) (fun hq => ?_)
    · have h := h.1 hq
      refine jy_iconst hS rfl ?_
      exact jy_iret hS rfl rfl ⟨rfl, rfl, h⟩
    · have h := h.2 hq
      refine jy_aload_n hS rfl rfl ?_
      refine jy_iload_n hS rfl rfl ?_
      refine jy_iconst hS rfl ?_
      refine jy_iconst hS rfl ?_
      obtain ⟨Q14, h⟩ := h
      obtain ⟨g15, h⟩ := h
      refine jy_callS hS rfl rfl rfl (Nat.le_of_ble_eq_true rfl) g15 (by decide) ⟨by decide, by decide⟩ (Nat.le_of_ble_eq_true rfl) ?_ ?_
      rotate_left
      · exact fun Ex Xx Ix Rx hp => hp.2.2.2.elim
      intro rv Xx I16 Rx hp
      obtain ⟨e1, e2, hp⟩ := hp
      rw [e1, e2]
      clear e1 e2
      obtain ⟨r17, e1, h⟩ := h rv I16 hp
      rw [e1]
      clear e1
      change J 34 [jy r17, .ref a0] _ (0, 0) _ _ _
      obtain ⟨g18, h⟩ := h
      refine jy_if_ne hS rfl g18 (fun hq => ?_) (fun hq => ?_)
      · have h := h.1 hq
        refine jy_iconst hS rfl ?_
        exact jy_join hS h rfl (jy_sub_s (jy_sub_s (jy_sub_s jy_sub_0)))
      · have h := h.2 hq
        refine jy_iconst hS rfl ?_
        refine jy_goto hS rfl ?_
        exact jy_join hS h rfl (jy_sub_s (jy_sub_s (jy_sub_s jy_sub_0)))
  · intro s0 s1 I h
    unfold wz_249_42 at h
    refine jy_iconst hS rfl ?_
    refine jy_iconst hS rfl ?_
    obtain ⟨g19, h⟩ := h
    obtain ⟨Q20, h⟩ := h
    obtain ⟨g21, h⟩ := h
    refine jy_callV hS rfl rfl rfl (Nat.le_of_ble_eq_true rfl) (Or.inl g19) g21 (by decide) ⟨by decide, by decide⟩ (Nat.le_of_ble_eq_true rfl) ?_ ?_
    rotate_left
    · exact fun Ex Xx Ix Rx hp => hp.2.2.2.elim
    intro rv Xx I22 Rx hp
    obtain ⟨e1, e2, hp⟩ := hp
    rw [e1, e2]
    clear e1 e2
    obtain ⟨r23, e1, h⟩ := h rv I22 hp
    rw [e1]
    clear e1
    change J 47 [jy r23] _ (0, 0) _ _ _
    obtain ⟨g24, h⟩ := h
    refine jy_if_eq hS rfl g24 (fun hq => ?_) (fun hq => ?_)
    · have h := h.1 hq
      refine jy_aload_n hS rfl rfl ?_
      obtain ⟨g25, h⟩ := h
      obtain ⟨Q26, h⟩ := h
      obtain ⟨g27, h⟩ := h
      refine jy_callV hS rfl rfl rfl (Nat.le_of_ble_eq_true rfl) (Or.inl g25) g27 (by decide) ⟨by decide, by decide⟩ (Nat.le_of_ble_eq_true rfl) ?_ ?_
      rotate_left
      · exact fun Ex Xx Ix Rx hp => hp.2.2.2.elim
      intro rv Xx I28 Rx hp
      obtain ⟨e1, e2, hp⟩ := hp
      rw [e1, e2]
      clear e1 e2
      obtain ⟨e1, h⟩ := h rv I28 hp
      rw [e1]
      clear e1
      change J 56 [] _ (0, 0) _ _ _
      refine jy_aload_n hS rfl rfl ?_
      refine jy_iload_n hS rfl rfl ?_
      refine jy_iload_n hS rfl rfl ?_
      obtain ⟨Q30, h⟩ := h
      obtain ⟨g31, h⟩ := h
      refine jy_callV hS rfl rfl rfl (Nat.le_of_ble_eq_true rfl) (Or.inl g25) g31 (by decide) ⟨by decide, by decide⟩ (Nat.le_of_ble_eq_true rfl) ?_ ?_
      rotate_left
      · exact fun Ex Xx Ix Rx hp => hp.2.2.2.elim
      intro rv Xx I32 Rx hp
      obtain ⟨e1, e2, hp⟩ := hp
      rw [e1, e2]
      clear e1 e2
      obtain ⟨r33, e1, h⟩ := h rv I32 hp
      rw [e1]
      clear e1
      change J 62 [jy r33] _ (0, 0) _ _ _
      exact jy_iret hS rfl rfl ⟨rfl, rfl, h⟩
    · have h := h.2 hq
      refine jy_iconst hS rfl ?_
      exact jy_iret hS rfl rfl ⟨rfl, rfl, h⟩
theorem jt_250 : jx_ml 250 = 2 ∧ jx_rt 250 = some .boolean ∧ jx_hz 250 = [] ∧ decide ((jx_nm 250).name = "<init>") = false ∧ jx_code 250 = jx_c250 := by decide +kernel
/-- GCModel.areCamels -/
def wz_250 (V : jx_V) (X : jx_X) (R : jx_R) (Q : Option Value → jx_I → Prop) (QE : String → jx_I → Prop)  (a0 : Nat) (a1 : Int) (I : jx_I) : Prop :=
  (X.2.1 a0 = some (12, 0)) ∧ (
  ∃ q2 : Nat, (
  (R a0 11 = some q2) ∧ (
  ∃ n4 : Nat, (
  (X.2.1 q2 = some (100, n4) ∧ n4 < 2147483648) ∧ (
  (0 ≤ (1 : Int) ∧ (1 : Int) < n4) ∧ (
  ∃ Q7 : Option Value → jx_I → Prop, (
  (jc V 1 203 (0, 0) [jy a1, jy 0, jy ((Int32.ofInt 1 <<< (Int32.ofInt ((I q2 (1 : Int).toNat).toInt) &&& 31)).toInt - 1)] X I R Q7 (fun _ _ => False)) ∧ (
  ∀ rv I9, Q7 rv I9 → ∃ r10 : Int, rv = some (jy r10) ∧ (
  (r10 = 0 ∨ r10 = 1) ∧ (
  Q (some (jy r10)) I9))))))))))
set_option maxRecDepth 20000 in
theorem wm_250 {V : jx_V} (hV : V.1.stackTraces = false) {X : jx_X} {R : jx_R} {I : jx_I} {Q : Option Value → jx_I → Prop} {QE : String → jx_I → Prop} {a0 : Nat} {a1 : Int} (r_a1 : -2147483648 ≤ a1 ∧ a1 < 2147483648) 
    (h : wz_250 V X R Q QE  a0 a1 I) : jc V 2 250 (0, 0) [.ref a0, jy a1] X I R Q QE := by
  refine jy_met hV (by decide) (n := 2) (rt := some .boolean) (hh := []) (ini := false) (C := jx_c250) (L := [some (.ref a0), some (jy a1)]) jt_250 (Nat.le_of_ble_eq_true rfl) rfl ?_
  intro J hS
  unfold wz_250 at h
  refine jy_iload_n hS rfl rfl ?_
  refine jy_iconst hS rfl ?_
  refine jy_iconst hS rfl ?_
  refine jy_aload_n hS rfl rfl ?_
  obtain ⟨g1, h⟩ := h
  obtain ⟨q2, h⟩ := h
  obtain ⟨g3, h⟩ := h
  refine jy_getR hS rfl (by decide) g1 g3 ?_
  refine jy_iconst hS rfl ?_
  obtain ⟨n4, h⟩ := h
  obtain ⟨g5, h⟩ := h
  obtain ⟨g6, h⟩ := h
  refine jy_iald hS rfl g5.1 (Nat.le_of_lt g5.2) g6 ?_
  refine jy_ishlX hS rfl rfl ?_
  refine jy_iconst hS rfl ?_
  refine jy_isub hS rfl ?_
  obtain ⟨Q7, h⟩ := h
  obtain ⟨g8, h⟩ := h
  refine jy_callS hS rfl rfl rfl (Nat.le_of_ble_eq_true rfl) g8 (by decide) ⟨by decide, by decide⟩ (Nat.le_of_ble_eq_true rfl) ?_ ?_
  rotate_left
  · exact fun Ex Xx Ix Rx hp => hp.2.2.2.elim
  intro rv Xx I9 Rx hp
  obtain ⟨e1, e2, hp⟩ := hp
  rw [e1, e2]
  clear e1 e2
  obtain ⟨r10, e1, h⟩ := h rv I9 hp
  rw [e1]
  clear e1
  change J 15 [jy r10] _ (0, 0) _ _ _
  obtain ⟨g11, h⟩ := h
  exact jy_iret hS rfl (by rcases g11 with q | q <;> rw [q] <;> rfl) ⟨rfl, rfl, h⟩
