theorem jt_174 : jx_ml 174 = 3 ∧ jx_rt 174 = some .int ∧ jx_hz 174 = [] ∧ decide ((jx_nm 174).name = "<init>") = false ∧ jx_code 174 = jx_c174 := by decide +kernel
/-- GC.lay, from 28 -/
def wz_174_28 (V : jx_V) (X : jx_X) (R : jx_R) (Q : Option Value → jx_I → Prop) (QE : String → jx_I → Prop) (J28 : Nat → Int → jx_I → Prop) (a0 : Nat) (a1 : Int) (a2 : Int) (s0 : Nat) (s1 : Int) (I : jx_I) : Prop :=
  (X.2.1 s0 = some (11, 0)) ∧ (
  ∃ Q16 : Option Value → jx_I → Prop, (
  ∃ E17 : String → jx_I → Prop, (
  (jc V 8 189 (1, 6) [.ref s0, jy s1] X I R Q16 E17) ∧ (
  (∀ Ex Ix, E17 Ex Ix → QE Ex Ix) ∧ (
  ∀ rv I20, Q16 rv I20 → rv = none ∧ (
  (X.2.1 a0 = some (11, 0)) ∧ (
  ∃ q23 : Nat, (
  (R a0 2 = some q23) ∧ (
  (X.2.1 q23 = some (7, 0)) ∧ (
  ∃ Q26 : Option Value → jx_I → Prop, (
  (jc V 1 98 (0, 0) [.ref q23, jy a1, jy a2] X I20 R Q26 (fun _ _ => False)) ∧ (
  ∀ rv I28, Q26 rv I28 → ∃ r29 : Int, rv = some (jy r29) ∧ (
  (-2147483648 ≤ r29 ∧ r29 < 2147483648) ∧ (
  (r29 ≠ 0 → (
    ∃ q31 : Nat, (
    (R a0 7 = some q31) ∧ (
    (X.2.1 q31 = some (0, 0)) ∧ (
    ∀ I34 : jx_I, I34 = jx_u I28 q31 6 (Int32.ofInt 1) → (
    Q (some (jy ((I34 q23 6).toInt))) I34))))
  )) ∧ (r29 = 0 → (
    Q (some (jy (-1))) I28
  ))))))))))))))))
/-- GC.lay -/
def wz_174 (V : jx_V) (X : jx_X) (R : jx_R) (Q : Option Value → jx_I → Prop) (QE : String → jx_I → Prop) (J28 : Nat → Int → jx_I → Prop) (a0 : Nat) (a1 : Int) (a2 : Int) (I : jx_I) : Prop :=
  (X.2.1 a0 = some (11, 0)) ∧ (
  ∃ q2 : Nat, (
  (R a0 11 = some q2) ∧ (
  (X.2.1 q2 = some (2, 0)) ∧ (
  ∃ Q5 : Option Value → jx_I → Prop, (
  (jc V 1 42 (0, 0) [.ref q2, jy a1] X I R Q5 (fun _ _ => False)) ∧ (
  ∀ rv I7, Q5 rv I7 → ∃ r8 : Int, rv = some (jy r8) ∧ (
  ∃ Q9 : Option Value → jx_I → Prop, (
  ∃ E10 : String → jx_I → Prop, (
  (jc V 8 189 (1, 6) [.ref a0, jy r8] X I7 R Q9 E10) ∧ (
  (∀ Ex Ix, E10 Ex Ix → QE Ex Ix) ∧ (
  ∀ rv I13, Q9 rv I13 → rv = none ∧ (
  (a2 < 0 → (
    J28 a0 0 I13
  )) ∧ (¬ a2 < 0 → (
    (99 < a2 → (
      J28 a0 0 I13
    )) ∧ (¬ 99 < a2 → (
      J28 a0 1 I13
    ))
  ))))))))))))))
set_option maxRecDepth 20000 in
theorem wm_174 {V : jx_V} (hV : V.1.stackTraces = false) {X : jx_X} {R : jx_R} {I : jx_I} {Q : Option Value → jx_I → Prop} {QE : String → jx_I → Prop} {a0 : Nat} {a1 : Int} {a2 : Int} (r_a1 : -2147483648 ≤ a1 ∧ a1 < 2147483648) (r_a2 : -2147483648 ≤ a2 ∧ a2 < 2147483648) 
    (h : ∀ (J28 : Nat → Int → jx_I → Prop), ((∀ (s0 : Nat) (s1 : Int) I, wz_174_28 V X R Q QE J28 a0 a1 a2 s0 s1 I → J28 s0 s1 I)) → wz_174 V X R Q QE J28 a0 a1 a2 I) : jc V 9 174 (2, 12) [.ref a0, jy a1, jy a2] X I R Q QE := by
  refine jy_met hV (by decide) (n := 3) (rt := some .int) (hh := []) (ini := false) (C := jx_c174) (L := [some (.ref a0), some (jy a1), some (jy a2)]) jt_174 (Nat.le_of_ble_eq_true rfl) rfl ?_
  intro J hS
  have h := h (fun s0 s1 I => J 28 [jy s1, .ref s0] [some (.ref a0), some (jy a1), some (jy a2)] (1, 6) X I R) ?_
  · unfold wz_174 at h
    refine jy_aload_n hS rfl rfl ?_
    refine jy_aload_n hS rfl rfl ?_
    obtain ⟨g1, h⟩ := h
    obtain ⟨q2, h⟩ := h
    obtain ⟨g3, h⟩ := h
    refine jy_getR hS rfl (by decide) g1 g3 ?_
    refine jy_iload_n hS rfl rfl ?_
    obtain ⟨g4, h⟩ := h
    obtain ⟨Q5, h⟩ := h
    obtain ⟨g6, h⟩ := h
    refine jy_callV hS rfl rfl rfl (Nat.le_of_ble_eq_true rfl) (Or.inl g4) g6 (by decide) ⟨by decide, by decide⟩ (Nat.le_of_ble_eq_true rfl) ?_ ?_
    rotate_left
    · exact fun Ex Xx Ix Rx hp => hp.2.2.2.elim
    intro rv Xx I7 Rx hp
    obtain ⟨e1, e2, hp⟩ := hp
    rw [e1, e2]
    clear e1 e2
    obtain ⟨r8, e1, h⟩ := h rv I7 hp
    rw [e1]
    clear e1
    change J 9 [jy r8, .ref a0] _ (2, 12) _ _ _
    obtain ⟨Q9, h⟩ := h
    obtain ⟨E10, h⟩ := h
    obtain ⟨g11, h⟩ := h
    obtain ⟨g12, h⟩ := h
    refine jy_callV hS rfl rfl rfl (Nat.le_of_ble_eq_true rfl) (Or.inl g1) g11 (by decide) ⟨by decide, by decide⟩ (Nat.le_of_ble_eq_true rfl) ?_ ?_
    rotate_left
    · exact fun Ex Xx Ix Rx hp => ⟨hp.1, hp.2.1, hp.2.2.1, g12 _ _ hp.2.2.2⟩
    intro rv Xx I13 Rx hp
    obtain ⟨e1, e2, hp⟩ := hp
    rw [e1, e2]
    clear e1 e2
    obtain ⟨e1, h⟩ := h rv I13 hp
    rw [e1]
    clear e1
    change J 12 [] _ (1, 6) _ _ _
    refine jy_aload_n hS rfl rfl ?_
    refine jy_iload_n hS rfl rfl ?_
    refine jy_if_lt hS rfl r_a2 (fun hq => ?_) (fun hq => ?_)
    · have h := h.1 hq
      refine jy_iconst hS rfl ?_
      exact jy_join hS h rfl (jy_sub_s (jy_sub_s (jy_sub_s jy_sub_0)))
    · have h := h.2 hq
      refine jy_iload_n hS rfl rfl ?_
      refine jy_bipush hS rfl (by decide) ?_
      refine jy_icmp_gt hS rfl ⟨r_a2, ⟨by decide, by decide⟩⟩ (fun hq => ?_) (fun hq => ?_)
      · have h := h.1 hq
        refine jy_iconst hS rfl ?_
        exact jy_join hS h rfl (jy_sub_s (jy_sub_s (jy_sub_s jy_sub_0)))
      · have h := h.2 hq
        refine jy_iconst hS rfl ?_
        refine jy_goto hS rfl ?_
        exact jy_join hS h rfl (jy_sub_s (jy_sub_s (jy_sub_s jy_sub_0)))
  · intro s0 s1 I h
    unfold wz_174_28 at h
    obtain ⟨g15, h⟩ := h
    obtain ⟨Q16, h⟩ := h
    obtain ⟨E17, h⟩ := h
    obtain ⟨g18, h⟩ := h
    obtain ⟨g19, h⟩ := h
    refine jy_callV hS rfl rfl rfl (Nat.le_of_ble_eq_true rfl) (Or.inl g15) g18 (by decide) ⟨by decide, by decide⟩ (Nat.le_of_ble_eq_true rfl) ?_ ?_
    rotate_left
    · exact fun Ex Xx Ix Rx hp => ⟨hp.1, hp.2.1, hp.2.2.1, g19 _ _ hp.2.2.2⟩
    intro rv Xx I20 Rx hp
    obtain ⟨e1, e2, hp⟩ := hp
    rw [e1, e2]
    clear e1 e2
    obtain ⟨e1, h⟩ := h rv I20 hp
    rw [e1]
    clear e1
    change J 31 [] _ (0, 0) _ _ _
    refine jy_aload_n hS rfl rfl ?_
    obtain ⟨g22, h⟩ := h
    obtain ⟨q23, h⟩ := h
    obtain ⟨g24, h⟩ := h
    refine jy_getR hS rfl (by decide) g22 g24 ?_
    refine jy_iload_n hS rfl rfl ?_
    refine jy_iload_n hS rfl rfl ?_
    obtain ⟨g25, h⟩ := h
    obtain ⟨Q26, h⟩ := h
    obtain ⟨g27, h⟩ := h
    refine jy_callV hS rfl rfl rfl (Nat.le_of_ble_eq_true rfl) (Or.inl g25) g27 (by decide) ⟨by decide, by decide⟩ (Nat.le_of_ble_eq_true rfl) ?_ ?_
    rotate_left
    · exact fun Ex Xx Ix Rx hp => hp.2.2.2.elim
    intro rv Xx I28 Rx hp
    obtain ⟨e1, e2, hp⟩ := hp
    rw [e1, e2]
    clear e1 e2
    obtain ⟨r29, e1, h⟩ := h rv I28 hp
    rw [e1]
    clear e1
    change J 40 [jy r29] _ (0, 0) _ _ _
    obtain ⟨g30, h⟩ := h
    refine jy_if_ne hS rfl g30 (fun hq => ?_) (fun hq => ?_)
    · have h := h.1 hq
      refine jy_aload_n hS rfl rfl ?_
      obtain ⟨q31, h⟩ := h
      obtain ⟨g32, h⟩ := h
      refine jy_getR hS rfl (by decide) g22 g32 ?_
      refine jy_iconst hS rfl ?_
      obtain ⟨g33, h⟩ := h
      refine jy_putB hS rfl (by decide) (Or.inr rfl) g33 ?_
      intro I34 e9
      have h := h I34 e9
      clear e9
      refine jy_aload_n hS rfl rfl ?_
      refine jy_getR hS rfl (by decide) g22 g24 ?_
      refine jy_getI hS rfl (by decide) g25 ?_
      exact jy_iret hS rfl rfl ⟨rfl, rfl, h⟩
    · have h := h.2 hq
      refine jy_iconst hS rfl ?_
      exact jy_iret hS rfl rfl ⟨rfl, rfl, h⟩
theorem jt_175 : jx_ml 175 = 2 ∧ jx_rt 175 = some .int ∧ jx_hz 175 = [] ∧ decide ((jx_nm 175).name = "<init>") = false ∧ jx_code 175 = jx_c175 := by decide +kernel
/-- GC.clear -/
def wz_175 (V : jx_V) (X : jx_X) (R : jx_R) (Q : Option Value → jx_I → Prop) (QE : String → jx_I → Prop)  (a0 : Nat) (I : jx_I) : Prop :=
  (X.2.1 a0 = some (11, 0)) ∧ (
  ∃ q2 : Nat, (
  (R a0 2 = some q2) ∧ (
  (X.2.1 q2 = some (7, 0)) ∧ (
  ∀ I5 : jx_I, I5 = jx_u I q2 6 (Int32.ofInt 0) → (
  ∃ q6 : Nat, (
  (R a0 7 = some q6) ∧ (
  (X.2.1 q6 = some (0, 0)) ∧ (
  ∀ I9 : jx_I, I9 = jx_u I5 q6 6 (Int32.ofInt 1) → (
  Q (some (jy ((I q2 6).toInt))) I9)))))))))
set_option maxRecDepth 20000 in
theorem wm_175 {V : jx_V} (hV : V.1.stackTraces = false) {X : jx_X} {R : jx_R} {I : jx_I} {Q : Option Value → jx_I → Prop} {QE : String → jx_I → Prop} {a0 : Nat}  
    (h : wz_175 V X R Q QE  a0 I) : jc V 1 175 (0, 0) [.ref a0] X I R Q QE := by
  refine jy_met hV (by decide) (n := 2) (rt := some .int) (hh := []) (ini := false) (C := jx_c175) (L := [some (.ref a0), none]) jt_175 (Nat.le_of_ble_eq_true rfl) rfl ?_
  intro J hS
  unfold wz_175 at h
  refine jy_aload_n hS rfl rfl ?_
  obtain ⟨g1, h⟩ := h
  obtain ⟨q2, h⟩ := h
  obtain ⟨g3, h⟩ := h
  refine jy_getR hS rfl (by decide) g1 g3 ?_
  obtain ⟨g4, h⟩ := h
  refine jy_getI hS rfl (by decide) g4 ?_
  refine jy_istore_n hS rfl (Nat.le_of_ble_eq_true rfl) (L' := [some (.ref a0), some (jy ((I q2 6).toInt))]) rfl ?_
  refine jy_aload_n hS rfl rfl ?_
  refine jy_getR hS rfl (by decide) g1 g3 ?_
  refine jy_iconst hS rfl ?_
  refine jy_putI hS rfl (by decide) g4 ?_
  intro I5 e9
  have h := h I5 e9
  clear e9
  refine jy_aload_n hS rfl rfl ?_
  obtain ⟨q6, h⟩ := h
  obtain ⟨g7, h⟩ := h
  refine jy_getR hS rfl (by decide) g1 g7 ?_
  refine jy_iconst hS rfl ?_
  obtain ⟨g8, h⟩ := h
  refine jy_putB hS rfl (by decide) (Or.inr rfl) g8 ?_
  intro I9 e9
  have h := h I9 e9
  clear e9
  refine jy_iload_n hS rfl rfl ?_
  exact jy_iret hS rfl rfl ⟨rfl, rfl, h⟩
theorem jt_176 : jx_ml 176 = 2 ∧ jx_rt 176 = some .int ∧ jx_hz 176 = [] ∧ decide ((jx_nm 176).name = "<init>") = false ∧ jx_code 176 = jx_c176 := by decide +kernel
/-- GC.explain -/
def wz_176 (V : jx_V) (X : jx_X) (Q : Option Value → jx_I → jx_R → Prop) (QE : String → jx_I → jx_R → Prop)  (a0 : Nat) (a1 : Int) (I : jx_I) (R : jx_R) : Prop :=
  (X.2.1 a0 = some (11, 0)) ∧ (
  ∃ Q2 : Option Value → jx_I → Prop, (
  ∃ E3 : String → jx_I → Prop, (
  (jc V 9 190 (1, 6) [.ref a0, jy a1, jy 3] X I R Q2 E3) ∧ (
  (∀ Ex Ix, E3 Ex Ix → QE Ex Ix R) ∧ (
  ∀ rv I6, Q2 rv I6 → rv = none ∧ (
  ∃ q8 : Nat, (
  (R a0 7 = some q8) ∧ (
  ∃ q10 : Nat, (
  (R a0 11 = some q10) ∧ (
  (X.2.1 q8 = some (0, 0)) ∧ (
  ∃ Q13 : Option Value → jx_I → jx_R → Prop, (
  (jd V 201 1 (0, 0) [.ref q8, .ref q10] X I6 R Q13 (fun _ _ _ => False)) ∧ (
  ∀ rv I15 R17, Q13 rv I15 R17 → rv = none ∧ (
  ((a1 < 0 ∨ 2 < a1) → (
    ∃ q18 : Nat, (
    (R17 a0 7 = some q18) ∧ (
    (X.2.1 q18 = some (0, 0)) ∧ (
    ∃ Q21 : Option Value → jx_I → Prop, (
    (jc V 1 3 (0, 0) [.ref q18] X I15 R17 Q21 (fun _ _ => False)) ∧ (
    ∀ rv I23, Q21 rv I23 → ∃ r24 : Int, rv = some (jy r24) ∧ (
    Q (some (jy r24)) I23 R17))))))
  ))
  ∧ (a1 = 0 → (
    ∃ q25 : Nat, (
    (R17 a0 7 = some q25) ∧ (
    (X.2.1 q25 = some (0, 0)) ∧ (
    Q (some (jy ((I15 q25 7).toInt))) I15 R17)))
  ))
  ∧ (a1 = 1 → (
    ∃ q28 : Nat, (
    (R17 a0 7 = some q28) ∧ (
    (X.2.1 q28 = some (0, 0)) ∧ (
    Q (some (jy ((I15 q28 8).toInt))) I15 R17)))
  ))
  ∧ (a1 = 2 → (
    ∃ q31 : Nat, (
    (R17 a0 7 = some q31) ∧ (
    (X.2.1 q31 = some (0, 0)) ∧ (
    ∃ Q34 : Option Value → jx_I → Prop, (
    (jc V 1 2 (0, 0) [.ref q31] X I15 R17 Q34 (fun _ _ => False)) ∧ (
    ∀ rv I36, Q34 rv I36 → ∃ r37 : Int, rv = some (jy r37) ∧ (
    Q (some (jy r37)) I36 R17))))))
  ))))))))))))))))
set_option maxRecDepth 20000 in
theorem wm_176 {V : jx_V} (hV : V.1.stackTraces = false) {X : jx_X} {R : jx_R} {I : jx_I} {Q : Option Value → jx_I → jx_R → Prop} {QE : String → jx_I → jx_R → Prop} {a0 : Nat} {a1 : Int} (r_a1 : -2147483648 ≤ a1 ∧ a1 < 2147483648) 
    (h : wz_176 V X Q QE  a0 a1 I R) : jd V 202 176 (1, 6) [.ref a0, jy a1] X I R Q QE := by
  refine jy_met hV (by decide) (n := 2) (rt := some .int) (hh := []) (ini := false) (C := jx_c176) (L := [some (.ref a0), some (jy a1)]) jt_176 (Nat.le_of_ble_eq_true rfl) rfl ?_
  intro J hS
  unfold wz_176 at h
  refine jy_aload_n hS rfl rfl ?_
  refine jy_iload_n hS rfl rfl ?_
  refine jy_iconst hS rfl ?_
  obtain ⟨g1, h⟩ := h
  obtain ⟨Q2, h⟩ := h
  obtain ⟨E3, h⟩ := h
  obtain ⟨g4, h⟩ := h
  obtain ⟨g5, h⟩ := h
  refine jy_callV hS rfl rfl rfl (Nat.le_of_ble_eq_true rfl) (Or.inl g1) g4 (by decide) ⟨by decide, by decide⟩ (Nat.le_of_ble_eq_true rfl) ?_ ?_
  rotate_left
  · exact fun Ex Xx Ix Rx hp => ⟨hp.1, hp.2.1, by rw [hp.2.2.1]; exact g5 _ _ hp.2.2.2⟩
  intro rv Xx I6 Rx hp
  obtain ⟨e1, e2, hp⟩ := hp
  rw [e1, e2]
  clear e1 e2
  obtain ⟨e1, h⟩ := h rv I6 hp
  rw [e1]
  clear e1
  change J 6 [] _ (0, 0) _ _ _
  refine jy_aload_n hS rfl rfl ?_
  obtain ⟨q8, h⟩ := h
  obtain ⟨g9, h⟩ := h
  refine jy_getR hS rfl (by decide) g1 g9 ?_
  refine jy_aload_n hS rfl rfl ?_
  obtain ⟨q10, h⟩ := h
  obtain ⟨g11, h⟩ := h
  refine jy_getR hS rfl (by decide) g1 g11 ?_
  obtain ⟨g12, h⟩ := h
  obtain ⟨Q13, h⟩ := h
  obtain ⟨g14, h⟩ := h
  refine jy_callV hS rfl rfl rfl (Nat.le_of_ble_eq_true rfl) (Or.inl g12) g14 (by decide) ⟨by decide, by decide⟩ (Nat.le_of_ble_eq_true rfl) ?_ ?_
  rotate_left
  · exact fun Ex Xx Ix Rx hp => hp.2.2.elim
  intro rv Xx I15 R17 hp
  obtain ⟨e1, hp⟩ := hp
  rw [e1]
  clear e1
  obtain ⟨e1, h⟩ := h rv I15 R17 hp
  rw [e1]
  clear e1
  change J 17 [] _ (0, 0) _ _ _
  refine jy_iload_n hS rfl rfl ?_
  refine jy_tsw hS rfl r_a1 (fun hq => ?_) (fun hq8 hq => ?_)
  · have h := h.1 hq
    refine ⟨by decide, ?_⟩
    change J 68 _ _ _ _ _ _
    refine jy_aload_n hS rfl rfl ?_
    obtain ⟨q18, h⟩ := h
    obtain ⟨g19, h⟩ := h
    refine jy_getR hS rfl (by decide) g1 g19 ?_
    obtain ⟨g20, h⟩ := h
    obtain ⟨Q21, h⟩ := h
    obtain ⟨g22, h⟩ := h
    refine jy_callV hS rfl rfl rfl (Nat.le_of_ble_eq_true rfl) (Or.inl g20) g22 (by decide) ⟨by decide, by decide⟩ (Nat.le_of_ble_eq_true rfl) ?_ ?_
    rotate_left
    · exact fun Ex Xx Ix Rx hp => hp.2.2.2.elim
    intro rv Xx I23 Rx hp
    obtain ⟨e1, e2, hp⟩ := hp
    rw [e1, e2]
    clear e1 e2
    obtain ⟨r24, e1, h⟩ := h rv I23 hp
    rw [e1]
    clear e1
    change J 75 [jy r24] _ (0, 0) _ _ _
    exact jy_iret hS rfl rfl ⟨rfl, h⟩
  · have h := h.2
    have hq7 : a1 = 0 ∨ a1 = 1 ∨ a1 = 2 := by omega
    rcases hq7 with hq7 | hq7 | hq7
    · have h := h.1 hq7
      refine ⟨26, by rw [hq7]; rfl, by decide, ?_⟩
      change J 44 _ _ _ _ _ _
      refine jy_aload_n hS rfl rfl ?_
      obtain ⟨q25, h⟩ := h
      obtain ⟨g26, h⟩ := h
      refine jy_getR hS rfl (by decide) g1 g26 ?_
      obtain ⟨g27, h⟩ := h
      refine jy_getI hS rfl (by decide) g27 ?_
      exact jy_iret hS rfl rfl ⟨rfl, h⟩
    · have h := h.2.1 hq7
      refine ⟨34, by rw [hq7]; rfl, by decide, ?_⟩
      change J 52 _ _ _ _ _ _
      refine jy_aload_n hS rfl rfl ?_
      obtain ⟨q28, h⟩ := h
      obtain ⟨g29, h⟩ := h
      refine jy_getR hS rfl (by decide) g1 g29 ?_
      obtain ⟨g30, h⟩ := h
      refine jy_getI hS rfl (by decide) g30 ?_
      exact jy_iret hS rfl rfl ⟨rfl, h⟩
    · have h := h.2.2 hq7
      refine ⟨42, by rw [hq7]; rfl, by decide, ?_⟩
      change J 60 _ _ _ _ _ _
      refine jy_aload_n hS rfl rfl ?_
      obtain ⟨q31, h⟩ := h
      obtain ⟨g32, h⟩ := h
      refine jy_getR hS rfl (by decide) g1 g32 ?_
      obtain ⟨g33, h⟩ := h
      obtain ⟨Q34, h⟩ := h
      obtain ⟨g35, h⟩ := h
      refine jy_callV hS rfl rfl rfl (Nat.le_of_ble_eq_true rfl) (Or.inl g33) g35 (by decide) ⟨by decide, by decide⟩ (Nat.le_of_ble_eq_true rfl) ?_ ?_
      rotate_left
      · exact fun Ex Xx Ix Rx hp => hp.2.2.2.elim
      intro rv Xx I36 Rx hp
      obtain ⟨e1, e2, hp⟩ := hp
      rw [e1, e2]
      clear e1 e2
      obtain ⟨r37, e1, h⟩ := h rv I36 hp
      rw [e1]
      clear e1
      change J 67 [jy r37] _ (0, 0) _ _ _
      exact jy_iret hS rfl rfl ⟨rfl, h⟩
theorem jt_177 : jx_ml 177 = 5 ∧ jx_rt 177 = some .int ∧ jx_hz 177 = [] ∧ decide ((jx_nm 177).name = "<init>") = false ∧ jx_code 177 = jx_c177 := by decide +kernel
/-- GC.compared, from 28 -/
def wz_177_28 (V : jx_V) (X : jx_X) (R : jx_R) (Q : Option Value → jx_I → Prop) (QE : String → jx_I → Prop) (J28 : Nat → Int → jx_I → Prop) (J43 : Nat → Int → jx_I → Prop) (J51 : Int → Int → jx_I → Prop) (a0 : Nat) (a1 : Int) (a2 : Int) (s0 : Nat) (s1 : Int) (I : jx_I) : Prop :=
  (X.2.1 s0 = some (11, 0)) ∧ (
  ∃ Q16 : Option Value → jx_I → Prop, (
  ∃ E17 : String → jx_I → Prop, (
  (jc V 8 189 (1, 6) [.ref s0, jy s1] X I R Q16 E17) ∧ (
  (∀ Ex Ix, E17 Ex Ix → QE Ex Ix) ∧ (
  ∀ rv I20, Q16 rv I20 → rv = none ∧ (
  ((Int32.ofInt a1 &&& Int32.ofInt a2).toInt ≠ 0 → (
    J43 a0 0 I20
  )) ∧ ((Int32.ofInt a1 &&& Int32.ofInt a2).toInt = 0 → (
    J43 a0 1 I20
  ))))))))
/-- GC.compared, from 43 -/
def wz_177_43 (V : jx_V) (X : jx_X) (R : jx_R) (Q : Option Value → jx_I → Prop) (QE : String → jx_I → Prop) (J28 : Nat → Int → jx_I → Prop) (J43 : Nat → Int → jx_I → Prop) (J51 : Int → Int → jx_I → Prop) (a0 : Nat) (a1 : Int) (a2 : Int) (s0 : Nat) (s1 : Int) (I : jx_I) : Prop :=
  (X.2.1 s0 = some (11, 0)) ∧ (
  ∃ Q23 : Option Value → jx_I → Prop, (
  ∃ E24 : String → jx_I → Prop, (
  (jc V 8 189 (1, 6) [.ref s0, jy s1] X I R Q23 E24) ∧ (
  (∀ Ex Ix, E24 Ex Ix → QE Ex Ix) ∧ (
  ∀ rv I27, Q23 rv I27 → rv = none ∧ (
  J51 0 0 I27))))))
/-- GC.compared, from 51 -/
def wz_177_51 (V : jx_V) (X : jx_X) (R : jx_R) (Q : Option Value → jx_I → Prop) (QE : String → jx_I → Prop) (J28 : Nat → Int → jx_I → Prop) (J43 : Nat → Int → jx_I → Prop) (J51 : Int → Int → jx_I → Prop) (a0 : Nat) (a1 : Int) (a2 : Int) (l3 : Int) (l4 : Int) (I : jx_I) : Prop :=
  (X.2.1 a0 = some (11, 0)) ∧ (
  ∃ q30 : Nat, (
  (R a0 11 = some q30) ∧ (
  (X.2.1 q30 = some (2, 0)) ∧ (
  (-2147483648 ≤ l4 ∧ l4 < 2147483648) ∧ (
  ((I q30 7).toInt ≤ l4 → (
    Q (some (jy l3)) I
  )) ∧ (¬ (I q30 7).toInt ≤ l4 → (
    ∃ q34 : Nat, (
    (R a0 2 = some q34) ∧ (
    (X.2.1 q34 = some (7, 0)) ∧ (
    ∃ q37 : Nat, (
    (R q34 0 = some q37) ∧ (
    (X.2.1 q37 = some (1, 0)) ∧ (
    ∃ Q40 : Option Value → jx_I → Prop, (
    (jc V 2 20 (0, 0) [.ref q37, jy l4, jy a2] X I R Q40 (fun _ _ => False)) ∧ (
    ∀ rv I42, Q40 rv I42 → ∃ r43 : Int, rv = some (jy r43) ∧ (
    ∃ Q44 : Option Value → jx_I → Prop, (
    (jc V 2 21 (0, 0) [.ref q37, jy l4, jy a1, jy ((Int32.ofInt r43 / Int32.ofInt 2).toInt)] X I42 R Q44 (fun _ _ => False)) ∧ (
    ∀ rv I46, Q44 rv I46 → ∃ r47 : Int, rv = some (jy r47) ∧ (
    ∃ Q48 : Option Value → jx_I → Prop, (
    (jc V 2 20 (0, 0) [.ref q37, jy l4, jy a1] X I46 R Q48 (fun _ _ => False)) ∧ (
    ∀ rv I50, Q48 rv I50 → ∃ r51 : Int, rv = some (jy r51) ∧ (
    ∃ Q52 : Option Value → jx_I → Prop, (
    (jc V 2 21 (0, 0) [.ref q37, jy l4, jy a2, jy ((Int32.ofInt r51 / Int32.ofInt 2).toInt)] X I50 R Q52 (fun _ _ => False)) ∧ (
    ∀ rv I54, Q52 rv I54 → ∃ r55 : Int, rv = some (jy r55) ∧ (
    J51 ((l3 + r47) + r55) (l4 + 1) I54))))))))))))))))))
  )))))))
/-- GC.compared -/
def wz_177 (V : jx_V) (X : jx_X) (R : jx_R) (Q : Option Value → jx_I → Prop) (QE : String → jx_I → Prop) (J28 : Nat → Int → jx_I → Prop) (J43 : Nat → Int → jx_I → Prop) (J51 : Int → Int → jx_I → Prop) (a0 : Nat) (a1 : Int) (a2 : Int) (I : jx_I) : Prop :=
  (X.2.1 a0 = some (11, 0)) ∧ (
  ∃ q2 : Nat, (
  (R a0 11 = some q2) ∧ (
  (X.2.1 q2 = some (2, 0)) ∧ (
  ∃ Q5 : Option Value → jx_I → Prop, (
  (jc V 1 42 (0, 0) [.ref q2, jy a1] X I R Q5 (fun _ _ => False)) ∧ (
  ∀ rv I7, Q5 rv I7 → ∃ r8 : Int, rv = some (jy r8) ∧ (
  (-2147483648 ≤ r8 ∧ r8 < 2147483648) ∧ (
  (r8 = 0 → (
    J28 a0 0 I7
  )) ∧ (¬ r8 = 0 → (
    ∃ Q10 : Option Value → jx_I → Prop, (
    (jc V 1 42 (0, 0) [.ref q2, jy a2] X I7 R Q10 (fun _ _ => False)) ∧ (
    ∀ rv I12, Q10 rv I12 → ∃ r13 : Int, rv = some (jy r13) ∧ (
    (-2147483648 ≤ r13 ∧ r13 < 2147483648) ∧ (
    (r13 = 0 → (
      J28 a0 0 I12
    )) ∧ (¬ r13 = 0 → (
      J28 a0 1 I12
    ))))))
  ))))))))))
set_option maxRecDepth 20000 in
theorem wm_177 {V : jx_V} (hV : V.1.stackTraces = false) {X : jx_X} {R : jx_R} {I : jx_I} {Q : Option Value → jx_I → Prop} {QE : String → jx_I → Prop} {a0 : Nat} {a1 : Int} {a2 : Int} (r_a1 : -2147483648 ≤ a1 ∧ a1 < 2147483648) (r_a2 : -2147483648 ≤ a2 ∧ a2 < 2147483648) 
    (h : ∀ (J28 : Nat → Int → jx_I → Prop) (J43 : Nat → Int → jx_I → Prop) (J51 : Int → Int → jx_I → Prop), ((∀ (s0 : Nat) (s1 : Int) I, wz_177_28 V X R Q QE J28 J43 J51 a0 a1 a2 s0 s1 I → J28 s0 s1 I) ∧ (∀ (s0 : Nat) (s1 : Int) I, wz_177_43 V X R Q QE J28 J43 J51 a0 a1 a2 s0 s1 I → J43 s0 s1 I) ∧ (∀ (l3 : Int) (l4 : Int) I, wz_177_51 V X R Q QE J28 J43 J51 a0 a1 a2 l3 l4 I → J51 l3 l4 I)) → wz_177 V X R Q QE J28 J43 J51 a0 a1 a2 I) : jc V 9 177 (2, 12) [.ref a0, jy a1, jy a2] X I R Q QE := by
  refine jy_met hV (by decide) (n := 5) (rt := some .int) (hh := []) (ini := false) (C := jx_c177) (L := [some (.ref a0), some (jy a1), some (jy a2), none, none]) jt_177 (Nat.le_of_ble_eq_true rfl) rfl ?_
  intro J hS
  have h := h (fun s0 s1 I => J 28 [jy s1, .ref s0] [some (.ref a0), some (jy a1), some (jy a2), none, none] (2, 12) X I R) (fun s0 s1 I => J 43 [jy s1, .ref s0] [some (.ref a0), some (jy a1), some (jy a2), none, none] (1, 6) X I R) (fun l3 l4 I => J 51 [] [some (.ref a0), some (jy a1), some (jy a2), some (jy l3), some (jy l4)] (0, 0) X I R) ?_
  · unfold wz_177 at h
    refine jy_aload_n hS rfl rfl ?_
    refine jy_aload_n hS rfl rfl ?_
    obtain ⟨g1, h⟩ := h
    obtain ⟨q2, h⟩ := h
    obtain ⟨g3, h⟩ := h
    refine jy_getR hS rfl (by decide) g1 g3 ?_
    refine jy_iload_n hS rfl rfl ?_
    obtain ⟨g4, h⟩ := h
    obtain ⟨Q5, h⟩ := h
    obtain ⟨g6, h⟩ := h
    refine jy_callV hS rfl rfl rfl (Nat.le_of_ble_eq_true rfl) (Or.inl g4) g6 (by decide) ⟨by decide, by decide⟩ (Nat.le_of_ble_eq_true rfl) ?_ ?_
    rotate_left
    · exact fun Ex Xx Ix Rx hp => hp.2.2.2.elim
    intro rv Xx I7 Rx hp
    obtain ⟨e1, e2, hp⟩ := hp
    rw [e1, e2]
    clear e1 e2
    obtain ⟨r8, e1, h⟩ := h rv I7 hp
    rw [e1]
    clear e1
    change J 9 [jy r8, .ref a0] _ (2, 12) _ _ _
    obtain ⟨g9, h⟩ := h
    refine jy_if_eq hS rfl g9 (fun hq => ?_) (fun hq => ?_)
    · have h := h.1 hq
      refine jy_iconst hS rfl ?_
      exact jy_join hS h rfl (jy_sub_s (jy_sub_s (jy_sub_s (jy_sub_n (jy_sub_n jy_sub_0)))))
    · have h := h.2 hq
      refine jy_aload_n hS rfl rfl ?_
      refine jy_getR hS rfl (by decide) g1 g3 ?_
      refine jy_iload_n hS rfl rfl ?_
      obtain ⟨Q10, h⟩ := h
      obtain ⟨g11, h⟩ := h
      refine jy_callV hS rfl rfl rfl (Nat.le_of_ble_eq_true rfl) (Or.inl g4) g11 (by decide) ⟨by decide, by decide⟩ (Nat.le_of_ble_eq_true rfl) ?_ ?_
      rotate_left
      · exact fun Ex Xx Ix Rx hp => hp.2.2.2.elim
      intro rv Xx I12 Rx hp
      obtain ⟨e1, e2, hp⟩ := hp
      rw [e1, e2]
      clear e1 e2
      obtain ⟨r13, e1, h⟩ := h rv I12 hp
      rw [e1]
      clear e1
      change J 20 [jy r13, .ref a0] _ (2, 12) _ _ _
      obtain ⟨g14, h⟩ := h
      refine jy_if_eq hS rfl g14 (fun hq => ?_) (fun hq => ?_)
      · have h := h.1 hq
        refine jy_iconst hS rfl ?_
        exact jy_join hS h rfl (jy_sub_s (jy_sub_s (jy_sub_s (jy_sub_n (jy_sub_n jy_sub_0)))))
      · have h := h.2 hq
        refine jy_iconst hS rfl ?_
        refine jy_goto hS rfl ?_
        exact jy_join hS h rfl (jy_sub_s (jy_sub_s (jy_sub_s (jy_sub_n (jy_sub_n jy_sub_0)))))
  refine ⟨?_, ?_, ?_⟩
  · intro s0 s1 I h
    unfold wz_177_28 at h
    obtain ⟨g15, h⟩ := h
    obtain ⟨Q16, h⟩ := h
    obtain ⟨E17, h⟩ := h
    obtain ⟨g18, h⟩ := h
    obtain ⟨g19, h⟩ := h
    refine jy_callV hS rfl rfl rfl (Nat.le_of_ble_eq_true rfl) (Or.inl g15) g18 (by decide) ⟨by decide, by decide⟩ (Nat.le_of_ble_eq_true rfl) ?_ ?_
    rotate_left
    · exact fun Ex Xx Ix Rx hp => ⟨hp.1, hp.2.1, hp.2.2.1, g19 _ _ hp.2.2.2⟩
    intro rv Xx I20 Rx hp
    obtain ⟨e1, e2, hp⟩ := hp
    rw [e1, e2]
    clear e1 e2
    obtain ⟨e1, h⟩ := h rv I20 hp
    rw [e1]
    clear e1
    change J 31 [] _ (1, 6) _ _ _
    refine jy_aload_n hS rfl rfl ?_
    refine jy_iload_n hS rfl rfl ?_
    refine jy_iload_n hS rfl rfl ?_
    refine jy_iandX hS rfl rfl ?_
    refine jy_if_ne hS rfl (jy_rng _) (fun hq => ?_) (fun hq => ?_)
    · have h := h.1 hq
      refine jy_iconst hS rfl ?_
      exact jy_join hS h rfl (jy_sub_s (jy_sub_s (jy_sub_s (jy_sub_n (jy_sub_n jy_sub_0)))))
    · have h := h.2 hq
      refine jy_iconst hS rfl ?_
      refine jy_goto hS rfl ?_
      exact jy_join hS h rfl (jy_sub_s (jy_sub_s (jy_sub_s (jy_sub_n (jy_sub_n jy_sub_0)))))
  · intro s0 s1 I h
    unfold wz_177_43 at h
    obtain ⟨g22, h⟩ := h
    obtain ⟨Q23, h⟩ := h
    obtain ⟨E24, h⟩ := h
    obtain ⟨g25, h⟩ := h
    obtain ⟨g26, h⟩ := h
    refine jy_callV hS rfl rfl rfl (Nat.le_of_ble_eq_true rfl) (Or.inl g22) g25 (by decide) ⟨by decide, by decide⟩ (Nat.le_of_ble_eq_true rfl) ?_ ?_
    rotate_left
    · exact fun Ex Xx Ix Rx hp => ⟨hp.1, hp.2.1, hp.2.2.1, g26 _ _ hp.2.2.2⟩
    intro rv Xx I27 Rx hp
    obtain ⟨e1, e2, hp⟩ := hp
    rw [e1, e2]
    clear e1 e2
    obtain ⟨e1, h⟩ := h rv I27 hp
    rw [e1]
    clear e1
    change J 46 [] _ (0, 0) _ _ _
    refine jy_iconst hS rfl ?_
    refine jy_istore_n hS rfl (Nat.le_of_ble_eq_true rfl) (L' := [some (.ref a0), some (jy a1), some (jy a2), some (jy 0), none]) rfl ?_
    refine jy_iconst hS rfl ?_
    refine jy_istore hS rfl (Nat.le_of_ble_eq_true rfl) (L' := [some (.ref a0), some (jy a1), some (jy a2), some (jy 0), some (jy 0)]) rfl ?_
    exact jy_join hS h rfl (jy_sub_s (jy_sub_s (jy_sub_s (jy_sub_s (jy_sub_s jy_sub_0)))))
  · intro l3 l4 I h
    unfold wz_177_51 at h
    refine jy_iload hS rfl rfl ?_
    refine jy_aload_n hS rfl rfl ?_
    obtain ⟨g29, h⟩ := h
    obtain ⟨q30, h⟩ := h
    obtain ⟨g31, h⟩ := h
    refine jy_getR hS rfl (by decide) g29 g31 ?_
    obtain ⟨g32, h⟩ := h
    refine jy_getI hS rfl (by decide) g32 ?_
    obtain ⟨g33, h⟩ := h
    refine jy_icmp_ge hS rfl ⟨g33, (jy_rng _)⟩ (fun hq => ?_) (fun hq => ?_)
    · have h := h.1 hq
      refine jy_iload_n hS rfl rfl ?_
      exact jy_iret hS rfl rfl ⟨rfl, rfl, h⟩
    · have h := h.2 hq
      refine jy_iload_n hS rfl rfl ?_
      refine jy_aload_n hS rfl rfl ?_
      obtain ⟨q34, h⟩ := h
      obtain ⟨g35, h⟩ := h
      refine jy_getR hS rfl (by decide) g29 g35 ?_
      obtain ⟨g36, h⟩ := h
      obtain ⟨q37, h⟩ := h
      obtain ⟨g38, h⟩ := h
      refine jy_getR hS rfl (by decide) g36 g38 ?_
      refine jy_iload hS rfl rfl ?_
      refine jy_iload_n hS rfl rfl ?_
      refine jy_aload_n hS rfl rfl ?_
      refine jy_getR hS rfl (by decide) g29 g35 ?_
      refine jy_getR hS rfl (by decide) g36 g38 ?_
      refine jy_iload hS rfl rfl ?_
      refine jy_iload_n hS rfl rfl ?_
      obtain ⟨g39, h⟩ := h
      obtain ⟨Q40, h⟩ := h
      obtain ⟨g41, h⟩ := h
      refine jy_callV hS rfl rfl rfl (Nat.le_of_ble_eq_true rfl) (Or.inl g39) g41 (by decide) ⟨by decide, by decide⟩ (Nat.le_of_ble_eq_true rfl) ?_ ?_
      rotate_left
      · exact fun Ex Xx Ix Rx hp => hp.2.2.2.elim
      intro rv Xx I42 Rx hp
      obtain ⟨e1, e2, hp⟩ := hp
      rw [e1, e2]
      clear e1 e2
      obtain ⟨r43, e1, h⟩ := h rv I42 hp
      rw [e1]
      clear e1
      change J 87 [jy r43, jy a1, jy l4, .ref q37, jy l3] _ (0, 0) _ _ _
      refine jy_iconst hS rfl ?_
      refine jy_idivX hS rfl ⟨⟨by decide, by decide⟩, by decide⟩ rfl ?_
      obtain ⟨Q44, h⟩ := h
      obtain ⟨g45, h⟩ := h
      refine jy_callV hS rfl rfl rfl (Nat.le_of_ble_eq_true rfl) (Or.inl g39) g45 (by decide) ⟨by decide, by decide⟩ (Nat.le_of_ble_eq_true rfl) ?_ ?_
      rotate_left
      · exact fun Ex Xx Ix Rx hp => hp.2.2.2.elim
      intro rv Xx I46 Rx hp
      obtain ⟨e1, e2, hp⟩ := hp
      rw [e1, e2]
      clear e1 e2
      obtain ⟨r47, e1, h⟩ := h rv I46 hp
      rw [e1]
      clear e1
      change J 92 [jy r47, jy l3] _ (0, 0) _ _ _
      refine jy_iadd hS rfl ?_
      refine jy_istore_n hS rfl (Nat.le_of_ble_eq_true rfl) (L' := [some (.ref a0), some (jy a1), some (jy a2), some (jy (l3 + r47)), some (jy l4)]) rfl ?_
      refine jy_iload_n hS rfl rfl ?_
      refine jy_aload_n hS rfl rfl ?_
      refine jy_getR hS rfl (by decide) g29 g35 ?_
      refine jy_getR hS rfl (by decide) g36 g38 ?_
      refine jy_iload hS rfl rfl ?_
      refine jy_iload_n hS rfl rfl ?_
      refine jy_aload_n hS rfl rfl ?_
      refine jy_getR hS rfl (by decide) g29 g35 ?_
      refine jy_getR hS rfl (by decide) g36 g38 ?_
      refine jy_iload hS rfl rfl ?_
      refine jy_iload_n hS rfl rfl ?_
      obtain ⟨Q48, h⟩ := h
      obtain ⟨g49, h⟩ := h
      refine jy_callV hS rfl rfl rfl (Nat.le_of_ble_eq_true rfl) (Or.inl g39) g49 (by decide) ⟨by decide, by decide⟩ (Nat.le_of_ble_eq_true rfl) ?_ ?_
      rotate_left
      · exact fun Ex Xx Ix Rx hp => hp.2.2.2.elim
      intro rv Xx I50 Rx hp
      obtain ⟨e1, e2, hp⟩ := hp
      rw [e1, e2]
      clear e1 e2
      obtain ⟨r51, e1, h⟩ := h rv I50 hp
      rw [e1]
      clear e1
      change J 118 [jy r51, jy a2, jy l4, .ref q37, jy (l3 + r47)] _ (0, 0) _ _ _
      refine jy_iconst hS rfl ?_
      refine jy_idivX hS rfl ⟨⟨by decide, by decide⟩, by decide⟩ rfl ?_
      obtain ⟨Q52, h⟩ := h
      obtain ⟨g53, h⟩ := h
      refine jy_callV hS rfl rfl rfl (Nat.le_of_ble_eq_true rfl) (Or.inl g39) g53 (by decide) ⟨by decide, by decide⟩ (Nat.le_of_ble_eq_true rfl) ?_ ?_
      rotate_left
      · exact fun Ex Xx Ix Rx hp => hp.2.2.2.elim
      intro rv Xx I54 Rx hp
      obtain ⟨e1, e2, hp⟩ := hp
      rw [e1, e2]
      clear e1 e2
      obtain ⟨r55, e1, h⟩ := h rv I54 hp
      rw [e1]
      clear e1
      change J 123 [jy r55, jy (l3 + r47)] _ (0, 0) _ _ _
      refine jy_iadd hS rfl ?_
      refine jy_istore_n hS rfl (Nat.le_of_ble_eq_true rfl) (L' := [some (.ref a0), some (jy a1), some (jy a2), some (jy ((l3 + r47) + r55)), some (jy l4)]) rfl ?_
      refine jy_iinc hS rfl rfl (L' := [some (.ref a0), some (jy a1), some (jy a2), some (jy ((l3 + r47) + r55)), some (jy (l4 + 1))]) rfl ?_
      refine jy_goto hS rfl ?_
      exact jy_join hS h rfl (jy_sub_s (jy_sub_s (jy_sub_s (jy_sub_s (jy_sub_s jy_sub_0)))))
theorem jt_178 : jx_ml 178 = 4 ∧ jx_rt 178 = some .int ∧ jx_hz 178 = [] ∧ decide ((jx_nm 178).name = "<init>") = false ∧ jx_code 178 = jx_c178 := by decide +kernel
/-- GC.plan, from 28 -/
def wz_178_28 (V : jx_V) (X : jx_X) (Q : Option Value → jx_I → jx_R → Prop) (QE : String → jx_I → jx_R → Prop) (J28 : Nat → Int → jx_I → jx_R → Prop) (a0 : Nat) (a1 : Int) (s0 : Nat) (s1 : Int) (I : jx_I) (R : jx_R) : Prop :=
  (X.2.1 s0 = some (11, 0)) ∧ (
  ∃ Q6 : Option Value → jx_I → Prop, (
  ∃ E7 : String → jx_I → Prop, (
  (jc V 8 189 (1, 6) [.ref s0, jy s1] X I R Q6 E7) ∧ (
  (∀ Ex Ix, E7 Ex Ix → QE Ex Ix R) ∧ (
  ∀ rv I10, Q6 rv I10 → rv = none ∧ (
  (X.2.1 a0 = some (11, 0)) ∧ (
  ∃ q13 : Nat, (
  (R a0 0 = some q13) ∧ (
  (X.2.1 q13 = some (8, 0)) ∧ (
  ∃ Q16 : Option Value → jx_I → Prop, (
  (jc V 2 104 (0, 0) [.ref q13, jy a1] X I10 R Q16 (fun _ _ => False)) ∧ (
  ∀ rv I18, Q16 rv I18 → rv = none ∧ (
  ∃ q20 : Nat, (
  (R a0 14 = some q20) ∧ (
  (X.2.1 q20 = some (4, 0)) ∧ (
  ∃ Q23 : Option Value → jx_I → Prop, (
  (jc V 1 55 (0, 0) [.ref q20] X I18 R Q23 (fun _ _ => False)) ∧ (
  ∀ rv I25, Q23 rv I25 → rv = none ∧ (
  ∃ q27 : Nat, (
  (R a0 11 = some q27) ∧ (
  ∃ d30 : Nat, d30 < 201 ∧ (
  ∃ Q29 : Option Value → jx_I → Prop, (
  (jc V d30 56 (0, 0) [.ref q20, .ref q13, .ref q27, jy 0] X I25 R Q29 (fun _ _ => False)) ∧ (
  ∀ rv I33, Q29 rv I33 → ∃ r34 : Int, rv = some (jy r34) ∧ (
  ∃ Q35 : Option Value → jx_I → Prop, (
  (jc V 1 105 (0, 0) [.ref q13] X I33 R Q35 (fun _ _ => False)) ∧ (
  ∀ rv I37, Q35 rv I37 → rv = none ∧ (
  (-2147483648 ≤ r34 ∧ r34 < 2147483648) ∧ (
  (r34 ≠ 0 → (
    ∃ q40 : Nat, (
    (R a0 13 = some q40) ∧ (
    ∀ R42 : jx_R, R42 = jx_u R a0 13 (some q20) → (
    ∀ R43 : jx_R, R43 = jx_u R42 a0 14 (some q40) → (
    ∃ q44 : Nat, (
    (R43 a0 13 = some q44) ∧ (
    (X.2.1 q44 = some (4, 0)) ∧ (
    Q (some (jy ((I37 q44 11).toInt))) I37 R43)))))))
  )) ∧ (r34 = 0 → (
    Q (some (jy ((I37 q13 7).toInt - 10))) I37 R
  )))))))))))))))))))))))))))))))
/-- GC.plan -/
def wz_178 (V : jx_V) (X : jx_X) (Q : Option Value → jx_I → jx_R → Prop) (QE : String → jx_I → jx_R → Prop) (J28 : Nat → Int → jx_I → jx_R → Prop) (a0 : Nat) (a1 : Int) (I : jx_I) (R : jx_R) : Prop :=
  (a1 < 0 → (
    J28 a0 0 I R
  )) ∧ (¬ a1 < 0 → (
    (X.2.1 a0 = some (11, 0)) ∧ (
    ∃ q2 : Nat, (
    (R a0 0 = some q2) ∧ (
    (X.2.1 q2 = some (8, 0)) ∧ (
    ((I q2 1).toInt < a1 → (
      J28 a0 0 I R
    )) ∧ (¬ (I q2 1).toInt < a1 → (
      (200 < a1 → (
        J28 a0 0 I R
      )) ∧ (¬ 200 < a1 → (
        J28 a0 1 I R
      ))
    ))))))
  ))
set_option maxRecDepth 20000 in
theorem wm_178 {V : jx_V} (hV : V.1.stackTraces = false) {X : jx_X} {R : jx_R} {I : jx_I} {Q : Option Value → jx_I → jx_R → Prop} {QE : String → jx_I → jx_R → Prop} {a0 : Nat} {a1 : Int} (r_a1 : -2147483648 ≤ a1 ∧ a1 < 2147483648) 
    (h : ∀ (J28 : Nat → Int → jx_I → jx_R → Prop), ((∀ (s0 : Nat) (s1 : Int) I R, wz_178_28 V X Q QE J28 a0 a1 s0 s1 I R → J28 s0 s1 I R)) → wz_178 V X Q QE J28 a0 a1 I R) : jd V 201 178 (1, 6) [.ref a0, jy a1] X I R Q QE := by
  refine jy_met hV (by decide) (n := 4) (rt := some .int) (hh := []) (ini := false) (C := jx_c178) (L := [some (.ref a0), some (jy a1), none, none]) jt_178 (Nat.le_of_ble_eq_true rfl) rfl ?_
  intro J hS
  have h := h (fun s0 s1 I R => J 28 [jy s1, .ref s0] [some (.ref a0), some (jy a1), none, none] (1, 6) X I R) ?_
  · unfold wz_178 at h
    refine jy_aload_n hS rfl rfl ?_
    refine jy_iload_n hS rfl rfl ?_
    refine jy_if_lt hS rfl r_a1 (fun hq => ?_) (fun hq => ?_)
    · have h := h.1 hq
      refine jy_iconst hS rfl ?_
      exact jy_join hS h rfl (jy_sub_s (jy_sub_s (jy_sub_n (jy_sub_n jy_sub_0))))
    · have h := h.2 hq
      refine jy_iload_n hS rfl rfl ?_
      refine jy_aload_n hS rfl rfl ?_
      obtain ⟨g1, h⟩ := h
      obtain ⟨q2, h⟩ := h
      obtain ⟨g3, h⟩ := h
      refine jy_getR hS rfl (by decide) g1 g3 ?_
      obtain ⟨g4, h⟩ := h
      refine jy_getI hS rfl (by decide) g4 ?_
      refine jy_icmp_gt hS rfl ⟨r_a1, (jy_rng _)⟩ (fun hq => ?_) (fun hq => ?_)
      · have h := h.1 hq
        refine jy_iconst hS rfl ?_
        exact jy_join hS h rfl (jy_sub_s (jy_sub_s (jy_sub_n (jy_sub_n jy_sub_0))))
      · have h := h.2 hq
        refine jy_iload_n hS rfl rfl ?_
        refine jy_sipush hS rfl (by decide) ?_
        refine jy_icmp_gt hS rfl ⟨r_a1, ⟨by decide, by decide⟩⟩ (fun hq => ?_) (fun hq => ?_)
        · have h := h.1 hq
          refine jy_iconst hS rfl ?_
          exact jy_join hS h rfl (jy_sub_s (jy_sub_s (jy_sub_n (jy_sub_n jy_sub_0))))
        · have h := h.2 hq
          refine jy_iconst hS rfl ?_
          refine jy_goto hS rfl ?_
          exact jy_join hS h rfl (jy_sub_s (jy_sub_s (jy_sub_n (jy_sub_n jy_sub_0))))
  · intro s0 s1 I R h
    unfold wz_178_28 at h
    obtain ⟨g5, h⟩ := h
    obtain ⟨Q6, h⟩ := h
    obtain ⟨E7, h⟩ := h
    obtain ⟨g8, h⟩ := h
    obtain ⟨g9, h⟩ := h
    refine jy_callV hS rfl rfl rfl (Nat.le_of_ble_eq_true rfl) (Or.inl g5) g8 (by decide) ⟨by decide, by decide⟩ (Nat.le_of_ble_eq_true rfl) ?_ ?_
    rotate_left
    · exact fun Ex Xx Ix Rx hp => ⟨hp.1, hp.2.1, by rw [hp.2.2.1]; exact g9 _ _ hp.2.2.2⟩
    intro rv Xx I10 Rx hp
    obtain ⟨e1, e2, hp⟩ := hp
    rw [e1, e2]
    clear e1 e2
    obtain ⟨e1, h⟩ := h rv I10 hp
    rw [e1]
    clear e1
    change J 31 [] _ (0, 0) _ _ _
    refine jy_aload_n hS rfl rfl ?_
    obtain ⟨g12, h⟩ := h
    obtain ⟨q13, h⟩ := h
    obtain ⟨g14, h⟩ := h
    refine jy_getR hS rfl (by decide) g12 g14 ?_
    refine jy_iload_n hS rfl rfl ?_
    obtain ⟨g15, h⟩ := h
    obtain ⟨Q16, h⟩ := h
    obtain ⟨g17, h⟩ := h
    refine jy_callV hS rfl rfl rfl (Nat.le_of_ble_eq_true rfl) (Or.inl g15) g17 (by decide) ⟨by decide, by decide⟩ (Nat.le_of_ble_eq_true rfl) ?_ ?_
    rotate_left
    · exact fun Ex Xx Ix Rx hp => hp.2.2.2.elim
    intro rv Xx I18 Rx hp
    obtain ⟨e1, e2, hp⟩ := hp
    rw [e1, e2]
    clear e1 e2
    obtain ⟨e1, h⟩ := h rv I18 hp
    rw [e1]
    clear e1
    change J 39 [] _ (0, 0) _ _ _
    refine jy_aload_n hS rfl rfl ?_
    obtain ⟨q20, h⟩ := h
    obtain ⟨g21, h⟩ := h
    refine jy_getR hS rfl (by decide) g12 g21 ?_
    obtain ⟨g22, h⟩ := h
    obtain ⟨Q23, h⟩ := h
    obtain ⟨g24, h⟩ := h
    refine jy_callV hS rfl rfl rfl (Nat.le_of_ble_eq_true rfl) (Or.inl g22) g24 (by decide) ⟨by decide, by decide⟩ (Nat.le_of_ble_eq_true rfl) ?_ ?_
    rotate_left
    · exact fun Ex Xx Ix Rx hp => hp.2.2.2.elim
    intro rv Xx I25 Rx hp
    obtain ⟨e1, e2, hp⟩ := hp
    rw [e1, e2]
    clear e1 e2
    obtain ⟨e1, h⟩ := h rv I25 hp
    rw [e1]
    clear e1
    change J 46 [] _ (0, 0) _ _ _
    refine jy_aload_n hS rfl rfl ?_
    refine jy_getR hS rfl (by decide) g12 g21 ?_
    refine jy_aload_n hS rfl rfl ?_
    refine jy_getR hS rfl (by decide) g12 g14 ?_
    refine jy_aload_n hS rfl rfl ?_
    obtain ⟨q27, h⟩ := h
    obtain ⟨g28, h⟩ := h
    refine jy_getR hS rfl (by decide) g12 g28 ?_
    refine jy_iconst hS rfl ?_
    obtain ⟨d30, g31, h⟩ := h
    obtain ⟨Q29, h⟩ := h
    obtain ⟨g32, h⟩ := h
    refine jy_callV hS rfl rfl rfl (Nat.le_of_ble_eq_true rfl) (Or.inl g22) g32 g31 ⟨by decide, by decide⟩ (Nat.le_of_ble_eq_true rfl) ?_ ?_
    rotate_left
    · exact fun Ex Xx Ix Rx hp => hp.2.2.2.elim
    intro rv Xx I33 Rx hp
    obtain ⟨e1, e2, hp⟩ := hp
    rw [e1, e2]
    clear e1 e2
    obtain ⟨r34, e1, h⟩ := h rv I33 hp
    rw [e1]
    clear e1
    change J 62 [jy r34] _ (0, 0) _ _ _
    refine jy_istore_n hS rfl (Nat.le_of_ble_eq_true rfl) (L' := [some (.ref a0), some (jy a1), some (jy r34), none]) rfl ?_
    refine jy_aload_n hS rfl rfl ?_
    refine jy_getR hS rfl (by decide) g12 g14 ?_
    obtain ⟨Q35, h⟩ := h
    obtain ⟨g36, h⟩ := h
    refine jy_callV hS rfl rfl rfl (Nat.le_of_ble_eq_true rfl) (Or.inl g15) g36 (by decide) ⟨by decide, by decide⟩ (Nat.le_of_ble_eq_true rfl) ?_ ?_
    rotate_left
    · exact fun Ex Xx Ix Rx hp => hp.2.2.2.elim
    intro rv Xx I37 Rx hp
    obtain ⟨e1, e2, hp⟩ := hp
    rw [e1, e2]
    clear e1 e2
    obtain ⟨e1, h⟩ := h rv I37 hp
    rw [e1]
    clear e1
    change J 70 [] _ (0, 0) _ _ _
    refine jy_iload_n hS rfl rfl ?_
    obtain ⟨g39, h⟩ := h
    refine jy_if_ne hS rfl g39 (fun hq => ?_) (fun hq => ?_)
    · have h := h.1 hq
      refine jy_aload_n hS rfl rfl ?_
      obtain ⟨q40, h⟩ := h
      obtain ⟨g41, h⟩ := h
      refine jy_getR hS rfl (by decide) g12 g41 ?_
      refine jy_astore_n hS rfl (Nat.le_of_ble_eq_true rfl) (L' := [some (.ref a0), some (jy a1), some (jy r34), some (.ref q40)]) rfl ?_
      refine jy_aload_n hS rfl rfl ?_
      refine jy_aload_n hS rfl rfl ?_
      refine jy_getR hS rfl (by decide) g12 g21 ?_
      refine jy_putR hS rfl (by decide) (by decide) g12 ?_
      intro R42 e9
      have h := h R42 e9
      clear e9
      refine jy_aload_n hS rfl rfl ?_
      refine jy_aload_n hS rfl rfl ?_
      refine jy_putR hS rfl (by decide) (by decide) g12 ?_
      intro R43 e9
      have h := h R43 e9
      clear e9
      refine jy_aload_n hS rfl rfl ?_
      obtain ⟨q44, h⟩ := h
      obtain ⟨g45, h⟩ := h
      refine jy_getR hS rfl (by decide) g12 g45 ?_
      obtain ⟨g46, h⟩ := h
      refine jy_getI hS rfl (by decide) g46 ?_
      exact jy_iret hS rfl rfl ⟨rfl, h⟩
    · have h := h.2 hq
      refine jy_aload_n hS rfl rfl ?_
      refine jy_getR hS rfl (by decide) g12 g14 ?_
      refine jy_getI hS rfl (by decide) g15 ?_
      refine jy_bipush hS rfl (by decide) ?_
      refine jy_isub hS rfl ?_
      exact jy_iret hS rfl rfl ⟨rfl, h⟩
theorem jt_179 : jx_ml 179 = 3 ∧ jx_rt 179 = some .int ∧ jx_hz 179 = [] ∧ decide ((jx_nm 179).name = "<init>") = false ∧ jx_code 179 = jx_c179 := by decide +kernel
/-- GC.run -/
def wz_179 (V : jx_V) (X : jx_X) (Q : Option Value → jx_I → jx_R → Prop) (QE : String → jx_I → jx_R → Prop)  (a0 : Nat) (a1 : Int) (a2 : Int) (I : jx_I) (R : jx_R) : Prop :=
  (X.2.1 a0 = some (11, 0)) ∧ (
  ∃ Q2 : Option Value → jx_I → Prop, (
  ∃ E3 : String → jx_I → Prop, (
  (jc V 8 187 (1, 6) [.ref a0, jy a1] X I R Q2 E3) ∧ (
  (∀ Ex Ix, E3 Ex Ix → QE Ex Ix R) ∧ (
  ∀ rv I6, Q2 rv I6 → rv = none ∧ (
  ∃ Q8 : Option Value → jx_I → Prop, (
  ∃ E9 : String → jx_I → Prop, (
  (jc V 9 190 (1, 6) [.ref a0, jy a2, jy 5] X I6 R Q8 E9) ∧ (
  (∀ Ex Ix, E9 Ex Ix → QE Ex Ix R) ∧ (
  ∀ rv I12, Q8 rv I12 → rv = none ∧ (
  ∃ q14 : Nat, (
  (R a0 5 = some q14) ∧ (
  ∃ q16 : Nat, (
  (R a0 11 = some q16) ∧ (
  ∃ q18 : Nat, (
  (R a0 13 = some q18) ∧ (
  ∃ q20 : Nat, (
  (R a0 2 = some q20) ∧ (
  (X.2.1 q14 = some (6, 0)) ∧ (
  ∃ Q23 : Option Value → jx_I → jx_R → Prop, (
  (jd V 201 85 (0, 0) [.ref q14, .ref q16, .ref q18, .ref q20, jy a1] X I12 R Q23 (fun _ _ _ => False)) ∧ (
  ∀ rv I25 R27, Q23 rv I25 R27 → rv = none ∧ (
  ((a2 < 0 ∨ 4 < a2) → (
    ∃ q28 : Nat, (
    (R27 a0 5 = some q28) ∧ (
    (X.2.1 q28 = some (6, 0)) ∧ (
    ∃ q31 : Nat, (
    (R27 q28 1 = some q31) ∧ (
    (X.2.1 q31 = some (5, 0)) ∧ (
    Q (some (jy ((I25 q31 1).toInt))) I25 R27))))))
  ))
  ∧ (a2 = 0 → (
    ∃ q34 : Nat, (
    (R27 a0 5 = some q34) ∧ (
    (X.2.1 q34 = some (6, 0)) ∧ (
    Q (some (jy ((I25 q34 5).toInt))) I25 R27)))
  ))
  ∧ (a2 = 1 → (
    ∃ q37 : Nat, (
    (R27 a0 5 = some q37) ∧ (
    (X.2.1 q37 = some (6, 0)) ∧ (
    Q (some (jy ((I25 q37 4).toInt))) I25 R27)))
  ))
  ∧ (a2 = 2 → (
    ∃ q40 : Nat, (
    (R27 a0 5 = some q40) ∧ (
    (X.2.1 q40 = some (6, 0)) ∧ (
    Q (some (jy ((I25 q40 6).toInt))) I25 R27)))
  ))
  ∧ (a2 = 3 → (
    ∃ q43 : Nat, (
    (R27 a0 5 = some q43) ∧ (
    (X.2.1 q43 = some (6, 0)) ∧ (
    Q (some (jy ((I25 q43 7).toInt))) I25 R27)))
  ))
  ∧ (a2 = 4 → (
    ∃ q46 : Nat, (
    (R27 a0 5 = some q46) ∧ (
    (X.2.1 q46 = some (6, 0)) ∧ (
    ((I25 q46 8).toInt = 0 → (
      Q (some (jy 0)) I25 R27
    )) ∧ (¬ (I25 q46 8).toInt = 0 → (
      Q (some (jy 1)) I25 R27
    )))))
  )))))))))))))))))))))))))
set_option maxRecDepth 20000 in
theorem wm_179 {V : jx_V} (hV : V.1.stackTraces = false) {X : jx_X} {R : jx_R} {I : jx_I} {Q : Option Value → jx_I → jx_R → Prop} {QE : String → jx_I → jx_R → Prop} {a0 : Nat} {a1 : Int} {a2 : Int} (r_a1 : -2147483648 ≤ a1 ∧ a1 < 2147483648) (r_a2 : -2147483648 ≤ a2 ∧ a2 < 2147483648) 
    (h : wz_179 V X Q QE  a0 a1 a2 I R) : jd V 202 179 (2, 12) [.ref a0, jy a1, jy a2] X I R Q QE := by
  refine jy_met hV (by decide) (n := 3) (rt := some .int) (hh := []) (ini := false) (C := jx_c179) (L := [some (.ref a0), some (jy a1), some (jy a2)]) jt_179 (Nat.le_of_ble_eq_true rfl) rfl ?_
  intro J hS
  unfold wz_179 at h
  refine jy_aload_n hS rfl rfl ?_
  refine jy_iload_n hS rfl rfl ?_
  obtain ⟨g1, h⟩ := h
  obtain ⟨Q2, h⟩ := h
  obtain ⟨E3, h⟩ := h
  obtain ⟨g4, h⟩ := h
  obtain ⟨g5, h⟩ := h
  refine jy_callV hS rfl rfl rfl (Nat.le_of_ble_eq_true rfl) (Or.inl g1) g4 (by decide) ⟨by decide, by decide⟩ (Nat.le_of_ble_eq_true rfl) ?_ ?_
  rotate_left
  · exact fun Ex Xx Ix Rx hp => ⟨hp.1, hp.2.1, by rw [hp.2.2.1]; exact g5 _ _ hp.2.2.2⟩
  intro rv Xx I6 Rx hp
  obtain ⟨e1, e2, hp⟩ := hp
  rw [e1, e2]
  clear e1 e2
  obtain ⟨e1, h⟩ := h rv I6 hp
  rw [e1]
  clear e1
  change J 5 [] _ (1, 6) _ _ _
  refine jy_aload_n hS rfl rfl ?_
  refine jy_iload_n hS rfl rfl ?_
  refine jy_iconst hS rfl ?_
  obtain ⟨Q8, h⟩ := h
  obtain ⟨E9, h⟩ := h
  obtain ⟨g10, h⟩ := h
  obtain ⟨g11, h⟩ := h
  refine jy_callV hS rfl rfl rfl (Nat.le_of_ble_eq_true rfl) (Or.inl g1) g10 (by decide) ⟨by decide, by decide⟩ (Nat.le_of_ble_eq_true rfl) ?_ ?_
  rotate_left
  · exact fun Ex Xx Ix Rx hp => ⟨hp.1, hp.2.1, by rw [hp.2.2.1]; exact g11 _ _ hp.2.2.2⟩
  intro rv Xx I12 Rx hp
  obtain ⟨e1, e2, hp⟩ := hp
  rw [e1, e2]
  clear e1 e2
  obtain ⟨e1, h⟩ := h rv I12 hp
  rw [e1]
  clear e1
  change J 11 [] _ (0, 0) _ _ _
  refine jy_aload_n hS rfl rfl ?_
  obtain ⟨q14, h⟩ := h
  obtain ⟨g15, h⟩ := h
  refine jy_getR hS rfl (by decide) g1 g15 ?_
  refine jy_aload_n hS rfl rfl ?_
  obtain ⟨q16, h⟩ := h
  obtain ⟨g17, h⟩ := h
  refine jy_getR hS rfl (by decide) g1 g17 ?_
  refine jy_aload_n hS rfl rfl ?_
  obtain ⟨q18, h⟩ := h
  obtain ⟨g19, h⟩ := h
  refine jy_getR hS rfl (by decide) g1 g19 ?_
  refine jy_aload_n hS rfl rfl ?_
  obtain ⟨q20, h⟩ := h
  obtain ⟨g21, h⟩ := h
  refine jy_getR hS rfl (by decide) g1 g21 ?_
  refine jy_iload_n hS rfl rfl ?_
  obtain ⟨g22, h⟩ := h
  obtain ⟨Q23, h⟩ := h
  obtain ⟨g24, h⟩ := h
  refine jy_callV hS rfl rfl rfl (Nat.le_of_ble_eq_true rfl) (Or.inl g22) g24 (by decide) ⟨by decide, by decide⟩ (Nat.le_of_ble_eq_true rfl) ?_ ?_
  rotate_left
  · exact fun Ex Xx Ix Rx hp => hp.2.2.elim
  intro rv Xx I25 R27 hp
  obtain ⟨e1, hp⟩ := hp
  rw [e1]
  clear e1
  obtain ⟨e1, h⟩ := h rv I25 R27 hp
  rw [e1]
  clear e1
  change J 31 [] _ (0, 0) _ _ _
  refine jy_iload_n hS rfl rfl ?_
  refine jy_tsw hS rfl r_a2 (fun hq => ?_) (fun hq8 hq => ?_)
  · have h := h.1 hq
    refine ⟨by decide, ?_⟩
    change J 116 _ _ _ _ _ _
    refine jy_aload_n hS rfl rfl ?_
    obtain ⟨q28, h⟩ := h
    obtain ⟨g29, h⟩ := h
    refine jy_getR hS rfl (by decide) g1 g29 ?_
    obtain ⟨g30, h⟩ := h
    obtain ⟨q31, h⟩ := h
    obtain ⟨g32, h⟩ := h
    refine jy_getR hS rfl (by decide) g30 g32 ?_
    obtain ⟨g33, h⟩ := h
    refine jy_getI hS rfl (by decide) g33 ?_
    exact jy_iret hS rfl rfl ⟨rfl, h⟩
  · have h := h.2
    have hq7 : a2 = 0 ∨ a2 = 1 ∨ a2 = 2 ∨ a2 = 3 ∨ a2 = 4 := by omega
    rcases hq7 with hq7 | hq7 | hq7 | hq7 | hq7
    · have h := h.1 hq7
      refine ⟨36, by rw [hq7]; rfl, by decide, ?_⟩
      change J 68 _ _ _ _ _ _
      refine jy_aload_n hS rfl rfl ?_
      obtain ⟨q34, h⟩ := h
      obtain ⟨g35, h⟩ := h
      refine jy_getR hS rfl (by decide) g1 g35 ?_
      obtain ⟨g36, h⟩ := h
      refine jy_getI hS rfl (by decide) g36 ?_
      exact jy_iret hS rfl rfl ⟨rfl, h⟩
    · have h := h.2.1 hq7
      refine ⟨44, by rw [hq7]; rfl, by decide, ?_⟩
      change J 76 _ _ _ _ _ _
      refine jy_aload_n hS rfl rfl ?_
      obtain ⟨q37, h⟩ := h
      obtain ⟨g38, h⟩ := h
      refine jy_getR hS rfl (by decide) g1 g38 ?_
      obtain ⟨g39, h⟩ := h
      refine jy_getI hS rfl (by decide) g39 ?_
      exact jy_iret hS rfl rfl ⟨rfl, h⟩
    · have h := h.2.2.1 hq7
      refine ⟨52, by rw [hq7]; rfl, by decide, ?_⟩
      change J 84 _ _ _ _ _ _
      refine jy_aload_n hS rfl rfl ?_
      obtain ⟨q40, h⟩ := h
      obtain ⟨g41, h⟩ := h
      refine jy_getR hS rfl (by decide) g1 g41 ?_
      obtain ⟨g42, h⟩ := h
      refine jy_getI hS rfl (by decide) g42 ?_
      exact jy_iret hS rfl rfl ⟨rfl, h⟩
    · have h := h.2.2.2.1 hq7
      refine ⟨60, by rw [hq7]; rfl, by decide, ?_⟩
      change J 92 _ _ _ _ _ _
      refine jy_aload_n hS rfl rfl ?_
      obtain ⟨q43, h⟩ := h
      obtain ⟨g44, h⟩ := h
      refine jy_getR hS rfl (by decide) g1 g44 ?_
      obtain ⟨g45, h⟩ := h
      refine jy_getI hS rfl (by decide) g45 ?_
      exact jy_iret hS rfl rfl ⟨rfl, h⟩
    · have h := h.2.2.2.2 hq7
      refine ⟨68, by rw [hq7]; rfl, by decide, ?_⟩
      change J 100 _ _ _ _ _ _
      refine jy_aload_n hS rfl rfl ?_
      obtain ⟨q46, h⟩ := h
      obtain ⟨g47, h⟩ := h
      refine jy_getR hS rfl (by decide) g1 g47 ?_
      obtain ⟨g48, h⟩ := h
      refine jy_getI hS rfl (by decide) g48 ?_
      refine jy_if_eq hS rfl (jy_rng _) (fun hq => ?_) (fun hq => ?_)
      · have h := h.1 hq
        refine jy_iconst hS rfl ?_
        exact jy_iret hS rfl rfl ⟨rfl, h⟩
      · have h := h.2 hq
        refine jy_iconst hS rfl ?_
        refine jy_goto hS rfl ?_
        exact jy_iret hS rfl rfl ⟨rfl, h⟩
theorem jt_180 : jx_ml 180 = 4 ∧ jx_rt 180 = some .int ∧ jx_hz 180 = [] ∧ decide ((jx_nm 180).name = "<init>") = false ∧ jx_code 180 = jx_c180 := by decide +kernel
/-- GC.ran -/
def wz_180 (V : jx_V) (X : jx_X) (Q : Option Value → jx_I → jx_R → Prop) (QE : String → jx_I → jx_R → Prop)  (a0 : Nat) (a1 : Int) (a2 : Int) (a3 : Int) (I : jx_I) (R : jx_R) : Prop :=
  (X.2.1 a0 = some (11, 0)) ∧ (
  ∃ Q2 : Option Value → jx_I → Prop, (
  ∃ E3 : String → jx_I → Prop, (
  (jc V 8 187 (1, 6) [.ref a0, jy a1] X I R Q2 E3) ∧ (
  (∀ Ex Ix, E3 Ex Ix → QE Ex Ix R) ∧ (
  ∀ rv I6, Q2 rv I6 → rv = none ∧ (
  ∃ Q8 : Option Value → jx_I → Prop, (
  ∃ E9 : String → jx_I → Prop, (
  (jc V 8 187 (1, 6) [.ref a0, jy a2] X I6 R Q8 E9) ∧ (
  (∀ Ex Ix, E9 Ex Ix → QE Ex Ix R) ∧ (
  ∀ rv I12, Q8 rv I12 → rv = none ∧ (
  ∃ Q14 : Option Value → jx_I → Prop, (
  ∃ E15 : String → jx_I → Prop, (
  (jc V 8 188 (1, 6) [.ref a0, jy a3] X I12 R Q14 E15) ∧ (
  (∀ Ex Ix, E15 Ex Ix → QE Ex Ix R) ∧ (
  ∀ rv I18, Q14 rv I18 → rv = none ∧ (
  ∃ q20 : Nat, (
  (R a0 5 = some q20) ∧ (
  ∃ q22 : Nat, (
  (R a0 11 = some q22) ∧ (
  ∃ q24 : Nat, (
  (R a0 13 = some q24) ∧ (
  ∃ q26 : Nat, (
  (R a0 2 = some q26) ∧ (
  (X.2.1 q20 = some (6, 0)) ∧ (
  ∃ Q29 : Option Value → jx_I → jx_R → Prop, (
  (jd V 201 85 (0, 0) [.ref q20, .ref q22, .ref q24, .ref q26, jy a1] X I18 R Q29 (fun _ _ _ => False)) ∧ (
  ∀ rv I31 R33, Q29 rv I31 R33 → rv = none ∧ (
  ∃ q34 : Nat, (
  (R33 a0 5 = some q34) ∧ (
  (X.2.1 q34 = some (6, 0)) ∧ (
  ∃ q37 : Nat, (
  (R33 q34 0 = some q37) ∧ (
  (X.2.1 q37 = some (1, 0)) ∧ (
  ∃ Q40 : Option Value → jx_I → Prop, (
  (jc V 1 11 (0, 0) [.ref q37, jy a2, jy a3] X I31 R33 Q40 (fun _ _ => False)) ∧ (
  ∀ rv I42, Q40 rv I42 → ∃ r43 : Int, rv = some (jy r43) ∧ (
  Q (some (jy r43)) I42 R33)))))))))))))))))))))))))))))))))))))
set_option maxRecDepth 20000 in
theorem wm_180 {V : jx_V} (hV : V.1.stackTraces = false) {X : jx_X} {R : jx_R} {I : jx_I} {Q : Option Value → jx_I → jx_R → Prop} {QE : String → jx_I → jx_R → Prop} {a0 : Nat} {a1 : Int} {a2 : Int} {a3 : Int} (r_a1 : -2147483648 ≤ a1 ∧ a1 < 2147483648) (r_a2 : -2147483648 ≤ a2 ∧ a2 < 2147483648) (r_a3 : -2147483648 ≤ a3 ∧ a3 < 2147483648) 
    (h : wz_180 V X Q QE  a0 a1 a2 a3 I R) : jd V 202 180 (3, 18) [.ref a0, jy a1, jy a2, jy a3] X I R Q QE := by
  refine jy_met hV (by decide) (n := 4) (rt := some .int) (hh := []) (ini := false) (C := jx_c180) (L := [some (.ref a0), some (jy a1), some (jy a2), some (jy a3)]) jt_180 (Nat.le_of_ble_eq_true rfl) rfl ?_
  intro J hS
  unfold wz_180 at h
  refine jy_aload_n hS rfl rfl ?_
  refine jy_iload_n hS rfl rfl ?_
  obtain ⟨g1, h⟩ := h
  obtain ⟨Q2, h⟩ := h
  obtain ⟨E3, h⟩ := h
  obtain ⟨g4, h⟩ := h
  obtain ⟨g5, h⟩ := h
  refine jy_callV hS rfl rfl rfl (Nat.le_of_ble_eq_true rfl) (Or.inl g1) g4 (by decide) ⟨by decide, by decide⟩ (Nat.le_of_ble_eq_true rfl) ?_ ?_
  rotate_left
  · exact fun Ex Xx Ix Rx hp => ⟨hp.1, hp.2.1, by rw [hp.2.2.1]; exact g5 _ _ hp.2.2.2⟩
  intro rv Xx I6 Rx hp
  obtain ⟨e1, e2, hp⟩ := hp
  rw [e1, e2]
  clear e1 e2
  obtain ⟨e1, h⟩ := h rv I6 hp
  rw [e1]
  clear e1
  change J 5 [] _ (2, 12) _ _ _
  refine jy_aload_n hS rfl rfl ?_
  refine jy_iload_n hS rfl rfl ?_
  obtain ⟨Q8, h⟩ := h
  obtain ⟨E9, h⟩ := h
  obtain ⟨g10, h⟩ := h
  obtain ⟨g11, h⟩ := h
  refine jy_callV hS rfl rfl rfl (Nat.le_of_ble_eq_true rfl) (Or.inl g1) g10 (by decide) ⟨by decide, by decide⟩ (Nat.le_of_ble_eq_true rfl) ?_ ?_
  rotate_left
  · exact fun Ex Xx Ix Rx hp => ⟨hp.1, hp.2.1, by rw [hp.2.2.1]; exact g11 _ _ hp.2.2.2⟩
  intro rv Xx I12 Rx hp
  obtain ⟨e1, e2, hp⟩ := hp
  rw [e1, e2]
  clear e1 e2
  obtain ⟨e1, h⟩ := h rv I12 hp
  rw [e1]
  clear e1
  change J 10 [] _ (1, 6) _ _ _
  refine jy_aload_n hS rfl rfl ?_
  refine jy_iload_n hS rfl rfl ?_
  obtain ⟨Q14, h⟩ := h
  obtain ⟨E15, h⟩ := h
  obtain ⟨g16, h⟩ := h
  obtain ⟨g17, h⟩ := h
  refine jy_callV hS rfl rfl rfl (Nat.le_of_ble_eq_true rfl) (Or.inl g1) g16 (by decide) ⟨by decide, by decide⟩ (Nat.le_of_ble_eq_true rfl) ?_ ?_
  rotate_left
  · exact fun Ex Xx Ix Rx hp => ⟨hp.1, hp.2.1, by rw [hp.2.2.1]; exact g17 _ _ hp.2.2.2⟩
  intro rv Xx I18 Rx hp
  obtain ⟨e1, e2, hp⟩ := hp
  rw [e1, e2]
  clear e1 e2
  obtain ⟨e1, h⟩ := h rv I18 hp
  rw [e1]
  clear e1
  change J 15 [] _ (0, 0) _ _ _
  refine jy_aload_n hS rfl rfl ?_
  obtain ⟨q20, h⟩ := h
  obtain ⟨g21, h⟩ := h
  refine jy_getR hS rfl (by decide) g1 g21 ?_
  refine jy_aload_n hS rfl rfl ?_
  obtain ⟨q22, h⟩ := h
  obtain ⟨g23, h⟩ := h
  refine jy_getR hS rfl (by decide) g1 g23 ?_
  refine jy_aload_n hS rfl rfl ?_
  obtain ⟨q24, h⟩ := h
  obtain ⟨g25, h⟩ := h
  refine jy_getR hS rfl (by decide) g1 g25 ?_
  refine jy_aload_n hS rfl rfl ?_
  obtain ⟨q26, h⟩ := h
  obtain ⟨g27, h⟩ := h
  refine jy_getR hS rfl (by decide) g1 g27 ?_
  refine jy_iload_n hS rfl rfl ?_
  obtain ⟨g28, h⟩ := h
  obtain ⟨Q29, h⟩ := h
  obtain ⟨g30, h⟩ := h
  refine jy_callV hS rfl rfl rfl (Nat.le_of_ble_eq_true rfl) (Or.inl g28) g30 (by decide) ⟨by decide, by decide⟩ (Nat.le_of_ble_eq_true rfl) ?_ ?_
  rotate_left
  · exact fun Ex Xx Ix Rx hp => hp.2.2.elim
  intro rv Xx I31 R33 hp
  obtain ⟨e1, hp⟩ := hp
  rw [e1]
  clear e1
  obtain ⟨e1, h⟩ := h rv I31 R33 hp
  rw [e1]
  clear e1
  change J 35 [] _ (0, 0) _ _ _
  refine jy_aload_n hS rfl rfl ?_
  obtain ⟨q34, h⟩ := h
  obtain ⟨g35, h⟩ := h
  refine jy_getR hS rfl (by decide) g1 g35 ?_
  obtain ⟨g36, h⟩ := h
  obtain ⟨q37, h⟩ := h
  obtain ⟨g38, h⟩ := h
  refine jy_getR hS rfl (by decide) g36 g38 ?_
  refine jy_iload_n hS rfl rfl ?_
  refine jy_iload_n hS rfl rfl ?_
  obtain ⟨g39, h⟩ := h
  obtain ⟨Q40, h⟩ := h
  obtain ⟨g41, h⟩ := h
  refine jy_callV hS rfl rfl rfl (Nat.le_of_ble_eq_true rfl) (Or.inl g39) g41 (by decide) ⟨by decide, by decide⟩ (Nat.le_of_ble_eq_true rfl) ?_ ?_
  rotate_left
  · exact fun Ex Xx Ix Rx hp => hp.2.2.2.elim
  intro rv Xx I42 Rx hp
  obtain ⟨e1, e2, hp⟩ := hp
  rw [e1, e2]
  clear e1 e2
  obtain ⟨r43, e1, h⟩ := h rv I42 hp
  rw [e1]
  clear e1
  change J 47 [jy r43] _ (0, 0) _ _ _
  exact jy_iret hS rfl rfl ⟨rfl, h⟩
theorem jt_181 : jx_ml 181 = 3 ∧ jx_rt 181 = some .int ∧ jx_hz 181 = [] ∧ decide ((jx_nm 181).name = "<init>") = false ∧ jx_code 181 = jx_c181 := by decide +kernel
/-- GC.ranRow -/
def wz_181 (V : jx_V) (X : jx_X) (Q : Option Value → jx_I → jx_R → Prop) (QE : String → jx_I → jx_R → Prop)  (a0 : Nat) (a1 : Int) (a2 : Int) (I : jx_I) (R : jx_R) : Prop :=
  (X.2.1 a0 = some (11, 0)) ∧ (
  ∃ Q2 : Option Value → jx_I → Prop, (
  ∃ E3 : String → jx_I → Prop, (
  (jc V 8 187 (1, 6) [.ref a0, jy a1] X I R Q2 E3) ∧ (
  (∀ Ex Ix, E3 Ex Ix → QE Ex Ix R) ∧ (
  ∀ rv I6, Q2 rv I6 → rv = none ∧ (
  ∃ q8 : Nat, (
  (R a0 5 = some q8) ∧ (
  ∃ q10 : Nat, (
  (R a0 11 = some q10) ∧ (
  ∃ q12 : Nat, (
  (R a0 13 = some q12) ∧ (
  ∃ q14 : Nat, (
  (R a0 2 = some q14) ∧ (
  (X.2.1 q8 = some (6, 0)) ∧ (
  ∃ Q17 : Option Value → jx_I → jx_R → Prop, (
  (jd V 201 85 (0, 0) [.ref q8, .ref q10, .ref q12, .ref q14, jy a1] X I6 R Q17 (fun _ _ _ => False)) ∧ (
  ∀ rv I19 R21, Q17 rv I19 R21 → rv = none ∧ (
  ∃ q22 : Nat, (
  (R21 a0 5 = some q22) ∧ (
  (X.2.1 q22 = some (6, 0)) ∧ (
  ∃ q25 : Nat, (
  (R21 q22 1 = some q25) ∧ (
  (X.2.1 q25 = some (5, 0)) ∧ (
  ∃ Q28 : Option Value → jx_I → Prop, (
  (jc V 1 73 (0, 0) [.ref q25, jy a2] X I19 R21 Q28 (fun _ _ => False)) ∧ (
  ∀ rv I30, Q28 rv I30 → ∃ r31 : Int, rv = some (jy r31) ∧ (
  Q (some (jy r31)) I30 R21)))))))))))))))))))))))))))
set_option maxRecDepth 20000 in
theorem wm_181 {V : jx_V} (hV : V.1.stackTraces = false) {X : jx_X} {R : jx_R} {I : jx_I} {Q : Option Value → jx_I → jx_R → Prop} {QE : String → jx_I → jx_R → Prop} {a0 : Nat} {a1 : Int} {a2 : Int} (r_a1 : -2147483648 ≤ a1 ∧ a1 < 2147483648) (r_a2 : -2147483648 ≤ a2 ∧ a2 < 2147483648) 
    (h : wz_181 V X Q QE  a0 a1 a2 I R) : jd V 202 181 (1, 6) [.ref a0, jy a1, jy a2] X I R Q QE := by
  refine jy_met hV (by decide) (n := 3) (rt := some .int) (hh := []) (ini := false) (C := jx_c181) (L := [some (.ref a0), some (jy a1), some (jy a2)]) jt_181 (Nat.le_of_ble_eq_true rfl) rfl ?_
  intro J hS
  unfold wz_181 at h
  refine jy_aload_n hS rfl rfl ?_
  refine jy_iload_n hS rfl rfl ?_
  obtain ⟨g1, h⟩ := h
  obtain ⟨Q2, h⟩ := h
  obtain ⟨E3, h⟩ := h
  obtain ⟨g4, h⟩ := h
  obtain ⟨g5, h⟩ := h
  refine jy_callV hS rfl rfl rfl (Nat.le_of_ble_eq_true rfl) (Or.inl g1) g4 (by decide) ⟨by decide, by decide⟩ (Nat.le_of_ble_eq_true rfl) ?_ ?_
  rotate_left
  · exact fun Ex Xx Ix Rx hp => ⟨hp.1, hp.2.1, by rw [hp.2.2.1]; exact g5 _ _ hp.2.2.2⟩
  intro rv Xx I6 Rx hp
  obtain ⟨e1, e2, hp⟩ := hp
  rw [e1, e2]
  clear e1 e2
  obtain ⟨e1, h⟩ := h rv I6 hp
  rw [e1]
  clear e1
  change J 5 [] _ (0, 0) _ _ _
  refine jy_aload_n hS rfl rfl ?_
  obtain ⟨q8, h⟩ := h
  obtain ⟨g9, h⟩ := h
  refine jy_getR hS rfl (by decide) g1 g9 ?_
  refine jy_aload_n hS rfl rfl ?_
  obtain ⟨q10, h⟩ := h
  obtain ⟨g11, h⟩ := h
  refine jy_getR hS rfl (by decide) g1 g11 ?_
  refine jy_aload_n hS rfl rfl ?_
  obtain ⟨q12, h⟩ := h
  obtain ⟨g13, h⟩ := h
  refine jy_getR hS rfl (by decide) g1 g13 ?_
  refine jy_aload_n hS rfl rfl ?_
  obtain ⟨q14, h⟩ := h
  obtain ⟨g15, h⟩ := h
  refine jy_getR hS rfl (by decide) g1 g15 ?_
  refine jy_iload_n hS rfl rfl ?_
  obtain ⟨g16, h⟩ := h
  obtain ⟨Q17, h⟩ := h
  obtain ⟨g18, h⟩ := h
  refine jy_callV hS rfl rfl rfl (Nat.le_of_ble_eq_true rfl) (Or.inl g16) g18 (by decide) ⟨by decide, by decide⟩ (Nat.le_of_ble_eq_true rfl) ?_ ?_
  rotate_left
  · exact fun Ex Xx Ix Rx hp => hp.2.2.elim
  intro rv Xx I19 R21 hp
  obtain ⟨e1, hp⟩ := hp
  rw [e1]
  clear e1
  obtain ⟨e1, h⟩ := h rv I19 R21 hp
  rw [e1]
  clear e1
  change J 25 [] _ (0, 0) _ _ _
  refine jy_aload_n hS rfl rfl ?_
  obtain ⟨q22, h⟩ := h
  obtain ⟨g23, h⟩ := h
  refine jy_getR hS rfl (by decide) g1 g23 ?_
  obtain ⟨g24, h⟩ := h
  obtain ⟨q25, h⟩ := h
  obtain ⟨g26, h⟩ := h
  refine jy_getR hS rfl (by decide) g24 g26 ?_
  refine jy_iload_n hS rfl rfl ?_
  obtain ⟨g27, h⟩ := h
  obtain ⟨Q28, h⟩ := h
  obtain ⟨g29, h⟩ := h
  refine jy_callV hS rfl rfl rfl (Nat.le_of_ble_eq_true rfl) (Or.inl g27) g29 (by decide) ⟨by decide, by decide⟩ (Nat.le_of_ble_eq_true rfl) ?_ ?_
  rotate_left
  · exact fun Ex Xx Ix Rx hp => hp.2.2.2.elim
  intro rv Xx I30 Rx hp
  obtain ⟨e1, e2, hp⟩ := hp
  rw [e1, e2]
  clear e1 e2
  obtain ⟨r31, e1, h⟩ := h rv I30 hp
  rw [e1]
  clear e1
  change J 36 [jy r31] _ (0, 0) _ _ _
  exact jy_iret hS rfl rfl ⟨rfl, h⟩
theorem jt_182 : jx_ml 182 = 4 ∧ jx_rt 182 = some .int ∧ jx_hz 182 = [] ∧ decide ((jx_nm 182).name = "<init>") = false ∧ jx_code 182 = jx_c182 := by decide +kernel
/-- GC.begin, from 6 -/
def wz_182_6 (V : jx_V) (X : jx_X) (Q : Option Value → jx_I → jx_R → Prop) (QE : String → jx_I → jx_R → Prop) (J6 : Int → Int → Int → jx_I → jx_R → Prop) (J62 : Int → Int → Int → jx_I → jx_R → Prop) (a0 : Nat) (l1 : Int) (l2 : Int) (l3 : Int) (I : jx_I) (R : jx_R) : Prop :=
  (X.2.1 a0 = some (11, 0)) ∧ (
  ∃ q2 : Nat, (
  (R a0 11 = some q2) ∧ (
  (X.2.1 q2 = some (2, 0)) ∧ (
  (-2147483648 ≤ l3 ∧ l3 < 2147483648) ∧ (
  ((I q2 7).toInt ≤ l3 → (
    Q (some (jy l1)) I R
  )) ∧ (¬ (I q2 7).toInt ≤ l3 → (
    ∃ q6 : Nat, (
    (R a0 5 = some q6) ∧ (
    ∃ q8 : Nat, (
    (R a0 13 = some q8) ∧ (
    ∃ q10 : Nat, (
    (R a0 2 = some q10) ∧ (
    (X.2.1 q6 = some (6, 0)) ∧ (
    ∃ Q13 : Option Value → jx_I → jx_R → Prop, (
    (jd V 201 85 (0, 0) [.ref q6, .ref q2, .ref q8, .ref q10, jy l3] X I R Q13 (fun _ _ _ => False)) ∧ (
    ∀ rv I15 R17, Q13 rv I15 R17 → rv = none ∧ (
    (-2147483648 ≤ l1 ∧ l1 < 2147483648) ∧ (
    (l1 < 0 → (
      ∃ q19 : Nat, (
      (R17 a0 5 = some q19) ∧ (
      (X.2.1 q19 = some (6, 0)) ∧ (
      J62 l3 ((I15 q19 5).toInt) l3 I15 R17)))
    )) ∧ (¬ l1 < 0 → (
      ∃ q22 : Nat, (
      (R17 a0 5 = some q22) ∧ (
      (X.2.1 q22 = some (6, 0)) ∧ (
      (-2147483648 ≤ l2 ∧ l2 < 2147483648) ∧ (
      (l2 ≤ (I15 q22 5).toInt → (
        J6 l1 l2 (l3 + 1) I15 R17
      )) ∧ (¬ l2 ≤ (I15 q22 5).toInt → (
        J62 l3 ((I15 q22 5).toInt) l3 I15 R17
      ))))))
    )))))))))))))
  )))))))
/-- GC.begin, from 62 -/
def wz_182_62 (V : jx_V) (X : jx_X) (Q : Option Value → jx_I → jx_R → Prop) (QE : String → jx_I → jx_R → Prop) (J6 : Int → Int → Int → jx_I → jx_R → Prop) (J62 : Int → Int → Int → jx_I → jx_R → Prop) (a0 : Nat) (l1 : Int) (l2 : Int) (l3 : Int) (I : jx_I) (R : jx_R) : Prop :=
  J6 l1 l2 (l3 + 1) I R
/-- GC.begin -/
def wz_182 (V : jx_V) (X : jx_X) (Q : Option Value → jx_I → jx_R → Prop) (QE : String → jx_I → jx_R → Prop) (J6 : Int → Int → Int → jx_I → jx_R → Prop) (J62 : Int → Int → Int → jx_I → jx_R → Prop) (a0 : Nat) (I : jx_I) (R : jx_R) : Prop :=
  J6 (-1) 0 0 I R
set_option maxRecDepth 20000 in
theorem wm_182 {V : jx_V} (hV : V.1.stackTraces = false) {X : jx_X} {R : jx_R} {I : jx_I} {Q : Option Value → jx_I → jx_R → Prop} {QE : String → jx_I → jx_R → Prop} {a0 : Nat}  
    (h : ∀ (J6 : Int → Int → Int → jx_I → jx_R → Prop) (J62 : Int → Int → Int → jx_I → jx_R → Prop), ((∀ (l1 : Int) (l2 : Int) (l3 : Int) I R, wz_182_6 V X Q QE J6 J62 a0 l1 l2 l3 I R → J6 l1 l2 l3 I R) ∧ (∀ (l1 : Int) (l2 : Int) (l3 : Int) I R, wz_182_62 V X Q QE J6 J62 a0 l1 l2 l3 I R → J62 l1 l2 l3 I R)) → wz_182 V X Q QE J6 J62 a0 I R) : jd V 202 182 (0, 0) [.ref a0] X I R Q QE := by
  refine jy_met hV (by decide) (n := 4) (rt := some .int) (hh := []) (ini := false) (C := jx_c182) (L := [some (.ref a0), none, none, none]) jt_182 (Nat.le_of_ble_eq_true rfl) rfl ?_
  intro J hS
  have h := h (fun l1 l2 l3 I R => J 6 [] [some (.ref a0), some (jy l1), some (jy l2), some (jy l3)] (0, 0) X I R) (fun l1 l2 l3 I R => J 62 [] [some (.ref a0), some (jy l1), some (jy l2), some (jy l3)] (0, 0) X I R) ?_
  · unfold wz_182 at h
    refine jy_iconst hS rfl ?_
    refine jy_istore_n hS rfl (Nat.le_of_ble_eq_true rfl) (L' := [some (.ref a0), some (jy (-1)), none, none]) rfl ?_
    refine jy_iconst hS rfl ?_
    refine jy_istore_n hS rfl (Nat.le_of_ble_eq_true rfl) (L' := [some (.ref a0), some (jy (-1)), some (jy 0), none]) rfl ?_
    refine jy_iconst hS rfl ?_
    refine jy_istore_n hS rfl (Nat.le_of_ble_eq_true rfl) (L' := [some (.ref a0), some (jy (-1)), some (jy 0), some (jy 0)]) rfl ?_
    exact jy_join hS h rfl (jy_sub_s (jy_sub_s (jy_sub_s (jy_sub_s jy_sub_0))))
  refine ⟨?_, ?_⟩
  · intro l1 l2 l3 I R h
    unfold wz_182_6 at h
    refine jy_iload_n hS rfl rfl ?_
    refine jy_aload_n hS rfl rfl ?_
    obtain ⟨g1, h⟩ := h
    obtain ⟨q2, h⟩ := h
    obtain ⟨g3, h⟩ := h
    refine jy_getR hS rfl (by decide) g1 g3 ?_
    obtain ⟨g4, h⟩ := h
    refine jy_getI hS rfl (by decide) g4 ?_
    obtain ⟨g5, h⟩ := h
    refine jy_icmp_ge hS rfl ⟨g5, (jy_rng _)⟩ (fun hq => ?_) (fun hq => ?_)
    · have h := h.1 hq
      refine jy_iload_n hS rfl rfl ?_
      exact jy_iret hS rfl rfl ⟨rfl, h⟩
    · have h := h.2 hq
      refine jy_aload_n hS rfl rfl ?_
      obtain ⟨q6, h⟩ := h
      obtain ⟨g7, h⟩ := h
      refine jy_getR hS rfl (by decide) g1 g7 ?_
      refine jy_aload_n hS rfl rfl ?_
      refine jy_getR hS rfl (by decide) g1 g3 ?_
      refine jy_aload_n hS rfl rfl ?_
      obtain ⟨q8, h⟩ := h
      obtain ⟨g9, h⟩ := h
      refine jy_getR hS rfl (by decide) g1 g9 ?_
      refine jy_aload_n hS rfl rfl ?_
      obtain ⟨q10, h⟩ := h
      obtain ⟨g11, h⟩ := h
      refine jy_getR hS rfl (by decide) g1 g11 ?_
      refine jy_iload_n hS rfl rfl ?_
      obtain ⟨g12, h⟩ := h
      obtain ⟨Q13, h⟩ := h
      obtain ⟨g14, h⟩ := h
      refine jy_callV hS rfl rfl rfl (Nat.le_of_ble_eq_true rfl) (Or.inl g12) g14 (by decide) ⟨by decide, by decide⟩ (Nat.le_of_ble_eq_true rfl) ?_ ?_
      rotate_left
      · exact fun Ex Xx Ix Rx hp => hp.2.2.elim
      intro rv Xx I15 R17 hp
      obtain ⟨e1, hp⟩ := hp
      rw [e1]
      clear e1
      obtain ⟨e1, h⟩ := h rv I15 R17 hp
      rw [e1]
      clear e1
      change J 37 [] _ (0, 0) _ _ _
      refine jy_iload_n hS rfl rfl ?_
      obtain ⟨g18, h⟩ := h
      refine jy_if_lt hS rfl g18 (fun hq => ?_) (fun hq => ?_)
      · have h := h.1 hq
        refine jy_iload_n hS rfl rfl ?_
        refine jy_istore_n hS rfl (Nat.le_of_ble_eq_true rfl) (L' := [some (.ref a0), some (jy l3), some (jy l2), some (jy l3)]) rfl ?_
        refine jy_aload_n hS rfl rfl ?_
        obtain ⟨q19, h⟩ := h
        obtain ⟨g20, h⟩ := h
        refine jy_getR hS rfl (by decide) g1 g20 ?_
        obtain ⟨g21, h⟩ := h
        refine jy_getI hS rfl (by decide) g21 ?_
        refine jy_istore_n hS rfl (Nat.le_of_ble_eq_true rfl) (L' := [some (.ref a0), some (jy l3), some (jy ((I15 q19 5).toInt)), some (jy l3)]) rfl ?_
        exact jy_join hS h rfl (jy_sub_s (jy_sub_s (jy_sub_s (jy_sub_s jy_sub_0))))
      · have h := h.2 hq
        refine jy_aload_n hS rfl rfl ?_
        obtain ⟨q22, h⟩ := h
        obtain ⟨g23, h⟩ := h
        refine jy_getR hS rfl (by decide) g1 g23 ?_
        obtain ⟨g24, h⟩ := h
        refine jy_getI hS rfl (by decide) g24 ?_
        refine jy_iload_n hS rfl rfl ?_
        obtain ⟨g25, h⟩ := h
        refine jy_icmp_ge hS rfl ⟨(jy_rng _), g25⟩ (fun hq => ?_) (fun hq => ?_)
        · have h := h.1 hq
          refine jy_iinc hS rfl rfl (L' := [some (.ref a0), some (jy l1), some (jy l2), some (jy (l3 + 1))]) rfl ?_
          refine jy_goto hS rfl ?_
          exact jy_join hS h rfl (jy_sub_s (jy_sub_s (jy_sub_s (jy_sub_s jy_sub_0))))
        · have h := h.2 hq
          refine jy_iload_n hS rfl rfl ?_
          refine jy_istore_n hS rfl (Nat.le_of_ble_eq_true rfl) (L' := [some (.ref a0), some (jy l3), some (jy l2), some (jy l3)]) rfl ?_
          refine jy_aload_n hS rfl rfl ?_
          refine jy_getR hS rfl (by decide) g1 g23 ?_
          refine jy_getI hS rfl (by decide) g24 ?_
          refine jy_istore_n hS rfl (Nat.le_of_ble_eq_true rfl) (L' := [some (.ref a0), some (jy l3), some (jy ((I15 q22 5).toInt)), some (jy l3)]) rfl ?_
          exact jy_join hS h rfl (jy_sub_s (jy_sub_s (jy_sub_s (jy_sub_s jy_sub_0))))
  · intro l1 l2 l3 I R h
    unfold wz_182_62 at h
    refine jy_iinc hS rfl rfl (L' := [some (.ref a0), some (jy l1), some (jy l2), some (jy (l3 + 1))]) rfl ?_
    refine jy_goto hS rfl ?_
    exact jy_join hS h rfl (jy_sub_s (jy_sub_s (jy_sub_s (jy_sub_s jy_sub_0))))
theorem jt_183 : jx_ml 183 = 1 ∧ jx_rt 183 = some .int ∧ jx_hz 183 = [] ∧ decide ((jx_nm 183).name = "<init>") = false ∧ jx_code 183 = jx_c183 := by decide +kernel
/-- GC.image -/
def wz_183 (V : jx_V) (X : jx_X) (R : jx_R) (Q : Option Value → jx_I → Prop) (QE : String → jx_I → Prop)  (a0 : Nat) (I : jx_I) : Prop :=
  (X.2.1 a0 = some (11, 0)) ∧ (
  ((I a0 15).toInt < 3 → (
    ∃ q2 : Nat, (
    (R a0 3 = some q2) ∧ (
    ∃ n4 : Nat, (
    (X.2.1 q2 = some (103, n4) ∧ n4 < 2147483648) ∧ (
    (0 ≤ (I a0 15).toInt ∧ (I a0 15).toInt < n4) ∧ (
    ∃ q7 : Nat, (
    (R q2 ((I a0 15).toInt).toNat = some q7) ∧ (
    ∃ q9 : Nat, (
    (R a0 2 = some q9) ∧ (
    (X.2.1 q7 = some (7, 0)) ∧ (
    ∃ Q12 : Option Value → jx_I → Prop, (
    (jc V 2 97 (0, 0) [.ref q7, .ref q9] X I R Q12 (fun _ _ => False)) ∧ (
    ∀ rv I14, Q12 rv I14 → rv = none ∧ (
    ∀ I16 : jx_I, I16 = jx_u I14 a0 15 (Int32.ofInt ((I14 a0 15).toInt + 1)) → (
    Q (some (jy ((I16 a0 15).toInt))) I16))))))))))))))
  )) ∧ (¬ (I a0 15).toInt < 3 → (
    Q (some (jy (-1))) I
  )))
set_option maxRecDepth 20000 in
theorem wm_183 {V : jx_V} (hV : V.1.stackTraces = false) {X : jx_X} {R : jx_R} {I : jx_I} {Q : Option Value → jx_I → Prop} {QE : String → jx_I → Prop} {a0 : Nat}  
    (h : wz_183 V X R Q QE  a0 I) : jc V 3 183 (0, 0) [.ref a0] X I R Q QE := by
  refine jy_met hV (by decide) (n := 1) (rt := some .int) (hh := []) (ini := false) (C := jx_c183) (L := [some (.ref a0)]) jt_183 (Nat.le_of_ble_eq_true rfl) rfl ?_
  intro J hS
  unfold wz_183 at h
  refine jy_aload_n hS rfl rfl ?_
  obtain ⟨g1, h⟩ := h
  refine jy_getI hS rfl (by decide) g1 ?_
  refine jy_iconst hS rfl ?_
  refine jy_icmp_lt hS rfl ⟨(jy_rng _), ⟨by decide, by decide⟩⟩ (fun hq => ?_) (fun hq => ?_)
  · have h := h.1 hq
    refine jy_aload_n hS rfl rfl ?_
    obtain ⟨q2, h⟩ := h
    obtain ⟨g3, h⟩ := h
    refine jy_getR hS rfl (by decide) g1 g3 ?_
    refine jy_aload_n hS rfl rfl ?_
    refine jy_getI hS rfl (by decide) g1 ?_
    obtain ⟨n4, h⟩ := h
    obtain ⟨g5, h⟩ := h
    obtain ⟨g6, h⟩ := h
    obtain ⟨q7, h⟩ := h
    obtain ⟨g8, h⟩ := h
    refine jy_aald hS rfl g5.1 (by decide) (Nat.le_of_lt g5.2) g6 g8 ?_
    refine jy_aload_n hS rfl rfl ?_
    obtain ⟨q9, h⟩ := h
    obtain ⟨g10, h⟩ := h
    refine jy_getR hS rfl (by decide) g1 g10 ?_
    obtain ⟨g11, h⟩ := h
    obtain ⟨Q12, h⟩ := h
    obtain ⟨g13, h⟩ := h
    refine jy_callV hS rfl rfl rfl (Nat.le_of_ble_eq_true rfl) (Or.inl g11) g13 (by decide) ⟨by decide, by decide⟩ (Nat.le_of_ble_eq_true rfl) ?_ ?_
    rotate_left
    · exact fun Ex Xx Ix Rx hp => hp.2.2.2.elim
    intro rv Xx I14 Rx hp
    obtain ⟨e1, e2, hp⟩ := hp
    rw [e1, e2]
    clear e1 e2
    obtain ⟨e1, h⟩ := h rv I14 hp
    rw [e1]
    clear e1
    change J 26 [] _ (0, 0) _ _ _
    refine jy_aload_n hS rfl rfl ?_
    refine jy_dup hS rfl rfl ?_
    refine jy_getI hS rfl (by decide) g1 ?_
    refine jy_iconst hS rfl ?_
    refine jy_iadd hS rfl ?_
    refine jy_putI hS rfl (by decide) g1 ?_
    intro I16 e9
    have h := h I16 e9
    clear e9
    refine jy_aload_n hS rfl rfl ?_
    refine jy_getI hS rfl (by decide) g1 ?_
    exact jy_iret hS rfl rfl ⟨rfl, rfl, h⟩
  · have h := h.2 hq
    refine jy_iconst hS rfl ?_
    exact jy_iret hS rfl rfl ⟨rfl, rfl, h⟩
theorem jt_184 : jx_ml 184 = 1 ∧ jx_rt 184 = some .int ∧ jx_hz 184 = [] ∧ decide ((jx_nm 184).name = "<init>") = false ∧ jx_code 184 = jx_c184 := by decide +kernel
/-- GC.restore -/
def wz_184 (V : jx_V) (X : jx_X) (R : jx_R) (Q : Option Value → jx_I → Prop) (QE : String → jx_I → Prop)  (a0 : Nat) (I : jx_I) : Prop :=
  (X.2.1 a0 = some (11, 0)) ∧ (
  (0 < (I a0 15).toInt → (
    ∀ I2 : jx_I, I2 = jx_u I a0 15 (Int32.ofInt ((I a0 15).toInt - 1)) → (
    ∃ q3 : Nat, (
    (R a0 2 = some q3) ∧ (
    ∃ q5 : Nat, (
    (R a0 3 = some q5) ∧ (
    ∃ n7 : Nat, (
    (X.2.1 q5 = some (103, n7) ∧ n7 < 2147483648) ∧ (
    (0 ≤ (I2 a0 15).toInt ∧ (I2 a0 15).toInt < n7) ∧ (
    ∃ q10 : Nat, (
    (R q5 ((I2 a0 15).toInt).toNat = some q10) ∧ (
    (X.2.1 q3 = some (7, 0)) ∧ (
    ∃ Q13 : Option Value → jx_I → Prop, (
    (jc V 2 97 (0, 0) [.ref q3, .ref q10] X I2 R Q13 (fun _ _ => False)) ∧ (
    ∀ rv I15, Q13 rv I15 → rv = none ∧ (
    ∃ q17 : Nat, (
    (R a0 7 = some q17) ∧ (
    (X.2.1 q17 = some (0, 0)) ∧ (
    ∀ I20 : jx_I, I20 = jx_u I15 q17 6 (Int32.ofInt 1) → (
    Q (some (jy ((I20 a0 15).toInt))) I20))))))))))))))))))
  )) ∧ (¬ 0 < (I a0 15).toInt → (
    Q (some (jy (-1))) I
  )))
set_option maxRecDepth 20000 in
theorem wm_184 {V : jx_V} (hV : V.1.stackTraces = false) {X : jx_X} {R : jx_R} {I : jx_I} {Q : Option Value → jx_I → Prop} {QE : String → jx_I → Prop} {a0 : Nat}  
    (h : wz_184 V X R Q QE  a0 I) : jc V 3 184 (0, 0) [.ref a0] X I R Q QE := by
  refine jy_met hV (by decide) (n := 1) (rt := some .int) (hh := []) (ini := false) (C := jx_c184) (L := [some (.ref a0)]) jt_184 (Nat.le_of_ble_eq_true rfl) rfl ?_
  intro J hS
  unfold wz_184 at h
  refine jy_aload_n hS rfl rfl ?_
  obtain ⟨g1, h⟩ := h
  refine jy_getI hS rfl (by decide) g1 ?_
  refine jy_if_gt hS rfl (jy_rng _) (fun hq => ?_) (fun hq => ?_)
  · have h := h.1 hq
    refine jy_aload_n hS rfl rfl ?_
    refine jy_dup hS rfl rfl ?_
    refine jy_getI hS rfl (by decide) g1 ?_
    refine jy_iconst hS rfl ?_
    refine jy_isub hS rfl ?_
    refine jy_putI hS rfl (by decide) g1 ?_
    intro I2 e9
    have h := h I2 e9
    clear e9
    refine jy_aload_n hS rfl rfl ?_
    obtain ⟨q3, h⟩ := h
    obtain ⟨g4, h⟩ := h
    refine jy_getR hS rfl (by decide) g1 g4 ?_
    refine jy_aload_n hS rfl rfl ?_
    obtain ⟨q5, h⟩ := h
    obtain ⟨g6, h⟩ := h
    refine jy_getR hS rfl (by decide) g1 g6 ?_
    refine jy_aload_n hS rfl rfl ?_
    refine jy_getI hS rfl (by decide) g1 ?_
    obtain ⟨n7, h⟩ := h
    obtain ⟨g8, h⟩ := h
    obtain ⟨g9, h⟩ := h
    obtain ⟨q10, h⟩ := h
    obtain ⟨g11, h⟩ := h
    refine jy_aald hS rfl g8.1 (by decide) (Nat.le_of_lt g8.2) g9 g11 ?_
    obtain ⟨g12, h⟩ := h
    obtain ⟨Q13, h⟩ := h
    obtain ⟨g14, h⟩ := h
    refine jy_callV hS rfl rfl rfl (Nat.le_of_ble_eq_true rfl) (Or.inl g12) g14 (by decide) ⟨by decide, by decide⟩ (Nat.le_of_ble_eq_true rfl) ?_ ?_
    rotate_left
    · exact fun Ex Xx Ix Rx hp => hp.2.2.2.elim
    intro rv Xx I15 Rx hp
    obtain ⟨e1, e2, hp⟩ := hp
    rw [e1, e2]
    clear e1 e2
    obtain ⟨e1, h⟩ := h rv I15 hp
    rw [e1]
    clear e1
    change J 35 [] _ (0, 0) _ _ _
    refine jy_aload_n hS rfl rfl ?_
    obtain ⟨q17, h⟩ := h
    obtain ⟨g18, h⟩ := h
    refine jy_getR hS rfl (by decide) g1 g18 ?_
    refine jy_iconst hS rfl ?_
    obtain ⟨g19, h⟩ := h
    refine jy_putB hS rfl (by decide) (Or.inr rfl) g19 ?_
    intro I20 e9
    have h := h I20 e9
    clear e9
    refine jy_aload_n hS rfl rfl ?_
    refine jy_getI hS rfl (by decide) g1 ?_
    exact jy_iret hS rfl rfl ⟨rfl, rfl, h⟩
  · have h := h.2 hq
    refine jy_iconst hS rfl ?_
    exact jy_iret hS rfl rfl ⟨rfl, rfl, h⟩
theorem jt_185 : jx_ml 185 = 2 ∧ jx_rt 185 = some .int ∧ jx_hz 185 = [] ∧ decide ((jx_nm 185).name = "<init>") = false ∧ jx_code 185 = jx_c185 := by decide +kernel
/-- GC.status -/
def wz_185 (V : jx_V) (X : jx_X) (R : jx_R) (Q : Option Value → jx_I → Prop) (QE : String → jx_I → Prop)  (a0 : Nat) (a1 : Int) (I : jx_I) : Prop :=
  (a1 < 0 → (
    Q (some (jy (-1))) I
  )) ∧ (¬ a1 < 0 → (
    (X.2.1 a0 = some (11, 0)) ∧ (
    ∃ q2 : Nat, (
    (R a0 1 = some q2) ∧ (
    ∃ n4 : Nat, (
    (X.2.1 q2 = some (100, n4) ∧ n4 < 2147483648) ∧ (
    ((n4 : Int) ≤ a1 → (
      Q (some (jy (-1))) I
    )) ∧ (¬ (n4 : Int) ≤ a1 → (
      (0 ≤ a1 ∧ a1 < n4) ∧ (
      Q (some (jy ((I q2 a1.toNat).toInt))) I)
    )))))))
  ))
set_option maxRecDepth 20000 in
theorem wm_185 {V : jx_V} (hV : V.1.stackTraces = false) {X : jx_X} {R : jx_R} {I : jx_I} {Q : Option Value → jx_I → Prop} {QE : String → jx_I → Prop} {a0 : Nat} {a1 : Int} (r_a1 : -2147483648 ≤ a1 ∧ a1 < 2147483648) 
    (h : wz_185 V X R Q QE  a0 a1 I) : jc V 1 185 (0, 0) [.ref a0, jy a1] X I R Q QE := by
  refine jy_met hV (by decide) (n := 2) (rt := some .int) (hh := []) (ini := false) (C := jx_c185) (L := [some (.ref a0), some (jy a1)]) jt_185 (Nat.le_of_ble_eq_true rfl) rfl ?_
  intro J hS
  unfold wz_185 at h
  refine jy_iload_n hS rfl rfl ?_
  refine jy_if_lt hS rfl r_a1 (fun hq => ?_) (fun hq => ?_)
  · have h := h.1 hq
    refine jy_iconst hS rfl ?_
    exact jy_iret hS rfl rfl ⟨rfl, rfl, h⟩
  · have h := h.2 hq
    refine jy_iload_n hS rfl rfl ?_
    refine jy_aload_n hS rfl rfl ?_
    obtain ⟨g1, h⟩ := h
    obtain ⟨q2, h⟩ := h
    obtain ⟨g3, h⟩ := h
    refine jy_getR hS rfl (by decide) g1 g3 ?_
    obtain ⟨n4, h⟩ := h
    obtain ⟨g5, h⟩ := h
    refine jy_alen hS rfl g5.1 (by decide) g5.2 ?_
    refine jy_icmp_ge hS rfl ⟨r_a1, (by omega)⟩ (fun hq => ?_) (fun hq => ?_)
    · have h := h.1 hq
      refine jy_iconst hS rfl ?_
      exact jy_iret hS rfl rfl ⟨rfl, rfl, h⟩
    · have h := h.2 hq
      refine jy_aload_n hS rfl rfl ?_
      refine jy_getR hS rfl (by decide) g1 g3 ?_
      refine jy_iload_n hS rfl rfl ?_
      obtain ⟨g6, h⟩ := h
      refine jy_iald hS rfl g5.1 (Nat.le_of_lt g5.2) g6 ?_
      refine jy_goto hS rfl ?_
      exact jy_iret hS rfl rfl ⟨rfl, rfl, h⟩
theorem jt_186 : jx_ml 186 = 2 ∧ jx_rt 186 = some .int ∧ jx_hz 186 = [] ∧ decide ((jx_nm 186).name = "<init>") = false ∧ jx_code 186 = jx_c186 := by decide +kernel
/-- GC.count -/
def wz_186 (V : jx_V) (X : jx_X) (R : jx_R) (Q : Option Value → jx_I → Prop) (QE : String → jx_I → Prop)  (a0 : Nat) (a1 : Int) (I : jx_I) : Prop :=
  ((a1 < 0 ∨ 2 < a1) → (
    Q (some (jy (-1))) I
  ))
  ∧ (a1 = 0 → (
    (X.2.1 a0 = some (11, 0)) ∧ (
    Q (some (jy ((I a0 15).toInt))) I)
  ))
  ∧ (a1 = 1 → (
    (X.2.1 a0 = some (11, 0)) ∧ (
    ∃ q3 : Nat, (
    (R a0 0 = some q3) ∧ (
    (X.2.1 q3 = some (8, 0)) ∧ (
    Q (some (jy ((I q3 1).toInt))) I))))
  ))
  ∧ (a1 = 2 → (
    (X.2.1 a0 = some (11, 0)) ∧ (
    ∃ q7 : Nat, (
    (R a0 2 = some q7) ∧ (
    (X.2.1 q7 = some (7, 0)) ∧ (
    Q (some (jy ((I q7 7).toInt))) I))))
  ))
set_option maxRecDepth 20000 in
theorem wm_186 {V : jx_V} (hV : V.1.stackTraces = false) {X : jx_X} {R : jx_R} {I : jx_I} {Q : Option Value → jx_I → Prop} {QE : String → jx_I → Prop} {a0 : Nat} {a1 : Int} (r_a1 : -2147483648 ≤ a1 ∧ a1 < 2147483648) 
    (h : wz_186 V X R Q QE  a0 a1 I) : jc V 1 186 (0, 0) [.ref a0, jy a1] X I R Q QE := by
  refine jy_met hV (by decide) (n := 2) (rt := some .int) (hh := []) (ini := false) (C := jx_c186) (L := [some (.ref a0), some (jy a1)]) jt_186 (Nat.le_of_ble_eq_true rfl) rfl ?_
  intro J hS
  unfold wz_186 at h
  refine jy_iload_n hS rfl rfl ?_
  refine jy_tsw hS rfl r_a1 (fun hq => ?_) (fun hq8 hq => ?_)
  · have h := h.1 hq
    refine ⟨by decide, ?_⟩
    change J 49 _ _ _ _ _ _
    refine jy_iconst hS rfl ?_
    exact jy_iret hS rfl rfl ⟨rfl, rfl, h⟩
  · have h := h.2
    have hq7 : a1 = 0 ∨ a1 = 1 ∨ a1 = 2 := by omega
    rcases hq7 with hq7 | hq7 | hq7
    · have h := h.1 hq7
      refine ⟨27, by rw [hq7]; rfl, by decide, ?_⟩
      change J 28 _ _ _ _ _ _
      refine jy_aload_n hS rfl rfl ?_
      obtain ⟨g1, h⟩ := h
      refine jy_getI hS rfl (by decide) g1 ?_
      exact jy_iret hS rfl rfl ⟨rfl, rfl, h⟩
    · have h := h.2.1 hq7
      refine ⟨32, by rw [hq7]; rfl, by decide, ?_⟩
      change J 33 _ _ _ _ _ _
      refine jy_aload_n hS rfl rfl ?_
      obtain ⟨g2, h⟩ := h
      obtain ⟨q3, h⟩ := h
      obtain ⟨g4, h⟩ := h
      refine jy_getR hS rfl (by decide) g2 g4 ?_
      obtain ⟨g5, h⟩ := h
      refine jy_getI hS rfl (by decide) g5 ?_
      exact jy_iret hS rfl rfl ⟨rfl, rfl, h⟩
    · have h := h.2.2 hq7
      refine ⟨40, by rw [hq7]; rfl, by decide, ?_⟩
      change J 41 _ _ _ _ _ _
      refine jy_aload_n hS rfl rfl ?_
      obtain ⟨g6, h⟩ := h
      obtain ⟨q7, h⟩ := h
      obtain ⟨g8, h⟩ := h
      refine jy_getR hS rfl (by decide) g6 g8 ?_
      obtain ⟨g9, h⟩ := h
      refine jy_getI hS rfl (by decide) g9 ?_
      exact jy_iret hS rfl rfl ⟨rfl, rfl, h⟩
theorem jt_187 : jx_ml 187 = 2 ∧ jx_rt 187 = none ∧ jx_hz 187 = [] ∧ decide ((jx_nm 187).name = "<init>") = false ∧ jx_code 187 = jx_c187 := by decide +kernel
/-- GC.needPlace -/
def wz_187 (V : jx_V) (X : jx_X) (R : jx_R) (Q : Option Value → jx_I → Prop) (QE : String → jx_I → Prop)  (a0 : Nat) (a1 : Int) (I : jx_I) : Prop :=
  (a1 < 0 → (
    (X.2.1 a0 = some (11, 0)) ∧ (
    ∃ q2 : Nat, (
    (R a0 1 = some q2) ∧ (
    ∃ n4 : Nat, (
    (X.2.1 q2 = some (100, n4) ∧ n4 < 2147483648) ∧ (
    (0 ≤ (0 : Int) ∧ (0 : Int) < n4) ∧ (
    (0 ≤ (0 : Int) ∧ (0 : Int) < n4) ∧ (
    ∀ I8 : jx_I, I8 = jx_u I q2 (0 : Int).toNat (Int32.ofInt ((I q2 (0 : Int).toNat).toInt + 1)) → (
    QE (jx_exe 0).1 I8))))))))
  )) ∧ (¬ a1 < 0 → (
    (X.2.1 a0 = some (11, 0)) ∧ (
    ∃ q10 : Nat, (
    (R a0 11 = some q10) ∧ (
    (X.2.1 q10 = some (2, 0)) ∧ (
    (a1 < (I q10 7).toInt → (
      Q none I
    )) ∧ (¬ a1 < (I q10 7).toInt → (
      ∃ q13 : Nat, (
      (R a0 1 = some q13) ∧ (
      ∃ n15 : Nat, (
      (X.2.1 q13 = some (100, n15) ∧ n15 < 2147483648) ∧ (
      (0 ≤ (0 : Int) ∧ (0 : Int) < n15) ∧ (
      (0 ≤ (0 : Int) ∧ (0 : Int) < n15) ∧ (
      ∀ I19 : jx_I, I19 = jx_u I q13 (0 : Int).toNat (Int32.ofInt ((I q13 (0 : Int).toNat).toInt + 1)) → (
      QE (jx_exe 0).1 I19)))))))
    ))))))
  ))
set_option maxRecDepth 20000 in
theorem wm_187 {V : jx_V} (hV : V.1.stackTraces = false) {X : jx_X} {R : jx_R} {I : jx_I} {Q : Option Value → jx_I → Prop} {QE : String → jx_I → Prop} {a0 : Nat} {a1 : Int} (r_a1 : -2147483648 ≤ a1 ∧ a1 < 2147483648) 
    (h : wz_187 V X R Q QE  a0 a1 I) : jc V 8 187 (1, 6) [.ref a0, jy a1] X I R Q QE := by
  refine jy_met hV (by decide) (n := 2) (rt := none) (hh := []) (ini := false) (C := jx_c187) (L := [some (.ref a0), some (jy a1)]) jt_187 (Nat.le_of_ble_eq_true rfl) rfl ?_
  intro J hS
  unfold wz_187 at h
  refine jy_iload_n hS rfl rfl ?_
  refine jy_if_lt hS rfl r_a1 (fun hq => ?_) (fun hq => ?_)
  · have h := h.1 hq
    refine jy_aload_n hS rfl rfl ?_
    obtain ⟨g1, h⟩ := h
    obtain ⟨q2, h⟩ := h
    obtain ⟨g3, h⟩ := h
    refine jy_getR hS rfl (by decide) g1 g3 ?_
    refine jy_iconst hS rfl ?_
    refine jy_dup2 hS rfl rfl rfl ?_
    obtain ⟨n4, h⟩ := h
    obtain ⟨g5, h⟩ := h
    obtain ⟨g6, h⟩ := h
    refine jy_iald hS rfl g5.1 (Nat.le_of_lt g5.2) g6 ?_
    refine jy_iconst hS rfl ?_
    refine jy_iadd hS rfl ?_
    obtain ⟨g7, h⟩ := h
    refine jy_iast hS rfl g5.1 (Nat.le_of_lt g5.2) g7 ?_
    intro I8 e9
    have h := h I8 e9
    clear e9
    exact jy_throw hS rfl (by decide) (by decide) (by decide) (Nat.le_of_ble_eq_true rfl) (fun Xx e1 e2 => ⟨e1, e2, rfl, h⟩)
  · have h := h.2 hq
    refine jy_iload_n hS rfl rfl ?_
    refine jy_aload_n hS rfl rfl ?_
    obtain ⟨g9, h⟩ := h
    obtain ⟨q10, h⟩ := h
    obtain ⟨g11, h⟩ := h
    refine jy_getR hS rfl (by decide) g9 g11 ?_
    obtain ⟨g12, h⟩ := h
    refine jy_getI hS rfl (by decide) g12 ?_
    refine jy_icmp_lt hS rfl ⟨r_a1, (jy_rng _)⟩ (fun hq => ?_) (fun hq => ?_)
    · have h := h.1 hq
      exact jy_ret hS rfl rfl ⟨rfl, rfl, h⟩
    · have h := h.2 hq
      refine jy_aload_n hS rfl rfl ?_
      obtain ⟨q13, h⟩ := h
      obtain ⟨g14, h⟩ := h
      refine jy_getR hS rfl (by decide) g9 g14 ?_
      refine jy_iconst hS rfl ?_
      refine jy_dup2 hS rfl rfl rfl ?_
      obtain ⟨n15, h⟩ := h
      obtain ⟨g16, h⟩ := h
      obtain ⟨g17, h⟩ := h
      refine jy_iald hS rfl g16.1 (Nat.le_of_lt g16.2) g17 ?_
      refine jy_iconst hS rfl ?_
      refine jy_iadd hS rfl ?_
      obtain ⟨g18, h⟩ := h
      refine jy_iast hS rfl g16.1 (Nat.le_of_lt g16.2) g18 ?_
      intro I19 e9
      have h := h I19 e9
      clear e9
      exact jy_throw hS rfl (by decide) (by decide) (by decide) (Nat.le_of_ble_eq_true rfl) (fun Xx e1 e2 => ⟨e1, e2, rfl, h⟩)
theorem jt_188 : jx_ml 188 = 2 ∧ jx_rt 188 = none ∧ jx_hz 188 = [] ∧ decide ((jx_nm 188).name = "<init>") = false ∧ jx_code 188 = jx_c188 := by decide +kernel
/-- GC.needCamel -/
def wz_188 (V : jx_V) (X : jx_X) (R : jx_R) (Q : Option Value → jx_I → Prop) (QE : String → jx_I → Prop)  (a0 : Nat) (a1 : Int) (I : jx_I) : Prop :=
  (a1 < 0 → (
    (X.2.1 a0 = some (11, 0)) ∧ (
    ∃ q2 : Nat, (
    (R a0 1 = some q2) ∧ (
    ∃ n4 : Nat, (
    (X.2.1 q2 = some (100, n4) ∧ n4 < 2147483648) ∧ (
    (0 ≤ (1 : Int) ∧ (1 : Int) < n4) ∧ (
    (0 ≤ (1 : Int) ∧ (1 : Int) < n4) ∧ (
    ∀ I8 : jx_I, I8 = jx_u I q2 (1 : Int).toNat (Int32.ofInt ((I q2 (1 : Int).toNat).toInt + 1)) → (
    QE (jx_exe 1).1 I8))))))))
  )) ∧ (¬ a1 < 0 → (
    (X.2.1 a0 = some (11, 0)) ∧ (
    ∃ q10 : Nat, (
    (R a0 11 = some q10) ∧ (
    (X.2.1 q10 = some (2, 0)) ∧ (
    (a1 < (I q10 8).toInt → (
      Q none I
    )) ∧ (¬ a1 < (I q10 8).toInt → (
      ∃ q13 : Nat, (
      (R a0 1 = some q13) ∧ (
      ∃ n15 : Nat, (
      (X.2.1 q13 = some (100, n15) ∧ n15 < 2147483648) ∧ (
      (0 ≤ (1 : Int) ∧ (1 : Int) < n15) ∧ (
      (0 ≤ (1 : Int) ∧ (1 : Int) < n15) ∧ (
      ∀ I19 : jx_I, I19 = jx_u I q13 (1 : Int).toNat (Int32.ofInt ((I q13 (1 : Int).toNat).toInt + 1)) → (
      QE (jx_exe 1).1 I19)))))))
    ))))))
  ))
set_option maxRecDepth 20000 in
theorem wm_188 {V : jx_V} (hV : V.1.stackTraces = false) {X : jx_X} {R : jx_R} {I : jx_I} {Q : Option Value → jx_I → Prop} {QE : String → jx_I → Prop} {a0 : Nat} {a1 : Int} (r_a1 : -2147483648 ≤ a1 ∧ a1 < 2147483648) 
    (h : wz_188 V X R Q QE  a0 a1 I) : jc V 8 188 (1, 6) [.ref a0, jy a1] X I R Q QE := by
  refine jy_met hV (by decide) (n := 2) (rt := none) (hh := []) (ini := false) (C := jx_c188) (L := [some (.ref a0), some (jy a1)]) jt_188 (Nat.le_of_ble_eq_true rfl) rfl ?_
  intro J hS
  unfold wz_188 at h
  refine jy_iload_n hS rfl rfl ?_
  refine jy_if_lt hS rfl r_a1 (fun hq => ?_) (fun hq => ?_)
  · have h := h.1 hq
    refine jy_aload_n hS rfl rfl ?_
    obtain ⟨g1, h⟩ := h
    obtain ⟨q2, h⟩ := h
    obtain ⟨g3, h⟩ := h
    refine jy_getR hS rfl (by decide) g1 g3 ?_
    refine jy_iconst hS rfl ?_
    refine jy_dup2 hS rfl rfl rfl ?_
    obtain ⟨n4, h⟩ := h
    obtain ⟨g5, h⟩ := h
    obtain ⟨g6, h⟩ := h
    refine jy_iald hS rfl g5.1 (Nat.le_of_lt g5.2) g6 ?_
    refine jy_iconst hS rfl ?_
    refine jy_iadd hS rfl ?_
    obtain ⟨g7, h⟩ := h
    refine jy_iast hS rfl g5.1 (Nat.le_of_lt g5.2) g7 ?_
    intro I8 e9
    have h := h I8 e9
    clear e9
    exact jy_throw hS rfl (by decide) (by decide) (by decide) (Nat.le_of_ble_eq_true rfl) (fun Xx e1 e2 => ⟨e1, e2, rfl, h⟩)
  · have h := h.2 hq
    refine jy_iload_n hS rfl rfl ?_
    refine jy_aload_n hS rfl rfl ?_
    obtain ⟨g9, h⟩ := h
    obtain ⟨q10, h⟩ := h
    obtain ⟨g11, h⟩ := h
    refine jy_getR hS rfl (by decide) g9 g11 ?_
    obtain ⟨g12, h⟩ := h
    refine jy_getI hS rfl (by decide) g12 ?_
    refine jy_icmp_lt hS rfl ⟨r_a1, (jy_rng _)⟩ (fun hq => ?_) (fun hq => ?_)
    · have h := h.1 hq
      exact jy_ret hS rfl rfl ⟨rfl, rfl, h⟩
    · have h := h.2 hq
      refine jy_aload_n hS rfl rfl ?_
      obtain ⟨q13, h⟩ := h
      obtain ⟨g14, h⟩ := h
      refine jy_getR hS rfl (by decide) g9 g14 ?_
      refine jy_iconst hS rfl ?_
      refine jy_dup2 hS rfl rfl rfl ?_
      obtain ⟨n15, h⟩ := h
      obtain ⟨g16, h⟩ := h
      obtain ⟨g17, h⟩ := h
      refine jy_iald hS rfl g16.1 (Nat.le_of_lt g16.2) g17 ?_
      refine jy_iconst hS rfl ?_
      refine jy_iadd hS rfl ?_
      obtain ⟨g18, h⟩ := h
      refine jy_iast hS rfl g16.1 (Nat.le_of_lt g16.2) g18 ?_
      intro I19 e9
      have h := h I19 e9
      clear e9
      exact jy_throw hS rfl (by decide) (by decide) (by decide) (Nat.le_of_ble_eq_true rfl) (fun Xx e1 e2 => ⟨e1, e2, rfl, h⟩)
theorem jt_189 : jx_ml 189 = 2 ∧ jx_rt 189 = none ∧ jx_hz 189 = [] ∧ decide ((jx_nm 189).name = "<init>") = false ∧ jx_code 189 = jx_c189 := by decide +kernel
/-- GC.need -/
def wz_189 (V : jx_V) (X : jx_X) (R : jx_R) (Q : Option Value → jx_I → Prop) (QE : String → jx_I → Prop)  (a0 : Nat) (a1 : Int) (I : jx_I) : Prop :=
  (a1 ≠ 0 → (
    Q none I
  )) ∧ (a1 = 0 → (
    (X.2.1 a0 = some (11, 0)) ∧ (
    ∃ q2 : Nat, (
    (R a0 1 = some q2) ∧ (
    ∃ n4 : Nat, (
    (X.2.1 q2 = some (100, n4) ∧ n4 < 2147483648) ∧ (
    (0 ≤ (2 : Int) ∧ (2 : Int) < n4) ∧ (
    (0 ≤ (2 : Int) ∧ (2 : Int) < n4) ∧ (
    ∀ I8 : jx_I, I8 = jx_u I q2 (2 : Int).toNat (Int32.ofInt ((I q2 (2 : Int).toNat).toInt + 1)) → (
    QE (jx_exe 2).1 I8))))))))
  ))
set_option maxRecDepth 20000 in
theorem wm_189 {V : jx_V} (hV : V.1.stackTraces = false) {X : jx_X} {R : jx_R} {I : jx_I} {Q : Option Value → jx_I → Prop} {QE : String → jx_I → Prop} {a0 : Nat} {a1 : Int} (r_a1 : -2147483648 ≤ a1 ∧ a1 < 2147483648) 
    (h : wz_189 V X R Q QE  a0 a1 I) : jc V 8 189 (1, 6) [.ref a0, jy a1] X I R Q QE := by
  refine jy_met hV (by decide) (n := 2) (rt := none) (hh := []) (ini := false) (C := jx_c189) (L := [some (.ref a0), some (jy a1)]) jt_189 (Nat.le_of_ble_eq_true rfl) rfl ?_
  intro J hS
  unfold wz_189 at h
  refine jy_iload_n hS rfl rfl ?_
  refine jy_if_ne hS rfl r_a1 (fun hq => ?_) (fun hq => ?_)
  · have h := h.1 hq
    exact jy_ret hS rfl rfl ⟨rfl, rfl, h⟩
  · have h := h.2 hq
    refine jy_aload_n hS rfl rfl ?_
    obtain ⟨g1, h⟩ := h
    obtain ⟨q2, h⟩ := h
    obtain ⟨g3, h⟩ := h
    refine jy_getR hS rfl (by decide) g1 g3 ?_
    refine jy_iconst hS rfl ?_
    refine jy_dup2 hS rfl rfl rfl ?_
    obtain ⟨n4, h⟩ := h
    obtain ⟨g5, h⟩ := h
    obtain ⟨g6, h⟩ := h
    refine jy_iald hS rfl g5.1 (Nat.le_of_lt g5.2) g6 ?_
    refine jy_iconst hS rfl ?_
    refine jy_iadd hS rfl ?_
    obtain ⟨g7, h⟩ := h
    refine jy_iast hS rfl g5.1 (Nat.le_of_lt g5.2) g7 ?_
    intro I8 e9
    have h := h I8 e9
    clear e9
    exact jy_throw hS rfl (by decide) (by decide) (by decide) (Nat.le_of_ble_eq_true rfl) (fun Xx e1 e2 => ⟨e1, e2, rfl, h⟩)
theorem jt_190 : jx_ml 190 = 3 ∧ jx_rt 190 = none ∧ jx_hz 190 = [] ∧ decide ((jx_nm 190).name = "<init>") = false ∧ jx_code 190 = jx_c190 := by decide +kernel
/-- GC.needWhat, from 15 -/
def wz_190_15 (V : jx_V) (X : jx_X) (R : jx_R) (Q : Option Value → jx_I → Prop) (QE : String → jx_I → Prop) (J15 : Nat → Int → jx_I → Prop) (a0 : Nat) (a1 : Int) (a2 : Int) (s0 : Nat) (s1 : Int) (I : jx_I) : Prop :=
  (X.2.1 s0 = some (11, 0)) ∧ (
  ∃ Q2 : Option Value → jx_I → Prop, (
  ∃ E3 : String → jx_I → Prop, (
  (jc V 8 189 (1, 6) [.ref s0, jy s1] X I R Q2 E3) ∧ (
  (∀ Ex Ix, E3 Ex Ix → QE Ex Ix) ∧ (
  ∀ rv I6, Q2 rv I6 → rv = none ∧ (
  Q none I6))))))
/-- GC.needWhat -/
def wz_190 (V : jx_V) (X : jx_X) (R : jx_R) (Q : Option Value → jx_I → Prop) (QE : String → jx_I → Prop) (J15 : Nat → Int → jx_I → Prop) (a0 : Nat) (a1 : Int) (a2 : Int) (I : jx_I) : Prop :=
  (a1 < 0 → (
    J15 a0 0 I
  )) ∧ (¬ a1 < 0 → (
    (a2 < a1 → (
      J15 a0 0 I
    )) ∧ (¬ a2 < a1 → (
      J15 a0 1 I
    ))
  ))
set_option maxRecDepth 20000 in
theorem wm_190 {V : jx_V} (hV : V.1.stackTraces = false) {X : jx_X} {R : jx_R} {I : jx_I} {Q : Option Value → jx_I → Prop} {QE : String → jx_I → Prop} {a0 : Nat} {a1 : Int} {a2 : Int} (r_a1 : -2147483648 ≤ a1 ∧ a1 < 2147483648) (r_a2 : -2147483648 ≤ a2 ∧ a2 < 2147483648) 
    (h : ∀ (J15 : Nat → Int → jx_I → Prop), ((∀ (s0 : Nat) (s1 : Int) I, wz_190_15 V X R Q QE J15 a0 a1 a2 s0 s1 I → J15 s0 s1 I)) → wz_190 V X R Q QE J15 a0 a1 a2 I) : jc V 9 190 (1, 6) [.ref a0, jy a1, jy a2] X I R Q QE := by
  refine jy_met hV (by decide) (n := 3) (rt := none) (hh := []) (ini := false) (C := jx_c190) (L := [some (.ref a0), some (jy a1), some (jy a2)]) jt_190 (Nat.le_of_ble_eq_true rfl) rfl ?_
  intro J hS
  have h := h (fun s0 s1 I => J 15 [jy s1, .ref s0] [none, none, none] (1, 6) X I R) ?_
  · unfold wz_190 at h
    refine jy_aload_n hS rfl rfl ?_
    refine jy_iload_n hS rfl rfl ?_
    refine jy_if_lt hS rfl r_a1 (fun hq => ?_) (fun hq => ?_)
    · have h := h.1 hq
      refine jy_iconst hS rfl ?_
      exact jy_join hS h rfl (jy_sub_n (jy_sub_n (jy_sub_n jy_sub_0)))
    · have h := h.2 hq
      refine jy_iload_n hS rfl rfl ?_
      refine jy_iload_n hS rfl rfl ?_
      refine jy_icmp_gt hS rfl ⟨r_a1, r_a2⟩ (fun hq => ?_) (fun hq => ?_)
      · have h := h.1 hq
        refine jy_iconst hS rfl ?_
        exact jy_join hS h rfl (jy_sub_n (jy_sub_n (jy_sub_n jy_sub_0)))
      · have h := h.2 hq
        refine jy_iconst hS rfl ?_
        refine jy_goto hS rfl ?_
        exact jy_join hS h rfl (jy_sub_n (jy_sub_n (jy_sub_n jy_sub_0)))
  · intro s0 s1 I h
    unfold wz_190_15 at h
    obtain ⟨g1, h⟩ := h
    obtain ⟨Q2, h⟩ := h
    obtain ⟨E3, h⟩ := h
    obtain ⟨g4, h⟩ := h
    obtain ⟨g5, h⟩ := h
    refine jy_callV hS rfl rfl rfl (Nat.le_of_ble_eq_true rfl) (Or.inl g1) g4 (by decide) ⟨by decide, by decide⟩ (Nat.le_of_ble_eq_true rfl) ?_ ?_
    rotate_left
    · exact fun Ex Xx Ix Rx hp => ⟨hp.1, hp.2.1, hp.2.2.1, g5 _ _ hp.2.2.2⟩
    intro rv Xx I6 Rx hp
    obtain ⟨e1, e2, hp⟩ := hp
    rw [e1, e2]
    clear e1 e2
    obtain ⟨e1, h⟩ := h rv I6 hp
    rw [e1]
    clear e1
    change J 18 [] _ (0, 0) _ _ _
    exact jy_ret hS rfl rfl ⟨rfl, rfl, h⟩
theorem jt_191 : jx_ml 191 = 2 ∧ jx_rt 191 = none ∧ jx_hz 191 = [] ∧ decide ((jx_nm 191).name = "<init>") = false ∧ jx_code 191 = jx_c191 := by decide +kernel
/-- GC.needHours, from 17 -/
def wz_191_17 (V : jx_V) (X : jx_X) (R : jx_R) (Q : Option Value → jx_I → Prop) (QE : String → jx_I → Prop) (J17 : Nat → Int → jx_I → Prop) (a0 : Nat) (a1 : Int) (s0 : Nat) (s1 : Int) (I : jx_I) : Prop :=
  (X.2.1 s0 = some (11, 0)) ∧ (
  ∃ Q2 : Option Value → jx_I → Prop, (
  ∃ E3 : String → jx_I → Prop, (
  (jc V 8 189 (1, 6) [.ref s0, jy s1] X I R Q2 E3) ∧ (
  (∀ Ex Ix, E3 Ex Ix → QE Ex Ix) ∧ (
  ∀ rv I6, Q2 rv I6 → rv = none ∧ (
  Q none I6))))))
/-- GC.needHours -/
def wz_191 (V : jx_V) (X : jx_X) (R : jx_R) (Q : Option Value → jx_I → Prop) (QE : String → jx_I → Prop) (J17 : Nat → Int → jx_I → Prop) (a0 : Nat) (a1 : Int) (I : jx_I) : Prop :=
  (a1 < 0 → (
    J17 a0 0 I
  )) ∧ (¬ a1 < 0 → (
    (9999 < a1 → (
      J17 a0 0 I
    )) ∧ (¬ 9999 < a1 → (
      J17 a0 1 I
    ))
  ))
set_option maxRecDepth 20000 in
theorem wm_191 {V : jx_V} (hV : V.1.stackTraces = false) {X : jx_X} {R : jx_R} {I : jx_I} {Q : Option Value → jx_I → Prop} {QE : String → jx_I → Prop} {a0 : Nat} {a1 : Int} (r_a1 : -2147483648 ≤ a1 ∧ a1 < 2147483648) 
    (h : ∀ (J17 : Nat → Int → jx_I → Prop), ((∀ (s0 : Nat) (s1 : Int) I, wz_191_17 V X R Q QE J17 a0 a1 s0 s1 I → J17 s0 s1 I)) → wz_191 V X R Q QE J17 a0 a1 I) : jc V 9 191 (1, 6) [.ref a0, jy a1] X I R Q QE := by
  refine jy_met hV (by decide) (n := 2) (rt := none) (hh := []) (ini := false) (C := jx_c191) (L := [some (.ref a0), some (jy a1)]) jt_191 (Nat.le_of_ble_eq_true rfl) rfl ?_
  intro J hS
  have h := h (fun s0 s1 I => J 17 [jy s1, .ref s0] [none, none] (1, 6) X I R) ?_
  · unfold wz_191 at h
    refine jy_aload_n hS rfl rfl ?_
    refine jy_iload_n hS rfl rfl ?_
    refine jy_if_lt hS rfl r_a1 (fun hq => ?_) (fun hq => ?_)
    · have h := h.1 hq
      refine jy_iconst hS rfl ?_
      exact jy_join hS h rfl (jy_sub_n (jy_sub_n jy_sub_0))
    · have h := h.2 hq
      refine jy_iload_n hS rfl rfl ?_
      refine jy_sipush hS rfl (by decide) ?_
      refine jy_icmp_gt hS rfl ⟨r_a1, ⟨by decide, by decide⟩⟩ (fun hq => ?_) (fun hq => ?_)
      · have h := h.1 hq
        refine jy_iconst hS rfl ?_
        exact jy_join hS h rfl (jy_sub_n (jy_sub_n jy_sub_0))
      · have h := h.2 hq
        refine jy_iconst hS rfl ?_
        refine jy_goto hS rfl ?_
        exact jy_join hS h rfl (jy_sub_n (jy_sub_n jy_sub_0))
  · intro s0 s1 I h
    unfold wz_191_17 at h
    obtain ⟨g1, h⟩ := h
    obtain ⟨Q2, h⟩ := h
    obtain ⟨E3, h⟩ := h
    obtain ⟨g4, h⟩ := h
    obtain ⟨g5, h⟩ := h
    refine jy_callV hS rfl rfl rfl (Nat.le_of_ble_eq_true rfl) (Or.inl g1) g4 (by decide) ⟨by decide, by decide⟩ (Nat.le_of_ble_eq_true rfl) ?_ ?_
    rotate_left
    · exact fun Ex Xx Ix Rx hp => ⟨hp.1, hp.2.1, hp.2.2.1, g5 _ _ hp.2.2.2⟩
    intro rv Xx I6 Rx hp
    obtain ⟨e1, e2, hp⟩ := hp
    rw [e1, e2]
    clear e1 e2
    obtain ⟨e1, h⟩ := h rv I6 hp
    rw [e1]
    clear e1
    change J 20 [] _ (0, 0) _ _ _
    exact jy_ret hS rfl rfl ⟨rfl, rfl, h⟩
theorem jt_192 : jx_ml 192 = 2 ∧ jx_rt 192 = none ∧ jx_hz 192 = [] ∧ decide ((jx_nm 192).name = "<init>") = false ∧ jx_code 192 = jx_c192 := by decide +kernel
/-- GC.needDraw, from 16 -/
def wz_192_16 (V : jx_V) (X : jx_X) (R : jx_R) (Q : Option Value → jx_I → Prop) (QE : String → jx_I → Prop) (J16 : Nat → Int → jx_I → Prop) (a0 : Nat) (a1 : Int) (s0 : Nat) (s1 : Int) (I : jx_I) : Prop :=
  (X.2.1 s0 = some (11, 0)) ∧ (
  ∃ Q2 : Option Value → jx_I → Prop, (
  ∃ E3 : String → jx_I → Prop, (
  (jc V 8 189 (1, 6) [.ref s0, jy s1] X I R Q2 E3) ∧ (
  (∀ Ex Ix, E3 Ex Ix → QE Ex Ix) ∧ (
  ∀ rv I6, Q2 rv I6 → rv = none ∧ (
  Q none I6))))))
/-- GC.needDraw -/
def wz_192 (V : jx_V) (X : jx_X) (R : jx_R) (Q : Option Value → jx_I → Prop) (QE : String → jx_I → Prop) (J16 : Nat → Int → jx_I → Prop) (a0 : Nat) (a1 : Int) (I : jx_I) : Prop :=
  (a1 < 0 → (
    J16 a0 0 I
  )) ∧ (¬ a1 < 0 → (
    (8 < a1 → (
      J16 a0 0 I
    )) ∧ (¬ 8 < a1 → (
      J16 a0 1 I
    ))
  ))
set_option maxRecDepth 20000 in
theorem wm_192 {V : jx_V} (hV : V.1.stackTraces = false) {X : jx_X} {R : jx_R} {I : jx_I} {Q : Option Value → jx_I → Prop} {QE : String → jx_I → Prop} {a0 : Nat} {a1 : Int} (r_a1 : -2147483648 ≤ a1 ∧ a1 < 2147483648) 
    (h : ∀ (J16 : Nat → Int → jx_I → Prop), ((∀ (s0 : Nat) (s1 : Int) I, wz_192_16 V X R Q QE J16 a0 a1 s0 s1 I → J16 s0 s1 I)) → wz_192 V X R Q QE J16 a0 a1 I) : jc V 9 192 (1, 6) [.ref a0, jy a1] X I R Q QE := by
  refine jy_met hV (by decide) (n := 2) (rt := none) (hh := []) (ini := false) (C := jx_c192) (L := [some (.ref a0), some (jy a1)]) jt_192 (Nat.le_of_ble_eq_true rfl) rfl ?_
  intro J hS
  have h := h (fun s0 s1 I => J 16 [jy s1, .ref s0] [none, none] (1, 6) X I R) ?_
  · unfold wz_192 at h
    refine jy_aload_n hS rfl rfl ?_
    refine jy_iload_n hS rfl rfl ?_
    refine jy_if_lt hS rfl r_a1 (fun hq => ?_) (fun hq => ?_)
    · have h := h.1 hq
      refine jy_iconst hS rfl ?_
      exact jy_join hS h rfl (jy_sub_n (jy_sub_n jy_sub_0))
    · have h := h.2 hq
      refine jy_iload_n hS rfl rfl ?_
      refine jy_bipush hS rfl (by decide) ?_
      refine jy_icmp_gt hS rfl ⟨r_a1, ⟨by decide, by decide⟩⟩ (fun hq => ?_) (fun hq => ?_)
      · have h := h.1 hq
        refine jy_iconst hS rfl ?_
        exact jy_join hS h rfl (jy_sub_n (jy_sub_n jy_sub_0))
      · have h := h.2 hq
        refine jy_iconst hS rfl ?_
        refine jy_goto hS rfl ?_
        exact jy_join hS h rfl (jy_sub_n (jy_sub_n jy_sub_0))
  · intro s0 s1 I h
    unfold wz_192_16 at h
    obtain ⟨g1, h⟩ := h
    obtain ⟨Q2, h⟩ := h
    obtain ⟨E3, h⟩ := h
    obtain ⟨g4, h⟩ := h
    obtain ⟨g5, h⟩ := h
    refine jy_callV hS rfl rfl rfl (Nat.le_of_ble_eq_true rfl) (Or.inl g1) g4 (by decide) ⟨by decide, by decide⟩ (Nat.le_of_ble_eq_true rfl) ?_ ?_
    rotate_left
    · exact fun Ex Xx Ix Rx hp => ⟨hp.1, hp.2.1, hp.2.2.1, g5 _ _ hp.2.2.2⟩
    intro rv Xx I6 Rx hp
    obtain ⟨e1, e2, hp⟩ := hp
    rw [e1, e2]
    clear e1 e2
    obtain ⟨e1, h⟩ := h rv I6 hp
    rw [e1]
    clear e1
    change J 19 [] _ (0, 0) _ _ _
    exact jy_ret hS rfl rfl ⟨rfl, rfl, h⟩
theorem jt_193 : jx_ml 193 = 1 ∧ jx_rt 193 = none ∧ jx_hz 193 = [] ∧ decide ((jx_nm 193).name = "<init>") = false ∧ jx_code 193 = jx_c193 := by decide +kernel
/-- GC.needJourney -/
def wz_193 (V : jx_V) (X : jx_X) (R : jx_R) (Q : Option Value → jx_I → Prop) (QE : String → jx_I → Prop)  (a0 : Nat) (I : jx_I) : Prop :=
  (X.2.1 a0 = some (11, 0)) ∧ (
  ∃ q2 : Nat, (
  (R a0 2 = some q2) ∧ (
  (X.2.1 q2 = some (7, 0)) ∧ (
  ∃ q5 : Nat, (
  (R q2 2 = some q5) ∧ (
  (X.2.1 q5 = some (5, 0)) ∧ (
  ((I q5 1).toInt ≠ 0 → (
    Q none I
  )) ∧ ((I q5 1).toInt = 0 → (
    ∃ q8 : Nat, (
    (R a0 1 = some q8) ∧ (
    ∃ n10 : Nat, (
    (X.2.1 q8 = some (100, n10) ∧ n10 < 2147483648) ∧ (
    (0 ≤ (3 : Int) ∧ (3 : Int) < n10) ∧ (
    (0 ≤ (3 : Int) ∧ (3 : Int) < n10) ∧ (
    ∀ I14 : jx_I, I14 = jx_u I q8 (3 : Int).toNat (Int32.ofInt ((I q8 (3 : Int).toNat).toInt + 1)) → (
    QE (jx_exe 3).1 I14)))))))
  )))))))))
set_option maxRecDepth 20000 in
theorem wm_193 {V : jx_V} (hV : V.1.stackTraces = false) {X : jx_X} {R : jx_R} {I : jx_I} {Q : Option Value → jx_I → Prop} {QE : String → jx_I → Prop} {a0 : Nat}  
    (h : wz_193 V X R Q QE  a0 I) : jc V 8 193 (1, 6) [.ref a0] X I R Q QE := by
  refine jy_met hV (by decide) (n := 1) (rt := none) (hh := []) (ini := false) (C := jx_c193) (L := [some (.ref a0)]) jt_193 (Nat.le_of_ble_eq_true rfl) rfl ?_
  intro J hS
  unfold wz_193 at h
  refine jy_aload_n hS rfl rfl ?_
  obtain ⟨g1, h⟩ := h
  obtain ⟨q2, h⟩ := h
  obtain ⟨g3, h⟩ := h
  refine jy_getR hS rfl (by decide) g1 g3 ?_
  obtain ⟨g4, h⟩ := h
  obtain ⟨q5, h⟩ := h
  obtain ⟨g6, h⟩ := h
  refine jy_getR hS rfl (by decide) g4 g6 ?_
  obtain ⟨g7, h⟩ := h
  refine jy_getI hS rfl (by decide) g7 ?_
  refine jy_if_ne hS rfl (jy_rng _) (fun hq => ?_) (fun hq => ?_)
  · have h := h.1 hq
    exact jy_ret hS rfl rfl ⟨rfl, rfl, h⟩
  · have h := h.2 hq
    refine jy_aload_n hS rfl rfl ?_
    obtain ⟨q8, h⟩ := h
    obtain ⟨g9, h⟩ := h
    refine jy_getR hS rfl (by decide) g1 g9 ?_
    refine jy_iconst hS rfl ?_
    refine jy_dup2 hS rfl rfl rfl ?_
    obtain ⟨n10, h⟩ := h
    obtain ⟨g11, h⟩ := h
    obtain ⟨g12, h⟩ := h
    refine jy_iald hS rfl g11.1 (Nat.le_of_lt g11.2) g12 ?_
    refine jy_iconst hS rfl ?_
    refine jy_iadd hS rfl ?_
    obtain ⟨g13, h⟩ := h
    refine jy_iast hS rfl g11.1 (Nat.le_of_lt g11.2) g13 ?_
    intro I14 e9
    have h := h I14 e9
    clear e9
    exact jy_throw hS rfl (by decide) (by decide) (by decide) (Nat.le_of_ble_eq_true rfl) (fun Xx e1 e2 => ⟨e1, e2, rfl, h⟩)
theorem jt_194 : jx_ml 194 = 1 ∧ jx_rt 194 = none ∧ jx_hz 194 = [] ∧ decide ((jx_nm 194).name = "<init>") = false ∧ jx_code 194 = jx_c194 := by decide +kernel
/-- GC.walkNow -/
def wz_194 (V : jx_V) (X : jx_X) (R : jx_R) (Q : Option Value → jx_I → Prop) (QE : String → jx_I → Prop)  (a0 : Nat) (I : jx_I) : Prop :=
  (X.2.1 a0 = some (11, 0)) ∧ (
  ∃ q2 : Nat, (
  (R a0 4 = some q2) ∧ (
  ∃ q4 : Nat, (
  (R a0 11 = some q4) ∧ (
  ∃ q6 : Nat, (
  (R a0 2 = some q6) ∧ (
  (X.2.1 q6 = some (7, 0)) ∧ (
  ∃ q9 : Nat, (
  (R q6 2 = some q9) ∧ (
  ∃ q11 : Nat, (
  (R q6 1 = some q11) ∧ (
  ∃ q13 : Nat, (
  (R q6 0 = some q13) ∧ (
  (X.2.1 q2 = some (9, 0)) ∧ (
  ∃ Q16 : Option Value → jx_I → Prop, (
  (jc V 5 121 (0, 0) [.ref q2, .ref q4, .ref q9, .ref q11, .ref q13] X I R Q16 (fun _ _ => False)) ∧ (
  ∀ rv I18, Q16 rv I18 → rv = none ∧ (
  Q none I18))))))))))))))))))
set_option maxRecDepth 20000 in
theorem wm_194 {V : jx_V} (hV : V.1.stackTraces = false) {X : jx_X} {R : jx_R} {I : jx_I} {Q : Option Value → jx_I → Prop} {QE : String → jx_I → Prop} {a0 : Nat}  
    (h : wz_194 V X R Q QE  a0 I) : jc V 6 194 (0, 0) [.ref a0] X I R Q QE := by
  refine jy_met hV (by decide) (n := 1) (rt := none) (hh := []) (ini := false) (C := jx_c194) (L := [some (.ref a0)]) jt_194 (Nat.le_of_ble_eq_true rfl) rfl ?_
  intro J hS
  unfold wz_194 at h
  refine jy_aload_n hS rfl rfl ?_
  obtain ⟨g1, h⟩ := h
  obtain ⟨q2, h⟩ := h
  obtain ⟨g3, h⟩ := h
  refine jy_getR hS rfl (by decide) g1 g3 ?_
  refine jy_aload_n hS rfl rfl ?_
  obtain ⟨q4, h⟩ := h
  obtain ⟨g5, h⟩ := h
  refine jy_getR hS rfl (by decide) g1 g5 ?_
  refine jy_aload_n hS rfl rfl ?_
  obtain ⟨q6, h⟩ := h
  obtain ⟨g7, h⟩ := h
  refine jy_getR hS rfl (by decide) g1 g7 ?_
  obtain ⟨g8, h⟩ := h
  obtain ⟨q9, h⟩ := h
  obtain ⟨g10, h⟩ := h
  refine jy_getR hS rfl (by decide) g8 g10 ?_
  refine jy_aload_n hS rfl rfl ?_
  refine jy_getR hS rfl (by decide) g1 g7 ?_
  obtain ⟨q11, h⟩ := h
  obtain ⟨g12, h⟩ := h
  refine jy_getR hS rfl (by decide) g8 g12 ?_
  refine jy_aload_n hS rfl rfl ?_
  refine jy_getR hS rfl (by decide) g1 g7 ?_
  obtain ⟨q13, h⟩ := h
  obtain ⟨g14, h⟩ := h
  refine jy_getR hS rfl (by decide) g8 g14 ?_
  obtain ⟨g15, h⟩ := h
  obtain ⟨Q16, h⟩ := h
  obtain ⟨g17, h⟩ := h
  refine jy_callV hS rfl rfl rfl (Nat.le_of_ble_eq_true rfl) (Or.inl g15) g17 (by decide) ⟨by decide, by decide⟩ (Nat.le_of_ble_eq_true rfl) ?_ ?_
  rotate_left
  · exact fun Ex Xx Ix Rx hp => hp.2.2.2.elim
  intro rv Xx I18 Rx hp
  obtain ⟨e1, e2, hp⟩ := hp
  rw [e1, e2]
  clear e1 e2
  obtain ⟨e1, h⟩ := h rv I18 hp
  rw [e1]
  clear e1
  change J 32 [] _ (0, 0) _ _ _
  exact jy_ret hS rfl rfl ⟨rfl, rfl, h⟩
theorem jt_195 : jx_ml 195 = 2 ∧ jx_rt 195 = some .int ∧ jx_hz 195 = [] ∧ decide ((jx_nm 195).name = "<init>") = false ∧ jx_code 195 = jx_c195 := by decide +kernel
/-- GC.hoursWith -/
def wz_195 (V : jx_V) (X : jx_X) (R : jx_R) (Q : Option Value → jx_I → Prop) (QE : String → jx_I → Prop)  (a0 : Nat) (a1 : Int) (I : jx_I) : Prop :=
  (X.2.1 a0 = some (11, 0)) ∧ (
  ∃ q2 : Nat, (
  (R a0 8 = some q2) ∧ (
  ∃ q4 : Nat, (
  (R a0 2 = some q4) ∧ (
  (X.2.1 q4 = some (7, 0)) ∧ (
  ∃ q7 : Nat, (
  (R q4 1 = some q7) ∧ (
  (X.2.1 q2 = some (5, 0)) ∧ (
  ∃ Q10 : Option Value → jx_I → Prop, (
  (jc V 2 77 (0, 0) [.ref q2, .ref q7, jy a1] X I R Q10 (fun _ _ => False)) ∧ (
  ∀ rv I12, Q10 rv I12 → rv = none ∧ (
  ∃ q14 : Nat, (
  (R a0 4 = some q14) ∧ (
  ∃ q16 : Nat, (
  (R a0 11 = some q16) ∧ (
  ∃ q18 : Nat, (
  (R q4 2 = some q18) ∧ (
  ∃ q20 : Nat, (
  (R q4 0 = some q20) ∧ (
  (X.2.1 q14 = some (9, 0)) ∧ (
  ∃ Q23 : Option Value → jx_I → Prop, (
  (jc V 5 121 (0, 0) [.ref q14, .ref q16, .ref q18, .ref q2, .ref q20] X I12 R Q23 (fun _ _ => False)) ∧ (
  ∀ rv I25, Q23 rv I25 → rv = none ∧ (
  ∃ Q27 : Option Value → jx_I → Prop, (
  (jc V 1 123 (0, 0) [.ref q14] X I25 R Q27 (fun _ _ => False)) ∧ (
  ∀ rv I29, Q27 rv I29 → ∃ r30 : Int, rv = some (jy r30) ∧ (
  Q (some (jy r30)) I29)))))))))))))))))))))))))))
set_option maxRecDepth 20000 in
theorem wm_195 {V : jx_V} (hV : V.1.stackTraces = false) {X : jx_X} {R : jx_R} {I : jx_I} {Q : Option Value → jx_I → Prop} {QE : String → jx_I → Prop} {a0 : Nat} {a1 : Int} (r_a1 : -2147483648 ≤ a1 ∧ a1 < 2147483648) 
    (h : wz_195 V X R Q QE  a0 a1 I) : jc V 6 195 (0, 0) [.ref a0, jy a1] X I R Q QE := by
  refine jy_met hV (by decide) (n := 2) (rt := some .int) (hh := []) (ini := false) (C := jx_c195) (L := [some (.ref a0), some (jy a1)]) jt_195 (Nat.le_of_ble_eq_true rfl) rfl ?_
  intro J hS
  unfold wz_195 at h
  refine jy_aload_n hS rfl rfl ?_
  obtain ⟨g1, h⟩ := h
  obtain ⟨q2, h⟩ := h
  obtain ⟨g3, h⟩ := h
  refine jy_getR hS rfl (by decide) g1 g3 ?_
  refine jy_aload_n hS rfl rfl ?_
  obtain ⟨q4, h⟩ := h
  obtain ⟨g5, h⟩ := h
  refine jy_getR hS rfl (by decide) g1 g5 ?_
  obtain ⟨g6, h⟩ := h
  obtain ⟨q7, h⟩ := h
  obtain ⟨g8, h⟩ := h
  refine jy_getR hS rfl (by decide) g6 g8 ?_
  refine jy_iload_n hS rfl rfl ?_
  obtain ⟨g9, h⟩ := h
  obtain ⟨Q10, h⟩ := h
  obtain ⟨g11, h⟩ := h
  refine jy_callV hS rfl rfl rfl (Nat.le_of_ble_eq_true rfl) (Or.inl g9) g11 (by decide) ⟨by decide, by decide⟩ (Nat.le_of_ble_eq_true rfl) ?_ ?_
  rotate_left
  · exact fun Ex Xx Ix Rx hp => hp.2.2.2.elim
  intro rv Xx I12 Rx hp
  obtain ⟨e1, e2, hp⟩ := hp
  rw [e1, e2]
  clear e1 e2
  obtain ⟨e1, h⟩ := h rv I12 hp
  rw [e1]
  clear e1
  change J 15 [] _ (0, 0) _ _ _
  refine jy_aload_n hS rfl rfl ?_
  obtain ⟨q14, h⟩ := h
  obtain ⟨g15, h⟩ := h
  refine jy_getR hS rfl (by decide) g1 g15 ?_
  refine jy_aload_n hS rfl rfl ?_
  obtain ⟨q16, h⟩ := h
  obtain ⟨g17, h⟩ := h
  refine jy_getR hS rfl (by decide) g1 g17 ?_
  refine jy_aload_n hS rfl rfl ?_
  refine jy_getR hS rfl (by decide) g1 g5 ?_
  obtain ⟨q18, h⟩ := h
  obtain ⟨g19, h⟩ := h
  refine jy_getR hS rfl (by decide) g6 g19 ?_
  refine jy_aload_n hS rfl rfl ?_
  refine jy_getR hS rfl (by decide) g1 g3 ?_
  refine jy_aload_n hS rfl rfl ?_
  refine jy_getR hS rfl (by decide) g1 g5 ?_
  obtain ⟨q20, h⟩ := h
  obtain ⟨g21, h⟩ := h
  refine jy_getR hS rfl (by decide) g6 g21 ?_
  obtain ⟨g22, h⟩ := h
  obtain ⟨Q23, h⟩ := h
  obtain ⟨g24, h⟩ := h
  refine jy_callV hS rfl rfl rfl (Nat.le_of_ble_eq_true rfl) (Or.inl g22) g24 (by decide) ⟨by decide, by decide⟩ (Nat.le_of_ble_eq_true rfl) ?_ ?_
  rotate_left
  · exact fun Ex Xx Ix Rx hp => hp.2.2.2.elim
  intro rv Xx I25 Rx hp
  obtain ⟨e1, e2, hp⟩ := hp
  rw [e1, e2]
  clear e1 e2
  obtain ⟨e1, h⟩ := h rv I25 hp
  rw [e1]
  clear e1
  change J 44 [] _ (0, 0) _ _ _
  refine jy_aload_n hS rfl rfl ?_
  refine jy_getR hS rfl (by decide) g1 g15 ?_
  obtain ⟨Q27, h⟩ := h
  obtain ⟨g28, h⟩ := h
  refine jy_callV hS rfl rfl rfl (Nat.le_of_ble_eq_true rfl) (Or.inl g22) g28 (by decide) ⟨by decide, by decide⟩ (Nat.le_of_ble_eq_true rfl) ?_ ?_
  rotate_left
  · exact fun Ex Xx Ix Rx hp => hp.2.2.2.elim
  intro rv Xx I29 Rx hp
  obtain ⟨e1, e2, hp⟩ := hp
  rw [e1, e2]
  clear e1 e2
  obtain ⟨r30, e1, h⟩ := h rv I29 hp
  rw [e1]
  clear e1
  change J 51 [jy r30] _ (0, 0) _ _ _
  exact jy_iret hS rfl rfl ⟨rfl, rfl, h⟩
theorem jt_196 : jx_ml 196 = 5 ∧ jx_rt 196 = some .int ∧ jx_hz 196 = [] ∧ decide ((jx_nm 196).name = "<init>") = false ∧ jx_code 196 = jx_c196 := by decide +kernel
/-- GC.rope, from 41 -/
def wz_196_41 (V : jx_V) (X : jx_X) (R : jx_R) (Q : Option Value → jx_I → Prop) (QE : String → jx_I → Prop) (J41 : Int → Int → jx_I → Prop) (J110 : Int → Int → jx_I → Prop) (a0 : Nat) (a1 : Int) (l2 : Int) (l3 : Int) (I : jx_I) : Prop :=
  (-2147483648 ≤ l3 ∧ l3 < 2147483648) ∧ (
  (720 ≤ l3 → (
    Q (some (jy l2)) I
  )) ∧ (¬ 720 ≤ l3 → (
    (X.2.1 a0 = some (11, 0)) ∧ (
    ∃ q27 : Nat, (
    (R a0 11 = some q27) ∧ (
    ∃ q29 : Nat, (
    (R a0 8 = some q29) ∧ (
    (X.2.1 q27 = some (2, 0)) ∧ (
    ∃ Q32 : Option Value → jx_I → Prop, (
    (jc V 2 41 (0, 0) [.ref q27, .ref q29] X I R Q32 (fun _ _ => False)) ∧ (
    ∀ rv I34, Q32 rv I34 → ∃ r35 : Int, rv = some (jy r35) ∧ (
    (-2147483648 ≤ r35 ∧ r35 < 2147483648) ∧ (
    (r35 ≠ 0 → (
      (X.2.1 q29 = some (5, 0)) ∧ (
      ∃ Q38 : Option Value → jx_I → Prop, (
      (jc V 2 82 (0, 0) [.ref q29] X I34 R Q38 (fun _ _ => False)) ∧ (
      ∀ rv I40, Q38 rv I40 → ∃ r41 : Int, rv = some (jy r41) ∧ (
      (-2147483648 ≤ r41 ∧ r41 < 2147483648) ∧ (
      (r41 ≠ 0 → (
        J41 l2 (l3 + 1) I40
      )) ∧ (r41 = 0 → (
        Q (some (jy l2)) I40
      )))))))
    )) ∧ (r35 = 0 → (
      ∃ q43 : Nat, (
      (R a0 4 = some q43) ∧ (
      ∃ q45 : Nat, (
      (R a0 2 = some q45) ∧ (
      (X.2.1 q45 = some (7, 0)) ∧ (
      ∃ q48 : Nat, (
      (R q45 2 = some q48) ∧ (
      (X.2.1 q43 = some (9, 0)) ∧ (
      ∃ Q51 : Option Value → jx_I → Prop, (
      (jc V 5 124 (0, 0) [.ref q43, .ref q27, .ref q48, .ref q29] X I34 R Q51 (fun _ _ => False)) ∧ (
      ∀ rv I53, Q51 rv I53 → ∃ r54 : Int, rv = some (jy r54) ∧ (
      (-2147483648 ≤ l2 ∧ l2 < 2147483648) ∧ (
      (l2 < 0 → (
        ∃ q56 : Nat, (
        (R a0 9 = some q56) ∧ (
        (X.2.1 q56 = some (5, 0)) ∧ (
        ∃ Q59 : Option Value → jx_I → Prop, (
        (jc V 1 74 (0, 0) [.ref q56, .ref q29] X I53 R Q59 (fun _ _ => False)) ∧ (
        ∀ rv I61, Q59 rv I61 → rv = none ∧ (
        J110 r54 l3 I61))))))
      )) ∧ (¬ l2 < 0 → (
        (-2147483648 ≤ r54 ∧ r54 < 2147483648) ∧ (
        (l2 ≤ r54 → (
          (X.2.1 q29 = some (5, 0)) ∧ (
          ∃ Q65 : Option Value → jx_I → Prop, (
          (jc V 2 82 (0, 0) [.ref q29] X I53 R Q65 (fun _ _ => False)) ∧ (
          ∀ rv I67, Q65 rv I67 → ∃ r68 : Int, rv = some (jy r68) ∧ (
          (-2147483648 ≤ r68 ∧ r68 < 2147483648) ∧ (
          (r68 ≠ 0 → (
            J41 l2 (l3 + 1) I67
          )) ∧ (r68 = 0 → (
            Q (some (jy l2)) I67
          )))))))
        )) ∧ (¬ l2 ≤ r54 → (
          ∃ q70 : Nat, (
          (R a0 9 = some q70) ∧ (
          (X.2.1 q70 = some (5, 0)) ∧ (
          ∃ Q73 : Option Value → jx_I → Prop, (
          (jc V 1 74 (0, 0) [.ref q70, .ref q29] X I53 R Q73 (fun _ _ => False)) ∧ (
          ∀ rv I75, Q73 rv I75 → rv = none ∧ (
          J110 r54 l3 I75))))))
        )))
      ))))))))))))))
    ))))))))))))
  )))
/-- GC.rope, from 110 -/
def wz_196_110 (V : jx_V) (X : jx_X) (R : jx_R) (Q : Option Value → jx_I → Prop) (QE : String → jx_I → Prop) (J41 : Int → Int → jx_I → Prop) (J110 : Int → Int → jx_I → Prop) (a0 : Nat) (a1 : Int) (l2 : Int) (l3 : Int) (I : jx_I) : Prop :=
  (X.2.1 a0 = some (11, 0)) ∧ (
  ∃ q78 : Nat, (
  (R a0 8 = some q78) ∧ (
  (X.2.1 q78 = some (5, 0)) ∧ (
  ∃ Q81 : Option Value → jx_I → Prop, (
  (jc V 2 82 (0, 0) [.ref q78] X I R Q81 (fun _ _ => False)) ∧ (
  ∀ rv I83, Q81 rv I83 → ∃ r84 : Int, rv = some (jy r84) ∧ (
  (-2147483648 ≤ r84 ∧ r84 < 2147483648) ∧ (
  (r84 ≠ 0 → (
    J41 l2 (l3 + 1) I83
  )) ∧ (r84 = 0 → (
    Q (some (jy l2)) I83
  ))))))))))
/-- GC.rope -/
def wz_196 (V : jx_V) (X : jx_X) (R : jx_R) (Q : Option Value → jx_I → Prop) (QE : String → jx_I → Prop) (J41 : Int → Int → jx_I → Prop) (J110 : Int → Int → jx_I → Prop) (a0 : Nat) (a1 : Int) (I : jx_I) : Prop :=
  (X.2.1 a0 = some (11, 0)) ∧ (
  ∃ q2 : Nat, (
  (R a0 8 = some q2) ∧ (
  (X.2.1 q2 = some (5, 0)) ∧ (
  ∃ Q5 : Option Value → jx_I → Prop, (
  (jc V 2 76 (0, 0) [.ref q2, jy a1] X I R Q5 (fun _ _ => False)) ∧ (
  ∀ rv I7, Q5 rv I7 → rv = none ∧ (
  ∃ q9 : Nat, (
  (R a0 4 = some q9) ∧ (
  ∃ q11 : Nat, (
  (R a0 11 = some q11) ∧ (
  ∃ q13 : Nat, (
  (R a0 2 = some q13) ∧ (
  (X.2.1 q13 = some (7, 0)) ∧ (
  ∃ q16 : Nat, (
  (R q13 2 = some q16) ∧ (
  ∃ q18 : Nat, (
  (R q13 0 = some q18) ∧ (
  (X.2.1 q9 = some (9, 0)) ∧ (
  ∃ Q21 : Option Value → jx_I → Prop, (
  (jc V 5 121 (0, 0) [.ref q9, .ref q11, .ref q16, .ref q2, .ref q18] X I7 R Q21 (fun _ _ => False)) ∧ (
  ∀ rv I23, Q21 rv I23 → rv = none ∧ (
  J41 (-1) 0 I23))))))))))))))))))))))
set_option maxRecDepth 20000 in
theorem wm_196 {V : jx_V} (hV : V.1.stackTraces = false) {X : jx_X} {R : jx_R} {I : jx_I} {Q : Option Value → jx_I → Prop} {QE : String → jx_I → Prop} {a0 : Nat} {a1 : Int} (r_a1 : -2147483648 ≤ a1 ∧ a1 < 2147483648) 
    (h : ∀ (J41 : Int → Int → jx_I → Prop) (J110 : Int → Int → jx_I → Prop), ((∀ (l2 : Int) (l3 : Int) I, wz_196_41 V X R Q QE J41 J110 a0 a1 l2 l3 I → J41 l2 l3 I) ∧ (∀ (l2 : Int) (l3 : Int) I, wz_196_110 V X R Q QE J41 J110 a0 a1 l2 l3 I → J110 l2 l3 I)) → wz_196 V X R Q QE J41 J110 a0 a1 I) : jc V 6 196 (0, 0) [.ref a0, jy a1] X I R Q QE := by
  refine jy_met hV (by decide) (n := 5) (rt := some .int) (hh := []) (ini := false) (C := jx_c196) (L := [some (.ref a0), some (jy a1), none, none, none]) jt_196 (Nat.le_of_ble_eq_true rfl) rfl ?_
  intro J hS
  have h := h (fun l2 l3 I => J 41 [] [some (.ref a0), none, some (jy l2), some (jy l3), none] (0, 0) X I R) (fun l2 l3 I => J 110 [] [some (.ref a0), none, some (jy l2), some (jy l3), none] (0, 0) X I R) ?_
  · unfold wz_196 at h
    refine jy_aload_n hS rfl rfl ?_
    obtain ⟨g1, h⟩ := h
    obtain ⟨q2, h⟩ := h
    obtain ⟨g3, h⟩ := h
    refine jy_getR hS rfl (by decide) g1 g3 ?_
    refine jy_iload_n hS rfl rfl ?_
    obtain ⟨g4, h⟩ := h
    obtain ⟨Q5, h⟩ := h
    obtain ⟨g6, h⟩ := h
    refine jy_callV hS rfl rfl rfl (Nat.le_of_ble_eq_true rfl) (Or.inl g4) g6 (by decide) ⟨by decide, by decide⟩ (Nat.le_of_ble_eq_true rfl) ?_ ?_
    rotate_left
    · exact fun Ex Xx Ix Rx hp => hp.2.2.2.elim
    intro rv Xx I7 Rx hp
    obtain ⟨e1, e2, hp⟩ := hp
    rw [e1, e2]
    clear e1 e2
    obtain ⟨e1, h⟩ := h rv I7 hp
    rw [e1]
    clear e1
    change J 8 [] _ (0, 0) _ _ _
    refine jy_aload_n hS rfl rfl ?_
    obtain ⟨q9, h⟩ := h
    obtain ⟨g10, h⟩ := h
    refine jy_getR hS rfl (by decide) g1 g10 ?_
    refine jy_aload_n hS rfl rfl ?_
    obtain ⟨q11, h⟩ := h
    obtain ⟨g12, h⟩ := h
    refine jy_getR hS rfl (by decide) g1 g12 ?_
    refine jy_aload_n hS rfl rfl ?_
    obtain ⟨q13, h⟩ := h
    obtain ⟨g14, h⟩ := h
    refine jy_getR hS rfl (by decide) g1 g14 ?_
    obtain ⟨g15, h⟩ := h
    obtain ⟨q16, h⟩ := h
    obtain ⟨g17, h⟩ := h
    refine jy_getR hS rfl (by decide) g15 g17 ?_
    refine jy_aload_n hS rfl rfl ?_
    refine jy_getR hS rfl (by decide) g1 g3 ?_
    refine jy_aload_n hS rfl rfl ?_
    refine jy_getR hS rfl (by decide) g1 g14 ?_
    obtain ⟨q18, h⟩ := h
    obtain ⟨g19, h⟩ := h
    refine jy_getR hS rfl (by decide) g15 g19 ?_
    obtain ⟨g20, h⟩ := h
    obtain ⟨Q21, h⟩ := h
    obtain ⟨g22, h⟩ := h
    refine jy_callV hS rfl rfl rfl (Nat.le_of_ble_eq_true rfl) (Or.inl g20) g22 (by decide) ⟨by decide, by decide⟩ (Nat.le_of_ble_eq_true rfl) ?_ ?_
    rotate_left
    · exact fun Ex Xx Ix Rx hp => hp.2.2.2.elim
    intro rv Xx I23 Rx hp
    obtain ⟨e1, e2, hp⟩ := hp
    rw [e1, e2]
    clear e1 e2
    obtain ⟨e1, h⟩ := h rv I23 hp
    rw [e1]
    clear e1
    change J 37 [] _ (0, 0) _ _ _
    refine jy_iconst hS rfl ?_
    refine jy_istore_n hS rfl (Nat.le_of_ble_eq_true rfl) (L' := [some (.ref a0), some (jy a1), some (jy (-1)), none, none]) rfl ?_
    refine jy_iconst hS rfl ?_
    refine jy_istore_n hS rfl (Nat.le_of_ble_eq_true rfl) (L' := [some (.ref a0), some (jy a1), some (jy (-1)), some (jy 0), none]) rfl ?_
    exact jy_join hS h rfl (jy_sub_s (jy_sub_n (jy_sub_s (jy_sub_s (jy_sub_n jy_sub_0)))))
  refine ⟨?_, ?_⟩
  · intro l2 l3 I h
    unfold wz_196_41 at h
    refine jy_iload_n hS rfl rfl ?_
    refine jy_sipush hS rfl (by decide) ?_
    obtain ⟨g25, h⟩ := h
    refine jy_icmp_ge hS rfl ⟨g25, ⟨by decide, by decide⟩⟩ (fun hq => ?_) (fun hq => ?_)
    · have h := h.1 hq
      refine jy_iload_n hS rfl rfl ?_
      exact jy_iret hS rfl rfl ⟨rfl, rfl, h⟩
    · have h := h.2 hq
      refine jy_aload_n hS rfl rfl ?_
      obtain ⟨g26, h⟩ := h
      obtain ⟨q27, h⟩ := h
      obtain ⟨g28, h⟩ := h
      refine jy_getR hS rfl (by decide) g26 g28 ?_
      refine jy_aload_n hS rfl rfl ?_
      obtain ⟨q29, h⟩ := h
      obtain ⟨g30, h⟩ := h
      refine jy_getR hS rfl (by decide) g26 g30 ?_
      obtain ⟨g31, h⟩ := h
      obtain ⟨Q32, h⟩ := h
      obtain ⟨g33, h⟩ := h
      refine jy_callV hS rfl rfl rfl (Nat.le_of_ble_eq_true rfl) (Or.inl g31) g33 (by decide) ⟨by decide, by decide⟩ (Nat.le_of_ble_eq_true rfl) ?_ ?_
      rotate_left
      · exact fun Ex Xx Ix Rx hp => hp.2.2.2.elim
      intro rv Xx I34 Rx hp
      obtain ⟨e1, e2, hp⟩ := hp
      rw [e1, e2]
      clear e1 e2
      obtain ⟨r35, e1, h⟩ := h rv I34 hp
      rw [e1]
      clear e1
      change J 59 [jy r35] _ (0, 0) _ _ _
      obtain ⟨g36, h⟩ := h
      refine jy_if_ne hS rfl g36 (fun hq => ?_) (fun hq => ?_)
      · have h := h.1 hq
        refine jy_aload_n hS rfl rfl ?_
        refine jy_getR hS rfl (by decide) g26 g30 ?_
        obtain ⟨g37, h⟩ := h
        obtain ⟨Q38, h⟩ := h
        obtain ⟨g39, h⟩ := h
        refine jy_callV hS rfl rfl rfl (Nat.le_of_ble_eq_true rfl) (Or.inl g37) g39 (by decide) ⟨by decide, by decide⟩ (Nat.le_of_ble_eq_true rfl) ?_ ?_
        rotate_left
        · exact fun Ex Xx Ix Rx hp => hp.2.2.2.elim
        intro rv Xx I40 Rx hp
        obtain ⟨e1, e2, hp⟩ := hp
        rw [e1, e2]
        clear e1 e2
        obtain ⟨r41, e1, h⟩ := h rv I40 hp
        rw [e1]
        clear e1
        change J 117 [jy r41] _ (0, 0) _ _ _
        obtain ⟨g42, h⟩ := h
        refine jy_if_ne hS rfl g42 (fun hq => ?_) (fun hq => ?_)
        · have h := h.1 hq
          refine jy_iinc hS rfl rfl (L' := [some (.ref a0), none, some (jy l2), some (jy (l3 + 1)), none]) rfl ?_
          refine jy_goto hS rfl ?_
          exact jy_join hS h rfl (jy_sub_s (jy_sub_n (jy_sub_s (jy_sub_s (jy_sub_n jy_sub_0)))))
        · have h := h.2 hq
          refine jy_goto hS rfl ?_
          refine jy_iload_n hS rfl rfl ?_
          exact jy_iret hS rfl rfl ⟨rfl, rfl, h⟩
      · have h := h.2 hq
        refine jy_aload_n hS rfl rfl ?_
        obtain ⟨q43, h⟩ := h
        obtain ⟨g44, h⟩ := h
        refine jy_getR hS rfl (by decide) g26 g44 ?_
        refine jy_aload_n hS rfl rfl ?_
        refine jy_getR hS rfl (by decide) g26 g28 ?_
        refine jy_aload_n hS rfl rfl ?_
        obtain ⟨q45, h⟩ := h
        obtain ⟨g46, h⟩ := h
        refine jy_getR hS rfl (by decide) g26 g46 ?_
        obtain ⟨g47, h⟩ := h
        obtain ⟨q48, h⟩ := h
        obtain ⟨g49, h⟩ := h
        refine jy_getR hS rfl (by decide) g47 g49 ?_
        refine jy_aload_n hS rfl rfl ?_
        refine jy_getR hS rfl (by decide) g26 g30 ?_
        obtain ⟨g50, h⟩ := h
        obtain ⟨Q51, h⟩ := h
        obtain ⟨g52, h⟩ := h
        refine jy_callV hS rfl rfl rfl (Nat.le_of_ble_eq_true rfl) (Or.inl g50) g52 (by decide) ⟨by decide, by decide⟩ (Nat.le_of_ble_eq_true rfl) ?_ ?_
        rotate_left
        · exact fun Ex Xx Ix Rx hp => hp.2.2.2.elim
        intro rv Xx I53 Rx hp
        obtain ⟨e1, e2, hp⟩ := hp
        rw [e1, e2]
        clear e1 e2
        obtain ⟨r54, e1, h⟩ := h rv I53 hp
        rw [e1]
        clear e1
        change J 84 [jy r54] _ (0, 0) _ _ _
        refine jy_istore hS rfl (Nat.le_of_ble_eq_true rfl) (L' := [some (.ref a0), none, some (jy l2), some (jy l3), some (jy r54)]) rfl ?_
        refine jy_iload_n hS rfl rfl ?_
        obtain ⟨g55, h⟩ := h
        refine jy_if_lt hS rfl g55 (fun hq => ?_) (fun hq => ?_)
        · have h := h.1 hq
          refine jy_iload hS rfl rfl ?_
          refine jy_istore_n hS rfl (Nat.le_of_ble_eq_true rfl) (L' := [some (.ref a0), none, some (jy r54), some (jy l3), some (jy r54)]) rfl ?_
          refine jy_aload_n hS rfl rfl ?_
          obtain ⟨q56, h⟩ := h
          obtain ⟨g57, h⟩ := h
          refine jy_getR hS rfl (by decide) g26 g57 ?_
          refine jy_aload_n hS rfl rfl ?_
          refine jy_getR hS rfl (by decide) g26 g30 ?_
          obtain ⟨g58, h⟩ := h
          obtain ⟨Q59, h⟩ := h
          obtain ⟨g60, h⟩ := h
          refine jy_callV hS rfl rfl rfl (Nat.le_of_ble_eq_true rfl) (Or.inl g58) g60 (by decide) ⟨by decide, by decide⟩ (Nat.le_of_ble_eq_true rfl) ?_ ?_
          rotate_left
          · exact fun Ex Xx Ix Rx hp => hp.2.2.2.elim
          intro rv Xx I61 Rx hp
          obtain ⟨e1, e2, hp⟩ := hp
          rw [e1, e2]
          clear e1 e2
          obtain ⟨e1, h⟩ := h rv I61 hp
          rw [e1]
          clear e1
          change J 110 [] _ (0, 0) _ _ _
          exact jy_join hS h rfl (jy_sub_s (jy_sub_n (jy_sub_s (jy_sub_s (jy_sub_n jy_sub_0)))))
        · have h := h.2 hq
          refine jy_iload hS rfl rfl ?_
          refine jy_iload_n hS rfl rfl ?_
          obtain ⟨g63, h⟩ := h
          refine jy_icmp_ge hS rfl ⟨g63, g55⟩ (fun hq => ?_) (fun hq => ?_)
          · have h := h.1 hq
            refine jy_aload_n hS rfl rfl ?_
            refine jy_getR hS rfl (by decide) g26 g30 ?_
            obtain ⟨g64, h⟩ := h
            obtain ⟨Q65, h⟩ := h
            obtain ⟨g66, h⟩ := h
            refine jy_callV hS rfl rfl rfl (Nat.le_of_ble_eq_true rfl) (Or.inl g64) g66 (by decide) ⟨by decide, by decide⟩ (Nat.le_of_ble_eq_true rfl) ?_ ?_
            rotate_left
            · exact fun Ex Xx Ix Rx hp => hp.2.2.2.elim
            intro rv Xx I67 Rx hp
            obtain ⟨e1, e2, hp⟩ := hp
            rw [e1, e2]
            clear e1 e2
            obtain ⟨r68, e1, h⟩ := h rv I67 hp
            rw [e1]
            clear e1
            change J 117 [jy r68] _ (0, 0) _ _ _
            obtain ⟨g69, h⟩ := h
            refine jy_if_ne hS rfl g69 (fun hq => ?_) (fun hq => ?_)
            · have h := h.1 hq
              refine jy_iinc hS rfl rfl (L' := [some (.ref a0), none, some (jy l2), some (jy (l3 + 1)), some (jy r54)]) rfl ?_
              refine jy_goto hS rfl ?_
              exact jy_join hS h rfl (jy_sub_s (jy_sub_n (jy_sub_s (jy_sub_s (jy_sub_n jy_sub_0)))))
            · have h := h.2 hq
              refine jy_goto hS rfl ?_
              refine jy_iload_n hS rfl rfl ?_
              exact jy_iret hS rfl rfl ⟨rfl, rfl, h⟩
          · have h := h.2 hq
            refine jy_iload hS rfl rfl ?_
            refine jy_istore_n hS rfl (Nat.le_of_ble_eq_true rfl) (L' := [some (.ref a0), none, some (jy r54), some (jy l3), some (jy r54)]) rfl ?_
            refine jy_aload_n hS rfl rfl ?_
            obtain ⟨q70, h⟩ := h
            obtain ⟨g71, h⟩ := h
            refine jy_getR hS rfl (by decide) g26 g71 ?_
            refine jy_aload_n hS rfl rfl ?_
            refine jy_getR hS rfl (by decide) g26 g30 ?_
            obtain ⟨g72, h⟩ := h
            obtain ⟨Q73, h⟩ := h
            obtain ⟨g74, h⟩ := h
            refine jy_callV hS rfl rfl rfl (Nat.le_of_ble_eq_true rfl) (Or.inl g72) g74 (by decide) ⟨by decide, by decide⟩ (Nat.le_of_ble_eq_true rfl) ?_ ?_
            rotate_left
            · exact fun Ex Xx Ix Rx hp => hp.2.2.2.elim
            intro rv Xx I75 Rx hp
            obtain ⟨e1, e2, hp⟩ := hp
            rw [e1, e2]
            clear e1 e2
            obtain ⟨e1, h⟩ := h rv I75 hp
            rw [e1]
            clear e1
            change J 110 [] _ (0, 0) _ _ _
            exact jy_join hS h rfl (jy_sub_s (jy_sub_n (jy_sub_s (jy_sub_s (jy_sub_n jy_sub_0)))))
  · intro l2 l3 I h
    unfold wz_196_110 at h
    refine jy_aload_n hS rfl rfl ?_
    obtain ⟨g77, h⟩ := h
    obtain ⟨q78, h⟩ := h
    obtain ⟨g79, h⟩ := h
    refine jy_getR hS rfl (by decide) g77 g79 ?_
    obtain ⟨g80, h⟩ := h
    obtain ⟨Q81, h⟩ := h
    obtain ⟨g82, h⟩ := h
    refine jy_callV hS rfl rfl rfl (Nat.le_of_ble_eq_true rfl) (Or.inl g80) g82 (by decide) ⟨by decide, by decide⟩ (Nat.le_of_ble_eq_true rfl) ?_ ?_
    rotate_left
    · exact fun Ex Xx Ix Rx hp => hp.2.2.2.elim
    intro rv Xx I83 Rx hp
    obtain ⟨e1, e2, hp⟩ := hp
    rw [e1, e2]
    clear e1 e2
    obtain ⟨r84, e1, h⟩ := h rv I83 hp
    rw [e1]
    clear e1
    change J 117 [jy r84] _ (0, 0) _ _ _
    obtain ⟨g85, h⟩ := h
    refine jy_if_ne hS rfl g85 (fun hq => ?_) (fun hq => ?_)
    · have h := h.1 hq
      refine jy_iinc hS rfl rfl (L' := [some (.ref a0), none, some (jy l2), some (jy (l3 + 1)), none]) rfl ?_
      refine jy_goto hS rfl ?_
      exact jy_join hS h rfl (jy_sub_s (jy_sub_n (jy_sub_s (jy_sub_s (jy_sub_n jy_sub_0)))))
    · have h := h.2 hq
      refine jy_goto hS rfl ?_
      refine jy_iload_n hS rfl rfl ?_
      exact jy_iret hS rfl rfl ⟨rfl, rfl, h⟩
theorem jt_197 : jx_ml 197 = 6 ∧ jx_rt 197 = some .int ∧ jx_hz 197 = [] ∧ decide ((jx_nm 197).name = "<init>") = false ∧ jx_code 197 = jx_c197 := by decide +kernel
/-- GC.delays, from 8 -/
def wz_197_8 (V : jx_V) (X : jx_X) (R : jx_R) (Q : Option Value → jx_I → Prop) (QE : String → jx_I → Prop) (J8 : Int → Int → Int → jx_I → Prop) (J50 : Int → Int → Int → jx_I → Prop) (a0 : Nat) (a1 : Int) (a2 : Int) (l3 : Int) (l4 : Int) (l5 : Int) (I : jx_I) : Prop :=
  (X.2.1 a0 = some (11, 0)) ∧ (
  ∃ q2 : Nat, (
  (R a0 2 = some q2) ∧ (
  (X.2.1 q2 = some (7, 0)) ∧ (
  ∃ q5 : Nat, (
  (R q2 2 = some q5) ∧ (
  (X.2.1 q5 = some (5, 0)) ∧ (
  (-2147483648 ≤ l5 ∧ l5 < 2147483648) ∧ (
  ((I q5 1).toInt ≤ l5 → (
    Q (some (jy l3)) I
  )) ∧ (¬ (I q5 1).toInt ≤ l5 → (
    (a2 ≤ (Int32.ofInt ((((Int32.ofInt ((l4 * 1103515245) + 12345)).toUInt32 >>> ((Int32.ofInt 16).toUInt32 &&& Int32.toUInt32 31)).toInt32).toInt) &&& Int32.ofInt 7).toInt → (
      J8 l3 ((l4 * 1103515245) + 12345) (l5 + 1) I
    )) ∧ (¬ a2 ≤ (Int32.ofInt ((((Int32.ofInt ((l4 * 1103515245) + 12345)).toUInt32 >>> ((Int32.ofInt 16).toUInt32 &&& Int32.toUInt32 31)).toInt32).toInt) &&& Int32.ofInt 7).toInt → (
      J50 (l3 + 1) ((l4 * 1103515245) + 12345) l5 I
    ))
  ))))))))))
/-- GC.delays, from 50 -/
def wz_197_50 (V : jx_V) (X : jx_X) (R : jx_R) (Q : Option Value → jx_I → Prop) (QE : String → jx_I → Prop) (J8 : Int → Int → Int → jx_I → Prop) (J50 : Int → Int → Int → jx_I → Prop) (a0 : Nat) (a1 : Int) (a2 : Int) (l3 : Int) (l4 : Int) (l5 : Int) (I : jx_I) : Prop :=
  J8 l3 l4 (l5 + 1) I
/-- GC.delays -/
def wz_197 (V : jx_V) (X : jx_X) (R : jx_R) (Q : Option Value → jx_I → Prop) (QE : String → jx_I → Prop) (J8 : Int → Int → Int → jx_I → Prop) (J50 : Int → Int → Int → jx_I → Prop) (a0 : Nat) (a1 : Int) (a2 : Int) (I : jx_I) : Prop :=
  J8 0 a1 1 I
set_option maxRecDepth 20000 in
theorem wm_197 {V : jx_V} (hV : V.1.stackTraces = false) {X : jx_X} {R : jx_R} {I : jx_I} {Q : Option Value → jx_I → Prop} {QE : String → jx_I → Prop} {a0 : Nat} {a1 : Int} {a2 : Int} (r_a1 : -2147483648 ≤ a1 ∧ a1 < 2147483648) (r_a2 : -2147483648 ≤ a2 ∧ a2 < 2147483648) 
    (h : ∀ (J8 : Int → Int → Int → jx_I → Prop) (J50 : Int → Int → Int → jx_I → Prop), ((∀ (l3 : Int) (l4 : Int) (l5 : Int) I, wz_197_8 V X R Q QE J8 J50 a0 a1 a2 l3 l4 l5 I → J8 l3 l4 l5 I) ∧ (∀ (l3 : Int) (l4 : Int) (l5 : Int) I, wz_197_50 V X R Q QE J8 J50 a0 a1 a2 l3 l4 l5 I → J50 l3 l4 l5 I)) → wz_197 V X R Q QE J8 J50 a0 a1 a2 I) : jc V 1 197 (0, 0) [.ref a0, jy a1, jy a2] X I R Q QE := by
  refine jy_met hV (by decide) (n := 6) (rt := some .int) (hh := []) (ini := false) (C := jx_c197) (L := [some (.ref a0), some (jy a1), some (jy a2), none, none, none]) jt_197 (Nat.le_of_ble_eq_true rfl) rfl ?_
  intro J hS
  have h := h (fun l3 l4 l5 I => J 8 [] [some (.ref a0), none, some (jy a2), some (jy l3), some (jy l4), some (jy l5)] (0, 0) X I R) (fun l3 l4 l5 I => J 50 [] [some (.ref a0), none, some (jy a2), some (jy l3), some (jy l4), some (jy l5)] (0, 0) X I R) ?_
  · unfold wz_197 at h
    refine jy_iconst hS rfl ?_
    refine jy_istore_n hS rfl (Nat.le_of_ble_eq_true rfl) (L' := [some (.ref a0), some (jy a1), some (jy a2), some (jy 0), none, none]) rfl ?_
    refine jy_iload_n hS rfl rfl ?_
    refine jy_istore hS rfl (Nat.le_of_ble_eq_true rfl) (L' := [some (.ref a0), some (jy a1), some (jy a2), some (jy 0), some (jy a1), none]) rfl ?_
    refine jy_iconst hS rfl ?_
    refine jy_istore hS rfl (Nat.le_of_ble_eq_true rfl) (L' := [some (.ref a0), some (jy a1), some (jy a2), some (jy 0), some (jy a1), some (jy 1)]) rfl ?_
    exact jy_join hS h rfl (jy_sub_s (jy_sub_n (jy_sub_s (jy_sub_s (jy_sub_s (jy_sub_s jy_sub_0))))))
  refine ⟨?_, ?_⟩
  · intro l3 l4 l5 I h
    unfold wz_197_8 at h
    refine jy_iload hS rfl rfl ?_
    refine jy_aload_n hS rfl rfl ?_
    obtain ⟨g1, h⟩ := h
    obtain ⟨q2, h⟩ := h
    obtain ⟨g3, h⟩ := h
    refine jy_getR hS rfl (by decide) g1 g3 ?_
    obtain ⟨g4, h⟩ := h
    obtain ⟨q5, h⟩ := h
    obtain ⟨g6, h⟩ := h
    refine jy_getR hS rfl (by decide) g4 g6 ?_
    obtain ⟨g7, h⟩ := h
    refine jy_getI hS rfl (by decide) g7 ?_
    obtain ⟨g8, h⟩ := h
    refine jy_icmp_ge hS rfl ⟨g8, (jy_rng _)⟩ (fun hq => ?_) (fun hq => ?_)
    · have h := h.1 hq
      refine jy_iload_n hS rfl rfl ?_
      exact jy_iret hS rfl rfl ⟨rfl, rfl, h⟩
    · have h := h.2 hq
      refine jy_iload hS rfl rfl ?_
      refine jy_ldcw hS rfl (n := 1103515245) (by decide) ?_
      refine jy_imul hS rfl ?_
      refine jy_sipush hS rfl (by decide) ?_
      refine jy_iadd hS rfl ?_
      refine jy_istore hS rfl (Nat.le_of_ble_eq_true rfl) (L' := [some (.ref a0), none, some (jy a2), some (jy l3), some (jy ((l4 * 1103515245) + 12345)), some (jy l5)]) rfl ?_
      refine jy_iload hS rfl rfl ?_
      refine jy_bipush hS rfl (by decide) ?_
      refine jy_iushrX hS rfl rfl ?_
      refine jy_bipush hS rfl (by decide) ?_
      refine jy_iandX hS rfl rfl ?_
      refine jy_iload_n hS rfl rfl ?_
      refine jy_icmp_ge hS rfl ⟨(jy_rng _), r_a2⟩ (fun hq => ?_) (fun hq => ?_)
      · have h := h.1 hq
        refine jy_iinc hS rfl rfl (L' := [some (.ref a0), none, some (jy a2), some (jy l3), some (jy ((l4 * 1103515245) + 12345)), some (jy (l5 + 1))]) rfl ?_
        refine jy_goto hS rfl ?_
        exact jy_join hS h rfl (jy_sub_s (jy_sub_n (jy_sub_s (jy_sub_s (jy_sub_s (jy_sub_s jy_sub_0))))))
      · have h := h.2 hq
        refine jy_iinc hS rfl rfl (L' := [some (.ref a0), none, some (jy a2), some (jy (l3 + 1)), some (jy ((l4 * 1103515245) + 12345)), some (jy l5)]) rfl ?_
        exact jy_join hS h rfl (jy_sub_s (jy_sub_n (jy_sub_s (jy_sub_s (jy_sub_s (jy_sub_s jy_sub_0))))))
  · intro l3 l4 l5 I h
    unfold wz_197_50 at h
    refine jy_iinc hS rfl rfl (L' := [some (.ref a0), none, some (jy a2), some (jy l3), some (jy l4), some (jy (l5 + 1))]) rfl ?_
    refine jy_goto hS rfl ?_
    exact jy_join hS h rfl (jy_sub_s (jy_sub_n (jy_sub_s (jy_sub_s (jy_sub_s (jy_sub_s jy_sub_0))))))
