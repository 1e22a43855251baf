theorem jt_136 : jx_ml 136 = 4 ∧ jx_rt 136 = some .int ∧ jx_hz 136 = [] ∧ decide ((jx_nm 136).name = "<init>") = false ∧ jx_code 136 = jx_c136 := by decide +kernel
/-- GC.land, from 21 -/
def wz_136_21 (V : jx_V) (X : jx_X) (Q : Option Value → jx_I → jx_R → Prop) (QE : String → jx_I → jx_R → Prop) (J21 : Nat → Int → jx_I → jx_R → Prop) (a0 : Nat) (a1 : Int) (s0 : Nat) (s1 : Int) (I : jx_I) (R : jx_R) : Prop :=
  (X.2.1 s0 = some (11, 0)) ∧ (
  ∃ Q6 : Option Value → jx_I → Prop, (
  ∃ E7 : String → jx_I → Prop, (
  (jc V 8 189 (1, 6) [.ref s0, jy s1] X I R Q6 E7) ∧ (
  (∀ Ex Ix, E7 Ex Ix → QE Ex Ix R) ∧ (
  ∀ rv I10, Q6 rv I10 → rv = none ∧ (
  (X.2.1 a0 = some (11, 0)) ∧ (
  ∃ q13 : Nat, (
  (R a0 0 = some q13) ∧ (
  (X.2.1 q13 = some (8, 0)) ∧ (
  ∃ Q16 : Option Value → jx_I → Prop, (
  (jc V 2 104 (0, 0) [.ref q13, jy a1] X I10 R Q16 (fun _ _ => False)) ∧ (
  ∀ rv I18, Q16 rv I18 → rv = none ∧ (
  ∃ q20 : Nat, (
  (R a0 12 = some q20) ∧ (
  (X.2.1 q20 = some (2, 0)) ∧ (
  ∃ Q23 : Option Value → jx_I → Prop, (
  (jc V 202 23 (0, 0) [.ref q20, .ref q13] X I18 R Q23 (fun _ _ => False)) ∧ (
  ∀ rv I25, Q23 rv I25 → ∃ r26 : Int, rv = some (jy r26) ∧ (
  ∃ Q27 : Option Value → jx_I → Prop, (
  (jc V 1 105 (0, 0) [.ref q13] X I25 R Q27 (fun _ _ => False)) ∧ (
  ∀ rv I29, Q27 rv I29 → rv = none ∧ (
  (-2147483648 ≤ r26 ∧ r26 < 2147483648) ∧ (
  (r26 ≠ 0 → (
    ∃ q32 : Nat, (
    (R a0 11 = some q32) ∧ (
    ∀ R34 : jx_R, R34 = jx_u R a0 11 (some q20) → (
    ∀ R35 : jx_R, R35 = jx_u R34 a0 12 (some q32) → (
    ∃ q36 : Nat, (
    (R35 a0 2 = some q36) ∧ (
    ∃ q38 : Nat, (
    (R35 a0 11 = some q38) ∧ (
    (X.2.1 q36 = some (7, 0)) ∧ (
    ∃ Q41 : Option Value → jx_I → Prop, (
    (jc V 3 96 (0, 0) [.ref q36, .ref q38] X I29 R35 Q41 (fun _ _ => False)) ∧ (
    ∀ rv I43, Q41 rv I43 → rv = none ∧ (
    ∃ q45 : Nat, (
    (R35 a0 13 = some q45) ∧ (
    (X.2.1 q45 = some (4, 0)) ∧ (
    ∃ Q48 : Option Value → jx_I → Prop, (
    (jc V 1 55 (0, 0) [.ref q45] X I43 R35 Q48 (fun _ _ => False)) ∧ (
    ∀ rv I50, Q48 rv I50 → rv = none ∧ (
    ∀ I52 : jx_I, I52 = jx_u I50 a0 15 (Int32.ofInt 0) → (
    ∃ q53 : Nat, (
    (R35 a0 7 = some q53) ∧ (
    (X.2.1 q53 = some (0, 0)) ∧ (
    ∀ I56 : jx_I, I56 = jx_u I52 q53 6 (Int32.ofInt 1) → (
    (X.2.1 q38 = some (2, 0)) ∧ (
    Q (some (jy ((I56 q38 8).toInt))) I56 R35))))))))))))))))))))))))
  )) ∧ (r26 = 0 → (
    Q (some (jy ((I29 q13 7).toInt - 10))) I29 R
  )))))))))))))))))))))))))
/-- GC.land -/
def wz_136 (V : jx_V) (X : jx_X) (Q : Option Value → jx_I → jx_R → Prop) (QE : String → jx_I → jx_R → Prop) (J21 : Nat → Int → jx_I → jx_R → Prop) (a0 : Nat) (a1 : Int) (I : jx_I) (R : jx_R) : Prop :=
  (a1 < 0 → (
    J21 a0 0 I R
  )) ∧ (¬ a1 < 0 → (
    (X.2.1 a0 = some (11, 0)) ∧ (
    ∃ q2 : Nat, (
    (R a0 0 = some q2) ∧ (
    (X.2.1 q2 = some (8, 0)) ∧ (
    ((I q2 1).toInt < a1 → (
      J21 a0 0 I R
    )) ∧ (¬ (I q2 1).toInt < a1 → (
      J21 a0 1 I R
    ))))))
  ))
set_option maxRecDepth 20000 in
theorem wm_136 {V : jx_V} (hV : V.1.stackTraces = false) {X : jx_X} {R : jx_R} {I : jx_I} {Q : Option Value → jx_I → jx_R → Prop} {QE : String → jx_I → jx_R → Prop} {a0 : Nat} {a1 : Int} (r_a1 : -2147483648 ≤ a1 ∧ a1 < 2147483648) 
    (h : ∀ (J21 : Nat → Int → jx_I → jx_R → Prop), ((∀ (s0 : Nat) (s1 : Int) I R, wz_136_21 V X Q QE J21 a0 a1 s0 s1 I R → J21 s0 s1 I R)) → wz_136 V X Q QE J21 a0 a1 I R) : jd V 203 136 (1, 6) [.ref a0, jy a1] X I R Q QE := by
  refine jy_met hV (by decide) (n := 4) (rt := some .int) (hh := []) (ini := false) (C := jx_c136) (L := [some (.ref a0), some (jy a1), none, none]) jt_136 (Nat.le_of_ble_eq_true rfl) rfl ?_
  intro J hS
  have h := h (fun s0 s1 I R => J 21 [jy s1, .ref s0] [some (.ref a0), some (jy a1), none, none] (1, 6) X I R) ?_
  · unfold wz_136 at h
    refine jy_aload_n hS rfl rfl ?_
    refine jy_iload_n hS rfl rfl ?_
    refine jy_if_lt hS rfl r_a1 (fun hq => ?_) (fun hq => ?_)
    · have h := h.1 hq
      refine jy_iconst hS rfl ?_
      exact jy_join hS h rfl (jy_sub_s (jy_sub_s (jy_sub_n (jy_sub_n jy_sub_0))))
    · have h := h.2 hq
      refine jy_iload_n hS rfl rfl ?_
      refine jy_aload_n hS rfl rfl ?_
      obtain ⟨g1, h⟩ := h
      obtain ⟨q2, h⟩ := h
      obtain ⟨g3, h⟩ := h
      refine jy_getR hS rfl (by decide) g1 g3 ?_
      obtain ⟨g4, h⟩ := h
      refine jy_getI hS rfl (by decide) g4 ?_
      refine jy_icmp_gt hS rfl ⟨r_a1, (jy_rng _)⟩ (fun hq => ?_) (fun hq => ?_)
      · have h := h.1 hq
        refine jy_iconst hS rfl ?_
        exact jy_join hS h rfl (jy_sub_s (jy_sub_s (jy_sub_n (jy_sub_n jy_sub_0))))
      · have h := h.2 hq
        refine jy_iconst hS rfl ?_
        refine jy_goto hS rfl ?_
        exact jy_join hS h rfl (jy_sub_s (jy_sub_s (jy_sub_n (jy_sub_n jy_sub_0))))
  · intro s0 s1 I R h
    unfold wz_136_21 at h
    obtain ⟨g5, h⟩ := h
    obtain ⟨Q6, h⟩ := h
    obtain ⟨E7, h⟩ := h
    obtain ⟨g8, h⟩ := h
    obtain ⟨g9, h⟩ := h
    refine jy_callV hS rfl rfl rfl (Nat.le_of_ble_eq_true rfl) (Or.inl g5) g8 (by decide) ⟨by decide, by decide⟩ (Nat.le_of_ble_eq_true rfl) ?_ ?_
    rotate_left
    · exact fun Ex Xx Ix Rx hp => ⟨hp.1, hp.2.1, by rw [hp.2.2.1]; exact g9 _ _ hp.2.2.2⟩
    intro rv Xx I10 Rx hp
    obtain ⟨e1, e2, hp⟩ := hp
    rw [e1, e2]
    clear e1 e2
    obtain ⟨e1, h⟩ := h rv I10 hp
    rw [e1]
    clear e1
    change J 24 [] _ (0, 0) _ _ _
    refine jy_aload_n hS rfl rfl ?_
    obtain ⟨g12, h⟩ := h
    obtain ⟨q13, h⟩ := h
    obtain ⟨g14, h⟩ := h
    refine jy_getR hS rfl (by decide) g12 g14 ?_
    refine jy_iload_n hS rfl rfl ?_
    obtain ⟨g15, h⟩ := h
    obtain ⟨Q16, h⟩ := h
    obtain ⟨g17, h⟩ := h
    refine jy_callV hS rfl rfl rfl (Nat.le_of_ble_eq_true rfl) (Or.inl g15) g17 (by decide) ⟨by decide, by decide⟩ (Nat.le_of_ble_eq_true rfl) ?_ ?_
    rotate_left
    · exact fun Ex Xx Ix Rx hp => hp.2.2.2.elim
    intro rv Xx I18 Rx hp
    obtain ⟨e1, e2, hp⟩ := hp
    rw [e1, e2]
    clear e1 e2
    obtain ⟨e1, h⟩ := h rv I18 hp
    rw [e1]
    clear e1
    change J 32 [] _ (0, 0) _ _ _
    refine jy_aload_n hS rfl rfl ?_
    obtain ⟨q20, h⟩ := h
    obtain ⟨g21, h⟩ := h
    refine jy_getR hS rfl (by decide) g12 g21 ?_
    refine jy_aload_n hS rfl rfl ?_
    refine jy_getR hS rfl (by decide) g12 g14 ?_
    obtain ⟨g22, h⟩ := h
    obtain ⟨Q23, h⟩ := h
    obtain ⟨g24, h⟩ := h
    refine jy_callV hS rfl rfl rfl (Nat.le_of_ble_eq_true rfl) (Or.inl g22) g24 (by decide) ⟨by decide, by decide⟩ (Nat.le_of_ble_eq_true rfl) ?_ ?_
    rotate_left
    · exact fun Ex Xx Ix Rx hp => hp.2.2.2.elim
    intro rv Xx I25 Rx hp
    obtain ⟨e1, e2, hp⟩ := hp
    rw [e1, e2]
    clear e1 e2
    obtain ⟨r26, e1, h⟩ := h rv I25 hp
    rw [e1]
    clear e1
    change J 43 [jy r26] _ (0, 0) _ _ _
    refine jy_istore_n hS rfl (Nat.le_of_ble_eq_true rfl) (L' := [some (.ref a0), some (jy a1), some (jy r26), none]) rfl ?_
    refine jy_aload_n hS rfl rfl ?_
    refine jy_getR hS rfl (by decide) g12 g14 ?_
    obtain ⟨Q27, h⟩ := h
    obtain ⟨g28, h⟩ := h
    refine jy_callV hS rfl rfl rfl (Nat.le_of_ble_eq_true rfl) (Or.inl g15) g28 (by decide) ⟨by decide, by decide⟩ (Nat.le_of_ble_eq_true rfl) ?_ ?_
    rotate_left
    · exact fun Ex Xx Ix Rx hp => hp.2.2.2.elim
    intro rv Xx I29 Rx hp
    obtain ⟨e1, e2, hp⟩ := hp
    rw [e1, e2]
    clear e1 e2
    obtain ⟨e1, h⟩ := h rv I29 hp
    rw [e1]
    clear e1
    change J 51 [] _ (0, 0) _ _ _
    refine jy_iload_n hS rfl rfl ?_
    obtain ⟨g31, h⟩ := h
    refine jy_if_ne hS rfl g31 (fun hq => ?_) (fun hq => ?_)
    · have h := h.1 hq
      refine jy_aload_n hS rfl rfl ?_
      obtain ⟨q32, h⟩ := h
      obtain ⟨g33, h⟩ := h
      refine jy_getR hS rfl (by decide) g12 g33 ?_
      refine jy_astore_n hS rfl (Nat.le_of_ble_eq_true rfl) (L' := [some (.ref a0), some (jy a1), some (jy r26), some (.ref q32)]) rfl ?_
      refine jy_aload_n hS rfl rfl ?_
      refine jy_aload_n hS rfl rfl ?_
      refine jy_getR hS rfl (by decide) g12 g21 ?_
      refine jy_putR hS rfl (by decide) (by decide) g12 ?_
      intro R34 e9
      have h := h R34 e9
      clear e9
      refine jy_aload_n hS rfl rfl ?_
      refine jy_aload_n hS rfl rfl ?_
      refine jy_putR hS rfl (by decide) (by decide) g12 ?_
      intro R35 e9
      have h := h R35 e9
      clear e9
      refine jy_aload_n hS rfl rfl ?_
      obtain ⟨q36, h⟩ := h
      obtain ⟨g37, h⟩ := h
      refine jy_getR hS rfl (by decide) g12 g37 ?_
      refine jy_aload_n hS rfl rfl ?_
      obtain ⟨q38, h⟩ := h
      obtain ⟨g39, h⟩ := h
      refine jy_getR hS rfl (by decide) g12 g39 ?_
      obtain ⟨g40, h⟩ := h
      obtain ⟨Q41, h⟩ := h
      obtain ⟨g42, h⟩ := h
      refine jy_callV hS rfl rfl rfl (Nat.le_of_ble_eq_true rfl) (Or.inl g40) g42 (by decide) ⟨by decide, by decide⟩ (Nat.le_of_ble_eq_true rfl) ?_ ?_
      rotate_left
      · exact fun Ex Xx Ix Rx hp => hp.2.2.2.elim
      intro rv Xx I43 Rx hp
      obtain ⟨e1, e2, hp⟩ := hp
      rw [e1, e2]
      clear e1 e2
      obtain ⟨e1, h⟩ := h rv I43 hp
      rw [e1]
      clear e1
      change J 95 [] _ (0, 0) _ _ _
      refine jy_aload_n hS rfl rfl ?_
      obtain ⟨q45, h⟩ := h
      obtain ⟨g46, h⟩ := h
      refine jy_getR hS rfl (by decide) g12 g46 ?_
      obtain ⟨g47, h⟩ := h
      obtain ⟨Q48, h⟩ := h
      obtain ⟨g49, h⟩ := h
      refine jy_callV hS rfl rfl rfl (Nat.le_of_ble_eq_true rfl) (Or.inl g47) g49 (by decide) ⟨by decide, by decide⟩ (Nat.le_of_ble_eq_true rfl) ?_ ?_
      rotate_left
      · exact fun Ex Xx Ix Rx hp => hp.2.2.2.elim
      intro rv Xx I50 Rx hp
      obtain ⟨e1, e2, hp⟩ := hp
      rw [e1, e2]
      clear e1 e2
      obtain ⟨e1, h⟩ := h rv I50 hp
      rw [e1]
      clear e1
      change J 102 [] _ (0, 0) _ _ _
      refine jy_aload_n hS rfl rfl ?_
      refine jy_iconst hS rfl ?_
      refine jy_putI hS rfl (by decide) g12 ?_
      intro I52 e9
      have h := h I52 e9
      clear e9
      refine jy_aload_n hS rfl rfl ?_
      obtain ⟨q53, h⟩ := h
      obtain ⟨g54, h⟩ := h
      refine jy_getR hS rfl (by decide) g12 g54 ?_
      refine jy_iconst hS rfl ?_
      obtain ⟨g55, h⟩ := h
      refine jy_putB hS rfl (by decide) (Or.inr rfl) g55 ?_
      intro I56 e9
      have h := h I56 e9
      clear e9
      refine jy_aload_n hS rfl rfl ?_
      refine jy_getR hS rfl (by decide) g12 g39 ?_
      obtain ⟨g57, h⟩ := h
      refine jy_getI hS rfl (by decide) g57 ?_
      exact jy_iret hS rfl rfl ⟨rfl, h⟩
    · have h := h.2 hq
      refine jy_aload_n hS rfl rfl ?_
      refine jy_getR hS rfl (by decide) g12 g14 ?_
      refine jy_getI hS rfl (by decide) g15 ?_
      refine jy_bipush hS rfl (by decide) ?_
      refine jy_isub hS rfl ?_
      exact jy_iret hS rfl rfl ⟨rfl, h⟩
theorem jt_137 : jx_ml 137 = 1 ∧ jx_rt 137 = some .int ∧ jx_hz 137 = [] ∧ decide ((jx_nm 137).name = "<init>") = false ∧ jx_code 137 = jx_c137 := by decide +kernel
/-- GC.fault -/
def wz_137 (V : jx_V) (X : jx_X) (R : jx_R) (Q : Option Value → jx_I → Prop) (QE : String → jx_I → Prop)  (a0 : Nat) (I : jx_I) : Prop :=
  (X.2.1 a0 = some (11, 0)) ∧ (
  ∃ q2 : Nat, (
  (R a0 0 = some q2) ∧ (
  (X.2.1 q2 = some (8, 0)) ∧ (
  Q (some (jy ((I q2 8).toInt))) I))))
set_option maxRecDepth 20000 in
theorem wm_137 {V : jx_V} (hV : V.1.stackTraces = false) {X : jx_X} {R : jx_R} {I : jx_I} {Q : Option Value → jx_I → Prop} {QE : String → jx_I → Prop} {a0 : Nat}  
    (h : wz_137 V X R Q QE  a0 I) : jc V 1 137 (0, 0) [.ref a0] X I R Q QE := by
  refine jy_met hV (by decide) (n := 1) (rt := some .int) (hh := []) (ini := false) (C := jx_c137) (L := [some (.ref a0)]) jt_137 (Nat.le_of_ble_eq_true rfl) rfl ?_
  intro J hS
  unfold wz_137 at h
  refine jy_aload_n hS rfl rfl ?_
  obtain ⟨g1, h⟩ := h
  obtain ⟨q2, h⟩ := h
  obtain ⟨g3, h⟩ := h
  refine jy_getR hS rfl (by decide) g1 g3 ?_
  obtain ⟨g4, h⟩ := h
  refine jy_getI hS rfl (by decide) g4 ?_
  exact jy_iret hS rfl rfl ⟨rfl, rfl, h⟩
theorem jt_138 : jx_ml 138 = 2 ∧ jx_rt 138 = some .int ∧ jx_hz 138 = [] ∧ decide ((jx_nm 138).name = "<init>") = false ∧ jx_code 138 = jx_c138 := by decide +kernel
/-- GC.told, from 15 -/
def wz_138_15 (V : jx_V) (X : jx_X) (R : jx_R) (Q : Option Value → jx_I → Prop) (QE : String → jx_I → Prop) (J15 : Nat → Int → jx_I → Prop) (a0 : Nat) (a1 : Int) (s0 : Nat) (s1 : Int) (I : jx_I) : Prop :=
  (X.2.1 s0 = some (11, 0)) ∧ (
  ∃ Q2 : Option Value → jx_I → Prop, (
  ∃ E3 : String → jx_I → Prop, (
  (jc V 8 189 (1, 6) [.ref s0, jy s1] X I R Q2 E3) ∧ (
  (∀ Ex Ix, E3 Ex Ix → QE Ex Ix) ∧ (
  ∀ rv I6, Q2 rv I6 → rv = none ∧ (
  ((a1 < 0 ∨ 4 < a1) → (
    (X.2.1 a0 = some (11, 0)) ∧ (
    ∃ q9 : Nat, (
    (R a0 2 = some q9) ∧ (
    (X.2.1 q9 = some (7, 0)) ∧ (
    Q (some (jy ((I6 q9 7).toInt))) I6))))
  ))
  ∧ (a1 = 0 → (
    (X.2.1 a0 = some (11, 0)) ∧ (
    ∃ q13 : Nat, (
    (R a0 11 = some q13) ∧ (
    (X.2.1 q13 = some (2, 0)) ∧ (
    Q (some (jy ((I6 q13 7).toInt))) I6))))
  ))
  ∧ (a1 = 1 → (
    (X.2.1 a0 = some (11, 0)) ∧ (
    ∃ q17 : Nat, (
    (R a0 11 = some q17) ∧ (
    (X.2.1 q17 = some (2, 0)) ∧ (
    Q (some (jy ((I6 q17 8).toInt))) I6))))
  ))
  ∧ (a1 = 2 → (
    (X.2.1 a0 = some (11, 0)) ∧ (
    ∃ q21 : Nat, (
    (R a0 2 = some q21) ∧ (
    (X.2.1 q21 = some (7, 0)) ∧ (
    ∃ q24 : Nat, (
    (R q21 1 = some q24) ∧ (
    (X.2.1 q24 = some (5, 0)) ∧ (
    Q (some (jy ((I6 q24 1).toInt))) I6)))))))
  ))
  ∧ (a1 = 3 → (
    (X.2.1 a0 = some (11, 0)) ∧ (
    ∃ q28 : Nat, (
    (R a0 2 = some q28) ∧ (
    (X.2.1 q28 = some (7, 0)) ∧ (
    ∃ q31 : Nat, (
    (R q28 2 = some q31) ∧ (
    (X.2.1 q31 = some (5, 0)) ∧ (
    Q (some (jy ((I6 q31 1).toInt))) I6)))))))
  ))
  ∧ (a1 = 4 → (
    (X.2.1 a0 = some (11, 0)) ∧ (
    ∃ q35 : Nat, (
    (R a0 2 = some q35) ∧ (
    (X.2.1 q35 = some (7, 0)) ∧ (
    Q (some (jy ((I6 q35 6).toInt))) I6))))
  ))))))))
/-- GC.told -/
def wz_138 (V : jx_V) (X : jx_X) (R : jx_R) (Q : Option Value → jx_I → Prop) (QE : String → jx_I → Prop) (J15 : Nat → Int → jx_I → Prop) (a0 : Nat) (a1 : Int) (I : jx_I) : Prop :=
  (a1 < 0 → (
    J15 a0 0 I
  )) ∧ (¬ a1 < 0 → (
    (5 < a1 → (
      J15 a0 0 I
    )) ∧ (¬ 5 < a1 → (
      J15 a0 1 I
    ))
  ))
set_option maxRecDepth 20000 in
theorem wm_138 {V : jx_V} (hV : V.1.stackTraces = false) {X : jx_X} {R : jx_R} {I : jx_I} {Q : Option Value → jx_I → Prop} {QE : String → jx_I → Prop} {a0 : Nat} {a1 : Int} (r_a1 : -2147483648 ≤ a1 ∧ a1 < 2147483648) 
    (h : ∀ (J15 : Nat → Int → jx_I → Prop), ((∀ (s0 : Nat) (s1 : Int) I, wz_138_15 V X R Q QE J15 a0 a1 s0 s1 I → J15 s0 s1 I)) → wz_138 V X R Q QE J15 a0 a1 I) : jc V 9 138 (1, 6) [.ref a0, jy a1] X I R Q QE := by
  refine jy_met hV (by decide) (n := 2) (rt := some .int) (hh := []) (ini := false) (C := jx_c138) (L := [some (.ref a0), some (jy a1)]) jt_138 (Nat.le_of_ble_eq_true rfl) rfl ?_
  intro J hS
  have h := h (fun s0 s1 I => J 15 [jy s1, .ref s0] [some (.ref a0), some (jy a1)] (1, 6) X I R) ?_
  · unfold wz_138 at h
    refine jy_aload_n hS rfl rfl ?_
    refine jy_iload_n hS rfl rfl ?_
    refine jy_if_lt hS rfl r_a1 (fun hq => ?_) (fun hq => ?_)
    · have h := h.1 hq
      refine jy_iconst hS rfl ?_
      exact jy_join hS h rfl (jy_sub_s (jy_sub_s jy_sub_0))
    · have h := h.2 hq
      refine jy_iload_n hS rfl rfl ?_
      refine jy_iconst hS rfl ?_
      refine jy_icmp_gt hS rfl ⟨r_a1, ⟨by decide, by decide⟩⟩ (fun hq => ?_) (fun hq => ?_)
      · have h := h.1 hq
        refine jy_iconst hS rfl ?_
        exact jy_join hS h rfl (jy_sub_s (jy_sub_s jy_sub_0))
      · have h := h.2 hq
        refine jy_iconst hS rfl ?_
        refine jy_goto hS rfl ?_
        exact jy_join hS h rfl (jy_sub_s (jy_sub_s jy_sub_0))
  · intro s0 s1 I h
    unfold wz_138_15 at h
    obtain ⟨g1, h⟩ := h
    obtain ⟨Q2, h⟩ := h
    obtain ⟨E3, h⟩ := h
    obtain ⟨g4, h⟩ := h
    obtain ⟨g5, h⟩ := h
    refine jy_callV hS rfl rfl rfl (Nat.le_of_ble_eq_true rfl) (Or.inl g1) g4 (by decide) ⟨by decide, by decide⟩ (Nat.le_of_ble_eq_true rfl) ?_ ?_
    rotate_left
    · exact fun Ex Xx Ix Rx hp => ⟨hp.1, hp.2.1, hp.2.2.1, g5 _ _ hp.2.2.2⟩
    intro rv Xx I6 Rx hp
    obtain ⟨e1, e2, hp⟩ := hp
    rw [e1, e2]
    clear e1 e2
    obtain ⟨e1, h⟩ := h rv I6 hp
    rw [e1]
    clear e1
    change J 18 [] _ (0, 0) _ _ _
    refine jy_iload_n hS rfl rfl ?_
    refine jy_tsw hS rfl r_a1 (fun hq => ?_) (fun hq8 hq => ?_)
    · have h := h.1 hq
      refine ⟨by decide, ?_⟩
      change J 98 _ _ _ _ _ _
      refine jy_aload_n hS rfl rfl ?_
      obtain ⟨g8, h⟩ := h
      obtain ⟨q9, h⟩ := h
      obtain ⟨g10, h⟩ := h
      refine jy_getR hS rfl (by decide) g8 g10 ?_
      obtain ⟨g11, h⟩ := h
      refine jy_getI hS rfl (by decide) g11 ?_
      exact jy_iret hS rfl rfl ⟨rfl, rfl, h⟩
    · have h := h.2
      have hq7 : a1 = 0 ∨ a1 = 1 ∨ a1 = 2 ∨ a1 = 3 ∨ a1 = 4 := by omega
      rcases hq7 with hq7 | hq7 | hq7 | hq7 | hq7
      · have h := h.1 hq7
        refine ⟨33, by rw [hq7]; rfl, by decide, ?_⟩
        change J 52 _ _ _ _ _ _
        refine jy_aload_n hS rfl rfl ?_
        obtain ⟨g12, h⟩ := h
        obtain ⟨q13, h⟩ := h
        obtain ⟨g14, h⟩ := h
        refine jy_getR hS rfl (by decide) g12 g14 ?_
        obtain ⟨g15, h⟩ := h
        refine jy_getI hS rfl (by decide) g15 ?_
        exact jy_iret hS rfl rfl ⟨rfl, rfl, h⟩
      · have h := h.2.1 hq7
        refine ⟨41, by rw [hq7]; rfl, by decide, ?_⟩
        change J 60 _ _ _ _ _ _
        refine jy_aload_n hS rfl rfl ?_
        obtain ⟨g16, h⟩ := h
        obtain ⟨q17, h⟩ := h
        obtain ⟨g18, h⟩ := h
        refine jy_getR hS rfl (by decide) g16 g18 ?_
        obtain ⟨g19, h⟩ := h
        refine jy_getI hS rfl (by decide) g19 ?_
        exact jy_iret hS rfl rfl ⟨rfl, rfl, h⟩
      · have h := h.2.2.1 hq7
        refine ⟨49, by rw [hq7]; rfl, by decide, ?_⟩
        change J 68 _ _ _ _ _ _
        refine jy_aload_n hS rfl rfl ?_
        obtain ⟨g20, h⟩ := h
        obtain ⟨q21, h⟩ := h
        obtain ⟨g22, h⟩ := h
        refine jy_getR hS rfl (by decide) g20 g22 ?_
        obtain ⟨g23, h⟩ := h
        obtain ⟨q24, h⟩ := h
        obtain ⟨g25, h⟩ := h
        refine jy_getR hS rfl (by decide) g23 g25 ?_
        obtain ⟨g26, h⟩ := h
        refine jy_getI hS rfl (by decide) g26 ?_
        exact jy_iret hS rfl rfl ⟨rfl, rfl, h⟩
      · have h := h.2.2.2.1 hq7
        refine ⟨60, by rw [hq7]; rfl, by decide, ?_⟩
        change J 79 _ _ _ _ _ _
        refine jy_aload_n hS rfl rfl ?_
        obtain ⟨g27, h⟩ := h
        obtain ⟨q28, h⟩ := h
        obtain ⟨g29, h⟩ := h
        refine jy_getR hS rfl (by decide) g27 g29 ?_
        obtain ⟨g30, h⟩ := h
        obtain ⟨q31, h⟩ := h
        obtain ⟨g32, h⟩ := h
        refine jy_getR hS rfl (by decide) g30 g32 ?_
        obtain ⟨g33, h⟩ := h
        refine jy_getI hS rfl (by decide) g33 ?_
        exact jy_iret hS rfl rfl ⟨rfl, rfl, h⟩
      · have h := h.2.2.2.2 hq7
        refine ⟨71, by rw [hq7]; rfl, by decide, ?_⟩
        change J 90 _ _ _ _ _ _
        refine jy_aload_n hS rfl rfl ?_
        obtain ⟨g34, h⟩ := h
        obtain ⟨q35, h⟩ := h
        obtain ⟨g36, h⟩ := h
        refine jy_getR hS rfl (by decide) g34 g36 ?_
        obtain ⟨g37, h⟩ := h
        refine jy_getI hS rfl (by decide) g37 ?_
        exact jy_iret hS rfl rfl ⟨rfl, rfl, h⟩
theorem jt_139 : jx_ml 139 = 2 ∧ jx_rt 139 = some .int ∧ jx_hz 139 = [] ∧ decide ((jx_nm 139).name = "<init>") = false ∧ jx_code 139 = jx_c139 := by decide +kernel
/-- GC.place -/
def wz_139 (V : jx_V) (X : jx_X) (R : jx_R) (Q : Option Value → jx_I → Prop) (QE : String → jx_I → Prop)  (a0 : Nat) (a1 : Int) (I : jx_I) : Prop :=
  (X.2.1 a0 = some (11, 0)) ∧ (
  ∃ Q2 : Option Value → jx_I → Prop, (
  ∃ E3 : String → jx_I → Prop, (
  (jc V 8 187 (1, 6) [.ref a0, jy a1] X I R Q2 E3) ∧ (
  (∀ Ex Ix, E3 Ex Ix → QE Ex Ix) ∧ (
  ∀ rv I6, Q2 rv I6 → rv = none ∧ (
  ∃ q8 : Nat, (
  (R a0 11 = some q8) ∧ (
  (X.2.1 q8 = some (2, 0)) ∧ (
  ∃ q11 : Nat, (
  (R q8 0 = some q11) ∧ (
  ∃ n13 : Nat, (
  (X.2.1 q11 = some (100, n13) ∧ n13 < 2147483648) ∧ (
  (0 ≤ a1 ∧ a1 < n13) ∧ (
  Q (some (jy ((I6 q11 a1.toNat).toInt))) I6))))))))))))))
set_option maxRecDepth 20000 in
theorem wm_139 {V : jx_V} (hV : V.1.stackTraces = false) {X : jx_X} {R : jx_R} {I : jx_I} {Q : Option Value → jx_I → Prop} {QE : String → jx_I → Prop} {a0 : Nat} {a1 : Int} (r_a1 : -2147483648 ≤ a1 ∧ a1 < 2147483648) 
    (h : wz_139 V X R Q QE  a0 a1 I) : jc V 9 139 (1, 6) [.ref a0, jy a1] X I R Q QE := by
  refine jy_met hV (by decide) (n := 2) (rt := some .int) (hh := []) (ini := false) (C := jx_c139) (L := [some (.ref a0), some (jy a1)]) jt_139 (Nat.le_of_ble_eq_true rfl) rfl ?_
  intro J hS
  unfold wz_139 at h
  refine jy_aload_n hS rfl rfl ?_
  refine jy_iload_n hS rfl rfl ?_
  obtain ⟨g1, h⟩ := h
  obtain ⟨Q2, h⟩ := h
  obtain ⟨E3, h⟩ := h
  obtain ⟨g4, h⟩ := h
  obtain ⟨g5, h⟩ := h
  refine jy_callV hS rfl rfl rfl (Nat.le_of_ble_eq_true rfl) (Or.inl g1) g4 (by decide) ⟨by decide, by decide⟩ (Nat.le_of_ble_eq_true rfl) ?_ ?_
  rotate_left
  · exact fun Ex Xx Ix Rx hp => ⟨hp.1, hp.2.1, hp.2.2.1, g5 _ _ hp.2.2.2⟩
  intro rv Xx I6 Rx hp
  obtain ⟨e1, e2, hp⟩ := hp
  rw [e1, e2]
  clear e1 e2
  obtain ⟨e1, h⟩ := h rv I6 hp
  rw [e1]
  clear e1
  change J 5 [] _ (0, 0) _ _ _
  refine jy_aload_n hS rfl rfl ?_
  obtain ⟨q8, h⟩ := h
  obtain ⟨g9, h⟩ := h
  refine jy_getR hS rfl (by decide) g1 g9 ?_
  obtain ⟨g10, h⟩ := h
  obtain ⟨q11, h⟩ := h
  obtain ⟨g12, h⟩ := h
  refine jy_getR hS rfl (by decide) g10 g12 ?_
  refine jy_iload_n hS rfl rfl ?_
  obtain ⟨n13, h⟩ := h
  obtain ⟨g14, h⟩ := h
  obtain ⟨g15, h⟩ := h
  refine jy_iald hS rfl g14.1 (Nat.le_of_lt g14.2) g15 ?_
  exact jy_iret hS rfl rfl ⟨rfl, rfl, h⟩
theorem jt_140 : jx_ml 140 = 4 ∧ jx_rt 140 = some .int ∧ jx_hz 140 = [] ∧ decide ((jx_nm 140).name = "<init>") = false ∧ jx_code 140 = jx_c140 := by decide +kernel
/-- GC.road -/
def wz_140 (V : jx_V) (X : jx_X) (R : jx_R) (Q : Option Value → jx_I → Prop) (QE : String → jx_I → Prop)  (a0 : Nat) (a1 : Int) (a2 : Int) (I : jx_I) : Prop :=
  (X.2.1 a0 = some (11, 0)) ∧ (
  ∃ Q2 : Option Value → jx_I → Prop, (
  ∃ E3 : String → jx_I → Prop, (
  (jc V 8 187 (1, 6) [.ref a0, jy a1] X I R Q2 E3) ∧ (
  (∀ Ex Ix, E3 Ex Ix → QE Ex Ix) ∧ (
  ∀ rv I6, Q2 rv I6 → rv = none ∧ (
  ∃ Q8 : Option Value → jx_I → Prop, (
  ∃ E9 : String → jx_I → Prop, (
  (jc V 8 187 (1, 6) [.ref a0, jy a2] X I6 R Q8 E9) ∧ (
  (∀ Ex Ix, E9 Ex Ix → QE Ex Ix) ∧ (
  ∀ rv I12, Q8 rv I12 → rv = none ∧ (
  ∃ q14 : Nat, (
  (R a0 11 = some q14) ∧ (
  (X.2.1 q14 = some (2, 0)) ∧ (
  ∃ Q17 : Option Value → jx_I → Prop, (
  (jc V 1 36 (0, 0) [.ref q14, jy a1, jy a2] X I12 R Q17 (fun _ _ => False)) ∧ (
  ∀ rv I19, Q17 rv I19 → ∃ r20 : Int, rv = some (jy r20) ∧ (
  (-2147483648 ≤ r20 ∧ r20 < 2147483648) ∧ (
  (r20 ≤ 0 → (
    Q (some (jy (-1))) I19
  )) ∧ (¬ r20 ≤ 0 → (
    Q (some (jy r20)) I19
  ))))))))))))))))))))
set_option maxRecDepth 20000 in
theorem wm_140 {V : jx_V} (hV : V.1.stackTraces = false) {X : jx_X} {R : jx_R} {I : jx_I} {Q : Option Value → jx_I → Prop} {QE : String → jx_I → Prop} {a0 : Nat} {a1 : Int} {a2 : Int} (r_a1 : -2147483648 ≤ a1 ∧ a1 < 2147483648) (r_a2 : -2147483648 ≤ a2 ∧ a2 < 2147483648) 
    (h : wz_140 V X R Q QE  a0 a1 a2 I) : jc V 9 140 (2, 12) [.ref a0, jy a1, jy a2] X I R Q QE := by
  refine jy_met hV (by decide) (n := 4) (rt := some .int) (hh := []) (ini := false) (C := jx_c140) (L := [some (.ref a0), some (jy a1), some (jy a2), none]) jt_140 (Nat.le_of_ble_eq_true rfl) rfl ?_
  intro J hS
  unfold wz_140 at h
  refine jy_aload_n hS rfl rfl ?_
  refine jy_iload_n hS rfl rfl ?_
  obtain ⟨g1, h⟩ := h
  obtain ⟨Q2, h⟩ := h
  obtain ⟨E3, h⟩ := h
  obtain ⟨g4, h⟩ := h
  obtain ⟨g5, h⟩ := h
  refine jy_callV hS rfl rfl rfl (Nat.le_of_ble_eq_true rfl) (Or.inl g1) g4 (by decide) ⟨by decide, by decide⟩ (Nat.le_of_ble_eq_true rfl) ?_ ?_
  rotate_left
  · exact fun Ex Xx Ix Rx hp => ⟨hp.1, hp.2.1, hp.2.2.1, g5 _ _ hp.2.2.2⟩
  intro rv Xx I6 Rx hp
  obtain ⟨e1, e2, hp⟩ := hp
  rw [e1, e2]
  clear e1 e2
  obtain ⟨e1, h⟩ := h rv I6 hp
  rw [e1]
  clear e1
  change J 5 [] _ (1, 6) _ _ _
  refine jy_aload_n hS rfl rfl ?_
  refine jy_iload_n hS rfl rfl ?_
  obtain ⟨Q8, h⟩ := h
  obtain ⟨E9, h⟩ := h
  obtain ⟨g10, h⟩ := h
  obtain ⟨g11, h⟩ := h
  refine jy_callV hS rfl rfl rfl (Nat.le_of_ble_eq_true rfl) (Or.inl g1) g10 (by decide) ⟨by decide, by decide⟩ (Nat.le_of_ble_eq_true rfl) ?_ ?_
  rotate_left
  · exact fun Ex Xx Ix Rx hp => ⟨hp.1, hp.2.1, hp.2.2.1, g11 _ _ hp.2.2.2⟩
  intro rv Xx I12 Rx hp
  obtain ⟨e1, e2, hp⟩ := hp
  rw [e1, e2]
  clear e1 e2
  obtain ⟨e1, h⟩ := h rv I12 hp
  rw [e1]
  clear e1
  change J 10 [] _ (0, 0) _ _ _
  refine jy_aload_n hS rfl rfl ?_
  obtain ⟨q14, h⟩ := h
  obtain ⟨g15, h⟩ := h
  refine jy_getR hS rfl (by decide) g1 g15 ?_
  refine jy_iload_n hS rfl rfl ?_
  refine jy_iload_n hS rfl rfl ?_
  obtain ⟨g16, h⟩ := h
  obtain ⟨Q17, h⟩ := h
  obtain ⟨g18, h⟩ := h
  refine jy_callV hS rfl rfl rfl (Nat.le_of_ble_eq_true rfl) (Or.inl g16) g18 (by decide) ⟨by decide, by decide⟩ (Nat.le_of_ble_eq_true rfl) ?_ ?_
  rotate_left
  · exact fun Ex Xx Ix Rx hp => hp.2.2.2.elim
  intro rv Xx I19 Rx hp
  obtain ⟨e1, e2, hp⟩ := hp
  rw [e1, e2]
  clear e1 e2
  obtain ⟨r20, e1, h⟩ := h rv I19 hp
  rw [e1]
  clear e1
  change J 19 [jy r20] _ (0, 0) _ _ _
  refine jy_istore_n hS rfl (Nat.le_of_ble_eq_true rfl) (L' := [some (.ref a0), some (jy a1), some (jy a2), some (jy r20)]) rfl ?_
  refine jy_iload_n hS rfl rfl ?_
  obtain ⟨g21, h⟩ := h
  refine jy_if_le hS rfl g21 (fun hq => ?_) (fun hq => ?_)
  · have h := h.1 hq
    refine jy_iconst hS rfl ?_
    exact jy_iret hS rfl rfl ⟨rfl, rfl, h⟩
  · have h := h.2 hq
    refine jy_iload_n hS rfl rfl ?_
    refine jy_goto hS rfl ?_
    exact jy_iret hS rfl rfl ⟨rfl, rfl, h⟩
theorem jt_141 : jx_ml 141 = 3 ∧ jx_rt 141 = some .int ∧ jx_hz 141 = [] ∧ decide ((jx_nm 141).name = "<init>") = false ∧ jx_code 141 = jx_c141 := by decide +kernel
/-- GC.camel -/
def wz_141 (V : jx_V) (X : jx_X) (R : jx_R) (Q : Option Value → jx_I → Prop) (QE : String → jx_I → Prop)  (a0 : Nat) (a1 : Int) (a2 : Int) (I : jx_I) : Prop :=
  (X.2.1 a0 = some (11, 0)) ∧ (
  ∃ Q2 : Option Value → jx_I → Prop, (
  ∃ E3 : String → jx_I → Prop, (
  (jc V 8 188 (1, 6) [.ref a0, jy a1] X I R Q2 E3) ∧ (
  (∀ Ex Ix, E3 Ex Ix → QE Ex Ix) ∧ (
  ∀ rv I6, Q2 rv I6 → rv = none ∧ (
  ∃ Q8 : Option Value → jx_I → Prop, (
  ∃ E9 : String → jx_I → Prop, (
  (jc V 9 190 (1, 6) [.ref a0, jy a2, jy 1] X I6 R Q8 E9) ∧ (
  (∀ Ex Ix, E9 Ex Ix → QE Ex Ix) ∧ (
  ∀ rv I12, Q8 rv I12 → rv = none ∧ (
  (a2 ≠ 0 → (
    ∃ q14 : Nat, (
    (R a0 11 = some q14) ∧ (
    (X.2.1 q14 = some (2, 0)) ∧ (
    ∃ q17 : Nat, (
    (R q14 3 = some q17) ∧ (
    ∃ n19 : Nat, (
    (X.2.1 q17 = some (100, n19) ∧ n19 < 2147483648) ∧ (
    (0 ≤ a1 ∧ a1 < n19) ∧ (
    Q (some (jy ((I12 q17 a1.toNat).toInt))) I12))))))))
  )) ∧ (a2 = 0 → (
    ∃ q22 : Nat, (
    (R a0 11 = some q22) ∧ (
    (X.2.1 q22 = some (2, 0)) ∧ (
    ∃ q25 : Nat, (
    (R q22 2 = some q25) ∧ (
    ∃ n27 : Nat, (
    (X.2.1 q25 = some (100, n27) ∧ n27 < 2147483648) ∧ (
    (0 ≤ a1 ∧ a1 < n27) ∧ (
    Q (some (jy ((I12 q25 a1.toNat).toInt))) I12))))))))
  )))))))))))))
set_option maxRecDepth 20000 in
theorem wm_141 {V : jx_V} (hV : V.1.stackTraces = false) {X : jx_X} {R : jx_R} {I : jx_I} {Q : Option Value → jx_I → Prop} {QE : String → jx_I → Prop} {a0 : Nat} {a1 : Int} {a2 : Int} (r_a1 : -2147483648 ≤ a1 ∧ a1 < 2147483648) (r_a2 : -2147483648 ≤ a2 ∧ a2 < 2147483648) 
    (h : wz_141 V X R Q QE  a0 a1 a2 I) : jc V 10 141 (2, 12) [.ref a0, jy a1, jy a2] X I R Q QE := by
  refine jy_met hV (by decide) (n := 3) (rt := some .int) (hh := []) (ini := false) (C := jx_c141) (L := [some (.ref a0), some (jy a1), some (jy a2)]) jt_141 (Nat.le_of_ble_eq_true rfl) rfl ?_
  intro J hS
  unfold wz_141 at h
  refine jy_aload_n hS rfl rfl ?_
  refine jy_iload_n hS rfl rfl ?_
  obtain ⟨g1, h⟩ := h
  obtain ⟨Q2, h⟩ := h
  obtain ⟨E3, h⟩ := h
  obtain ⟨g4, h⟩ := h
  obtain ⟨g5, h⟩ := h
  refine jy_callV hS rfl rfl rfl (Nat.le_of_ble_eq_true rfl) (Or.inl g1) g4 (by decide) ⟨by decide, by decide⟩ (Nat.le_of_ble_eq_true rfl) ?_ ?_
  rotate_left
  · exact fun Ex Xx Ix Rx hp => ⟨hp.1, hp.2.1, hp.2.2.1, g5 _ _ hp.2.2.2⟩
  intro rv Xx I6 Rx hp
  obtain ⟨e1, e2, hp⟩ := hp
  rw [e1, e2]
  clear e1 e2
  obtain ⟨e1, h⟩ := h rv I6 hp
  rw [e1]
  clear e1
  change J 5 [] _ (1, 6) _ _ _
  refine jy_aload_n hS rfl rfl ?_
  refine jy_iload_n hS rfl rfl ?_
  refine jy_iconst hS rfl ?_
  obtain ⟨Q8, h⟩ := h
  obtain ⟨E9, h⟩ := h
  obtain ⟨g10, h⟩ := h
  obtain ⟨g11, h⟩ := h
  refine jy_callV hS rfl rfl rfl (Nat.le_of_ble_eq_true rfl) (Or.inl g1) g10 (by decide) ⟨by decide, by decide⟩ (Nat.le_of_ble_eq_true rfl) ?_ ?_
  rotate_left
  · exact fun Ex Xx Ix Rx hp => ⟨hp.1, hp.2.1, hp.2.2.1, g11 _ _ hp.2.2.2⟩
  intro rv Xx I12 Rx hp
  obtain ⟨e1, e2, hp⟩ := hp
  rw [e1, e2]
  clear e1 e2
  obtain ⟨e1, h⟩ := h rv I12 hp
  rw [e1]
  clear e1
  change J 11 [] _ (0, 0) _ _ _
  refine jy_iload_n hS rfl rfl ?_
  refine jy_if_ne hS rfl r_a2 (fun hq => ?_) (fun hq => ?_)
  · have h := h.1 hq
    refine jy_aload_n hS rfl rfl ?_
    obtain ⟨q14, h⟩ := h
    obtain ⟨g15, h⟩ := h
    refine jy_getR hS rfl (by decide) g1 g15 ?_
    obtain ⟨g16, h⟩ := h
    obtain ⟨q17, h⟩ := h
    obtain ⟨g18, h⟩ := h
    refine jy_getR hS rfl (by decide) g16 g18 ?_
    refine jy_iload_n hS rfl rfl ?_
    obtain ⟨n19, h⟩ := h
    obtain ⟨g20, h⟩ := h
    obtain ⟨g21, h⟩ := h
    refine jy_iald hS rfl g20.1 (Nat.le_of_lt g20.2) g21 ?_
    exact jy_iret hS rfl rfl ⟨rfl, rfl, h⟩
  · have h := h.2 hq
    refine jy_aload_n hS rfl rfl ?_
    obtain ⟨q22, h⟩ := h
    obtain ⟨g23, h⟩ := h
    refine jy_getR hS rfl (by decide) g1 g23 ?_
    obtain ⟨g24, h⟩ := h
    obtain ⟨q25, h⟩ := h
    obtain ⟨g26, h⟩ := h
    refine jy_getR hS rfl (by decide) g24 g26 ?_
    refine jy_iload_n hS rfl rfl ?_
    obtain ⟨n27, h⟩ := h
    obtain ⟨g28, h⟩ := h
    obtain ⟨g29, h⟩ := h
    refine jy_iald hS rfl g28.1 (Nat.le_of_lt g28.2) g29 ?_
    refine jy_goto hS rfl ?_
    exact jy_iret hS rfl rfl ⟨rfl, rfl, h⟩
theorem jt_142 : jx_ml 142 = 3 ∧ jx_rt 142 = some .boolean ∧ jx_hz 142 = [] ∧ decide ((jx_nm 142).name = "<init>") = false ∧ jx_code 142 = jx_c142 := by decide +kernel
/-- GC.quarrel, from 21 -/
def wz_142_21 (V : jx_V) (X : jx_X) (R : jx_R) (Q : Option Value → jx_I → Prop) (QE : String → jx_I → Prop) (J21 : Nat → Int → jx_I → Prop) (a0 : Nat) (a1 : Int) (a2 : Int) (s0 : Nat) (s1 : Int) (I : jx_I) : Prop :=
  (X.2.1 s0 = some (11, 0)) ∧ (
  ∃ Q15 : Option Value → jx_I → Prop, (
  ∃ E16 : String → jx_I → Prop, (
  (jc V 8 189 (1, 6) [.ref s0, jy s1] X I R Q15 E16) ∧ (
  (∀ Ex Ix, E16 Ex Ix → QE Ex Ix) ∧ (
  ∀ rv I19, Q15 rv I19 → rv = none ∧ (
  (X.2.1 a0 = some (11, 0)) ∧ (
  ∃ q22 : Nat, (
  (R a0 11 = some q22) ∧ (
  (X.2.1 q22 = some (2, 0)) ∧ (
  ∃ Q25 : Option Value → jx_I → Prop, (
  (jc V 1 40 (0, 0) [.ref q22, jy a1, jy a2] X I19 R Q25 (fun _ _ => False)) ∧ (
  ∀ rv I27, Q25 rv I27 → ∃ r28 : Int, rv = some (jy r28) ∧ (
  (r28 = 0 ∨ r28 = 1) ∧ (
  Q (some (jy r28)) I27))))))))))))))
/-- GC.quarrel -/
def wz_142 (V : jx_V) (X : jx_X) (R : jx_R) (Q : Option Value → jx_I → Prop) (QE : String → jx_I → Prop) (J21 : Nat → Int → jx_I → Prop) (a0 : Nat) (a1 : Int) (a2 : Int) (I : jx_I) : Prop :=
  (X.2.1 a0 = some (11, 0)) ∧ (
  ∃ Q2 : Option Value → jx_I → Prop, (
  ∃ E3 : String → jx_I → Prop, (
  (jc V 8 188 (1, 6) [.ref a0, jy a1] X I R Q2 E3) ∧ (
  (∀ Ex Ix, E3 Ex Ix → QE Ex Ix) ∧ (
  ∀ rv I6, Q2 rv I6 → rv = none ∧ (
  ∃ Q8 : Option Value → jx_I → Prop, (
  ∃ E9 : String → jx_I → Prop, (
  (jc V 8 188 (1, 6) [.ref a0, jy a2] X I6 R Q8 E9) ∧ (
  (∀ Ex Ix, E9 Ex Ix → QE Ex Ix) ∧ (
  ∀ rv I12, Q8 rv I12 → rv = none ∧ (
  (a1 = a2 → (
    J21 a0 0 I12
  )) ∧ (¬ a1 = a2 → (
    J21 a0 1 I12
  )))))))))))))
set_option maxRecDepth 20000 in
theorem wm_142 {V : jx_V} (hV : V.1.stackTraces = false) {X : jx_X} {R : jx_R} {I : jx_I} {Q : Option Value → jx_I → Prop} {QE : String → jx_I → Prop} {a0 : Nat} {a1 : Int} {a2 : Int} (r_a1 : -2147483648 ≤ a1 ∧ a1 < 2147483648) (r_a2 : -2147483648 ≤ a2 ∧ a2 < 2147483648) 
    (h : ∀ (J21 : Nat → Int → jx_I → Prop), ((∀ (s0 : Nat) (s1 : Int) I, wz_142_21 V X R Q QE J21 a0 a1 a2 s0 s1 I → J21 s0 s1 I)) → wz_142 V X R Q QE J21 a0 a1 a2 I) : jc V 9 142 (3, 18) [.ref a0, jy a1, jy a2] X I R Q QE := by
  refine jy_met hV (by decide) (n := 3) (rt := some .boolean) (hh := []) (ini := false) (C := jx_c142) (L := [some (.ref a0), some (jy a1), some (jy a2)]) jt_142 (Nat.le_of_ble_eq_true rfl) rfl ?_
  intro J hS
  have h := h (fun s0 s1 I => J 21 [jy s1, .ref s0] [some (.ref a0), some (jy a1), some (jy a2)] (1, 6) X I R) ?_
  · unfold wz_142 at h
    refine jy_aload_n hS rfl rfl ?_
    refine jy_iload_n hS rfl rfl ?_
    obtain ⟨g1, h⟩ := h
    obtain ⟨Q2, h⟩ := h
    obtain ⟨E3, h⟩ := h
    obtain ⟨g4, h⟩ := h
    obtain ⟨g5, h⟩ := h
    refine jy_callV hS rfl rfl rfl (Nat.le_of_ble_eq_true rfl) (Or.inl g1) g4 (by decide) ⟨by decide, by decide⟩ (Nat.le_of_ble_eq_true rfl) ?_ ?_
    rotate_left
    · exact fun Ex Xx Ix Rx hp => ⟨hp.1, hp.2.1, hp.2.2.1, g5 _ _ hp.2.2.2⟩
    intro rv Xx I6 Rx hp
    obtain ⟨e1, e2, hp⟩ := hp
    rw [e1, e2]
    clear e1 e2
    obtain ⟨e1, h⟩ := h rv I6 hp
    rw [e1]
    clear e1
    change J 5 [] _ (2, 12) _ _ _
    refine jy_aload_n hS rfl rfl ?_
    refine jy_iload_n hS rfl rfl ?_
    obtain ⟨Q8, h⟩ := h
    obtain ⟨E9, h⟩ := h
    obtain ⟨g10, h⟩ := h
    obtain ⟨g11, h⟩ := h
    refine jy_callV hS rfl rfl rfl (Nat.le_of_ble_eq_true rfl) (Or.inl g1) g10 (by decide) ⟨by decide, by decide⟩ (Nat.le_of_ble_eq_true rfl) ?_ ?_
    rotate_left
    · exact fun Ex Xx Ix Rx hp => ⟨hp.1, hp.2.1, hp.2.2.1, g11 _ _ hp.2.2.2⟩
    intro rv Xx I12 Rx hp
    obtain ⟨e1, e2, hp⟩ := hp
    rw [e1, e2]
    clear e1 e2
    obtain ⟨e1, h⟩ := h rv I12 hp
    rw [e1]
    clear e1
    change J 10 [] _ (1, 6) _ _ _
    refine jy_aload_n hS rfl rfl ?_
    refine jy_iload_n hS rfl rfl ?_
    refine jy_iload_n hS rfl rfl ?_
    refine jy_icmp_eq hS rfl ⟨r_a1, r_a2⟩ (fun hq => ?_) (fun hq => ?_)
    · have h := h.1 hq
      refine jy_iconst hS rfl ?_
      exact jy_join hS h rfl (jy_sub_s (jy_sub_s (jy_sub_s jy_sub_0)))
    · have h := h.2 hq
      refine jy_iconst hS rfl ?_
      refine jy_goto hS rfl ?_
      exact jy_join hS h rfl (jy_sub_s (jy_sub_s (jy_sub_s jy_sub_0)))
  · intro s0 s1 I h
    unfold wz_142_21 at h
    obtain ⟨g14, h⟩ := h
    obtain ⟨Q15, h⟩ := h
    obtain ⟨E16, h⟩ := h
    obtain ⟨g17, h⟩ := h
    obtain ⟨g18, h⟩ := h
    refine jy_callV hS rfl rfl rfl (Nat.le_of_ble_eq_true rfl) (Or.inl g14) g17 (by decide) ⟨by decide, by decide⟩ (Nat.le_of_ble_eq_true rfl) ?_ ?_
    rotate_left
    · exact fun Ex Xx Ix Rx hp => ⟨hp.1, hp.2.1, hp.2.2.1, g18 _ _ hp.2.2.2⟩
    intro rv Xx I19 Rx hp
    obtain ⟨e1, e2, hp⟩ := hp
    rw [e1, e2]
    clear e1 e2
    obtain ⟨e1, h⟩ := h rv I19 hp
    rw [e1]
    clear e1
    change J 24 [] _ (0, 0) _ _ _
    refine jy_aload_n hS rfl rfl ?_
    obtain ⟨g21, h⟩ := h
    obtain ⟨q22, h⟩ := h
    obtain ⟨g23, h⟩ := h
    refine jy_getR hS rfl (by decide) g21 g23 ?_
    refine jy_iload_n hS rfl rfl ?_
    refine jy_iload_n hS rfl rfl ?_
    obtain ⟨g24, h⟩ := h
    obtain ⟨Q25, h⟩ := h
    obtain ⟨g26, h⟩ := h
    refine jy_callV hS rfl rfl rfl (Nat.le_of_ble_eq_true rfl) (Or.inl g24) g26 (by decide) ⟨by decide, by decide⟩ (Nat.le_of_ble_eq_true rfl) ?_ ?_
    rotate_left
    · exact fun Ex Xx Ix Rx hp => hp.2.2.2.elim
    intro rv Xx I27 Rx hp
    obtain ⟨e1, e2, hp⟩ := hp
    rw [e1, e2]
    clear e1 e2
    obtain ⟨r28, e1, h⟩ := h rv I27 hp
    rw [e1]
    clear e1
    change J 33 [jy r28] _ (0, 0) _ _ _
    obtain ⟨g29, h⟩ := h
    exact jy_iret hS rfl (by rcases g29 with q | q <;> rw [q] <;> rfl) ⟨rfl, rfl, h⟩
theorem jt_143 : jx_ml 143 = 4 ∧ jx_rt 143 = some .int ∧ jx_hz 143 = [] ∧ decide ((jx_nm 143).name = "<init>") = false ∧ jx_code 143 = jx_c143 := by decide +kernel
/-- GC.grief -/
def wz_143 (V : jx_V) (X : jx_X) (R : jx_R) (Q : Option Value → jx_I → Prop) (QE : String → jx_I → Prop)  (a0 : Nat) (a1 : Int) (a2 : Int) (a3 : Int) (I : jx_I) : Prop :=
  (X.2.1 a0 = some (11, 0)) ∧ (
  ∃ Q2 : Option Value → jx_I → Prop, (
  ∃ E3 : String → jx_I → Prop, (
  (jc V 8 187 (1, 6) [.ref a0, jy a1] X I R Q2 E3) ∧ (
  (∀ Ex Ix, E3 Ex Ix → QE Ex Ix) ∧ (
  ∀ rv I6, Q2 rv I6 → rv = none ∧ (
  ∃ Q8 : Option Value → jx_I → Prop, (
  ∃ E9 : String → jx_I → Prop, (
  (jc V 8 188 (1, 6) [.ref a0, jy a2] X I6 R Q8 E9) ∧ (
  (∀ Ex Ix, E9 Ex Ix → QE Ex Ix) ∧ (
  ∀ rv I12, Q8 rv I12 → rv = none ∧ (
  ∃ Q14 : Option Value → jx_I → Prop, (
  ∃ E15 : String → jx_I → Prop, (
  (jc V 9 190 (1, 6) [.ref a0, jy a3, jy 1] X I12 R Q14 E15) ∧ (
  (∀ Ex Ix, E15 Ex Ix → QE Ex Ix) ∧ (
  ∀ rv I18, Q14 rv I18 → rv = none ∧ (
  (a3 ≠ 0 → (
    ∃ q20 : Nat, (
    (R a0 2 = some q20) ∧ (
    (X.2.1 q20 = some (7, 0)) ∧ (
    ∃ q23 : Nat, (
    (R q20 0 = some q23) ∧ (
    (X.2.1 q23 = some (1, 0)) ∧ (
    ∃ Q26 : Option Value → jx_I → Prop, (
    (jc V 1 12 (0, 0) [.ref q23, jy a1, jy a2] X I18 R Q26 (fun _ _ => False)) ∧ (
    ∀ rv I28, Q26 rv I28 → ∃ r29 : Int, rv = some (jy r29) ∧ (
    Q (some (jy r29)) I28)))))))))
  )) ∧ (a3 = 0 → (
    ∃ q30 : Nat, (
    (R a0 2 = some q30) ∧ (
    (X.2.1 q30 = some (7, 0)) ∧ (
    ∃ q33 : Nat, (
    (R q30 0 = some q33) ∧ (
    (X.2.1 q33 = some (1, 0)) ∧ (
    ∃ Q36 : Option Value → jx_I → Prop, (
    (jc V 1 11 (0, 0) [.ref q33, jy a1, jy a2] X I18 R Q36 (fun _ _ => False)) ∧ (
    ∀ rv I38, Q36 rv I38 → ∃ r39 : Int, rv = some (jy r39) ∧ (
    Q (some (jy r39)) I38)))))))))
  ))))))))))))))))))
set_option maxRecDepth 20000 in
theorem wm_143 {V : jx_V} (hV : V.1.stackTraces = false) {X : jx_X} {R : jx_R} {I : jx_I} {Q : Option Value → jx_I → Prop} {QE : String → jx_I → Prop} {a0 : Nat} {a1 : Int} {a2 : Int} {a3 : Int} (r_a1 : -2147483648 ≤ a1 ∧ a1 < 2147483648) (r_a2 : -2147483648 ≤ a2 ∧ a2 < 2147483648) (r_a3 : -2147483648 ≤ a3 ∧ a3 < 2147483648) 
    (h : wz_143 V X R Q QE  a0 a1 a2 a3 I) : jc V 10 143 (3, 18) [.ref a0, jy a1, jy a2, jy a3] X I R Q QE := by
  refine jy_met hV (by decide) (n := 4) (rt := some .int) (hh := []) (ini := false) (C := jx_c143) (L := [some (.ref a0), some (jy a1), some (jy a2), some (jy a3)]) jt_143 (Nat.le_of_ble_eq_true rfl) rfl ?_
  intro J hS
  unfold wz_143 at h
  refine jy_aload_n hS rfl rfl ?_
  refine jy_iload_n hS rfl rfl ?_
  obtain ⟨g1, h⟩ := h
  obtain ⟨Q2, h⟩ := h
  obtain ⟨E3, h⟩ := h
  obtain ⟨g4, h⟩ := h
  obtain ⟨g5, h⟩ := h
  refine jy_callV hS rfl rfl rfl (Nat.le_of_ble_eq_true rfl) (Or.inl g1) g4 (by decide) ⟨by decide, by decide⟩ (Nat.le_of_ble_eq_true rfl) ?_ ?_
  rotate_left
  · exact fun Ex Xx Ix Rx hp => ⟨hp.1, hp.2.1, hp.2.2.1, g5 _ _ hp.2.2.2⟩
  intro rv Xx I6 Rx hp
  obtain ⟨e1, e2, hp⟩ := hp
  rw [e1, e2]
  clear e1 e2
  obtain ⟨e1, h⟩ := h rv I6 hp
  rw [e1]
  clear e1
  change J 5 [] _ (2, 12) _ _ _
  refine jy_aload_n hS rfl rfl ?_
  refine jy_iload_n hS rfl rfl ?_
  obtain ⟨Q8, h⟩ := h
  obtain ⟨E9, h⟩ := h
  obtain ⟨g10, h⟩ := h
  obtain ⟨g11, h⟩ := h
  refine jy_callV hS rfl rfl rfl (Nat.le_of_ble_eq_true rfl) (Or.inl g1) g10 (by decide) ⟨by decide, by decide⟩ (Nat.le_of_ble_eq_true rfl) ?_ ?_
  rotate_left
  · exact fun Ex Xx Ix Rx hp => ⟨hp.1, hp.2.1, hp.2.2.1, g11 _ _ hp.2.2.2⟩
  intro rv Xx I12 Rx hp
  obtain ⟨e1, e2, hp⟩ := hp
  rw [e1, e2]
  clear e1 e2
  obtain ⟨e1, h⟩ := h rv I12 hp
  rw [e1]
  clear e1
  change J 10 [] _ (1, 6) _ _ _
  refine jy_aload_n hS rfl rfl ?_
  refine jy_iload_n hS rfl rfl ?_
  refine jy_iconst hS rfl ?_
  obtain ⟨Q14, h⟩ := h
  obtain ⟨E15, h⟩ := h
  obtain ⟨g16, h⟩ := h
  obtain ⟨g17, h⟩ := h
  refine jy_callV hS rfl rfl rfl (Nat.le_of_ble_eq_true rfl) (Or.inl g1) g16 (by decide) ⟨by decide, by decide⟩ (Nat.le_of_ble_eq_true rfl) ?_ ?_
  rotate_left
  · exact fun Ex Xx Ix Rx hp => ⟨hp.1, hp.2.1, hp.2.2.1, g17 _ _ hp.2.2.2⟩
  intro rv Xx I18 Rx hp
  obtain ⟨e1, e2, hp⟩ := hp
  rw [e1, e2]
  clear e1 e2
  obtain ⟨e1, h⟩ := h rv I18 hp
  rw [e1]
  clear e1
  change J 16 [] _ (0, 0) _ _ _
  refine jy_iload_n hS rfl rfl ?_
  refine jy_if_ne hS rfl r_a3 (fun hq => ?_) (fun hq => ?_)
  · have h := h.1 hq
    refine jy_aload_n hS rfl rfl ?_
    obtain ⟨q20, h⟩ := h
    obtain ⟨g21, h⟩ := h
    refine jy_getR hS rfl (by decide) g1 g21 ?_
    obtain ⟨g22, h⟩ := h
    obtain ⟨q23, h⟩ := h
    obtain ⟨g24, h⟩ := h
    refine jy_getR hS rfl (by decide) g22 g24 ?_
    refine jy_iload_n hS rfl rfl ?_
    refine jy_iload_n hS rfl rfl ?_
    obtain ⟨g25, h⟩ := h
    obtain ⟨Q26, h⟩ := h
    obtain ⟨g27, h⟩ := h
    refine jy_callV hS rfl rfl rfl (Nat.le_of_ble_eq_true rfl) (Or.inl g25) g27 (by decide) ⟨by decide, by decide⟩ (Nat.le_of_ble_eq_true rfl) ?_ ?_
    rotate_left
    · exact fun Ex Xx Ix Rx hp => hp.2.2.2.elim
    intro rv Xx I28 Rx hp
    obtain ⟨e1, e2, hp⟩ := hp
    rw [e1, e2]
    clear e1 e2
    obtain ⟨r29, e1, h⟩ := h rv I28 hp
    rw [e1]
    clear e1
    change J 47 [jy r29] _ (0, 0) _ _ _
    exact jy_iret hS rfl rfl ⟨rfl, rfl, h⟩
  · have h := h.2 hq
    refine jy_aload_n hS rfl rfl ?_
    obtain ⟨q30, h⟩ := h
    obtain ⟨g31, h⟩ := h
    refine jy_getR hS rfl (by decide) g1 g31 ?_
    obtain ⟨g32, h⟩ := h
    obtain ⟨q33, h⟩ := h
    obtain ⟨g34, h⟩ := h
    refine jy_getR hS rfl (by decide) g32 g34 ?_
    refine jy_iload_n hS rfl rfl ?_
    refine jy_iload_n hS rfl rfl ?_
    obtain ⟨g35, h⟩ := h
    obtain ⟨Q36, h⟩ := h
    obtain ⟨g37, h⟩ := h
    refine jy_callV hS rfl rfl rfl (Nat.le_of_ble_eq_true rfl) (Or.inl g35) g37 (by decide) ⟨by decide, by decide⟩ (Nat.le_of_ble_eq_true rfl) ?_ ?_
    rotate_left
    · exact fun Ex Xx Ix Rx hp => hp.2.2.2.elim
    intro rv Xx I38 Rx hp
    obtain ⟨e1, e2, hp⟩ := hp
    rw [e1, e2]
    clear e1 e2
    obtain ⟨r39, e1, h⟩ := h rv I38 hp
    rw [e1]
    clear e1
    change J 32 [jy r39] _ (0, 0) _ _ _
    refine jy_goto hS rfl ?_
    exact jy_iret hS rfl rfl ⟨rfl, rfl, h⟩
theorem jt_144 : jx_ml 144 = 4 ∧ jx_rt 144 = some .int ∧ jx_hz 144 = [] ∧ decide ((jx_nm 144).name = "<init>") = false ∧ jx_code 144 = jx_c144 := by decide +kernel
/-- GC.hurt, from 27 -/
def wz_144_27 (V : jx_V) (X : jx_X) (R : jx_R) (Q : Option Value → jx_I → Prop) (QE : String → jx_I → Prop) (J27 : Nat → Int → jx_I → Prop) (a0 : Nat) (a1 : Int) (a2 : Int) (a3 : Int) (s0 : Nat) (s1 : Int) (I : jx_I) : Prop :=
  (X.2.1 s0 = some (11, 0)) ∧ (
  ∃ Q15 : Option Value → jx_I → Prop, (
  ∃ E16 : String → jx_I → Prop, (
  (jc V 8 189 (1, 6) [.ref s0, jy s1] X I R Q15 E16) ∧ (
  (∀ Ex Ix, E16 Ex Ix → QE Ex Ix) ∧ (
  ∀ rv I19, Q15 rv I19 → rv = none ∧ (
  (X.2.1 a0 = some (11, 0)) ∧ (
  ∃ q22 : Nat, (
  (R a0 2 = some q22) ∧ (
  (X.2.1 q22 = some (7, 0)) ∧ (
  ∃ q25 : Nat, (
  (R q22 0 = some q25) ∧ (
  (X.2.1 q25 = some (1, 0)) ∧ (
  ∃ Q28 : Option Value → jx_I → Prop, (
  (jc V 2 13 (0, 0) [.ref q25, jy a1, jy a2, jy a3] X I19 R Q28 (fun _ _ => False)) ∧ (
  ∀ rv I30, Q28 rv I30 → rv = none ∧ (
  ∃ Q32 : Option Value → jx_I → Prop, (
  (jc V 1 11 (0, 0) [.ref q25, jy a1, jy a2] X I30 R Q32 (fun _ _ => False)) ∧ (
  ∀ rv I34, Q32 rv I34 → ∃ r35 : Int, rv = some (jy r35) ∧ (
  Q (some (jy r35)) I34)))))))))))))))))))
/-- GC.hurt -/
def wz_144 (V : jx_V) (X : jx_X) (R : jx_R) (Q : Option Value → jx_I → Prop) (QE : String → jx_I → Prop) (J27 : Nat → Int → jx_I → Prop) (a0 : Nat) (a1 : Int) (a2 : Int) (a3 : Int) (I : jx_I) : Prop :=
  (X.2.1 a0 = some (11, 0)) ∧ (
  ∃ Q2 : Option Value → jx_I → Prop, (
  ∃ E3 : String → jx_I → Prop, (
  (jc V 8 187 (1, 6) [.ref a0, jy a1] X I R Q2 E3) ∧ (
  (∀ Ex Ix, E3 Ex Ix → QE Ex Ix) ∧ (
  ∀ rv I6, Q2 rv I6 → rv = none ∧ (
  ∃ Q8 : Option Value → jx_I → Prop, (
  ∃ E9 : String → jx_I → Prop, (
  (jc V 8 188 (1, 6) [.ref a0, jy a2] X I6 R Q8 E9) ∧ (
  (∀ Ex Ix, E9 Ex Ix → QE Ex Ix) ∧ (
  ∀ rv I12, Q8 rv I12 → rv = none ∧ (
  (a3 < 1 → (
    J27 a0 0 I12
  )) ∧ (¬ a3 < 1 → (
    (20 < a3 → (
      J27 a0 0 I12
    )) ∧ (¬ 20 < a3 → (
      J27 a0 1 I12
    ))
  )))))))))))))
set_option maxRecDepth 20000 in
theorem wm_144 {V : jx_V} (hV : V.1.stackTraces = false) {X : jx_X} {R : jx_R} {I : jx_I} {Q : Option Value → jx_I → Prop} {QE : String → jx_I → Prop} {a0 : Nat} {a1 : Int} {a2 : Int} {a3 : Int} (r_a1 : -2147483648 ≤ a1 ∧ a1 < 2147483648) (r_a2 : -2147483648 ≤ a2 ∧ a2 < 2147483648) (r_a3 : -2147483648 ≤ a3 ∧ a3 < 2147483648) 
    (h : ∀ (J27 : Nat → Int → jx_I → Prop), ((∀ (s0 : Nat) (s1 : Int) I, wz_144_27 V X R Q QE J27 a0 a1 a2 a3 s0 s1 I → J27 s0 s1 I)) → wz_144 V X R Q QE J27 a0 a1 a2 a3 I) : jc V 9 144 (3, 18) [.ref a0, jy a1, jy a2, jy a3] X I R Q QE := by
  refine jy_met hV (by decide) (n := 4) (rt := some .int) (hh := []) (ini := false) (C := jx_c144) (L := [some (.ref a0), some (jy a1), some (jy a2), some (jy a3)]) jt_144 (Nat.le_of_ble_eq_true rfl) rfl ?_
  intro J hS
  have h := h (fun s0 s1 I => J 27 [jy s1, .ref s0] [some (.ref a0), some (jy a1), some (jy a2), some (jy a3)] (1, 6) X I R) ?_
  · unfold wz_144 at h
    refine jy_aload_n hS rfl rfl ?_
    refine jy_iload_n hS rfl rfl ?_
    obtain ⟨g1, h⟩ := h
    obtain ⟨Q2, h⟩ := h
    obtain ⟨E3, h⟩ := h
    obtain ⟨g4, h⟩ := h
    obtain ⟨g5, h⟩ := h
    refine jy_callV hS rfl rfl rfl (Nat.le_of_ble_eq_true rfl) (Or.inl g1) g4 (by decide) ⟨by decide, by decide⟩ (Nat.le_of_ble_eq_true rfl) ?_ ?_
    rotate_left
    · exact fun Ex Xx Ix Rx hp => ⟨hp.1, hp.2.1, hp.2.2.1, g5 _ _ hp.2.2.2⟩
    intro rv Xx I6 Rx hp
    obtain ⟨e1, e2, hp⟩ := hp
    rw [e1, e2]
    clear e1 e2
    obtain ⟨e1, h⟩ := h rv I6 hp
    rw [e1]
    clear e1
    change J 5 [] _ (2, 12) _ _ _
    refine jy_aload_n hS rfl rfl ?_
    refine jy_iload_n hS rfl rfl ?_
    obtain ⟨Q8, h⟩ := h
    obtain ⟨E9, h⟩ := h
    obtain ⟨g10, h⟩ := h
    obtain ⟨g11, h⟩ := h
    refine jy_callV hS rfl rfl rfl (Nat.le_of_ble_eq_true rfl) (Or.inl g1) g10 (by decide) ⟨by decide, by decide⟩ (Nat.le_of_ble_eq_true rfl) ?_ ?_
    rotate_left
    · exact fun Ex Xx Ix Rx hp => ⟨hp.1, hp.2.1, hp.2.2.1, g11 _ _ hp.2.2.2⟩
    intro rv Xx I12 Rx hp
    obtain ⟨e1, e2, hp⟩ := hp
    rw [e1, e2]
    clear e1 e2
    obtain ⟨e1, h⟩ := h rv I12 hp
    rw [e1]
    clear e1
    change J 10 [] _ (1, 6) _ _ _
    refine jy_aload_n hS rfl rfl ?_
    refine jy_iload_n hS rfl rfl ?_
    refine jy_iconst hS rfl ?_
    refine jy_icmp_lt hS rfl ⟨r_a3, ⟨by decide, by decide⟩⟩ (fun hq => ?_) (fun hq => ?_)
    · have h := h.1 hq
      refine jy_iconst hS rfl ?_
      exact jy_join hS h rfl (jy_sub_s (jy_sub_s (jy_sub_s (jy_sub_s jy_sub_0))))
    · have h := h.2 hq
      refine jy_iload_n hS rfl rfl ?_
      refine jy_bipush hS rfl (by decide) ?_
      refine jy_icmp_gt hS rfl ⟨r_a3, ⟨by decide, by decide⟩⟩ (fun hq => ?_) (fun hq => ?_)
      · have h := h.1 hq
        refine jy_iconst hS rfl ?_
        exact jy_join hS h rfl (jy_sub_s (jy_sub_s (jy_sub_s (jy_sub_s jy_sub_0))))
      · have h := h.2 hq
        refine jy_iconst hS rfl ?_
        refine jy_goto hS rfl ?_
        exact jy_join hS h rfl (jy_sub_s (jy_sub_s (jy_sub_s (jy_sub_s jy_sub_0))))
  · intro s0 s1 I h
    unfold wz_144_27 at h
    obtain ⟨g14, h⟩ := h
    obtain ⟨Q15, h⟩ := h
    obtain ⟨E16, h⟩ := h
    obtain ⟨g17, h⟩ := h
    obtain ⟨g18, h⟩ := h
    refine jy_callV hS rfl rfl rfl (Nat.le_of_ble_eq_true rfl) (Or.inl g14) g17 (by decide) ⟨by decide, by decide⟩ (Nat.le_of_ble_eq_true rfl) ?_ ?_
    rotate_left
    · exact fun Ex Xx Ix Rx hp => ⟨hp.1, hp.2.1, hp.2.2.1, g18 _ _ hp.2.2.2⟩
    intro rv Xx I19 Rx hp
    obtain ⟨e1, e2, hp⟩ := hp
    rw [e1, e2]
    clear e1 e2
    obtain ⟨e1, h⟩ := h rv I19 hp
    rw [e1]
    clear e1
    change J 30 [] _ (0, 0) _ _ _
    refine jy_aload_n hS rfl rfl ?_
    obtain ⟨g21, h⟩ := h
    obtain ⟨q22, h⟩ := h
    obtain ⟨g23, h⟩ := h
    refine jy_getR hS rfl (by decide) g21 g23 ?_
    obtain ⟨g24, h⟩ := h
    obtain ⟨q25, h⟩ := h
    obtain ⟨g26, h⟩ := h
    refine jy_getR hS rfl (by decide) g24 g26 ?_
    refine jy_iload_n hS rfl rfl ?_
    refine jy_iload_n hS rfl rfl ?_
    refine jy_iload_n hS rfl rfl ?_
    obtain ⟨g27, h⟩ := h
    obtain ⟨Q28, h⟩ := h
    obtain ⟨g29, h⟩ := h
    refine jy_callV hS rfl rfl rfl (Nat.le_of_ble_eq_true rfl) (Or.inl g27) g29 (by decide) ⟨by decide, by decide⟩ (Nat.le_of_ble_eq_true rfl) ?_ ?_
    rotate_left
    · exact fun Ex Xx Ix Rx hp => hp.2.2.2.elim
    intro rv Xx I30 Rx hp
    obtain ⟨e1, e2, hp⟩ := hp
    rw [e1, e2]
    clear e1 e2
    obtain ⟨e1, h⟩ := h rv I30 hp
    rw [e1]
    clear e1
    change J 43 [] _ (0, 0) _ _ _
    refine jy_aload_n hS rfl rfl ?_
    refine jy_getR hS rfl (by decide) g21 g23 ?_
    refine jy_getR hS rfl (by decide) g24 g26 ?_
    refine jy_iload_n hS rfl rfl ?_
    refine jy_iload_n hS rfl rfl ?_
    obtain ⟨Q32, h⟩ := h
    obtain ⟨g33, h⟩ := h
    refine jy_callV hS rfl rfl rfl (Nat.le_of_ble_eq_true rfl) (Or.inl g27) g33 (by decide) ⟨by decide, by decide⟩ (Nat.le_of_ble_eq_true rfl) ?_ ?_
    rotate_left
    · exact fun Ex Xx Ix Rx hp => hp.2.2.2.elim
    intro rv Xx I34 Rx hp
    obtain ⟨e1, e2, hp⟩ := hp
    rw [e1, e2]
    clear e1 e2
    obtain ⟨r35, e1, h⟩ := h rv I34 hp
    rw [e1]
    clear e1
    change J 55 [jy r35] _ (0, 0) _ _ _
    exact jy_iret hS rfl rfl ⟨rfl, rfl, h⟩
theorem jt_145 : jx_ml 145 = 4 ∧ jx_rt 145 = some .int ∧ jx_hz 145 = [] ∧ decide ((jx_nm 145).name = "<init>") = false ∧ jx_code 145 = jx_c145 := by decide +kernel
/-- GC.soothe -/
def wz_145 (V : jx_V) (X : jx_X) (R : jx_R) (Q : Option Value → jx_I → Prop) (QE : String → jx_I → Prop)  (a0 : Nat) (a1 : Int) (a2 : Int) (I : jx_I) : Prop :=
  (X.2.1 a0 = some (11, 0)) ∧ (
  ∃ Q2 : Option Value → jx_I → Prop, (
  ∃ E3 : String → jx_I → Prop, (
  (jc V 8 187 (1, 6) [.ref a0, jy a1] X I R Q2 E3) ∧ (
  (∀ Ex Ix, E3 Ex Ix → QE Ex Ix) ∧ (
  ∀ rv I6, Q2 rv I6 → rv = none ∧ (
  ∃ Q8 : Option Value → jx_I → Prop, (
  ∃ E9 : String → jx_I → Prop, (
  (jc V 8 188 (1, 6) [.ref a0, jy a2] X I6 R Q8 E9) ∧ (
  (∀ Ex Ix, E9 Ex Ix → QE Ex Ix) ∧ (
  ∀ rv I12, Q8 rv I12 → rv = none ∧ (
  ∃ q14 : Nat, (
  (R a0 2 = some q14) ∧ (
  (X.2.1 q14 = some (7, 0)) ∧ (
  ∃ q17 : Nat, (
  (R q14 0 = some q17) ∧ (
  (X.2.1 q17 = some (1, 0)) ∧ (
  ∃ Q20 : Option Value → jx_I → Prop, (
  (jc V 1 11 (0, 0) [.ref q17, jy a1, jy a2] X I12 R Q20 (fun _ _ => False)) ∧ (
  ∀ rv I22, Q20 rv I22 → ∃ r23 : Int, rv = some (jy r23) ∧ (
  ∃ Q24 : Option Value → jx_I → Prop, (
  (jc V 1 14 (0, 0) [.ref q17, jy a1, jy a2] X I22 R Q24 (fun _ _ => False)) ∧ (
  ∀ rv I26, Q24 rv I26 → rv = none ∧ (
  Q (some (jy r23)) I26)))))))))))))))))))))))
set_option maxRecDepth 20000 in
theorem wm_145 {V : jx_V} (hV : V.1.stackTraces = false) {X : jx_X} {R : jx_R} {I : jx_I} {Q : Option Value → jx_I → Prop} {QE : String → jx_I → Prop} {a0 : Nat} {a1 : Int} {a2 : Int} (r_a1 : -2147483648 ≤ a1 ∧ a1 < 2147483648) (r_a2 : -2147483648 ≤ a2 ∧ a2 < 2147483648) 
    (h : wz_145 V X R Q QE  a0 a1 a2 I) : jc V 9 145 (2, 12) [.ref a0, jy a1, jy a2] X I R Q QE := by
  refine jy_met hV (by decide) (n := 4) (rt := some .int) (hh := []) (ini := false) (C := jx_c145) (L := [some (.ref a0), some (jy a1), some (jy a2), none]) jt_145 (Nat.le_of_ble_eq_true rfl) rfl ?_
  intro J hS
  unfold wz_145 at h
  refine jy_aload_n hS rfl rfl ?_
  refine jy_iload_n hS rfl rfl ?_
  obtain ⟨g1, h⟩ := h
  obtain ⟨Q2, h⟩ := h
  obtain ⟨E3, h⟩ := h
  obtain ⟨g4, h⟩ := h
  obtain ⟨g5, h⟩ := h
  refine jy_callV hS rfl rfl rfl (Nat.le_of_ble_eq_true rfl) (Or.inl g1) g4 (by decide) ⟨by decide, by decide⟩ (Nat.le_of_ble_eq_true rfl) ?_ ?_
  rotate_left
  · exact fun Ex Xx Ix Rx hp => ⟨hp.1, hp.2.1, hp.2.2.1, g5 _ _ hp.2.2.2⟩
  intro rv Xx I6 Rx hp
  obtain ⟨e1, e2, hp⟩ := hp
  rw [e1, e2]
  clear e1 e2
  obtain ⟨e1, h⟩ := h rv I6 hp
  rw [e1]
  clear e1
  change J 5 [] _ (1, 6) _ _ _
  refine jy_aload_n hS rfl rfl ?_
  refine jy_iload_n hS rfl rfl ?_
  obtain ⟨Q8, h⟩ := h
  obtain ⟨E9, h⟩ := h
  obtain ⟨g10, h⟩ := h
  obtain ⟨g11, h⟩ := h
  refine jy_callV hS rfl rfl rfl (Nat.le_of_ble_eq_true rfl) (Or.inl g1) g10 (by decide) ⟨by decide, by decide⟩ (Nat.le_of_ble_eq_true rfl) ?_ ?_
  rotate_left
  · exact fun Ex Xx Ix Rx hp => ⟨hp.1, hp.2.1, hp.2.2.1, g11 _ _ hp.2.2.2⟩
  intro rv Xx I12 Rx hp
  obtain ⟨e1, e2, hp⟩ := hp
  rw [e1, e2]
  clear e1 e2
  obtain ⟨e1, h⟩ := h rv I12 hp
  rw [e1]
  clear e1
  change J 10 [] _ (0, 0) _ _ _
  refine jy_aload_n hS rfl rfl ?_
  obtain ⟨q14, h⟩ := h
  obtain ⟨g15, h⟩ := h
  refine jy_getR hS rfl (by decide) g1 g15 ?_
  obtain ⟨g16, h⟩ := h
  obtain ⟨q17, h⟩ := h
  obtain ⟨g18, h⟩ := h
  refine jy_getR hS rfl (by decide) g16 g18 ?_
  refine jy_iload_n hS rfl rfl ?_
  refine jy_iload_n hS rfl rfl ?_
  obtain ⟨g19, h⟩ := h
  obtain ⟨Q20, h⟩ := h
  obtain ⟨g21, h⟩ := h
  refine jy_callV hS rfl rfl rfl (Nat.le_of_ble_eq_true rfl) (Or.inl g19) g21 (by decide) ⟨by decide, by decide⟩ (Nat.le_of_ble_eq_true rfl) ?_ ?_
  rotate_left
  · exact fun Ex Xx Ix Rx hp => hp.2.2.2.elim
  intro rv Xx I22 Rx hp
  obtain ⟨e1, e2, hp⟩ := hp
  rw [e1, e2]
  clear e1 e2
  obtain ⟨r23, e1, h⟩ := h rv I22 hp
  rw [e1]
  clear e1
  change J 22 [jy r23] _ (0, 0) _ _ _
  refine jy_istore_n hS rfl (Nat.le_of_ble_eq_true rfl) (L' := [some (.ref a0), some (jy a1), some (jy a2), some (jy r23)]) rfl ?_
  refine jy_aload_n hS rfl rfl ?_
  refine jy_getR hS rfl (by decide) g1 g15 ?_
  refine jy_getR hS rfl (by decide) g16 g18 ?_
  refine jy_iload_n hS rfl rfl ?_
  refine jy_iload_n hS rfl rfl ?_
  obtain ⟨Q24, h⟩ := h
  obtain ⟨g25, h⟩ := h
  refine jy_callV hS rfl rfl rfl (Nat.le_of_ble_eq_true rfl) (Or.inl g19) g25 (by decide) ⟨by decide, by decide⟩ (Nat.le_of_ble_eq_true rfl) ?_ ?_
  rotate_left
  · exact fun Ex Xx Ix Rx hp => hp.2.2.2.elim
  intro rv Xx I26 Rx hp
  obtain ⟨e1, e2, hp⟩ := hp
  rw [e1, e2]
  clear e1 e2
  obtain ⟨e1, h⟩ := h rv I26 hp
  rw [e1]
  clear e1
  change J 35 [] _ (0, 0) _ _ _
  refine jy_iload_n hS rfl rfl ?_
  exact jy_iret hS rfl rfl ⟨rfl, rfl, h⟩
theorem jt_146 : jx_ml 146 = 4 ∧ jx_rt 146 = some .int ∧ jx_hz 146 = [] ∧ decide ((jx_nm 146).name = "<init>") = false ∧ jx_code 146 = jx_c146 := by decide +kernel
/-- GC.string, from 16 -/
def wz_146_16 (V : jx_V) (X : jx_X) (R : jx_R) (Q : Option Value → jx_I → Prop) (QE : String → jx_I → Prop) (J16 : Nat → Int → jx_I → Prop) (a0 : Nat) (a1 : Int) (a2 : Int64) (s0 : Nat) (s1 : Int) (I : jx_I) : Prop :=
  (X.2.1 s0 = some (11, 0)) ∧ (
  ∃ Q2 : Option Value → jx_I → Prop, (
  ∃ E3 : String → jx_I → Prop, (
  (jc V 8 189 (1, 6) [.ref s0, jy s1] X I R Q2 E3) ∧ (
  (∀ Ex Ix, E3 Ex Ix → QE Ex Ix) ∧ (
  ∀ rv I6, Q2 rv I6 → rv = none ∧ (
  (X.2.1 a0 = some (11, 0)) ∧ (
  ∃ q9 : Nat, (
  (R a0 8 = some q9) ∧ (
  ∃ q11 : Nat, (
  (R a0 11 = some q11) ∧ (
  (X.2.1 q11 = some (2, 0)) ∧ (
  (X.2.1 q9 = some (5, 0)) ∧ (
  ∃ Q15 : Option Value → jx_I → Prop, (
  (jc V 2 78 (0, 0) [.ref q9, jy a1, .long a2, jy ((I6 q11 8).toInt)] X I6 R Q15 (fun _ _ => False)) ∧ (
  ∀ rv I17, Q15 rv I17 → ∃ r18 : Int, rv = some (jy r18) ∧ (
  (-2147483648 ≤ r18 ∧ r18 < 2147483648) ∧ (
  (r18 = 0 → (
    Q (some (jy 0)) I17
  )) ∧ (¬ r18 = 0 → (
    ∃ Q20 : Option Value → jx_I → Prop, (
    (jc V 2 79 (0, 0) [.ref q9] X I17 R Q20 (fun _ _ => False)) ∧ (
    ∀ rv I22, Q20 rv I22 → ∃ r23 : Int, rv = some (jy r23) ∧ (
    (-2147483648 ≤ r23 ∧ r23 < 2147483648) ∧ (
    (r23 = 0 → (
      ∃ q25 : Nat, (
      (R a0 2 = some q25) ∧ (
      (X.2.1 q25 = some (7, 0)) ∧ (
      ∃ q28 : Nat, (
      (R q25 1 = some q28) ∧ (
      (X.2.1 q28 = some (5, 0)) ∧ (
      ∃ Q31 : Option Value → jx_I → Prop, (
      (jc V 1 74 (0, 0) [.ref q28, .ref q9] X I22 R Q31 (fun _ _ => False)) ∧ (
      ∀ rv I33, Q31 rv I33 → rv = none ∧ (
      Q (some (jy 1)) I33)))))))))
    )) ∧ (¬ r23 = 0 → (
      Q (some (jy 0)) I22
    ))))))
  )))))))))))))))))))
/-- GC.string -/
def wz_146 (V : jx_V) (X : jx_X) (R : jx_R) (Q : Option Value → jx_I → Prop) (QE : String → jx_I → Prop) (J16 : Nat → Int → jx_I → Prop) (a0 : Nat) (a1 : Int) (a2 : Int64) (I : jx_I) : Prop :=
  (a1 < 0 → (
    J16 a0 0 I
  )) ∧ (¬ a1 < 0 → (
    (8 < a1 → (
      J16 a0 0 I
    )) ∧ (¬ 8 < a1 → (
      J16 a0 1 I
    ))
  ))
set_option maxRecDepth 20000 in
theorem wm_146 {V : jx_V} (hV : V.1.stackTraces = false) {X : jx_X} {R : jx_R} {I : jx_I} {Q : Option Value → jx_I → Prop} {QE : String → jx_I → Prop} {a0 : Nat} {a1 : Int} {a2 : Int64} (r_a1 : -2147483648 ≤ a1 ∧ a1 < 2147483648) 
    (h : ∀ (J16 : Nat → Int → jx_I → Prop), ((∀ (s0 : Nat) (s1 : Int) I, wz_146_16 V X R Q QE J16 a0 a1 a2 s0 s1 I → J16 s0 s1 I)) → wz_146 V X R Q QE J16 a0 a1 a2 I) : jc V 9 146 (1, 6) [.ref a0, jy a1, .long a2] X I R Q QE := by
  refine jy_met hV (by decide) (n := 4) (rt := some .int) (hh := []) (ini := false) (C := jx_c146) (L := [some (.ref a0), some (jy a1), some (.long a2), none]) jt_146 (Nat.le_of_ble_eq_true rfl) rfl ?_
  intro J hS
  have h := h (fun s0 s1 I => J 16 [jy s1, .ref s0] [some (.ref a0), some (jy a1), some (.long a2), none] (1, 6) X I R) ?_
  · unfold wz_146 at h
    refine jy_aload_n hS rfl rfl ?_
    refine jy_iload_n hS rfl rfl ?_
    refine jy_if_lt hS rfl r_a1 (fun hq => ?_) (fun hq => ?_)
    · have h := h.1 hq
      refine jy_iconst hS rfl ?_
      exact jy_join hS h rfl (jy_sub_s (jy_sub_s (jy_sub_s (jy_sub_n jy_sub_0))))
    · have h := h.2 hq
      refine jy_iload_n hS rfl rfl ?_
      refine jy_bipush hS rfl (by decide) ?_
      refine jy_icmp_gt hS rfl ⟨r_a1, ⟨by decide, by decide⟩⟩ (fun hq => ?_) (fun hq => ?_)
      · have h := h.1 hq
        refine jy_iconst hS rfl ?_
        exact jy_join hS h rfl (jy_sub_s (jy_sub_s (jy_sub_s (jy_sub_n jy_sub_0))))
      · have h := h.2 hq
        refine jy_iconst hS rfl ?_
        refine jy_goto hS rfl ?_
        exact jy_join hS h rfl (jy_sub_s (jy_sub_s (jy_sub_s (jy_sub_n jy_sub_0))))
  · intro s0 s1 I h
    unfold wz_146_16 at h
    obtain ⟨g1, h⟩ := h
    obtain ⟨Q2, h⟩ := h
    obtain ⟨E3, h⟩ := h
    obtain ⟨g4, h⟩ := h
    obtain ⟨g5, h⟩ := h
    refine jy_callV hS rfl rfl rfl (Nat.le_of_ble_eq_true rfl) (Or.inl g1) g4 (by decide) ⟨by decide, by decide⟩ (Nat.le_of_ble_eq_true rfl) ?_ ?_
    rotate_left
    · exact fun Ex Xx Ix Rx hp => ⟨hp.1, hp.2.1, hp.2.2.1, g5 _ _ hp.2.2.2⟩
    intro rv Xx I6 Rx hp
    obtain ⟨e1, e2, hp⟩ := hp
    rw [e1, e2]
    clear e1 e2
    obtain ⟨e1, h⟩ := h rv I6 hp
    rw [e1]
    clear e1
    change J 19 [] _ (0, 0) _ _ _
    refine jy_aload_n hS rfl rfl ?_
    obtain ⟨g8, h⟩ := h
    obtain ⟨q9, h⟩ := h
    obtain ⟨g10, h⟩ := h
    refine jy_getR hS rfl (by decide) g8 g10 ?_
    refine jy_iload_n hS rfl rfl ?_
    refine jy_lload_n hS rfl rfl ?_
    refine jy_aload_n hS rfl rfl ?_
    obtain ⟨q11, h⟩ := h
    obtain ⟨g12, h⟩ := h
    refine jy_getR hS rfl (by decide) g8 g12 ?_
    obtain ⟨g13, h⟩ := h
    refine jy_getI hS rfl (by decide) g13 ?_
    obtain ⟨g14, h⟩ := h
    obtain ⟨Q15, h⟩ := h
    obtain ⟨g16, h⟩ := h
    refine jy_callV hS rfl rfl rfl (Nat.le_of_ble_eq_true rfl) (Or.inl g14) g16 (by decide) ⟨by decide, by decide⟩ (Nat.le_of_ble_eq_true rfl) ?_ ?_
    rotate_left
    · exact fun Ex Xx Ix Rx hp => hp.2.2.2.elim
    intro rv Xx I17 Rx hp
    obtain ⟨e1, e2, hp⟩ := hp
    rw [e1, e2]
    clear e1 e2
    obtain ⟨r18, e1, h⟩ := h rv I17 hp
    rw [e1]
    clear e1
    change J 35 [jy r18] _ (0, 0) _ _ _
    obtain ⟨g19, h⟩ := h
    refine jy_if_eq hS rfl g19 (fun hq => ?_) (fun hq => ?_)
    · have h := h.1 hq
      refine jy_iconst hS rfl ?_
      exact jy_iret hS rfl rfl ⟨rfl, rfl, h⟩
    · have h := h.2 hq
      refine jy_aload_n hS rfl rfl ?_
      refine jy_getR hS rfl (by decide) g8 g10 ?_
      obtain ⟨Q20, h⟩ := h
      obtain ⟨g21, h⟩ := h
      refine jy_callV hS rfl rfl rfl (Nat.le_of_ble_eq_true rfl) (Or.inl g14) g21 (by decide) ⟨by decide, by decide⟩ (Nat.le_of_ble_eq_true rfl) ?_ ?_
      rotate_left
      · exact fun Ex Xx Ix Rx hp => hp.2.2.2.elim
      intro rv Xx I22 Rx hp
      obtain ⟨e1, e2, hp⟩ := hp
      rw [e1, e2]
      clear e1 e2
      obtain ⟨r23, e1, h⟩ := h rv I22 hp
      rw [e1]
      clear e1
      change J 45 [jy r23] _ (0, 0) _ _ _
      obtain ⟨g24, h⟩ := h
      refine jy_if_eq hS rfl g24 (fun hq => ?_) (fun hq => ?_)
      · have h := h.1 hq
        refine jy_aload_n hS rfl rfl ?_
        obtain ⟨q25, h⟩ := h
        obtain ⟨g26, h⟩ := h
        refine jy_getR hS rfl (by decide) g8 g26 ?_
        obtain ⟨g27, h⟩ := h
        obtain ⟨q28, h⟩ := h
        obtain ⟨g29, h⟩ := h
        refine jy_getR hS rfl (by decide) g27 g29 ?_
        refine jy_aload_n hS rfl rfl ?_
        refine jy_getR hS rfl (by decide) g8 g10 ?_
        obtain ⟨g30, h⟩ := h
        obtain ⟨Q31, h⟩ := h
        obtain ⟨g32, h⟩ := h
        refine jy_callV hS rfl rfl rfl (Nat.le_of_ble_eq_true rfl) (Or.inl g30) g32 (by decide) ⟨by decide, by decide⟩ (Nat.le_of_ble_eq_true rfl) ?_ ?_
        rotate_left
        · exact fun Ex Xx Ix Rx hp => hp.2.2.2.elim
        intro rv Xx I33 Rx hp
        obtain ⟨e1, e2, hp⟩ := hp
        rw [e1, e2]
        clear e1 e2
        obtain ⟨e1, h⟩ := h rv I33 hp
        rw [e1]
        clear e1
        change J 64 [] _ (0, 0) _ _ _
        refine jy_iconst hS rfl ?_
        exact jy_iret hS rfl rfl ⟨rfl, rfl, h⟩
      · have h := h.2 hq
        refine jy_iconst hS rfl ?_
        exact jy_iret hS rfl rfl ⟨rfl, rfl, h⟩
theorem jt_147 : jx_ml 147 = 2 ∧ jx_rt 147 = some .int ∧ jx_hz 147 = [] ∧ decide ((jx_nm 147).name = "<init>") = false ∧ jx_code 147 = jx_c147 := by decide +kernel
/-- GC.row -/
def wz_147 (V : jx_V) (X : jx_X) (R : jx_R) (Q : Option Value → jx_I → Prop) (QE : String → jx_I → Prop)  (a0 : Nat) (a1 : Int) (I : jx_I) : Prop :=
  (X.2.1 a0 = some (11, 0)) ∧ (
  ∃ q2 : Nat, (
  (R a0 2 = some q2) ∧ (
  (X.2.1 q2 = some (7, 0)) ∧ (
  ∃ q5 : Nat, (
  (R q2 1 = some q5) ∧ (
  (X.2.1 q5 = some (5, 0)) ∧ (
  ∃ Q8 : Option Value → jx_I → Prop, (
  (jc V 1 73 (0, 0) [.ref q5, jy a1] X I R Q8 (fun _ _ => False)) ∧ (
  ∀ rv I10, Q8 rv I10 → ∃ r11 : Int, rv = some (jy r11) ∧ (
  Q (some (jy r11)) I10))))))))))
set_option maxRecDepth 20000 in
theorem wm_147 {V : jx_V} (hV : V.1.stackTraces = false) {X : jx_X} {R : jx_R} {I : jx_I} {Q : Option Value → jx_I → Prop} {QE : String → jx_I → Prop} {a0 : Nat} {a1 : Int} (r_a1 : -2147483648 ≤ a1 ∧ a1 < 2147483648) 
    (h : wz_147 V X R Q QE  a0 a1 I) : jc V 2 147 (0, 0) [.ref a0, jy a1] X I R Q QE := by
  refine jy_met hV (by decide) (n := 2) (rt := some .int) (hh := []) (ini := false) (C := jx_c147) (L := [some (.ref a0), some (jy a1)]) jt_147 (Nat.le_of_ble_eq_true rfl) rfl ?_
  intro J hS
  unfold wz_147 at h
  refine jy_aload_n hS rfl rfl ?_
  obtain ⟨g1, h⟩ := h
  obtain ⟨q2, h⟩ := h
  obtain ⟨g3, h⟩ := h
  refine jy_getR hS rfl (by decide) g1 g3 ?_
  obtain ⟨g4, h⟩ := h
  obtain ⟨q5, h⟩ := h
  obtain ⟨g6, h⟩ := h
  refine jy_getR hS rfl (by decide) g4 g6 ?_
  refine jy_iload_n hS rfl rfl ?_
  obtain ⟨g7, h⟩ := h
  obtain ⟨Q8, h⟩ := h
  obtain ⟨g9, h⟩ := h
  refine jy_callV hS rfl rfl rfl (Nat.le_of_ble_eq_true rfl) (Or.inl g7) g9 (by decide) ⟨by decide, by decide⟩ (Nat.le_of_ble_eq_true rfl) ?_ ?_
  rotate_left
  · exact fun Ex Xx Ix Rx hp => hp.2.2.2.elim
  intro rv Xx I10 Rx hp
  obtain ⟨e1, e2, hp⟩ := hp
  rw [e1, e2]
  clear e1 e2
  obtain ⟨r11, e1, h⟩ := h rv I10 hp
  rw [e1]
  clear e1
  change J 11 [jy r11] _ (0, 0) _ _ _
  exact jy_iret hS rfl rfl ⟨rfl, rfl, h⟩
theorem jt_148 : jx_ml 148 = 2 ∧ jx_rt 148 = some .int ∧ jx_hz 148 = [] ∧ decide ((jx_nm 148).name = "<init>") = false ∧ jx_code 148 = jx_c148 := by decide +kernel
/-- GC.halt -/
def wz_148 (V : jx_V) (X : jx_X) (R : jx_R) (Q : Option Value → jx_I → Prop) (QE : String → jx_I → Prop)  (a0 : Nat) (a1 : Int) (I : jx_I) : Prop :=
  (X.2.1 a0 = some (11, 0)) ∧ (
  ∃ Q2 : Option Value → jx_I → Prop, (
  ∃ E3 : String → jx_I → Prop, (
  (jc V 8 187 (1, 6) [.ref a0, jy a1] X I R Q2 E3) ∧ (
  (∀ Ex Ix, E3 Ex Ix → QE Ex Ix) ∧ (
  ∀ rv I6, Q2 rv I6 → rv = none ∧ (
  ∃ q8 : Nat, (
  (R a0 11 = some q8) ∧ (
  ∃ q10 : Nat, (
  (R a0 2 = some q10) ∧ (
  (X.2.1 q10 = some (7, 0)) ∧ (
  ∃ q13 : Nat, (
  (R q10 1 = some q13) ∧ (
  ∃ q15 : Nat, (
  (R q10 0 = some q15) ∧ (
  (X.2.1 q8 = some (2, 0)) ∧ (
  ∃ Q18 : Option Value → jx_I → Prop, (
  (jc V 4 38 (0, 0) [.ref q8, jy a1, .ref q13, .ref q15] X I6 R Q18 (fun _ _ => False)) ∧ (
  ∀ rv I20, Q18 rv I20 → ∃ r21 : Int, rv = some (jy r21) ∧ (
  Q (some (jy r21)) I20)))))))))))))))))))
set_option maxRecDepth 20000 in
theorem wm_148 {V : jx_V} (hV : V.1.stackTraces = false) {X : jx_X} {R : jx_R} {I : jx_I} {Q : Option Value → jx_I → Prop} {QE : String → jx_I → Prop} {a0 : Nat} {a1 : Int} (r_a1 : -2147483648 ≤ a1 ∧ a1 < 2147483648) 
    (h : wz_148 V X R Q QE  a0 a1 I) : jc V 9 148 (1, 6) [.ref a0, jy a1] X I R Q QE := by
  refine jy_met hV (by decide) (n := 2) (rt := some .int) (hh := []) (ini := false) (C := jx_c148) (L := [some (.ref a0), some (jy a1)]) jt_148 (Nat.le_of_ble_eq_true rfl) rfl ?_
  intro J hS
  unfold wz_148 at h
  refine jy_aload_n hS rfl rfl ?_
  refine jy_iload_n hS rfl rfl ?_
  obtain ⟨g1, h⟩ := h
  obtain ⟨Q2, h⟩ := h
  obtain ⟨E3, h⟩ := h
  obtain ⟨g4, h⟩ := h
  obtain ⟨g5, h⟩ := h
  refine jy_callV hS rfl rfl rfl (Nat.le_of_ble_eq_true rfl) (Or.inl g1) g4 (by decide) ⟨by decide, by decide⟩ (Nat.le_of_ble_eq_true rfl) ?_ ?_
  rotate_left
  · exact fun Ex Xx Ix Rx hp => ⟨hp.1, hp.2.1, hp.2.2.1, g5 _ _ hp.2.2.2⟩
  intro rv Xx I6 Rx hp
  obtain ⟨e1, e2, hp⟩ := hp
  rw [e1, e2]
  clear e1 e2
  obtain ⟨e1, h⟩ := h rv I6 hp
  rw [e1]
  clear e1
  change J 5 [] _ (0, 0) _ _ _
  refine jy_aload_n hS rfl rfl ?_
  obtain ⟨q8, h⟩ := h
  obtain ⟨g9, h⟩ := h
  refine jy_getR hS rfl (by decide) g1 g9 ?_
  refine jy_iload_n hS rfl rfl ?_
  refine jy_aload_n hS rfl rfl ?_
  obtain ⟨q10, h⟩ := h
  obtain ⟨g11, h⟩ := h
  refine jy_getR hS rfl (by decide) g1 g11 ?_
  obtain ⟨g12, h⟩ := h
  obtain ⟨q13, h⟩ := h
  obtain ⟨g14, h⟩ := h
  refine jy_getR hS rfl (by decide) g12 g14 ?_
  refine jy_aload_n hS rfl rfl ?_
  refine jy_getR hS rfl (by decide) g1 g11 ?_
  obtain ⟨q15, h⟩ := h
  obtain ⟨g16, h⟩ := h
  refine jy_getR hS rfl (by decide) g12 g16 ?_
  obtain ⟨g17, h⟩ := h
  obtain ⟨Q18, h⟩ := h
  obtain ⟨g19, h⟩ := h
  refine jy_callV hS rfl rfl rfl (Nat.le_of_ble_eq_true rfl) (Or.inl g17) g19 (by decide) ⟨by decide, by decide⟩ (Nat.le_of_ble_eq_true rfl) ?_ ?_
  rotate_left
  · exact fun Ex Xx Ix Rx hp => hp.2.2.2.elim
  intro rv Xx I20 Rx hp
  obtain ⟨e1, e2, hp⟩ := hp
  rw [e1, e2]
  clear e1 e2
  obtain ⟨r21, e1, h⟩ := h rv I20 hp
  rw [e1]
  clear e1
  change J 27 [jy r21] _ (0, 0) _ _ _
  exact jy_iret hS rfl rfl ⟨rfl, rfl, h⟩
theorem jt_149 : jx_ml 149 = 3 ∧ jx_rt 149 = some .int ∧ jx_hz 149 = [] ∧ decide ((jx_nm 149).name = "<init>") = false ∧ jx_code 149 = jx_c149 := by decide +kernel
/-- GC.value -/
def wz_149 (V : jx_V) (X : jx_X) (R : jx_R) (Q : Option Value → jx_I → Prop) (QE : String → jx_I → Prop)  (a0 : Nat) (a1 : Int) (a2 : Int) (I : jx_I) : Prop :=
  (X.2.1 a0 = some (11, 0)) ∧ (
  ∃ Q2 : Option Value → jx_I → Prop, (
  ∃ E3 : String → jx_I → Prop, (
  (jc V 8 187 (1, 6) [.ref a0, jy a1] X I R Q2 E3) ∧ (
  (∀ Ex Ix, E3 Ex Ix → QE Ex Ix) ∧ (
  ∀ rv I6, Q2 rv I6 → rv = none ∧ (
  ∃ Q8 : Option Value → jx_I → Prop, (
  ∃ E9 : String → jx_I → Prop, (
  (jc V 9 190 (1, 6) [.ref a0, jy a2, jy 4] X I6 R Q8 E9) ∧ (
  (∀ Ex Ix, E9 Ex Ix → QE Ex Ix) ∧ (
  ∀ rv I12, Q8 rv I12 → rv = none ∧ (
  ∃ q14 : Nat, (
  (R a0 11 = some q14) ∧ (
  (X.2.1 q14 = some (2, 0)) ∧ (
  ∃ q17 : Nat, (
  (R q14 6 = some q17) ∧ (
  ∃ q19 : Nat, (
  (R a0 2 = some q19) ∧ (
  (X.2.1 q19 = some (7, 0)) ∧ (
  ∃ q22 : Nat, (
  (R q19 1 = some q22) ∧ (
  ∃ q24 : Nat, (
  (R q19 0 = some q24) ∧ (
  (X.2.1 q24 = some (1, 0)) ∧ (
  ∃ q27 : Nat, (
  (R q24 0 = some q27) ∧ (
  (X.2.1 q17 = some (3, 0)) ∧ (
  ∃ Q30 : Option Value → jx_I → Prop, (
  (jc V 2 51 (0, 0) [.ref q17, .ref q22, .ref q27, jy (a1 * 8)] X I12 R Q30 (fun _ _ => False)) ∧ (
  ∀ rv I32, Q30 rv I32 → rv = none ∧ (
  ∃ q34 : Nat, (
  (R q17 2 = some q34) ∧ (
  ∃ n36 : Nat, (
  (X.2.1 q34 = some (100, n36) ∧ n36 < 2147483648) ∧ (
  (0 ≤ a2 ∧ a2 < n36) ∧ (
  Q (some (jy ((I32 q34 a2.toNat).toInt))) I32)))))))))))))))))))))))))))))))))))
set_option maxRecDepth 20000 in
theorem wm_149 {V : jx_V} (hV : V.1.stackTraces = false) {X : jx_X} {R : jx_R} {I : jx_I} {Q : Option Value → jx_I → Prop} {QE : String → jx_I → Prop} {a0 : Nat} {a1 : Int} {a2 : Int} (r_a1 : -2147483648 ≤ a1 ∧ a1 < 2147483648) (r_a2 : -2147483648 ≤ a2 ∧ a2 < 2147483648) 
    (h : wz_149 V X R Q QE  a0 a1 a2 I) : jc V 10 149 (2, 12) [.ref a0, jy a1, jy a2] X I R Q QE := by
  refine jy_met hV (by decide) (n := 3) (rt := some .int) (hh := []) (ini := false) (C := jx_c149) (L := [some (.ref a0), some (jy a1), some (jy a2)]) jt_149 (Nat.le_of_ble_eq_true rfl) rfl ?_
  intro J hS
  unfold wz_149 at h
  refine jy_aload_n hS rfl rfl ?_
  refine jy_iload_n hS rfl rfl ?_
  obtain ⟨g1, h⟩ := h
  obtain ⟨Q2, h⟩ := h
  obtain ⟨E3, h⟩ := h
  obtain ⟨g4, h⟩ := h
  obtain ⟨g5, h⟩ := h
  refine jy_callV hS rfl rfl rfl (Nat.le_of_ble_eq_true rfl) (Or.inl g1) g4 (by decide) ⟨by decide, by decide⟩ (Nat.le_of_ble_eq_true rfl) ?_ ?_
  rotate_left
  · exact fun Ex Xx Ix Rx hp => ⟨hp.1, hp.2.1, hp.2.2.1, g5 _ _ hp.2.2.2⟩
  intro rv Xx I6 Rx hp
  obtain ⟨e1, e2, hp⟩ := hp
  rw [e1, e2]
  clear e1 e2
  obtain ⟨e1, h⟩ := h rv I6 hp
  rw [e1]
  clear e1
  change J 5 [] _ (1, 6) _ _ _
  refine jy_aload_n hS rfl rfl ?_
  refine jy_iload_n hS rfl rfl ?_
  refine jy_iconst hS rfl ?_
  obtain ⟨Q8, h⟩ := h
  obtain ⟨E9, h⟩ := h
  obtain ⟨g10, h⟩ := h
  obtain ⟨g11, h⟩ := h
  refine jy_callV hS rfl rfl rfl (Nat.le_of_ble_eq_true rfl) (Or.inl g1) g10 (by decide) ⟨by decide, by decide⟩ (Nat.le_of_ble_eq_true rfl) ?_ ?_
  rotate_left
  · exact fun Ex Xx Ix Rx hp => ⟨hp.1, hp.2.1, hp.2.2.1, g11 _ _ hp.2.2.2⟩
  intro rv Xx I12 Rx hp
  obtain ⟨e1, e2, hp⟩ := hp
  rw [e1, e2]
  clear e1 e2
  obtain ⟨e1, h⟩ := h rv I12 hp
  rw [e1]
  clear e1
  change J 11 [] _ (0, 0) _ _ _
  refine jy_aload_n hS rfl rfl ?_
  obtain ⟨q14, h⟩ := h
  obtain ⟨g15, h⟩ := h
  refine jy_getR hS rfl (by decide) g1 g15 ?_
  obtain ⟨g16, h⟩ := h
  obtain ⟨q17, h⟩ := h
  obtain ⟨g18, h⟩ := h
  refine jy_getR hS rfl (by decide) g16 g18 ?_
  refine jy_aload_n hS rfl rfl ?_
  obtain ⟨q19, h⟩ := h
  obtain ⟨g20, h⟩ := h
  refine jy_getR hS rfl (by decide) g1 g20 ?_
  obtain ⟨g21, h⟩ := h
  obtain ⟨q22, h⟩ := h
  obtain ⟨g23, h⟩ := h
  refine jy_getR hS rfl (by decide) g21 g23 ?_
  refine jy_aload_n hS rfl rfl ?_
  refine jy_getR hS rfl (by decide) g1 g20 ?_
  obtain ⟨q24, h⟩ := h
  obtain ⟨g25, h⟩ := h
  refine jy_getR hS rfl (by decide) g21 g25 ?_
  obtain ⟨g26, h⟩ := h
  obtain ⟨q27, h⟩ := h
  obtain ⟨g28, h⟩ := h
  refine jy_getR hS rfl (by decide) g26 g28 ?_
  refine jy_iload_n hS rfl rfl ?_
  refine jy_bipush hS rfl (by decide) ?_
  refine jy_imul hS rfl ?_
  obtain ⟨g29, h⟩ := h
  obtain ⟨Q30, h⟩ := h
  obtain ⟨g31, h⟩ := h
  refine jy_callV hS rfl rfl rfl (Nat.le_of_ble_eq_true rfl) (Or.inl g29) g31 (by decide) ⟨by decide, by decide⟩ (Nat.le_of_ble_eq_true rfl) ?_ ?_
  rotate_left
  · exact fun Ex Xx Ix Rx hp => hp.2.2.2.elim
  intro rv Xx I32 Rx hp
  obtain ⟨e1, e2, hp⟩ := hp
  rw [e1, e2]
  clear e1 e2
  obtain ⟨e1, h⟩ := h rv I32 hp
  rw [e1]
  clear e1
  change J 42 [] _ (0, 0) _ _ _
  refine jy_aload_n hS rfl rfl ?_
  refine jy_getR hS rfl (by decide) g1 g15 ?_
  refine jy_getR hS rfl (by decide) g16 g18 ?_
  obtain ⟨q34, h⟩ := h
  obtain ⟨g35, h⟩ := h
  refine jy_getR hS rfl (by decide) g29 g35 ?_
  refine jy_iload_n hS rfl rfl ?_
  obtain ⟨n36, h⟩ := h
  obtain ⟨g37, h⟩ := h
  obtain ⟨g38, h⟩ := h
  refine jy_iald hS rfl g37.1 (Nat.le_of_lt g37.2) g38 ?_
  exact jy_iret hS rfl rfl ⟨rfl, rfl, h⟩
theorem jt_150 : jx_ml 150 = 3 ∧ jx_rt 150 = some .int ∧ jx_hz 150 = [] ∧ decide ((jx_nm 150).name = "<init>") = false ∧ jx_code 150 = jx_c150 := by decide +kernel
/-- GC.would -/
def wz_150 (V : jx_V) (X : jx_X) (R : jx_R) (Q : Option Value → jx_I → Prop) (QE : String → jx_I → Prop)  (a0 : Nat) (a1 : Int) (a2 : Int) (I : jx_I) : Prop :=
  (X.2.1 a0 = some (11, 0)) ∧ (
  ∃ Q2 : Option Value → jx_I → Prop, (
  ∃ E3 : String → jx_I → Prop, (
  (jc V 8 187 (1, 6) [.ref a0, jy a1] X I R Q2 E3) ∧ (
  (∀ Ex Ix, E3 Ex Ix → QE Ex Ix) ∧ (
  ∀ rv I6, Q2 rv I6 → rv = none ∧ (
  ∃ q8 : Nat, (
  (R a0 11 = some q8) ∧ (
  (X.2.1 q8 = some (2, 0)) ∧ (
  ∃ Q11 : Option Value → jx_I → Prop, (
  (jc V 1 42 (0, 0) [.ref q8, jy a2] X I6 R Q11 (fun _ _ => False)) ∧ (
  ∀ rv I13, Q11 rv I13 → ∃ r14 : Int, rv = some (jy r14) ∧ (
  ∃ Q15 : Option Value → jx_I → Prop, (
  ∃ E16 : String → jx_I → Prop, (
  (jc V 8 189 (1, 6) [.ref a0, jy r14] X I13 R Q15 E16) ∧ (
  (∀ Ex Ix, E16 Ex Ix → QE Ex Ix) ∧ (
  ∀ rv I19, Q15 rv I19 → rv = none ∧ (
  ∃ q21 : Nat, (
  (R a0 8 = some q21) ∧ (
  (X.2.1 q21 = some (5, 0)) ∧ (
  ∃ Q24 : Option Value → jx_I → Prop, (
  (jc V 2 76 (0, 0) [.ref q21, jy a2] X I19 R Q24 (fun _ _ => False)) ∧ (
  ∀ rv I26, Q24 rv I26 → rv = none ∧ (
  ∃ q28 : Nat, (
  (R a0 2 = some q28) ∧ (
  (X.2.1 q28 = some (7, 0)) ∧ (
  ∃ q31 : Nat, (
  (R q28 0 = some q31) ∧ (
  ∃ Q33 : Option Value → jx_I → Prop, (
  (jc V 4 38 (0, 0) [.ref q8, jy a1, .ref q21, .ref q31] X I26 R Q33 (fun _ _ => False)) ∧ (
  ∀ rv I35, Q33 rv I35 → ∃ r36 : Int, rv = some (jy r36) ∧ (
  Q (some (jy r36)) I35)))))))))))))))))))))))))))))))
set_option maxRecDepth 20000 in
theorem wm_150 {V : jx_V} (hV : V.1.stackTraces = false) {X : jx_X} {R : jx_R} {I : jx_I} {Q : Option Value → jx_I → Prop} {QE : String → jx_I → Prop} {a0 : Nat} {a1 : Int} {a2 : Int} (r_a1 : -2147483648 ≤ a1 ∧ a1 < 2147483648) (r_a2 : -2147483648 ≤ a2 ∧ a2 < 2147483648) 
    (h : wz_150 V X R Q QE  a0 a1 a2 I) : jc V 9 150 (2, 12) [.ref a0, jy a1, jy a2] X I R Q QE := by
  refine jy_met hV (by decide) (n := 3) (rt := some .int) (hh := []) (ini := false) (C := jx_c150) (L := [some (.ref a0), some (jy a1), some (jy a2)]) jt_150 (Nat.le_of_ble_eq_true rfl) rfl ?_
  intro J hS
  unfold wz_150 at h
  refine jy_aload_n hS rfl rfl ?_
  refine jy_iload_n hS rfl rfl ?_
  obtain ⟨g1, h⟩ := h
  obtain ⟨Q2, h⟩ := h
  obtain ⟨E3, h⟩ := h
  obtain ⟨g4, h⟩ := h
  obtain ⟨g5, h⟩ := h
  refine jy_callV hS rfl rfl rfl (Nat.le_of_ble_eq_true rfl) (Or.inl g1) g4 (by decide) ⟨by decide, by decide⟩ (Nat.le_of_ble_eq_true rfl) ?_ ?_
  rotate_left
  · exact fun Ex Xx Ix Rx hp => ⟨hp.1, hp.2.1, hp.2.2.1, g5 _ _ hp.2.2.2⟩
  intro rv Xx I6 Rx hp
  obtain ⟨e1, e2, hp⟩ := hp
  rw [e1, e2]
  clear e1 e2
  obtain ⟨e1, h⟩ := h rv I6 hp
  rw [e1]
  clear e1
  change J 5 [] _ (1, 6) _ _ _
  refine jy_aload_n hS rfl rfl ?_
  refine jy_aload_n hS rfl rfl ?_
  obtain ⟨q8, h⟩ := h
  obtain ⟨g9, h⟩ := h
  refine jy_getR hS rfl (by decide) g1 g9 ?_
  refine jy_iload_n hS rfl rfl ?_
  obtain ⟨g10, h⟩ := h
  obtain ⟨Q11, h⟩ := h
  obtain ⟨g12, h⟩ := h
  refine jy_callV hS rfl rfl rfl (Nat.le_of_ble_eq_true rfl) (Or.inl g10) g12 (by decide) ⟨by decide, by decide⟩ (Nat.le_of_ble_eq_true rfl) ?_ ?_
  rotate_left
  · exact fun Ex Xx Ix Rx hp => hp.2.2.2.elim
  intro rv Xx I13 Rx hp
  obtain ⟨e1, e2, hp⟩ := hp
  rw [e1, e2]
  clear e1 e2
  obtain ⟨r14, e1, h⟩ := h rv I13 hp
  rw [e1]
  clear e1
  change J 14 [jy r14, .ref a0] _ (1, 6) _ _ _
  obtain ⟨Q15, h⟩ := h
  obtain ⟨E16, h⟩ := h
  obtain ⟨g17, h⟩ := h
  obtain ⟨g18, h⟩ := h
  refine jy_callV hS rfl rfl rfl (Nat.le_of_ble_eq_true rfl) (Or.inl g1) g17 (by decide) ⟨by decide, by decide⟩ (Nat.le_of_ble_eq_true rfl) ?_ ?_
  rotate_left
  · exact fun Ex Xx Ix Rx hp => ⟨hp.1, hp.2.1, hp.2.2.1, g18 _ _ hp.2.2.2⟩
  intro rv Xx I19 Rx hp
  obtain ⟨e1, e2, hp⟩ := hp
  rw [e1, e2]
  clear e1 e2
  obtain ⟨e1, h⟩ := h rv I19 hp
  rw [e1]
  clear e1
  change J 17 [] _ (0, 0) _ _ _
  refine jy_aload_n hS rfl rfl ?_
  obtain ⟨q21, h⟩ := h
  obtain ⟨g22, h⟩ := h
  refine jy_getR hS rfl (by decide) g1 g22 ?_
  refine jy_iload_n hS rfl rfl ?_
  obtain ⟨g23, h⟩ := h
  obtain ⟨Q24, h⟩ := h
  obtain ⟨g25, h⟩ := h
  refine jy_callV hS rfl rfl rfl (Nat.le_of_ble_eq_true rfl) (Or.inl g23) g25 (by decide) ⟨by decide, by decide⟩ (Nat.le_of_ble_eq_true rfl) ?_ ?_
  rotate_left
  · exact fun Ex Xx Ix Rx hp => hp.2.2.2.elim
  intro rv Xx I26 Rx hp
  obtain ⟨e1, e2, hp⟩ := hp
  rw [e1, e2]
  clear e1 e2
  obtain ⟨e1, h⟩ := h rv I26 hp
  rw [e1]
  clear e1
  change J 25 [] _ (0, 0) _ _ _
  refine jy_aload_n hS rfl rfl ?_
  refine jy_getR hS rfl (by decide) g1 g9 ?_
  refine jy_iload_n hS rfl rfl ?_
  refine jy_aload_n hS rfl rfl ?_
  refine jy_getR hS rfl (by decide) g1 g22 ?_
  refine jy_aload_n hS rfl rfl ?_
  obtain ⟨q28, h⟩ := h
  obtain ⟨g29, h⟩ := h
  refine jy_getR hS rfl (by decide) g1 g29 ?_
  obtain ⟨g30, h⟩ := h
  obtain ⟨q31, h⟩ := h
  obtain ⟨g32, h⟩ := h
  refine jy_getR hS rfl (by decide) g30 g32 ?_
  obtain ⟨Q33, h⟩ := h
  obtain ⟨g34, h⟩ := h
  refine jy_callV hS rfl rfl rfl (Nat.le_of_ble_eq_true rfl) (Or.inl g10) g34 (by decide) ⟨by decide, by decide⟩ (Nat.le_of_ble_eq_true rfl) ?_ ?_
  rotate_left
  · exact fun Ex Xx Ix Rx hp => hp.2.2.2.elim
  intro rv Xx I35 Rx hp
  obtain ⟨e1, e2, hp⟩ := hp
  rw [e1, e2]
  clear e1 e2
  obtain ⟨r36, e1, h⟩ := h rv I35 hp
  rw [e1]
  clear e1
  change J 44 [jy r36] _ (0, 0) _ _ _
  exact jy_iret hS rfl rfl ⟨rfl, rfl, h⟩
theorem jt_151 : jx_ml 151 = 1 ∧ jx_rt 151 = some .int ∧ jx_hz 151 = [] ∧ decide ((jx_nm 151).name = "<init>") = false ∧ jx_code 151 = jx_c151 := by decide +kernel
/-- GC.shy -/
def wz_151 (V : jx_V) (X : jx_X) (R : jx_R) (Q : Option Value → jx_I → Prop) (QE : String → jx_I → Prop)  (a0 : Nat) (I : jx_I) : Prop :=
  (X.2.1 a0 = some (11, 0)) ∧ (
  ∃ q2 : Nat, (
  (R a0 11 = some q2) ∧ (
  ∃ q4 : Nat, (
  (R a0 2 = some q4) ∧ (
  (X.2.1 q4 = some (7, 0)) ∧ (
  ∃ q7 : Nat, (
  (R q4 1 = some q7) ∧ (
  (X.2.1 q2 = some (2, 0)) ∧ (
  ∃ Q10 : Option Value → jx_I → Prop, (
  (jc V 2 41 (0, 0) [.ref q2, .ref q7] X I R Q10 (fun _ _ => False)) ∧ (
  ∀ rv I12, Q10 rv I12 → ∃ r13 : Int, rv = some (jy r13) ∧ (
  Q (some (jy r13)) I12))))))))))))
set_option maxRecDepth 20000 in
theorem wm_151 {V : jx_V} (hV : V.1.stackTraces = false) {X : jx_X} {R : jx_R} {I : jx_I} {Q : Option Value → jx_I → Prop} {QE : String → jx_I → Prop} {a0 : Nat}  
    (h : wz_151 V X R Q QE  a0 I) : jc V 3 151 (0, 0) [.ref a0] X I R Q QE := by
  refine jy_met hV (by decide) (n := 1) (rt := some .int) (hh := []) (ini := false) (C := jx_c151) (L := [some (.ref a0)]) jt_151 (Nat.le_of_ble_eq_true rfl) rfl ?_
  intro J hS
  unfold wz_151 at h
  refine jy_aload_n hS rfl rfl ?_
  obtain ⟨g1, h⟩ := h
  obtain ⟨q2, h⟩ := h
  obtain ⟨g3, h⟩ := h
  refine jy_getR hS rfl (by decide) g1 g3 ?_
  refine jy_aload_n hS rfl rfl ?_
  obtain ⟨q4, h⟩ := h
  obtain ⟨g5, h⟩ := h
  refine jy_getR hS rfl (by decide) g1 g5 ?_
  obtain ⟨g6, h⟩ := h
  obtain ⟨q7, h⟩ := h
  obtain ⟨g8, h⟩ := h
  refine jy_getR hS rfl (by decide) g6 g8 ?_
  obtain ⟨g9, h⟩ := h
  obtain ⟨Q10, h⟩ := h
  obtain ⟨g11, h⟩ := h
  refine jy_callV hS rfl rfl rfl (Nat.le_of_ble_eq_true rfl) (Or.inl g9) g11 (by decide) ⟨by decide, by decide⟩ (Nat.le_of_ble_eq_true rfl) ?_ ?_
  rotate_left
  · exact fun Ex Xx Ix Rx hp => hp.2.2.2.elim
  intro rv Xx I12 Rx hp
  obtain ⟨e1, e2, hp⟩ := hp
  rw [e1, e2]
  clear e1 e2
  obtain ⟨r13, e1, h⟩ := h rv I12 hp
  rw [e1]
  clear e1
  change J 14 [jy r13] _ (0, 0) _ _ _
  exact jy_iret hS rfl rfl ⟨rfl, rfl, h⟩
theorem jt_152 : jx_ml 152 = 5 ∧ jx_rt 152 = some .int ∧ jx_hz 152 = [] ∧ decide ((jx_nm 152).name = "<init>") = false ∧ jx_code 152 = jx_c152 := by decide +kernel
/-- GC.route, from 17 -/
def wz_152_17 (V : jx_V) (X : jx_X) (R : jx_R) (Q : Option Value → jx_I → Prop) (QE : String → jx_I → Prop) (J17 : Nat → Int → jx_I → Prop) (a0 : Nat) (a1 : Int) (a2 : Int64) (s0 : Nat) (s1 : Int) (I : jx_I) : Prop :=
  (X.2.1 s0 = some (11, 0)) ∧ (
  ∃ Q2 : Option Value → jx_I → Prop, (
  ∃ E3 : String → jx_I → Prop, (
  (jc V 8 189 (1, 6) [.ref s0, jy s1] X I R Q2 E3) ∧ (
  (∀ Ex Ix, E3 Ex Ix → QE Ex Ix) ∧ (
  ∀ rv I6, Q2 rv I6 → rv = none ∧ (
  (X.2.1 a0 = some (11, 0)) ∧ (
  ∃ q9 : Nat, (
  (R a0 8 = some q9) ∧ (
  ∃ q11 : Nat, (
  (R a0 11 = some q11) ∧ (
  (X.2.1 q11 = some (2, 0)) ∧ (
  (X.2.1 q9 = some (5, 0)) ∧ (
  ∃ Q15 : Option Value → jx_I → Prop, (
  (jc V 2 78 (0, 0) [.ref q9, jy a1, .long a2, jy ((I6 q11 7).toInt)] X I6 R Q15 (fun _ _ => False)) ∧ (
  ∀ rv I17, Q15 rv I17 → ∃ r18 : Int, rv = some (jy r18) ∧ (
  (-2147483648 ≤ r18 ∧ r18 < 2147483648) ∧ (
  (r18 ≠ 0 → (
    ∃ Q20 : Option Value → jx_I → Prop, (
    (jc V 2 37 (0, 0) [.ref q11, .ref q9] X I17 R Q20 (fun _ _ => False)) ∧ (
    ∀ rv I22, Q20 rv I22 → ∃ r23 : Int, rv = some (jy r23) ∧ (
    (-2147483648 ≤ r23 ∧ r23 < 2147483648) ∧ (
    (r23 < 0 → (
      Q (some (jy r23)) I22
    )) ∧ (¬ r23 < 0 → (
      ∃ q25 : Nat, (
      (R a0 2 = some q25) ∧ (
      (X.2.1 q25 = some (7, 0)) ∧ (
      ∃ q28 : Nat, (
      (R q25 2 = some q28) ∧ (
      (X.2.1 q28 = some (5, 0)) ∧ (
      ∃ Q31 : Option Value → jx_I → Prop, (
      (jc V 1 74 (0, 0) [.ref q28, .ref q9] X I22 R Q31 (fun _ _ => False)) ∧ (
      ∀ rv I33, Q31 rv I33 → rv = none ∧ (
      Q (some (jy r23)) I33)))))))))
    ))))))
  )) ∧ (r18 = 0 → (
    Q (some (jy (-1))) I17
  )))))))))))))))))))
/-- GC.route -/
def wz_152 (V : jx_V) (X : jx_X) (R : jx_R) (Q : Option Value → jx_I → Prop) (QE : String → jx_I → Prop) (J17 : Nat → Int → jx_I → Prop) (a0 : Nat) (a1 : Int) (a2 : Int64) (I : jx_I) : Prop :=
  (a1 < 2 → (
    J17 a0 0 I
  )) ∧ (¬ a1 < 2 → (
    (12 < a1 → (
      J17 a0 0 I
    )) ∧ (¬ 12 < a1 → (
      J17 a0 1 I
    ))
  ))
set_option maxRecDepth 20000 in
theorem wm_152 {V : jx_V} (hV : V.1.stackTraces = false) {X : jx_X} {R : jx_R} {I : jx_I} {Q : Option Value → jx_I → Prop} {QE : String → jx_I → Prop} {a0 : Nat} {a1 : Int} {a2 : Int64} (r_a1 : -2147483648 ≤ a1 ∧ a1 < 2147483648) 
    (h : ∀ (J17 : Nat → Int → jx_I → Prop), ((∀ (s0 : Nat) (s1 : Int) I, wz_152_17 V X R Q QE J17 a0 a1 a2 s0 s1 I → J17 s0 s1 I)) → wz_152 V X R Q QE J17 a0 a1 a2 I) : jc V 9 152 (1, 6) [.ref a0, jy a1, .long a2] X I R Q QE := by
  refine jy_met hV (by decide) (n := 5) (rt := some .int) (hh := []) (ini := false) (C := jx_c152) (L := [some (.ref a0), some (jy a1), some (.long a2), none, none]) jt_152 (Nat.le_of_ble_eq_true rfl) rfl ?_
  intro J hS
  have h := h (fun s0 s1 I => J 17 [jy s1, .ref s0] [some (.ref a0), some (jy a1), some (.long a2), none, none] (1, 6) X I R) ?_
  · unfold wz_152 at h
    refine jy_aload_n hS rfl rfl ?_
    refine jy_iload_n hS rfl rfl ?_
    refine jy_iconst hS rfl ?_
    refine jy_icmp_lt hS rfl ⟨r_a1, ⟨by decide, by decide⟩⟩ (fun hq => ?_) (fun hq => ?_)
    · have h := h.1 hq
      refine jy_iconst hS rfl ?_
      exact jy_join hS h rfl (jy_sub_s (jy_sub_s (jy_sub_s (jy_sub_n (jy_sub_n jy_sub_0)))))
    · have h := h.2 hq
      refine jy_iload_n hS rfl rfl ?_
      refine jy_bipush hS rfl (by decide) ?_
      refine jy_icmp_gt hS rfl ⟨r_a1, ⟨by decide, by decide⟩⟩ (fun hq => ?_) (fun hq => ?_)
      · have h := h.1 hq
        refine jy_iconst hS rfl ?_
        exact jy_join hS h rfl (jy_sub_s (jy_sub_s (jy_sub_s (jy_sub_n (jy_sub_n jy_sub_0)))))
      · have h := h.2 hq
        refine jy_iconst hS rfl ?_
        refine jy_goto hS rfl ?_
        exact jy_join hS h rfl (jy_sub_s (jy_sub_s (jy_sub_s (jy_sub_n (jy_sub_n jy_sub_0)))))
  · intro s0 s1 I h
    unfold wz_152_17 at h
    obtain ⟨g1, h⟩ := h
    obtain ⟨Q2, h⟩ := h
    obtain ⟨E3, h⟩ := h
    obtain ⟨g4, h⟩ := h
    obtain ⟨g5, h⟩ := h
    refine jy_callV hS rfl rfl rfl (Nat.le_of_ble_eq_true rfl) (Or.inl g1) g4 (by decide) ⟨by decide, by decide⟩ (Nat.le_of_ble_eq_true rfl) ?_ ?_
    rotate_left
    · exact fun Ex Xx Ix Rx hp => ⟨hp.1, hp.2.1, hp.2.2.1, g5 _ _ hp.2.2.2⟩
    intro rv Xx I6 Rx hp
    obtain ⟨e1, e2, hp⟩ := hp
    rw [e1, e2]
    clear e1 e2
    obtain ⟨e1, h⟩ := h rv I6 hp
    rw [e1]
    clear e1
    change J 20 [] _ (0, 0) _ _ _
    refine jy_aload_n hS rfl rfl ?_
    obtain ⟨g8, h⟩ := h
    obtain ⟨q9, h⟩ := h
    obtain ⟨g10, h⟩ := h
    refine jy_getR hS rfl (by decide) g8 g10 ?_
    refine jy_iload_n hS rfl rfl ?_
    refine jy_lload_n hS rfl rfl ?_
    refine jy_aload_n hS rfl rfl ?_
    obtain ⟨q11, h⟩ := h
    obtain ⟨g12, h⟩ := h
    refine jy_getR hS rfl (by decide) g8 g12 ?_
    obtain ⟨g13, h⟩ := h
    refine jy_getI hS rfl (by decide) g13 ?_
    obtain ⟨g14, h⟩ := h
    obtain ⟨Q15, h⟩ := h
    obtain ⟨g16, h⟩ := h
    refine jy_callV hS rfl rfl rfl (Nat.le_of_ble_eq_true rfl) (Or.inl g14) g16 (by decide) ⟨by decide, by decide⟩ (Nat.le_of_ble_eq_true rfl) ?_ ?_
    rotate_left
    · exact fun Ex Xx Ix Rx hp => hp.2.2.2.elim
    intro rv Xx I17 Rx hp
    obtain ⟨e1, e2, hp⟩ := hp
    rw [e1, e2]
    clear e1 e2
    obtain ⟨r18, e1, h⟩ := h rv I17 hp
    rw [e1]
    clear e1
    change J 36 [jy r18] _ (0, 0) _ _ _
    obtain ⟨g19, h⟩ := h
    refine jy_if_ne hS rfl g19 (fun hq => ?_) (fun hq => ?_)
    · have h := h.1 hq
      refine jy_aload_n hS rfl rfl ?_
      refine jy_getR hS rfl (by decide) g8 g12 ?_
      refine jy_aload_n hS rfl rfl ?_
      refine jy_getR hS rfl (by decide) g8 g10 ?_
      obtain ⟨Q20, h⟩ := h
      obtain ⟨g21, h⟩ := h
      refine jy_callV hS rfl rfl rfl (Nat.le_of_ble_eq_true rfl) (Or.inl g13) g21 (by decide) ⟨by decide, by decide⟩ (Nat.le_of_ble_eq_true rfl) ?_ ?_
      rotate_left
      · exact fun Ex Xx Ix Rx hp => hp.2.2.2.elim
      intro rv Xx I22 Rx hp
      obtain ⟨e1, e2, hp⟩ := hp
      rw [e1, e2]
      clear e1 e2
      obtain ⟨r23, e1, h⟩ := h rv I22 hp
      rw [e1]
      clear e1
      change J 52 [jy r23] _ (0, 0) _ _ _
      refine jy_istore hS rfl (Nat.le_of_ble_eq_true rfl) (L' := [some (.ref a0), some (jy a1), some (.long a2), none, some (jy r23)]) rfl ?_
      refine jy_iload hS rfl rfl ?_
      obtain ⟨g24, h⟩ := h
      refine jy_if_lt hS rfl g24 (fun hq => ?_) (fun hq => ?_)
      · have h := h.1 hq
        refine jy_iload hS rfl rfl ?_
        exact jy_iret hS rfl rfl ⟨rfl, rfl, h⟩
      · have h := h.2 hq
        refine jy_aload_n hS rfl rfl ?_
        obtain ⟨q25, h⟩ := h
        obtain ⟨g26, h⟩ := h
        refine jy_getR hS rfl (by decide) g8 g26 ?_
        obtain ⟨g27, h⟩ := h
        obtain ⟨q28, h⟩ := h
        obtain ⟨g29, h⟩ := h
        refine jy_getR hS rfl (by decide) g27 g29 ?_
        refine jy_aload_n hS rfl rfl ?_
        refine jy_getR hS rfl (by decide) g8 g10 ?_
        obtain ⟨g30, h⟩ := h
        obtain ⟨Q31, h⟩ := h
        obtain ⟨g32, h⟩ := h
        refine jy_callV hS rfl rfl rfl (Nat.le_of_ble_eq_true rfl) (Or.inl g30) g32 (by decide) ⟨by decide, by decide⟩ (Nat.le_of_ble_eq_true rfl) ?_ ?_
        rotate_left
        · exact fun Ex Xx Ix Rx hp => hp.2.2.2.elim
        intro rv Xx I33 Rx hp
        obtain ⟨e1, e2, hp⟩ := hp
        rw [e1, e2]
        clear e1 e2
        obtain ⟨e1, h⟩ := h rv I33 hp
        rw [e1]
        clear e1
        change J 73 [] _ (0, 0) _ _ _
        refine jy_iload hS rfl rfl ?_
        exact jy_iret hS rfl rfl ⟨rfl, rfl, h⟩
    · have h := h.2 hq
      refine jy_iconst hS rfl ?_
      exact jy_iret hS rfl rfl ⟨rfl, rfl, h⟩
theorem jt_153 : jx_ml 153 = 2 ∧ jx_rt 153 = some .int ∧ jx_hz 153 = [] ∧ decide ((jx_nm 153).name = "<init>") = false ∧ jx_code 153 = jx_c153 := by decide +kernel
/-- GC.at -/
def wz_153 (V : jx_V) (X : jx_X) (R : jx_R) (Q : Option Value → jx_I → Prop) (QE : String → jx_I → Prop)  (a0 : Nat) (a1 : Int) (I : jx_I) : Prop :=
  (X.2.1 a0 = some (11, 0)) ∧ (
  ∃ q2 : Nat, (
  (R a0 2 = some q2) ∧ (
  (X.2.1 q2 = some (7, 0)) ∧ (
  ∃ q5 : Nat, (
  (R q2 2 = some q5) ∧ (
  (X.2.1 q5 = some (5, 0)) ∧ (
  ∃ Q8 : Option Value → jx_I → Prop, (
  (jc V 1 73 (0, 0) [.ref q5, jy a1] X I R Q8 (fun _ _ => False)) ∧ (
  ∀ rv I10, Q8 rv I10 → ∃ r11 : Int, rv = some (jy r11) ∧ (
  Q (some (jy r11)) I10))))))))))
set_option maxRecDepth 20000 in
theorem wm_153 {V : jx_V} (hV : V.1.stackTraces = false) {X : jx_X} {R : jx_R} {I : jx_I} {Q : Option Value → jx_I → Prop} {QE : String → jx_I → Prop} {a0 : Nat} {a1 : Int} (r_a1 : -2147483648 ≤ a1 ∧ a1 < 2147483648) 
    (h : wz_153 V X R Q QE  a0 a1 I) : jc V 2 153 (0, 0) [.ref a0, jy a1] X I R Q QE := by
  refine jy_met hV (by decide) (n := 2) (rt := some .int) (hh := []) (ini := false) (C := jx_c153) (L := [some (.ref a0), some (jy a1)]) jt_153 (Nat.le_of_ble_eq_true rfl) rfl ?_
  intro J hS
  unfold wz_153 at h
  refine jy_aload_n hS rfl rfl ?_
  obtain ⟨g1, h⟩ := h
  obtain ⟨q2, h⟩ := h
  obtain ⟨g3, h⟩ := h
  refine jy_getR hS rfl (by decide) g1 g3 ?_
  obtain ⟨g4, h⟩ := h
  obtain ⟨q5, h⟩ := h
  obtain ⟨g6, h⟩ := h
  refine jy_getR hS rfl (by decide) g4 g6 ?_
  refine jy_iload_n hS rfl rfl ?_
  obtain ⟨g7, h⟩ := h
  obtain ⟨Q8, h⟩ := h
  obtain ⟨g9, h⟩ := h
  refine jy_callV hS rfl rfl rfl (Nat.le_of_ble_eq_true rfl) (Or.inl g7) g9 (by decide) ⟨by decide, by decide⟩ (Nat.le_of_ble_eq_true rfl) ?_ ?_
  rotate_left
  · exact fun Ex Xx Ix Rx hp => hp.2.2.2.elim
  intro rv Xx I10 Rx hp
  obtain ⟨e1, e2, hp⟩ := hp
  rw [e1, e2]
  clear e1 e2
  obtain ⟨r11, e1, h⟩ := h rv I10 hp
  rw [e1]
  clear e1
  change J 11 [jy r11] _ (0, 0) _ _ _
  exact jy_iret hS rfl rfl ⟨rfl, rfl, h⟩
theorem jt_154 : jx_ml 154 = 2 ∧ jx_rt 154 = some .int ∧ jx_hz 154 = [] ∧ decide ((jx_nm 154).name = "<init>") = false ∧ jx_code 154 = jx_c154 := by decide +kernel
/-- GC.hours -/
def wz_154 (V : jx_V) (X : jx_X) (R : jx_R) (Q : Option Value → jx_I → Prop) (QE : String → jx_I → Prop)  (a0 : Nat) (a1 : Int) (I : jx_I) : Prop :=
  (X.2.1 a0 = some (11, 0)) ∧ (
  ∃ Q2 : Option Value → jx_I → Prop, (
  ∃ E3 : String → jx_I → Prop, (
  (jc V 9 190 (1, 6) [.ref a0, jy a1, jy 2] X I R Q2 E3) ∧ (
  (∀ Ex Ix, E3 Ex Ix → QE Ex Ix) ∧ (
  ∀ rv I6, Q2 rv I6 → rv = none ∧ (
  ∃ Q8 : Option Value → jx_I → Prop, (
  ∃ E9 : String → jx_I → Prop, (
  (jc V 8 193 (1, 6) [.ref a0] X I6 R Q8 E9) ∧ (
  (∀ Ex Ix, E9 Ex Ix → QE Ex Ix) ∧ (
  ∀ rv I12, Q8 rv I12 → rv = none ∧ (
  ∃ Q14 : Option Value → jx_I → Prop, (
  (jc V 6 194 (0, 0) [.ref a0] X I12 R Q14 (fun _ _ => False)) ∧ (
  ∀ rv I16, Q14 rv I16 → rv = none ∧ (
  ((a1 ≠ 0 ∧ a1 ≠ 1) → (
    ∃ q18 : Nat, (
    (R a0 4 = some q18) ∧ (
    (X.2.1 q18 = some (9, 0)) ∧ (
    Q (some (jy ((I16 q18 4).toInt))) I16)))
  ))
  ∧ (a1 = 0 → (
    ∃ q21 : Nat, (
    (R a0 4 = some q21) ∧ (
    (X.2.1 q21 = some (9, 0)) ∧ (
    ∃ Q24 : Option Value → jx_I → Prop, (
    (jc V 1 123 (0, 0) [.ref q21] X I16 R Q24 (fun _ _ => False)) ∧ (
    ∀ rv I26, Q24 rv I26 → ∃ r27 : Int, rv = some (jy r27) ∧ (
    Q (some (jy r27)) I26))))))
  ))
  ∧ (a1 = 1 → (
    ∃ q28 : Nat, (
    (R a0 4 = some q28) ∧ (
    (X.2.1 q28 = some (9, 0)) ∧ (
    Q (some (jy ((I16 q28 3).toInt))) I16)))
  ))))))))))))))))
set_option maxRecDepth 20000 in
theorem wm_154 {V : jx_V} (hV : V.1.stackTraces = false) {X : jx_X} {R : jx_R} {I : jx_I} {Q : Option Value → jx_I → Prop} {QE : String → jx_I → Prop} {a0 : Nat} {a1 : Int} (r_a1 : -2147483648 ≤ a1 ∧ a1 < 2147483648) 
    (h : wz_154 V X R Q QE  a0 a1 I) : jc V 10 154 (2, 12) [.ref a0, jy a1] X I R Q QE := by
  refine jy_met hV (by decide) (n := 2) (rt := some .int) (hh := []) (ini := false) (C := jx_c154) (L := [some (.ref a0), some (jy a1)]) jt_154 (Nat.le_of_ble_eq_true rfl) rfl ?_
  intro J hS
  unfold wz_154 at h
  refine jy_aload_n hS rfl rfl ?_
  refine jy_iload_n hS rfl rfl ?_
  refine jy_iconst hS rfl ?_
  obtain ⟨g1, h⟩ := h
  obtain ⟨Q2, h⟩ := h
  obtain ⟨E3, h⟩ := h
  obtain ⟨g4, h⟩ := h
  obtain ⟨g5, h⟩ := h
  refine jy_callV hS rfl rfl rfl (Nat.le_of_ble_eq_true rfl) (Or.inl g1) g4 (by decide) ⟨by decide, by decide⟩ (Nat.le_of_ble_eq_true rfl) ?_ ?_
  rotate_left
  · exact fun Ex Xx Ix Rx hp => ⟨hp.1, hp.2.1, hp.2.2.1, g5 _ _ hp.2.2.2⟩
  intro rv Xx I6 Rx hp
  obtain ⟨e1, e2, hp⟩ := hp
  rw [e1, e2]
  clear e1 e2
  obtain ⟨e1, h⟩ := h rv I6 hp
  rw [e1]
  clear e1
  change J 6 [] _ (1, 6) _ _ _
  refine jy_aload_n hS rfl rfl ?_
  obtain ⟨Q8, h⟩ := h
  obtain ⟨E9, h⟩ := h
  obtain ⟨g10, h⟩ := h
  obtain ⟨g11, h⟩ := h
  refine jy_callV hS rfl rfl rfl (Nat.le_of_ble_eq_true rfl) (Or.inl g1) g10 (by decide) ⟨by decide, by decide⟩ (Nat.le_of_ble_eq_true rfl) ?_ ?_
  rotate_left
  · exact fun Ex Xx Ix Rx hp => ⟨hp.1, hp.2.1, hp.2.2.1, g11 _ _ hp.2.2.2⟩
  intro rv Xx I12 Rx hp
  obtain ⟨e1, e2, hp⟩ := hp
  rw [e1, e2]
  clear e1 e2
  obtain ⟨e1, h⟩ := h rv I12 hp
  rw [e1]
  clear e1
  change J 10 [] _ (0, 0) _ _ _
  refine jy_aload_n hS rfl rfl ?_
  obtain ⟨Q14, h⟩ := h
  obtain ⟨g15, h⟩ := h
  refine jy_callV hS rfl rfl rfl (Nat.le_of_ble_eq_true rfl) (Or.inl g1) g15 (by decide) ⟨by decide, by decide⟩ (Nat.le_of_ble_eq_true rfl) ?_ ?_
  rotate_left
  · exact fun Ex Xx Ix Rx hp => hp.2.2.2.elim
  intro rv Xx I16 Rx hp
  obtain ⟨e1, e2, hp⟩ := hp
  rw [e1, e2]
  clear e1 e2
  obtain ⟨e1, h⟩ := h rv I16 hp
  rw [e1]
  clear e1
  change J 14 [] _ (0, 0) _ _ _
  refine jy_iload_n hS rfl rfl ?_
  refine jy_lsw hS rfl r_a1 ?_
  rcases (by omega : (a1 ≠ 0 ∧ a1 ≠ 1) ∨ a1 = 0 ∨ a1 = 1) with hq0 | hq0 | hq0
  · have h := h.1 hq0
    have e9 : Op.lookupswitch.offset [(0, 25), (1, 33)] 41 a1 = 41 := by
      simp only [Op.lookupswitch.offset]; repeat (first | rfl | rw [if_neg (by omega)])
    refine ⟨?_, ?_⟩
    · show 0 ≤ ((15 : Nat) : Int) + Op.lookupswitch.offset [(0, 25), (1, 33)] 41 a1
      rw [e9]
      decide
    change J (((15 : Nat) : Int) + Op.lookupswitch.offset [(0, 25), (1, 33)] 41 a1).toNat _ _ _ _ _ _
    rw [e9]
    change J 56 _ _ _ _ _ _
    refine jy_aload_n hS rfl rfl ?_
    obtain ⟨q18, h⟩ := h
    obtain ⟨g19, h⟩ := h
    refine jy_getR hS rfl (by decide) g1 g19 ?_
    obtain ⟨g20, h⟩ := h
    refine jy_getI hS rfl (by decide) g20 ?_
    exact jy_iret hS rfl rfl ⟨rfl, rfl, h⟩
  · have h := h.2.1 hq0
    have e9 : Op.lookupswitch.offset [(0, 25), (1, 33)] 41 a1 = 25 := by
      rw [hq0]; rfl
    refine ⟨?_, ?_⟩
    · show 0 ≤ ((15 : Nat) : Int) + Op.lookupswitch.offset [(0, 25), (1, 33)] 41 a1
      rw [e9]
      decide
    change J (((15 : Nat) : Int) + Op.lookupswitch.offset [(0, 25), (1, 33)] 41 a1).toNat _ _ _ _ _ _
    rw [e9]
    change J 40 _ _ _ _ _ _
    refine jy_aload_n hS rfl rfl ?_
    obtain ⟨q21, h⟩ := h
    obtain ⟨g22, h⟩ := h
    refine jy_getR hS rfl (by decide) g1 g22 ?_
    obtain ⟨g23, h⟩ := h
    obtain ⟨Q24, h⟩ := h
    obtain ⟨g25, h⟩ := h
    refine jy_callV hS rfl rfl rfl (Nat.le_of_ble_eq_true rfl) (Or.inl g23) g25 (by decide) ⟨by decide, by decide⟩ (Nat.le_of_ble_eq_true rfl) ?_ ?_
    rotate_left
    · exact fun Ex Xx Ix Rx hp => hp.2.2.2.elim
    intro rv Xx I26 Rx hp
    obtain ⟨e1, e2, hp⟩ := hp
    rw [e1, e2]
    clear e1 e2
    obtain ⟨r27, e1, h⟩ := h rv I26 hp
    rw [e1]
    clear e1
    change J 47 [jy r27] _ (0, 0) _ _ _
    exact jy_iret hS rfl rfl ⟨rfl, rfl, h⟩
  · have h := h.2.2 hq0
    have e9 : Op.lookupswitch.offset [(0, 25), (1, 33)] 41 a1 = 33 := by
      rw [hq0]; rfl
    refine ⟨?_, ?_⟩
    · show 0 ≤ ((15 : Nat) : Int) + Op.lookupswitch.offset [(0, 25), (1, 33)] 41 a1
      rw [e9]
      decide
    change J (((15 : Nat) : Int) + Op.lookupswitch.offset [(0, 25), (1, 33)] 41 a1).toNat _ _ _ _ _ _
    rw [e9]
    change J 48 _ _ _ _ _ _
    refine jy_aload_n hS rfl rfl ?_
    obtain ⟨q28, h⟩ := h
    obtain ⟨g29, h⟩ := h
    refine jy_getR hS rfl (by decide) g1 g29 ?_
    obtain ⟨g30, h⟩ := h
    refine jy_getI hS rfl (by decide) g30 ?_
    exact jy_iret hS rfl rfl ⟨rfl, rfl, h⟩
theorem jt_155 : jx_ml 155 = 2 ∧ jx_rt 155 = some .int ∧ jx_hz 155 = [] ∧ decide ((jx_nm 155).name = "<init>") = false ∧ jx_code 155 = jx_c155 := by decide +kernel
/-- GC.stop -/
def wz_155 (V : jx_V) (X : jx_X) (R : jx_R) (Q : Option Value → jx_I → Prop) (QE : String → jx_I → Prop)  (a0 : Nat) (a1 : Int) (I : jx_I) : Prop :=
  (X.2.1 a0 = some (11, 0)) ∧ (
  ∃ Q2 : Option Value → jx_I → Prop, (
  ∃ E3 : String → jx_I → Prop, (
  (jc V 8 193 (1, 6) [.ref a0] X I R Q2 E3) ∧ (
  (∀ Ex Ix, E3 Ex Ix → QE Ex Ix) ∧ (
  ∀ rv I6, Q2 rv I6 → rv = none ∧ (
  (a1 < 0 → (
    Q (some (jy (-1))) I6
  )) ∧ (¬ a1 < 0 → (
    ∃ q8 : Nat, (
    (R a0 2 = some q8) ∧ (
    (X.2.1 q8 = some (7, 0)) ∧ (
    ∃ q11 : Nat, (
    (R q8 2 = some q11) ∧ (
    (X.2.1 q11 = some (5, 0)) ∧ (
    (a1 < (I6 q11 1).toInt → (
      ∃ Q14 : Option Value → jx_I → Prop, (
      (jc V 6 194 (0, 0) [.ref a0] X I6 R Q14 (fun _ _ => False)) ∧ (
      ∀ rv I16, Q14 rv I16 → rv = none ∧ (
      ∃ q18 : Nat, (
      (R a0 4 = some q18) ∧ (
      (X.2.1 q18 = some (9, 0)) ∧ (
      ∃ q21 : Nat, (
      (R q18 2 = some q21) ∧ (
      ∃ n23 : Nat, (
      (X.2.1 q21 = some (100, n23) ∧ n23 < 2147483648) ∧ (
      (0 ≤ a1 ∧ a1 < n23) ∧ (
      Q (some (jy ((I16 q21 a1.toNat).toInt))) I16)))))))))))
    )) ∧ (¬ a1 < (I6 q11 1).toInt → (
      Q (some (jy (-1))) I6
    ))))))))
  ))))))))
set_option maxRecDepth 20000 in
theorem wm_155 {V : jx_V} (hV : V.1.stackTraces = false) {X : jx_X} {R : jx_R} {I : jx_I} {Q : Option Value → jx_I → Prop} {QE : String → jx_I → Prop} {a0 : Nat} {a1 : Int} (r_a1 : -2147483648 ≤ a1 ∧ a1 < 2147483648) 
    (h : wz_155 V X R Q QE  a0 a1 I) : jc V 9 155 (1, 6) [.ref a0, jy a1] X I R Q QE := by
  refine jy_met hV (by decide) (n := 2) (rt := some .int) (hh := []) (ini := false) (C := jx_c155) (L := [some (.ref a0), some (jy a1)]) jt_155 (Nat.le_of_ble_eq_true rfl) rfl ?_
  intro J hS
  unfold wz_155 at h
  refine jy_aload_n hS rfl rfl ?_
  obtain ⟨g1, h⟩ := h
  obtain ⟨Q2, h⟩ := h
  obtain ⟨E3, h⟩ := h
  obtain ⟨g4, h⟩ := h
  obtain ⟨g5, h⟩ := h
  refine jy_callV hS rfl rfl rfl (Nat.le_of_ble_eq_true rfl) (Or.inl g1) g4 (by decide) ⟨by decide, by decide⟩ (Nat.le_of_ble_eq_true rfl) ?_ ?_
  rotate_left
  · exact fun Ex Xx Ix Rx hp => ⟨hp.1, hp.2.1, hp.2.2.1, g5 _ _ hp.2.2.2⟩
  intro rv Xx I6 Rx hp
  obtain ⟨e1, e2, hp⟩ := hp
  rw [e1, e2]
  clear e1 e2
  obtain ⟨e1, h⟩ := h rv I6 hp
  rw [e1]
  clear e1
  change J 4 [] _ (0, 0) _ _ _
  refine jy_iload_n hS rfl rfl ?_
  refine jy_if_lt hS rfl r_a1 (fun hq => ?_) (fun hq => ?_)
  · have h := h.1 hq
    refine jy_iconst hS rfl ?_
    exact jy_iret hS rfl rfl ⟨rfl, rfl, h⟩
  · have h := h.2 hq
    refine jy_iload_n hS rfl rfl ?_
    refine jy_aload_n hS rfl rfl ?_
    obtain ⟨q8, h⟩ := h
    obtain ⟨g9, h⟩ := h
    refine jy_getR hS rfl (by decide) g1 g9 ?_
    obtain ⟨g10, h⟩ := h
    obtain ⟨q11, h⟩ := h
    obtain ⟨g12, h⟩ := h
    refine jy_getR hS rfl (by decide) g10 g12 ?_
    obtain ⟨g13, h⟩ := h
    refine jy_getI hS rfl (by decide) g13 ?_
    refine jy_icmp_lt hS rfl ⟨r_a1, (jy_rng _)⟩ (fun hq => ?_) (fun hq => ?_)
    · have h := h.1 hq
      refine jy_aload_n hS rfl rfl ?_
      obtain ⟨Q14, h⟩ := h
      obtain ⟨g15, h⟩ := h
      refine jy_callV hS rfl rfl rfl (Nat.le_of_ble_eq_true rfl) (Or.inl g1) g15 (by decide) ⟨by decide, by decide⟩ (Nat.le_of_ble_eq_true rfl) ?_ ?_
      rotate_left
      · exact fun Ex Xx Ix Rx hp => hp.2.2.2.elim
      intro rv Xx I16 Rx hp
      obtain ⟨e1, e2, hp⟩ := hp
      rw [e1, e2]
      clear e1 e2
      obtain ⟨e1, h⟩ := h rv I16 hp
      rw [e1]
      clear e1
      change J 28 [] _ (0, 0) _ _ _
      refine jy_aload_n hS rfl rfl ?_
      obtain ⟨q18, h⟩ := h
      obtain ⟨g19, h⟩ := h
      refine jy_getR hS rfl (by decide) g1 g19 ?_
      obtain ⟨g20, h⟩ := h
      obtain ⟨q21, h⟩ := h
      obtain ⟨g22, h⟩ := h
      refine jy_getR hS rfl (by decide) g20 g22 ?_
      refine jy_iload_n hS rfl rfl ?_
      obtain ⟨n23, h⟩ := h
      obtain ⟨g24, h⟩ := h
      obtain ⟨g25, h⟩ := h
      refine jy_iald hS rfl g24.1 (Nat.le_of_lt g24.2) g25 ?_
      exact jy_iret hS rfl rfl ⟨rfl, rfl, h⟩
    · have h := h.2 hq
      refine jy_iconst hS rfl ?_
      exact jy_iret hS rfl rfl ⟨rfl, rfl, h⟩
theorem jt_156 : jx_ml 156 = 2 ∧ jx_rt 156 = some .int ∧ jx_hz 156 = [] ∧ decide ((jx_nm 156).name = "<init>") = false ∧ jx_code 156 = jx_c156 := by decide +kernel
/-- GC.whose -/
def wz_156 (V : jx_V) (X : jx_X) (R : jx_R) (Q : Option Value → jx_I → Prop) (QE : String → jx_I → Prop)  (a0 : Nat) (a1 : Int) (I : jx_I) : Prop :=
  (X.2.1 a0 = some (11, 0)) ∧ (
  ∃ Q2 : Option Value → jx_I → Prop, (
  ∃ E3 : String → jx_I → Prop, (
  (jc V 8 193 (1, 6) [.ref a0] X I R Q2 E3) ∧ (
  (∀ Ex Ix, E3 Ex Ix → QE Ex Ix) ∧ (
  ∀ rv I6, Q2 rv I6 → rv = none ∧ (
  (a1 < 1 → (
    Q (some (jy (-1))) I6
  )) ∧ (¬ a1 < 1 → (
    ∃ q8 : Nat, (
    (R a0 2 = some q8) ∧ (
    (X.2.1 q8 = some (7, 0)) ∧ (
    ∃ q11 : Nat, (
    (R q8 2 = some q11) ∧ (
    (X.2.1 q11 = some (5, 0)) ∧ (
    (a1 < (I6 q11 1).toInt → (
      ∃ Q14 : Option Value → jx_I → Prop, (
      (jc V 6 194 (0, 0) [.ref a0] X I6 R Q14 (fun _ _ => False)) ∧ (
      ∀ rv I16, Q14 rv I16 → rv = none ∧ (
      ∃ q18 : Nat, (
      (R a0 4 = some q18) ∧ (
      ∃ q20 : Nat, (
      (R q8 1 = some q20) ∧ (
      (X.2.1 q18 = some (9, 0)) ∧ (
      ∃ Q23 : Option Value → jx_I → Prop, (
      (jc V 1 125 (0, 0) [.ref q18, .ref q20, jy a1] X I16 R Q23 (fun _ _ => False)) ∧ (
      ∀ rv I25, Q23 rv I25 → ∃ r26 : Int, rv = some (jy r26) ∧ (
      Q (some (jy r26)) I25)))))))))))
    )) ∧ (¬ a1 < (I6 q11 1).toInt → (
      Q (some (jy (-1))) I6
    ))))))))
  ))))))))
set_option maxRecDepth 20000 in
theorem wm_156 {V : jx_V} (hV : V.1.stackTraces = false) {X : jx_X} {R : jx_R} {I : jx_I} {Q : Option Value → jx_I → Prop} {QE : String → jx_I → Prop} {a0 : Nat} {a1 : Int} (r_a1 : -2147483648 ≤ a1 ∧ a1 < 2147483648) 
    (h : wz_156 V X R Q QE  a0 a1 I) : jc V 9 156 (1, 6) [.ref a0, jy a1] X I R Q QE := by
  refine jy_met hV (by decide) (n := 2) (rt := some .int) (hh := []) (ini := false) (C := jx_c156) (L := [some (.ref a0), some (jy a1)]) jt_156 (Nat.le_of_ble_eq_true rfl) rfl ?_
  intro J hS
  unfold wz_156 at h
  refine jy_aload_n hS rfl rfl ?_
  obtain ⟨g1, h⟩ := h
  obtain ⟨Q2, h⟩ := h
  obtain ⟨E3, h⟩ := h
  obtain ⟨g4, h⟩ := h
  obtain ⟨g5, h⟩ := h
  refine jy_callV hS rfl rfl rfl (Nat.le_of_ble_eq_true rfl) (Or.inl g1) g4 (by decide) ⟨by decide, by decide⟩ (Nat.le_of_ble_eq_true rfl) ?_ ?_
  rotate_left
  · exact fun Ex Xx Ix Rx hp => ⟨hp.1, hp.2.1, hp.2.2.1, g5 _ _ hp.2.2.2⟩
  intro rv Xx I6 Rx hp
  obtain ⟨e1, e2, hp⟩ := hp
  rw [e1, e2]
  clear e1 e2
  obtain ⟨e1, h⟩ := h rv I6 hp
  rw [e1]
  clear e1
  change J 4 [] _ (0, 0) _ _ _
  refine jy_iload_n hS rfl rfl ?_
  refine jy_iconst hS rfl ?_
  refine jy_icmp_lt hS rfl ⟨r_a1, ⟨by decide, by decide⟩⟩ (fun hq => ?_) (fun hq => ?_)
  · have h := h.1 hq
    refine jy_iconst hS rfl ?_
    exact jy_iret hS rfl rfl ⟨rfl, rfl, h⟩
  · have h := h.2 hq
    refine jy_iload_n hS rfl rfl ?_
    refine jy_aload_n hS rfl rfl ?_
    obtain ⟨q8, h⟩ := h
    obtain ⟨g9, h⟩ := h
    refine jy_getR hS rfl (by decide) g1 g9 ?_
    obtain ⟨g10, h⟩ := h
    obtain ⟨q11, h⟩ := h
    obtain ⟨g12, h⟩ := h
    refine jy_getR hS rfl (by decide) g10 g12 ?_
    obtain ⟨g13, h⟩ := h
    refine jy_getI hS rfl (by decide) g13 ?_
    refine jy_icmp_lt hS rfl ⟨r_a1, (jy_rng _)⟩ (fun hq => ?_) (fun hq => ?_)
    · have h := h.1 hq
      refine jy_aload_n hS rfl rfl ?_
      obtain ⟨Q14, h⟩ := h
      obtain ⟨g15, h⟩ := h
      refine jy_callV hS rfl rfl rfl (Nat.le_of_ble_eq_true rfl) (Or.inl g1) g15 (by decide) ⟨by decide, by decide⟩ (Nat.le_of_ble_eq_true rfl) ?_ ?_
      rotate_left
      · exact fun Ex Xx Ix Rx hp => hp.2.2.2.elim
      intro rv Xx I16 Rx hp
      obtain ⟨e1, e2, hp⟩ := hp
      rw [e1, e2]
      clear e1 e2
      obtain ⟨e1, h⟩ := h rv I16 hp
      rw [e1]
      clear e1
      change J 29 [] _ (0, 0) _ _ _
      refine jy_aload_n hS rfl rfl ?_
      obtain ⟨q18, h⟩ := h
      obtain ⟨g19, h⟩ := h
      refine jy_getR hS rfl (by decide) g1 g19 ?_
      refine jy_aload_n hS rfl rfl ?_
      refine jy_getR hS rfl (by decide) g1 g9 ?_
      obtain ⟨q20, h⟩ := h
      obtain ⟨g21, h⟩ := h
      refine jy_getR hS rfl (by decide) g10 g21 ?_
      refine jy_iload_n hS rfl rfl ?_
      obtain ⟨g22, h⟩ := h
      obtain ⟨Q23, h⟩ := h
      obtain ⟨g24, h⟩ := h
      refine jy_callV hS rfl rfl rfl (Nat.le_of_ble_eq_true rfl) (Or.inl g22) g24 (by decide) ⟨by decide, by decide⟩ (Nat.le_of_ble_eq_true rfl) ?_ ?_
      rotate_left
      · exact fun Ex Xx Ix Rx hp => hp.2.2.2.elim
      intro rv Xx I25 Rx hp
      obtain ⟨e1, e2, hp⟩ := hp
      rw [e1, e2]
      clear e1 e2
      obtain ⟨r26, e1, h⟩ := h rv I25 hp
      rw [e1]
      clear e1
      change J 44 [jy r26] _ (0, 0) _ _ _
      exact jy_iret hS rfl rfl ⟨rfl, rfl, h⟩
    · have h := h.2 hq
      refine jy_iconst hS rfl ?_
      exact jy_iret hS rfl rfl ⟨rfl, rfl, h⟩
theorem jt_157 : jx_ml 157 = 3 ∧ jx_rt 157 = some .int ∧ jx_hz 157 = [] ∧ decide ((jx_nm 157).name = "<init>") = false ∧ jx_code 157 = jx_c157 := by decide +kernel
/-- GC.heavy, from 12 -/
def wz_157_12 (V : jx_V) (X : jx_X) (R : jx_R) (Q : Option Value → jx_I → Prop) (QE : String → jx_I → Prop) (J12 : Int → Int → jx_I → Prop) (J49 : Int → Int → jx_I → Prop) (a0 : Nat) (l1 : Int) (l2 : Int) (I : jx_I) : Prop :=
  (X.2.1 a0 = some (11, 0)) ∧ (
  ∃ q13 : Nat, (
  (R a0 2 = some q13) ∧ (
  (X.2.1 q13 = some (7, 0)) ∧ (
  ∃ q16 : Nat, (
  (R q13 2 = some q16) ∧ (
  (X.2.1 q16 = some (5, 0)) ∧ (
  (-2147483648 ≤ l2 ∧ l2 < 2147483648) ∧ (
  ((I q16 1).toInt ≤ l2 → (
    Q (some (jy l1)) I
  )) ∧ (¬ (I q16 1).toInt ≤ l2 → (
    ∃ q20 : Nat, (
    (R a0 4 = some q20) ∧ (
    (X.2.1 q20 = some (9, 0)) ∧ (
    ∃ q23 : Nat, (
    (R q20 2 = some q23) ∧ (
    ∃ n25 : Nat, (
    (X.2.1 q23 = some (100, n25) ∧ n25 < 2147483648) ∧ (
    (0 ≤ l2 ∧ l2 < n25) ∧ (
    (0 ≤ l1 ∧ l1 < n25) ∧ (
    ((I q23 l2.toNat).toInt ≤ (I q23 l1.toNat).toInt → (
      J12 l1 (l2 + 1) I
    )) ∧ (¬ (I q23 l2.toNat).toInt ≤ (I q23 l1.toNat).toInt → (
      J49 l2 l2 I
    )))))))))))
  ))))))))))
/-- GC.heavy, from 49 -/
def wz_157_49 (V : jx_V) (X : jx_X) (R : jx_R) (Q : Option Value → jx_I → Prop) (QE : String → jx_I → Prop) (J12 : Int → Int → jx_I → Prop) (J49 : Int → Int → jx_I → Prop) (a0 : Nat) (l1 : Int) (l2 : Int) (I : jx_I) : Prop :=
  J12 l1 (l2 + 1) I
/-- GC.heavy -/
def wz_157 (V : jx_V) (X : jx_X) (R : jx_R) (Q : Option Value → jx_I → Prop) (QE : String → jx_I → Prop) (J12 : Int → Int → jx_I → Prop) (J49 : Int → Int → jx_I → Prop) (a0 : Nat) (I : jx_I) : Prop :=
  (X.2.1 a0 = some (11, 0)) ∧ (
  ∃ Q2 : Option Value → jx_I → Prop, (
  ∃ E3 : String → jx_I → Prop, (
  (jc V 8 193 (1, 6) [.ref a0] X I R Q2 E3) ∧ (
  (∀ Ex Ix, E3 Ex Ix → QE Ex Ix) ∧ (
  ∀ rv I6, Q2 rv I6 → rv = none ∧ (
  ∃ Q8 : Option Value → jx_I → Prop, (
  (jc V 6 194 (0, 0) [.ref a0] X I6 R Q8 (fun _ _ => False)) ∧ (
  ∀ rv I10, Q8 rv I10 → rv = none ∧ (
  J12 1 2 I10)))))))))
set_option maxRecDepth 20000 in
theorem wm_157 {V : jx_V} (hV : V.1.stackTraces = false) {X : jx_X} {R : jx_R} {I : jx_I} {Q : Option Value → jx_I → Prop} {QE : String → jx_I → Prop} {a0 : Nat}  
    (h : ∀ (J12 : Int → Int → jx_I → Prop) (J49 : Int → Int → jx_I → Prop), ((∀ (l1 : Int) (l2 : Int) I, wz_157_12 V X R Q QE J12 J49 a0 l1 l2 I → J12 l1 l2 I) ∧ (∀ (l1 : Int) (l2 : Int) I, wz_157_49 V X R Q QE J12 J49 a0 l1 l2 I → J49 l1 l2 I)) → wz_157 V X R Q QE J12 J49 a0 I) : jc V 9 157 (1, 6) [.ref a0] X I R Q QE := by
  refine jy_met hV (by decide) (n := 3) (rt := some .int) (hh := []) (ini := false) (C := jx_c157) (L := [some (.ref a0), none, none]) jt_157 (Nat.le_of_ble_eq_true rfl) rfl ?_
  intro J hS
  have h := h (fun l1 l2 I => J 12 [] [some (.ref a0), some (jy l1), some (jy l2)] (0, 0) X I R) (fun l1 l2 I => J 49 [] [some (.ref a0), some (jy l1), some (jy l2)] (0, 0) X I R) ?_
  · unfold wz_157 at h
    refine jy_aload_n hS rfl rfl ?_
    obtain ⟨g1, h⟩ := h
    obtain ⟨Q2, h⟩ := h
    obtain ⟨E3, h⟩ := h
    obtain ⟨g4, h⟩ := h
    obtain ⟨g5, h⟩ := h
    refine jy_callV hS rfl rfl rfl (Nat.le_of_ble_eq_true rfl) (Or.inl g1) g4 (by decide) ⟨by decide, by decide⟩ (Nat.le_of_ble_eq_true rfl) ?_ ?_
    rotate_left
    · exact fun Ex Xx Ix Rx hp => ⟨hp.1, hp.2.1, hp.2.2.1, g5 _ _ hp.2.2.2⟩
    intro rv Xx I6 Rx hp
    obtain ⟨e1, e2, hp⟩ := hp
    rw [e1, e2]
    clear e1 e2
    obtain ⟨e1, h⟩ := h rv I6 hp
    rw [e1]
    clear e1
    change J 4 [] _ (0, 0) _ _ _
    refine jy_aload_n hS rfl rfl ?_
    obtain ⟨Q8, h⟩ := h
    obtain ⟨g9, h⟩ := h
    refine jy_callV hS rfl rfl rfl (Nat.le_of_ble_eq_true rfl) (Or.inl g1) g9 (by decide) ⟨by decide, by decide⟩ (Nat.le_of_ble_eq_true rfl) ?_ ?_
    rotate_left
    · exact fun Ex Xx Ix Rx hp => hp.2.2.2.elim
    intro rv Xx I10 Rx hp
    obtain ⟨e1, e2, hp⟩ := hp
    rw [e1, e2]
    clear e1 e2
    obtain ⟨e1, h⟩ := h rv I10 hp
    rw [e1]
    clear e1
    change J 8 [] _ (0, 0) _ _ _
    refine jy_iconst hS rfl ?_
    refine jy_istore_n hS rfl (Nat.le_of_ble_eq_true rfl) (L' := [some (.ref a0), some (jy 1), none]) rfl ?_
    refine jy_iconst hS rfl ?_
    refine jy_istore_n hS rfl (Nat.le_of_ble_eq_true rfl) (L' := [some (.ref a0), some (jy 1), some (jy 2)]) rfl ?_
    exact jy_join hS h rfl (jy_sub_s (jy_sub_s (jy_sub_s jy_sub_0)))
  refine ⟨?_, ?_⟩
  · intro l1 l2 I h
    unfold wz_157_12 at h
    refine jy_iload_n hS rfl rfl ?_
    refine jy_aload_n hS rfl rfl ?_
    obtain ⟨g12, h⟩ := h
    obtain ⟨q13, h⟩ := h
    obtain ⟨g14, h⟩ := h
    refine jy_getR hS rfl (by decide) g12 g14 ?_
    obtain ⟨g15, h⟩ := h
    obtain ⟨q16, h⟩ := h
    obtain ⟨g17, h⟩ := h
    refine jy_getR hS rfl (by decide) g15 g17 ?_
    obtain ⟨g18, h⟩ := h
    refine jy_getI hS rfl (by decide) g18 ?_
    obtain ⟨g19, h⟩ := h
    refine jy_icmp_ge hS rfl ⟨g19, (jy_rng _)⟩ (fun hq => ?_) (fun hq => ?_)
    · have h := h.1 hq
      refine jy_iload_n hS rfl rfl ?_
      exact jy_iret hS rfl rfl ⟨rfl, rfl, h⟩
    · have h := h.2 hq
      refine jy_aload_n hS rfl rfl ?_
      obtain ⟨q20, h⟩ := h
      obtain ⟨g21, h⟩ := h
      refine jy_getR hS rfl (by decide) g12 g21 ?_
      obtain ⟨g22, h⟩ := h
      obtain ⟨q23, h⟩ := h
      obtain ⟨g24, h⟩ := h
      refine jy_getR hS rfl (by decide) g22 g24 ?_
      refine jy_iload_n hS rfl rfl ?_
      obtain ⟨n25, h⟩ := h
      obtain ⟨g26, h⟩ := h
      obtain ⟨g27, h⟩ := h
      refine jy_iald hS rfl g26.1 (Nat.le_of_lt g26.2) g27 ?_
      refine jy_aload_n hS rfl rfl ?_
      refine jy_getR hS rfl (by decide) g12 g21 ?_
      refine jy_getR hS rfl (by decide) g22 g24 ?_
      refine jy_iload_n hS rfl rfl ?_
      obtain ⟨g28, h⟩ := h
      refine jy_iald hS rfl g26.1 (Nat.le_of_lt g26.2) g28 ?_
      refine jy_icmp_le hS rfl ⟨(jy_rng _), (jy_rng _)⟩ (fun hq => ?_) (fun hq => ?_)
      · have h := h.1 hq
        refine jy_iinc hS rfl rfl (L' := [some (.ref a0), some (jy l1), some (jy (l2 + 1))]) rfl ?_
        refine jy_goto hS rfl ?_
        exact jy_join hS h rfl (jy_sub_s (jy_sub_s (jy_sub_s jy_sub_0)))
      · have h := h.2 hq
        refine jy_iload_n hS rfl rfl ?_
        refine jy_istore_n hS rfl (Nat.le_of_ble_eq_true rfl) (L' := [some (.ref a0), some (jy l2), some (jy l2)]) rfl ?_
        exact jy_join hS h rfl (jy_sub_s (jy_sub_s (jy_sub_s jy_sub_0)))
  · intro l1 l2 I h
    unfold wz_157_49 at h
    refine jy_iinc hS rfl rfl (L' := [some (.ref a0), some (jy l1), some (jy (l2 + 1))]) rfl ?_
    refine jy_goto hS rfl ?_
    exact jy_join hS h rfl (jy_sub_s (jy_sub_s (jy_sub_s jy_sub_0)))
theorem jt_158 : jx_ml 158 = 1 ∧ jx_rt 158 = some .int ∧ jx_hz 158 = [] ∧ decide ((jx_nm 158).name = "<init>") = false ∧ jx_code 158 = jx_c158 := by decide +kernel
/-- GC.go -/
def wz_158 (V : jx_V) (X : jx_X) (R : jx_R) (Q : Option Value → jx_I → Prop) (QE : String → jx_I → Prop)  (a0 : Nat) (I : jx_I) : Prop :=
  (X.2.1 a0 = some (11, 0)) ∧ (
  ∃ Q2 : Option Value → jx_I → Prop, (
  ∃ E3 : String → jx_I → Prop, (
  (jc V 8 193 (1, 6) [.ref a0] X I R Q2 E3) ∧ (
  (∀ Ex Ix, E3 Ex Ix → QE Ex Ix) ∧ (
  ∀ rv I6, Q2 rv I6 → rv = none ∧ (
  ∃ q8 : Nat, (
  (R a0 2 = some q8) ∧ (
  (X.2.1 q8 = some (7, 0)) ∧ (
  ((I6 q8 7).toInt < 24 → (
    ∃ Q11 : Option Value → jx_I → Prop, (
    (jc V 6 194 (0, 0) [.ref a0] X I6 R Q11 (fun _ _ => False)) ∧ (
    ∀ rv I13, Q11 rv I13 → rv = none ∧ (
    ∃ Q15 : Option Value → jx_I → Prop, (
    (jc V 1 99 (0, 0) [.ref q8] X I13 R Q15 (fun _ _ => False)) ∧ (
    ∀ rv I17, Q15 rv I17 → rv = none ∧ (
    ∃ q19 : Nat, (
    (R q8 0 = some q19) ∧ (
    ∃ q21 : Nat, (
    (R a0 4 = some q21) ∧ (
    (X.2.1 q21 = some (9, 0)) ∧ (
    ∃ q24 : Nat, (
    (R q21 0 = some q24) ∧ (
    (X.2.1 q19 = some (1, 0)) ∧ (
    ∃ Q27 : Option Value → jx_I → Prop, (
    (jc V 1 9 (0, 0) [.ref q19, .ref q24] X I17 R Q27 (fun _ _ => False)) ∧ (
    ∀ rv I29, Q27 rv I29 → rv = none ∧ (
    ∃ Q31 : Option Value → jx_I → Prop, (
    (jc V 1 123 (0, 0) [.ref q21] X I29 R Q31 (fun _ _ => False)) ∧ (
    ∀ rv I33, Q31 rv I33 → ∃ r34 : Int, rv = some (jy r34) ∧ (
    Q (some (jy r34)) I33))))))))))))))))))))
  )) ∧ (¬ (I6 q8 7).toInt < 24 → (
    Q (some (jy (-1))) I6
  )))))))))))
set_option maxRecDepth 20000 in
theorem wm_158 {V : jx_V} (hV : V.1.stackTraces = false) {X : jx_X} {R : jx_R} {I : jx_I} {Q : Option Value → jx_I → Prop} {QE : String → jx_I → Prop} {a0 : Nat}  
    (h : wz_158 V X R Q QE  a0 I) : jc V 9 158 (1, 6) [.ref a0] X I R Q QE := by
  refine jy_met hV (by decide) (n := 1) (rt := some .int) (hh := []) (ini := false) (C := jx_c158) (L := [some (.ref a0)]) jt_158 (Nat.le_of_ble_eq_true rfl) rfl ?_
  intro J hS
  unfold wz_158 at h
  refine jy_aload_n hS rfl rfl ?_
  obtain ⟨g1, h⟩ := h
  obtain ⟨Q2, h⟩ := h
  obtain ⟨E3, h⟩ := h
  obtain ⟨g4, h⟩ := h
  obtain ⟨g5, h⟩ := h
  refine jy_callV hS rfl rfl rfl (Nat.le_of_ble_eq_true rfl) (Or.inl g1) g4 (by decide) ⟨by decide, by decide⟩ (Nat.le_of_ble_eq_true rfl) ?_ ?_
  rotate_left
  · exact fun Ex Xx Ix Rx hp => ⟨hp.1, hp.2.1, hp.2.2.1, g5 _ _ hp.2.2.2⟩
  intro rv Xx I6 Rx hp
  obtain ⟨e1, e2, hp⟩ := hp
  rw [e1, e2]
  clear e1 e2
  obtain ⟨e1, h⟩ := h rv I6 hp
  rw [e1]
  clear e1
  change J 4 [] _ (0, 0) _ _ _
  refine jy_aload_n hS rfl rfl ?_
  obtain ⟨q8, h⟩ := h
  obtain ⟨g9, h⟩ := h
  refine jy_getR hS rfl (by decide) g1 g9 ?_
  obtain ⟨g10, h⟩ := h
  refine jy_getI hS rfl (by decide) g10 ?_
  refine jy_bipush hS rfl (by decide) ?_
  refine jy_icmp_lt hS rfl ⟨(jy_rng _), ⟨by decide, by decide⟩⟩ (fun hq => ?_) (fun hq => ?_)
  · have h := h.1 hq
    refine jy_aload_n hS rfl rfl ?_
    obtain ⟨Q11, h⟩ := h
    obtain ⟨g12, h⟩ := h
    refine jy_callV hS rfl rfl rfl (Nat.le_of_ble_eq_true rfl) (Or.inl g1) g12 (by decide) ⟨by decide, by decide⟩ (Nat.le_of_ble_eq_true rfl) ?_ ?_
    rotate_left
    · exact fun Ex Xx Ix Rx hp => hp.2.2.2.elim
    intro rv Xx I13 Rx hp
    obtain ⟨e1, e2, hp⟩ := hp
    rw [e1, e2]
    clear e1 e2
    obtain ⟨e1, h⟩ := h rv I13 hp
    rw [e1]
    clear e1
    change J 22 [] _ (0, 0) _ _ _
    refine jy_aload_n hS rfl rfl ?_
    refine jy_getR hS rfl (by decide) g1 g9 ?_
    obtain ⟨Q15, h⟩ := h
    obtain ⟨g16, h⟩ := h
    refine jy_callV hS rfl rfl rfl (Nat.le_of_ble_eq_true rfl) (Or.inl g10) g16 (by decide) ⟨by decide, by decide⟩ (Nat.le_of_ble_eq_true rfl) ?_ ?_
    rotate_left
    · exact fun Ex Xx Ix Rx hp => hp.2.2.2.elim
    intro rv Xx I17 Rx hp
    obtain ⟨e1, e2, hp⟩ := hp
    rw [e1, e2]
    clear e1 e2
    obtain ⟨e1, h⟩ := h rv I17 hp
    rw [e1]
    clear e1
    change J 29 [] _ (0, 0) _ _ _
    refine jy_aload_n hS rfl rfl ?_
    refine jy_getR hS rfl (by decide) g1 g9 ?_
    obtain ⟨q19, h⟩ := h
    obtain ⟨g20, h⟩ := h
    refine jy_getR hS rfl (by decide) g10 g20 ?_
    refine jy_aload_n hS rfl rfl ?_
    obtain ⟨q21, h⟩ := h
    obtain ⟨g22, h⟩ := h
    refine jy_getR hS rfl (by decide) g1 g22 ?_
    obtain ⟨g23, h⟩ := h
    obtain ⟨q24, h⟩ := h
    obtain ⟨g25, h⟩ := h
    refine jy_getR hS rfl (by decide) g23 g25 ?_
    obtain ⟨g26, h⟩ := h
    obtain ⟨Q27, h⟩ := h
    obtain ⟨g28, h⟩ := h
    refine jy_callV hS rfl rfl rfl (Nat.le_of_ble_eq_true rfl) (Or.inl g26) g28 (by decide) ⟨by decide, by decide⟩ (Nat.le_of_ble_eq_true rfl) ?_ ?_
    rotate_left
    · exact fun Ex Xx Ix Rx hp => hp.2.2.2.elim
    intro rv Xx I29 Rx hp
    obtain ⟨e1, e2, hp⟩ := hp
    rw [e1, e2]
    clear e1 e2
    obtain ⟨e1, h⟩ := h rv I29 hp
    rw [e1]
    clear e1
    change J 46 [] _ (0, 0) _ _ _
    refine jy_aload_n hS rfl rfl ?_
    refine jy_getR hS rfl (by decide) g1 g22 ?_
    obtain ⟨Q31, h⟩ := h
    obtain ⟨g32, h⟩ := h
    refine jy_callV hS rfl rfl rfl (Nat.le_of_ble_eq_true rfl) (Or.inl g23) g32 (by decide) ⟨by decide, by decide⟩ (Nat.le_of_ble_eq_true rfl) ?_ ?_
    rotate_left
    · exact fun Ex Xx Ix Rx hp => hp.2.2.2.elim
    intro rv Xx I33 Rx hp
    obtain ⟨e1, e2, hp⟩ := hp
    rw [e1, e2]
    clear e1 e2
    obtain ⟨r34, e1, h⟩ := h rv I33 hp
    rw [e1]
    clear e1
    change J 53 [jy r34] _ (0, 0) _ _ _
    exact jy_iret hS rfl rfl ⟨rfl, rfl, h⟩
  · have h := h.2 hq
    refine jy_iconst hS rfl ?_
    exact jy_iret hS rfl rfl ⟨rfl, rfl, h⟩
theorem jt_159 : jx_ml 159 = 1 ∧ jx_rt 159 = some .int ∧ jx_hz 159 = [] ∧ decide ((jx_nm 159).name = "<init>") = false ∧ jx_code 159 = jx_c159 := by decide +kernel
/-- GC.undo -/
def wz_159 (V : jx_V) (X : jx_X) (R : jx_R) (Q : Option Value → jx_I → Prop) (QE : String → jx_I → Prop)  (a0 : Nat) (I : jx_I) : Prop :=
  (X.2.1 a0 = some (11, 0)) ∧ (
  ∃ q2 : Nat, (
  (R a0 2 = some q2) ∧ (
  (X.2.1 q2 = some (7, 0)) ∧ (
  ∃ Q5 : Option Value → jx_I → Prop, (
  (jc V 1 100 (0, 0) [.ref q2] X I R Q5 (fun _ _ => False)) ∧ (
  ∀ rv I7, Q5 rv I7 → ∃ r8 : Int, rv = some (jy r8) ∧ (
  (-2147483648 ≤ r8 ∧ r8 < 2147483648) ∧ (
  (r8 = 0 → (
    Q (some (jy (-1))) I7
  )) ∧ (¬ r8 = 0 → (
    Q (some (jy ((I7 q2 7).toInt))) I7
  ))))))))))
set_option maxRecDepth 20000 in
theorem wm_159 {V : jx_V} (hV : V.1.stackTraces = false) {X : jx_X} {R : jx_R} {I : jx_I} {Q : Option Value → jx_I → Prop} {QE : String → jx_I → Prop} {a0 : Nat}  
    (h : wz_159 V X R Q QE  a0 I) : jc V 2 159 (0, 0) [.ref a0] X I R Q QE := by
  refine jy_met hV (by decide) (n := 1) (rt := some .int) (hh := []) (ini := false) (C := jx_c159) (L := [some (.ref a0)]) jt_159 (Nat.le_of_ble_eq_true rfl) rfl ?_
  intro J hS
  unfold wz_159 at h
  refine jy_aload_n hS rfl rfl ?_
  obtain ⟨g1, h⟩ := h
  obtain ⟨q2, h⟩ := h
  obtain ⟨g3, h⟩ := h
  refine jy_getR hS rfl (by decide) g1 g3 ?_
  obtain ⟨g4, h⟩ := h
  obtain ⟨Q5, h⟩ := h
  obtain ⟨g6, h⟩ := h
  refine jy_callV hS rfl rfl rfl (Nat.le_of_ble_eq_true rfl) (Or.inl g4) g6 (by decide) ⟨by decide, by decide⟩ (Nat.le_of_ble_eq_true rfl) ?_ ?_
  rotate_left
  · exact fun Ex Xx Ix Rx hp => hp.2.2.2.elim
  intro rv Xx I7 Rx hp
  obtain ⟨e1, e2, hp⟩ := hp
  rw [e1, e2]
  clear e1 e2
  obtain ⟨r8, e1, h⟩ := h rv I7 hp
  rw [e1]
  clear e1
  change J 7 [jy r8] _ (0, 0) _ _ _
  obtain ⟨g9, h⟩ := h
  refine jy_if_eq hS rfl g9 (fun hq => ?_) (fun hq => ?_)
  · have h := h.1 hq
    refine jy_iconst hS rfl ?_
    exact jy_iret hS rfl rfl ⟨rfl, rfl, h⟩
  · have h := h.2 hq
    refine jy_aload_n hS rfl rfl ?_
    refine jy_getR hS rfl (by decide) g1 g3 ?_
    refine jy_getI hS rfl (by decide) g4 ?_
    refine jy_goto hS rfl ?_
    exact jy_iret hS rfl rfl ⟨rfl, rfl, h⟩
theorem jt_160 : jx_ml 160 = 4 ∧ jx_rt 160 = some .int ∧ jx_hz 160 = [] ∧ decide ((jx_nm 160).name = "<init>") = false ∧ jx_code 160 = jx_c160 := by decide +kernel
/-- GC.race, from 16 -/
def wz_160_16 (V : jx_V) (X : jx_X) (R : jx_R) (Q : Option Value → jx_I → Prop) (QE : String → jx_I → Prop) (J16 : Nat → Int → jx_I → Prop) (J31 : Int → Int → jx_I → Prop) (a0 : Nat) (a1 : Int) (s0 : Nat) (s1 : Int) (I : jx_I) : Prop :=
  (X.2.1 s0 = some (11, 0)) ∧ (
  ∃ Q2 : Option Value → jx_I → Prop, (
  ∃ E3 : String → jx_I → Prop, (
  (jc V 8 189 (1, 6) [.ref s0, jy s1] X I R Q2 E3) ∧ (
  (∀ Ex Ix, E3 Ex Ix → QE Ex Ix) ∧ (
  ∀ rv I6, Q2 rv I6 → rv = none ∧ (
  (X.2.1 a0 = some (11, 0)) ∧ (
  ∃ Q9 : Option Value → jx_I → Prop, (
  ∃ E10 : String → jx_I → Prop, (
  (jc V 8 193 (1, 6) [.ref a0] X I6 R Q9 E10) ∧ (
  (∀ Ex Ix, E10 Ex Ix → QE Ex Ix) ∧ (
  ∀ rv I13, Q9 rv I13 → rv = none ∧ (
  ∃ Q15 : Option Value → jx_I → Prop, (
  (jc V 6 194 (0, 0) [.ref a0] X I13 R Q15 (fun _ _ => False)) ∧ (
  ∀ rv I17, Q15 rv I17 → rv = none ∧ (
  J31 0 1 I17)))))))))))))))
/-- GC.race, from 31 -/
def wz_160_31 (V : jx_V) (X : jx_X) (R : jx_R) (Q : Option Value → jx_I → Prop) (QE : String → jx_I → Prop) (J16 : Nat → Int → jx_I → Prop) (J31 : Int → Int → jx_I → Prop) (a0 : Nat) (a1 : Int) (l2 : Int) (l3 : Int) (I : jx_I) : Prop :=
  (X.2.1 a0 = some (11, 0)) ∧ (
  ∃ q20 : Nat, (
  (R a0 2 = some q20) ∧ (
  (X.2.1 q20 = some (7, 0)) ∧ (
  ∃ q23 : Nat, (
  (R q20 2 = some q23) ∧ (
  (X.2.1 q23 = some (5, 0)) ∧ (
  (-2147483648 ≤ l3 ∧ l3 < 2147483648) ∧ (
  ((I q23 1).toInt ≤ l3 → (
    Q (some (jy (-1))) I
  )) ∧ (¬ (I q23 1).toInt ≤ l3 → (
    ∃ q27 : Nat, (
    (R a0 4 = some q27) ∧ (
    (X.2.1 q27 = some (9, 0)) ∧ (
    ∃ q30 : Nat, (
    (R q27 2 = some q30) ∧ (
    ∃ n32 : Nat, (
    (X.2.1 q30 = some (100, n32) ∧ n32 < 2147483648) ∧ (
    (0 ≤ l3 ∧ l3 < n32) ∧ (
    (-2147483648 ≤ (l2 + (I q30 l3.toNat).toInt) ∧ (l2 + (I q30 l3.toNat).toInt) < 2147483648) ∧ (
    ((l2 + (I q30 l3.toNat).toInt) < a1 → (
      J31 (l2 + (I q30 l3.toNat).toInt) (l3 + 1) I
    )) ∧ (¬ (l2 + (I q30 l3.toNat).toInt) < a1 → (
      Q (some (jy l3)) I
    )))))))))))
  ))))))))))
/-- GC.race -/
def wz_160 (V : jx_V) (X : jx_X) (R : jx_R) (Q : Option Value → jx_I → Prop) (QE : String → jx_I → Prop) (J16 : Nat → Int → jx_I → Prop) (J31 : Int → Int → jx_I → Prop) (a0 : Nat) (a1 : Int) (I : jx_I) : Prop :=
  (a1 < 0 → (
    J16 a0 0 I
  )) ∧ (¬ a1 < 0 → (
    (99 < a1 → (
      J16 a0 0 I
    )) ∧ (¬ 99 < a1 → (
      J16 a0 1 I
    ))
  ))
set_option maxRecDepth 20000 in
theorem wm_160 {V : jx_V} (hV : V.1.stackTraces = false) {X : jx_X} {R : jx_R} {I : jx_I} {Q : Option Value → jx_I → Prop} {QE : String → jx_I → Prop} {a0 : Nat} {a1 : Int} (r_a1 : -2147483648 ≤ a1 ∧ a1 < 2147483648) 
    (h : ∀ (J16 : Nat → Int → jx_I → Prop) (J31 : Int → Int → jx_I → Prop), ((∀ (s0 : Nat) (s1 : Int) I, wz_160_16 V X R Q QE J16 J31 a0 a1 s0 s1 I → J16 s0 s1 I) ∧ (∀ (l2 : Int) (l3 : Int) I, wz_160_31 V X R Q QE J16 J31 a0 a1 l2 l3 I → J31 l2 l3 I)) → wz_160 V X R Q QE J16 J31 a0 a1 I) : jc V 9 160 (2, 12) [.ref a0, jy a1] X I R Q QE := by
  refine jy_met hV (by decide) (n := 4) (rt := some .int) (hh := []) (ini := false) (C := jx_c160) (L := [some (.ref a0), some (jy a1), none, none]) jt_160 (Nat.le_of_ble_eq_true rfl) rfl ?_
  intro J hS
  have h := h (fun s0 s1 I => J 16 [jy s1, .ref s0] [some (.ref a0), some (jy a1), none, none] (2, 12) X I R) (fun l2 l3 I => J 31 [] [some (.ref a0), some (jy a1), some (jy l2), some (jy l3)] (0, 0) X I R) ?_
  · unfold wz_160 at h
    refine jy_aload_n hS rfl rfl ?_
    refine jy_iload_n hS rfl rfl ?_
    refine jy_if_lt hS rfl r_a1 (fun hq => ?_) (fun hq => ?_)
    · have h := h.1 hq
      refine jy_iconst hS rfl ?_
      exact jy_join hS h rfl (jy_sub_s (jy_sub_s (jy_sub_n (jy_sub_n jy_sub_0))))
    · have h := h.2 hq
      refine jy_iload_n hS rfl rfl ?_
      refine jy_bipush hS rfl (by decide) ?_
      refine jy_icmp_gt hS rfl ⟨r_a1, ⟨by decide, by decide⟩⟩ (fun hq => ?_) (fun hq => ?_)
      · have h := h.1 hq
        refine jy_iconst hS rfl ?_
        exact jy_join hS h rfl (jy_sub_s (jy_sub_s (jy_sub_n (jy_sub_n jy_sub_0))))
      · have h := h.2 hq
        refine jy_iconst hS rfl ?_
        refine jy_goto hS rfl ?_
        exact jy_join hS h rfl (jy_sub_s (jy_sub_s (jy_sub_n (jy_sub_n jy_sub_0))))
  refine ⟨?_, ?_⟩
  · intro s0 s1 I h
    unfold wz_160_16 at h
    obtain ⟨g1, h⟩ := h
    obtain ⟨Q2, h⟩ := h
    obtain ⟨E3, h⟩ := h
    obtain ⟨g4, h⟩ := h
    obtain ⟨g5, h⟩ := h
    refine jy_callV hS rfl rfl rfl (Nat.le_of_ble_eq_true rfl) (Or.inl g1) g4 (by decide) ⟨by decide, by decide⟩ (Nat.le_of_ble_eq_true rfl) ?_ ?_
    rotate_left
    · exact fun Ex Xx Ix Rx hp => ⟨hp.1, hp.2.1, hp.2.2.1, g5 _ _ hp.2.2.2⟩
    intro rv Xx I6 Rx hp
    obtain ⟨e1, e2, hp⟩ := hp
    rw [e1, e2]
    clear e1 e2
    obtain ⟨e1, h⟩ := h rv I6 hp
    rw [e1]
    clear e1
    change J 19 [] _ (1, 6) _ _ _
    refine jy_aload_n hS rfl rfl ?_
    obtain ⟨g8, h⟩ := h
    obtain ⟨Q9, h⟩ := h
    obtain ⟨E10, h⟩ := h
    obtain ⟨g11, h⟩ := h
    obtain ⟨g12, h⟩ := h
    refine jy_callV hS rfl rfl rfl (Nat.le_of_ble_eq_true rfl) (Or.inl g8) g11 (by decide) ⟨by decide, by decide⟩ (Nat.le_of_ble_eq_true rfl) ?_ ?_
    rotate_left
    · exact fun Ex Xx Ix Rx hp => ⟨hp.1, hp.2.1, hp.2.2.1, g12 _ _ hp.2.2.2⟩
    intro rv Xx I13 Rx hp
    obtain ⟨e1, e2, hp⟩ := hp
    rw [e1, e2]
    clear e1 e2
    obtain ⟨e1, h⟩ := h rv I13 hp
    rw [e1]
    clear e1
    change J 23 [] _ (0, 0) _ _ _
    refine jy_aload_n hS rfl rfl ?_
    obtain ⟨Q15, h⟩ := h
    obtain ⟨g16, h⟩ := h
    refine jy_callV hS rfl rfl rfl (Nat.le_of_ble_eq_true rfl) (Or.inl g8) g16 (by decide) ⟨by decide, by decide⟩ (Nat.le_of_ble_eq_true rfl) ?_ ?_
    rotate_left
    · exact fun Ex Xx Ix Rx hp => hp.2.2.2.elim
    intro rv Xx I17 Rx hp
    obtain ⟨e1, e2, hp⟩ := hp
    rw [e1, e2]
    clear e1 e2
    obtain ⟨e1, h⟩ := h rv I17 hp
    rw [e1]
    clear e1
    change J 27 [] _ (0, 0) _ _ _
    refine jy_iconst hS rfl ?_
    refine jy_istore_n hS rfl (Nat.le_of_ble_eq_true rfl) (L' := [some (.ref a0), some (jy a1), some (jy 0), none]) rfl ?_
    refine jy_iconst hS rfl ?_
    refine jy_istore_n hS rfl (Nat.le_of_ble_eq_true rfl) (L' := [some (.ref a0), some (jy a1), some (jy 0), some (jy 1)]) rfl ?_
    exact jy_join hS h rfl (jy_sub_s (jy_sub_s (jy_sub_s (jy_sub_s jy_sub_0))))
  · intro l2 l3 I h
    unfold wz_160_31 at h
    refine jy_iload_n hS rfl rfl ?_
    refine jy_aload_n hS rfl rfl ?_
    obtain ⟨g19, h⟩ := h
    obtain ⟨q20, h⟩ := h
    obtain ⟨g21, h⟩ := h
    refine jy_getR hS rfl (by decide) g19 g21 ?_
    obtain ⟨g22, h⟩ := h
    obtain ⟨q23, h⟩ := h
    obtain ⟨g24, h⟩ := h
    refine jy_getR hS rfl (by decide) g22 g24 ?_
    obtain ⟨g25, h⟩ := h
    refine jy_getI hS rfl (by decide) g25 ?_
    obtain ⟨g26, h⟩ := h
    refine jy_icmp_ge hS rfl ⟨g26, (jy_rng _)⟩ (fun hq => ?_) (fun hq => ?_)
    · have h := h.1 hq
      refine jy_iconst hS rfl ?_
      exact jy_iret hS rfl rfl ⟨rfl, rfl, h⟩
    · have h := h.2 hq
      refine jy_iload_n hS rfl rfl ?_
      refine jy_aload_n hS rfl rfl ?_
      obtain ⟨q27, h⟩ := h
      obtain ⟨g28, h⟩ := h
      refine jy_getR hS rfl (by decide) g19 g28 ?_
      obtain ⟨g29, h⟩ := h
      obtain ⟨q30, h⟩ := h
      obtain ⟨g31, h⟩ := h
      refine jy_getR hS rfl (by decide) g29 g31 ?_
      refine jy_iload_n hS rfl rfl ?_
      obtain ⟨n32, h⟩ := h
      obtain ⟨g33, h⟩ := h
      obtain ⟨g34, h⟩ := h
      refine jy_iald hS rfl g33.1 (Nat.le_of_lt g33.2) g34 ?_
      refine jy_iadd hS rfl ?_
      refine jy_istore_n hS rfl (Nat.le_of_ble_eq_true rfl) (L' := [some (.ref a0), some (jy a1), some (jy (l2 + (I q30 l3.toNat).toInt)), some (jy l3)]) rfl ?_
      refine jy_iload_n hS rfl rfl ?_
      refine jy_iload_n hS rfl rfl ?_
      obtain ⟨g35, h⟩ := h
      refine jy_icmp_gt hS rfl ⟨r_a1, g35⟩ (fun hq => ?_) (fun hq => ?_)
      · have h := h.1 hq
        refine jy_iinc hS rfl rfl (L' := [some (.ref a0), some (jy a1), some (jy (l2 + (I q30 l3.toNat).toInt)), some (jy (l3 + 1))]) rfl ?_
        refine jy_goto hS rfl ?_
        exact jy_join hS h rfl (jy_sub_s (jy_sub_s (jy_sub_s (jy_sub_s jy_sub_0))))
      · have h := h.2 hq
        refine jy_iload_n hS rfl rfl ?_
        exact jy_iret hS rfl rfl ⟨rfl, rfl, h⟩
theorem jt_161 : jx_ml 161 = 3 ∧ jx_rt 161 = some .int ∧ jx_hz 161 = [] ∧ decide ((jx_nm 161).name = "<init>") = false ∧ jx_code 161 = jx_c161 := by decide +kernel
/-- GC.doubt -/
def wz_161 (V : jx_V) (X : jx_X) (R : jx_R) (Q : Option Value → jx_I → Prop) (QE : String → jx_I → Prop)  (a0 : Nat) (a1 : Int) (a2 : Int) (I : jx_I) : Prop :=
  (X.2.1 a0 = some (11, 0)) ∧ (
  ∃ Q2 : Option Value → jx_I → Prop, (
  ∃ E3 : String → jx_I → Prop, (
  (jc V 9 192 (1, 6) [.ref a0, jy a2] X I R Q2 E3) ∧ (
  (∀ Ex Ix, E3 Ex Ix → QE Ex Ix) ∧ (
  ∀ rv I6, Q2 rv I6 → rv = none ∧ (
  ∃ Q8 : Option Value → jx_I → Prop, (
  ∃ E9 : String → jx_I → Prop, (
  (jc V 8 193 (1, 6) [.ref a0] X I6 R Q8 E9) ∧ (
  (∀ Ex Ix, E9 Ex Ix → QE Ex Ix) ∧ (
  ∀ rv I12, Q8 rv I12 → rv = none ∧ (
  ∃ Q14 : Option Value → jx_I → Prop, (
  (jc V 6 194 (0, 0) [.ref a0] X I12 R Q14 (fun _ _ => False)) ∧ (
  ∀ rv I16, Q14 rv I16 → rv = none ∧ (
  ∃ q18 : Nat, (
  (R a0 4 = some q18) ∧ (
  (X.2.1 q18 = some (9, 0)) ∧ (
  ∃ Q21 : Option Value → jx_I → Prop, (
  (jc V 1 123 (0, 0) [.ref q18] X I16 R Q21 (fun _ _ => False)) ∧ (
  ∀ rv I23, Q21 rv I23 → ∃ r24 : Int, rv = some (jy r24) ∧ (
  ∃ Q25 : Option Value → jx_I → Prop, (
  (jc V 1 197 (0, 0) [.ref a0, jy a1, jy a2] X I23 R Q25 (fun _ _ => False)) ∧ (
  ∀ rv I27, Q25 rv I27 → ∃ r28 : Int, rv = some (jy r28) ∧ (
  Q (some (jy (r24 + r28))) I27)))))))))))))))))))))))
set_option maxRecDepth 20000 in
theorem wm_161 {V : jx_V} (hV : V.1.stackTraces = false) {X : jx_X} {R : jx_R} {I : jx_I} {Q : Option Value → jx_I → Prop} {QE : String → jx_I → Prop} {a0 : Nat} {a1 : Int} {a2 : Int} (r_a1 : -2147483648 ≤ a1 ∧ a1 < 2147483648) (r_a2 : -2147483648 ≤ a2 ∧ a2 < 2147483648) 
    (h : wz_161 V X R Q QE  a0 a1 a2 I) : jc V 10 161 (2, 12) [.ref a0, jy a1, jy a2] X I R Q QE := by
  refine jy_met hV (by decide) (n := 3) (rt := some .int) (hh := []) (ini := false) (C := jx_c161) (L := [some (.ref a0), some (jy a1), some (jy a2)]) jt_161 (Nat.le_of_ble_eq_true rfl) rfl ?_
  intro J hS
  unfold wz_161 at h
  refine jy_aload_n hS rfl rfl ?_
  refine jy_iload_n hS rfl rfl ?_
  obtain ⟨g1, h⟩ := h
  obtain ⟨Q2, h⟩ := h
  obtain ⟨E3, h⟩ := h
  obtain ⟨g4, h⟩ := h
  obtain ⟨g5, h⟩ := h
  refine jy_callV hS rfl rfl rfl (Nat.le_of_ble_eq_true rfl) (Or.inl g1) g4 (by decide) ⟨by decide, by decide⟩ (Nat.le_of_ble_eq_true rfl) ?_ ?_
  rotate_left
  · exact fun Ex Xx Ix Rx hp => ⟨hp.1, hp.2.1, hp.2.2.1, g5 _ _ hp.2.2.2⟩
  intro rv Xx I6 Rx hp
  obtain ⟨e1, e2, hp⟩ := hp
  rw [e1, e2]
  clear e1 e2
  obtain ⟨e1, h⟩ := h rv I6 hp
  rw [e1]
  clear e1
  change J 5 [] _ (1, 6) _ _ _
  refine jy_aload_n hS rfl rfl ?_
  obtain ⟨Q8, h⟩ := h
  obtain ⟨E9, h⟩ := h
  obtain ⟨g10, h⟩ := h
  obtain ⟨g11, h⟩ := h
  refine jy_callV hS rfl rfl rfl (Nat.le_of_ble_eq_true rfl) (Or.inl g1) g10 (by decide) ⟨by decide, by decide⟩ (Nat.le_of_ble_eq_true rfl) ?_ ?_
  rotate_left
  · exact fun Ex Xx Ix Rx hp => ⟨hp.1, hp.2.1, hp.2.2.1, g11 _ _ hp.2.2.2⟩
  intro rv Xx I12 Rx hp
  obtain ⟨e1, e2, hp⟩ := hp
  rw [e1, e2]
  clear e1 e2
  obtain ⟨e1, h⟩ := h rv I12 hp
  rw [e1]
  clear e1
  change J 9 [] _ (0, 0) _ _ _
  refine jy_aload_n hS rfl rfl ?_
  obtain ⟨Q14, h⟩ := h
  obtain ⟨g15, h⟩ := h
  refine jy_callV hS rfl rfl rfl (Nat.le_of_ble_eq_true rfl) (Or.inl g1) g15 (by decide) ⟨by decide, by decide⟩ (Nat.le_of_ble_eq_true rfl) ?_ ?_
  rotate_left
  · exact fun Ex Xx Ix Rx hp => hp.2.2.2.elim
  intro rv Xx I16 Rx hp
  obtain ⟨e1, e2, hp⟩ := hp
  rw [e1, e2]
  clear e1 e2
  obtain ⟨e1, h⟩ := h rv I16 hp
  rw [e1]
  clear e1
  change J 13 [] _ (0, 0) _ _ _
  refine jy_aload_n hS rfl rfl ?_
  obtain ⟨q18, h⟩ := h
  obtain ⟨g19, h⟩ := h
  refine jy_getR hS rfl (by decide) g1 g19 ?_
  obtain ⟨g20, h⟩ := h
  obtain ⟨Q21, h⟩ := h
  obtain ⟨g22, h⟩ := h
  refine jy_callV hS rfl rfl rfl (Nat.le_of_ble_eq_true rfl) (Or.inl g20) g22 (by decide) ⟨by decide, by decide⟩ (Nat.le_of_ble_eq_true rfl) ?_ ?_
  rotate_left
  · exact fun Ex Xx Ix Rx hp => hp.2.2.2.elim
  intro rv Xx I23 Rx hp
  obtain ⟨e1, e2, hp⟩ := hp
  rw [e1, e2]
  clear e1 e2
  obtain ⟨r24, e1, h⟩ := h rv I23 hp
  rw [e1]
  clear e1
  change J 20 [jy r24] _ (0, 0) _ _ _
  refine jy_aload_n hS rfl rfl ?_
  refine jy_iload_n hS rfl rfl ?_
  refine jy_iload_n hS rfl rfl ?_
  obtain ⟨Q25, h⟩ := h
  obtain ⟨g26, h⟩ := h
  refine jy_callV hS rfl rfl rfl (Nat.le_of_ble_eq_true rfl) (Or.inl g1) g26 (by decide) ⟨by decide, by decide⟩ (Nat.le_of_ble_eq_true rfl) ?_ ?_
  rotate_left
  · exact fun Ex Xx Ix Rx hp => hp.2.2.2.elim
  intro rv Xx I27 Rx hp
  obtain ⟨e1, e2, hp⟩ := hp
  rw [e1, e2]
  clear e1 e2
  obtain ⟨r28, e1, h⟩ := h rv I27 hp
  rw [e1]
  clear e1
  change J 26 [jy r28, jy r24] _ (0, 0) _ _ _
  refine jy_iadd hS rfl ?_
  exact jy_iret hS rfl rfl ⟨rfl, rfl, h⟩
