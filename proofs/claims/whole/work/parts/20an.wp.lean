theorem jt_251 : jx_ml 251 = 3 ∧ jx_rt 251 = some .int ∧ jx_hz 251 = [] ∧ decide ((jx_nm 251).name = "<init>") = false ∧ jx_code 251 = jx_c251 := by decide +kernel
/-- GCModel.would, from 19 -/
def wz_251_19 (V : jx_V) (X : jx_X) (R : jx_R) (Q : Option Value → jx_I → Prop) (QE : String → jx_I → Prop) (J19 : Nat → Int → jx_I → Prop) (J41 : Nat → Int → jx_I → Prop) (a0 : Nat) (a1 : Int) (a2 : Int) (s0 : Nat) (s1 : Int) (I : jx_I) : Prop :=
  (X.2.1 s0 = some (12, 0)) ∧ (
  ∃ Q9 : Option Value → jx_I → Prop, (
  (jc V 1 202 (0, 0) [.ref s0, jy s1, jy 1, jy 0] X I R Q9 (fun _ _ => False)) ∧ (
  ∀ rv I11, Q9 rv I11 → ∃ r12 : Int, rv = some (jy r12) ∧ (
  (-2147483648 ≤ r12 ∧ r12 < 2147483648) ∧ (
  (r12 ≠ 0 → (
    Q (some (jy 0)) I11
  )) ∧ (r12 = 0 → (
    (X.2.1 a0 = some (12, 0)) ∧ (
    ∃ Q15 : Option Value → jx_I → Prop, (
    (jc V 2 250 (0, 0) [.ref a0, jy a2] X I11 R Q15 (fun _ _ => False)) ∧ (
    ∀ rv I17, Q15 rv I17 → ∃ r18 : Int, rv = some (jy r18) ∧ (
    (-2147483648 ≤ r18 ∧ r18 < 2147483648) ∧ (
    (r18 ≠ 0 → (
      J41 a0 0 I17
    )) ∧ (r18 = 0 → (
      J41 a0 1 I17
    )))))))
  )))))))
/-- GCModel.would, from 41 -/
def wz_251_41 (V : jx_V) (X : jx_X) (R : jx_R) (Q : Option Value → jx_I → Prop) (QE : String → jx_I → Prop) (J19 : Nat → Int → jx_I → Prop) (J41 : Nat → Int → jx_I → Prop) (a0 : Nat) (a1 : Int) (a2 : Int) (s0 : Nat) (s1 : Int) (I : jx_I) : Prop :=
  (X.2.1 s0 = some (12, 0)) ∧ (
  ∃ Q21 : Option Value → jx_I → Prop, (
  (jc V 1 202 (0, 0) [.ref s0, jy s1, jy 2, jy 2] X I R Q21 (fun _ _ => False)) ∧ (
  ∀ rv I23, Q21 rv I23 → ∃ r24 : Int, rv = some (jy r24) ∧ (
  (-2147483648 ≤ r24 ∧ r24 < 2147483648) ∧ (
  (r24 = 0 → (
    (X.2.1 a0 = some (12, 0)) ∧ (
    ∃ Q27 : Option Value → jx_I → Prop, (
    (jc V 1 243 (0, 0) [.ref a0] X I23 R Q27 (fun _ _ => False)) ∧ (
    ∀ rv I29, Q27 rv I29 → rv = none ∧ (
    ∃ Q31 : Option Value → jx_I → Prop, (
    (jc V 1 244 (0, 0) [.ref a0, jy a2] X I29 R Q31 (fun _ _ => False)) ∧ (
    ∀ rv I33, Q31 rv I33 → rv = none ∧ (
    ∃ Q35 : Option Value → jx_I → Prop, (
    (jc V 3 246 (0, 0) [.ref a0, jy a1] X I33 R Q35 (fun _ _ => False)) ∧ (
    ∀ rv I37, Q35 rv I37 → ∃ r38 : Int, rv = some (jy r38) ∧ (
    Q (some (jy r38)) I37))))))))))
  )) ∧ (¬ r24 = 0 → (
    Q (some (jy 0)) I23
  )))))))
/-- GCModel.would -/
def wz_251 (V : jx_V) (X : jx_X) (R : jx_R) (Q : Option Value → jx_I → Prop) (QE : String → jx_I → Prop) (J19 : Nat → Int → jx_I → Prop) (J41 : Nat → Int → jx_I → Prop) (a0 : Nat) (a1 : Int) (a2 : Int) (I : jx_I) : Prop :=
  (X.2.1 a0 = some (12, 0)) ∧ (
  ∀ I2 : jx_I, I2 = jx_u I a0 0 (Int32.ofInt 0) → (
  ∃ Q3 : Option Value → jx_I → Prop, (
  (jc V 2 232 (0, 0) [.ref a0, jy a1] X I2 R Q3 (fun _ _ => False)) ∧ (
  ∀ rv I5, Q3 rv I5 → ∃ r6 : Int, rv = some (jy r6) ∧ (
  (-2147483648 ≤ r6 ∧ r6 < 2147483648) ∧ (
  (r6 ≠ 0 → (
    J19 a0 0 I5
  )) ∧ (r6 = 0 → (
    J19 a0 1 I5
  ))))))))
set_option maxRecDepth 20000 in
theorem wm_251 {V : jx_V} (hV : V.1.stackTraces = false) {X : jx_X} {R : jx_R} {I : jx_I} {Q : Option Value → jx_I → Prop} {QE : String → jx_I → Prop} {a0 : Nat} {a1 : Int} {a2 : Int} (r_a1 : -2147483648 ≤ a1 ∧ a1 < 2147483648) (r_a2 : -2147483648 ≤ a2 ∧ a2 < 2147483648) 
    (h : ∀ (J19 : Nat → Int → jx_I → Prop) (J41 : Nat → Int → jx_I → Prop), ((∀ (s0 : Nat) (s1 : Int) I, wz_251_19 V X R Q QE J19 J41 a0 a1 a2 s0 s1 I → J19 s0 s1 I) ∧ (∀ (s0 : Nat) (s1 : Int) I, wz_251_41 V X R Q QE J19 J41 a0 a1 a2 s0 s1 I → J41 s0 s1 I)) → wz_251 V X R Q QE J19 J41 a0 a1 a2 I) : jc V 4 251 (0, 0) [.ref a0, jy a1, jy a2] X I R Q QE := by
  refine jy_met hV (by decide) (n := 3) (rt := some .int) (hh := []) (ini := false) (C := jx_c251) (L := [some (.ref a0), some (jy a1), some (jy a2)]) jt_251 (Nat.le_of_ble_eq_true rfl) rfl ?_
  intro J hS
  have h := h (fun s0 s1 I => J 19 [jy s1, .ref s0] [some (.ref a0), some (jy a1), some (jy a2)] (0, 0) X I R) (fun s0 s1 I => J 41 [jy s1, .ref s0] [some (.ref a0), some (jy a1), some (jy a2)] (0, 0) X I R) ?_
  · unfold wz_251 at h
    refine jy_aload_n hS rfl rfl ?_
    refine jy_iconst hS rfl ?_
    obtain ⟨g1, h⟩ := h
    refine jy_putI hS rfl (by decide) g1 ?_
    intro I2 e9
    have h := h I2 e9
    clear e9
    refine jy_aload_n hS rfl rfl ?_
    refine jy_aload_n hS rfl rfl ?_
    refine jy_iload_n hS rfl rfl ?_
    obtain ⟨Q3, h⟩ := h
    obtain ⟨g4, h⟩ := h
    refine jy_callV hS rfl rfl rfl (Nat.le_of_ble_eq_true rfl) (Or.inl g1) g4 (by decide) ⟨by decide, by decide⟩ (Nat.le_of_ble_eq_true rfl) ?_ ?_
    rotate_left
    · exact fun Ex Xx Ix Rx hp => hp.2.2.2.elim
    intro rv Xx I5 Rx hp
    obtain ⟨e1, e2, hp⟩ := hp
    rw [e1, e2]
    clear e1 e2
    obtain ⟨r6, e1, h⟩ := h rv I5 hp
    rw [e1]
    clear e1
    change J 11 [jy r6, .ref a0] _ (0, 0) _ _ _
    obtain ⟨g7, h⟩ := h
    refine jy_if_ne hS rfl g7 (fun hq => ?_) (fun hq => ?_)
    · have h := h.1 hq
      refine jy_iconst hS rfl ?_
      exact jy_join hS h rfl (jy_sub_s (jy_sub_s (jy_sub_s jy_sub_0)))
    · have h := h.2 hq
      refine jy_iconst hS rfl ?_
      refine jy_goto hS rfl ?_
      exact jy_join hS h rfl (jy_sub_s (jy_sub_s (jy_sub_s jy_sub_0)))
  refine ⟨?_, ?_⟩
  · intro s0 s1 I h
    unfold wz_251_19 at h
    refine jy_iconst hS rfl ?_
    refine jy_iconst hS rfl ?_
    obtain ⟨g8, h⟩ := h
    obtain ⟨Q9, h⟩ := h
    obtain ⟨g10, h⟩ := h
    refine jy_callV hS rfl rfl rfl (Nat.le_of_ble_eq_true rfl) (Or.inl g8) g10 (by decide) ⟨by decide, by decide⟩ (Nat.le_of_ble_eq_true rfl) ?_ ?_
    rotate_left
    · exact fun Ex Xx Ix Rx hp => hp.2.2.2.elim
    intro rv Xx I11 Rx hp
    obtain ⟨e1, e2, hp⟩ := hp
    rw [e1, e2]
    clear e1 e2
    obtain ⟨r12, e1, h⟩ := h rv I11 hp
    rw [e1]
    clear e1
    change J 24 [jy r12] _ (0, 0) _ _ _
    obtain ⟨g13, h⟩ := h
    refine jy_if_ne hS rfl g13 (fun hq => ?_) (fun hq => ?_)
    · have h := h.1 hq
      refine jy_iconst hS rfl ?_
      exact jy_iret hS rfl rfl ⟨rfl, rfl, h⟩
    · have h := h.2 hq
      refine jy_aload_n hS rfl rfl ?_
      refine jy_aload_n hS rfl rfl ?_
      refine jy_iload_n hS rfl rfl ?_
      obtain ⟨g14, h⟩ := h
      obtain ⟨Q15, h⟩ := h
      obtain ⟨g16, h⟩ := h
      refine jy_callV hS rfl rfl rfl (Nat.le_of_ble_eq_true rfl) (Or.inl g14) g16 (by decide) ⟨by decide, by decide⟩ (Nat.le_of_ble_eq_true rfl) ?_ ?_
      rotate_left
      · exact fun Ex Xx Ix Rx hp => hp.2.2.2.elim
      intro rv Xx I17 Rx hp
      obtain ⟨e1, e2, hp⟩ := hp
      rw [e1, e2]
      clear e1 e2
      obtain ⟨r18, e1, h⟩ := h rv I17 hp
      rw [e1]
      clear e1
      change J 33 [jy r18, .ref a0] _ (0, 0) _ _ _
      obtain ⟨g19, h⟩ := h
      refine jy_if_ne hS rfl g19 (fun hq => ?_) (fun hq => ?_)
      · have h := h.1 hq
        refine jy_iconst hS rfl ?_
        exact jy_join hS h rfl (jy_sub_s (jy_sub_s (jy_sub_s jy_sub_0)))
      · have h := h.2 hq
        refine jy_iconst hS rfl ?_
        refine jy_goto hS rfl ?_
        exact jy_join hS h rfl (jy_sub_s (jy_sub_s (jy_sub_s jy_sub_0)))
  · intro s0 s1 I h
    unfold wz_251_41 at h
    refine jy_iconst hS rfl ?_
    refine jy_iconst hS rfl ?_
    obtain ⟨g20, h⟩ := h
    obtain ⟨Q21, h⟩ := h
    obtain ⟨g22, h⟩ := h
    refine jy_callV hS rfl rfl rfl (Nat.le_of_ble_eq_true rfl) (Or.inl g20) g22 (by decide) ⟨by decide, by decide⟩ (Nat.le_of_ble_eq_true rfl) ?_ ?_
    rotate_left
    · exact fun Ex Xx Ix Rx hp => hp.2.2.2.elim
    intro rv Xx I23 Rx hp
    obtain ⟨e1, e2, hp⟩ := hp
    rw [e1, e2]
    clear e1 e2
    obtain ⟨r24, e1, h⟩ := h rv I23 hp
    rw [e1]
    clear e1
    change J 46 [jy r24] _ (0, 0) _ _ _
    obtain ⟨g25, h⟩ := h
    refine jy_if_eq hS rfl g25 (fun hq => ?_) (fun hq => ?_)
    · have h := h.1 hq
      refine jy_aload_n hS rfl rfl ?_
      obtain ⟨g26, h⟩ := h
      obtain ⟨Q27, h⟩ := h
      obtain ⟨g28, h⟩ := h
      refine jy_callV hS rfl rfl rfl (Nat.le_of_ble_eq_true rfl) (Or.inl g26) g28 (by decide) ⟨by decide, by decide⟩ (Nat.le_of_ble_eq_true rfl) ?_ ?_
      rotate_left
      · exact fun Ex Xx Ix Rx hp => hp.2.2.2.elim
      intro rv Xx I29 Rx hp
      obtain ⟨e1, e2, hp⟩ := hp
      rw [e1, e2]
      clear e1 e2
      obtain ⟨e1, h⟩ := h rv I29 hp
      rw [e1]
      clear e1
      change J 55 [] _ (0, 0) _ _ _
      refine jy_aload_n hS rfl rfl ?_
      refine jy_iload_n hS rfl rfl ?_
      obtain ⟨Q31, h⟩ := h
      obtain ⟨g32, h⟩ := h
      refine jy_callV hS rfl rfl rfl (Nat.le_of_ble_eq_true rfl) (Or.inl g26) g32 (by decide) ⟨by decide, by decide⟩ (Nat.le_of_ble_eq_true rfl) ?_ ?_
      rotate_left
      · exact fun Ex Xx Ix Rx hp => hp.2.2.2.elim
      intro rv Xx I33 Rx hp
      obtain ⟨e1, e2, hp⟩ := hp
      rw [e1, e2]
      clear e1 e2
      obtain ⟨e1, h⟩ := h rv I33 hp
      rw [e1]
      clear e1
      change J 60 [] _ (0, 0) _ _ _
      refine jy_aload_n hS rfl rfl ?_
      refine jy_iload_n hS rfl rfl ?_
      obtain ⟨Q35, h⟩ := h
      obtain ⟨g36, h⟩ := h
      refine jy_callV hS rfl rfl rfl (Nat.le_of_ble_eq_true rfl) (Or.inl g26) g36 (by decide) ⟨by decide, by decide⟩ (Nat.le_of_ble_eq_true rfl) ?_ ?_
      rotate_left
      · exact fun Ex Xx Ix Rx hp => hp.2.2.2.elim
      intro rv Xx I37 Rx hp
      obtain ⟨e1, e2, hp⟩ := hp
      rw [e1, e2]
      clear e1 e2
      obtain ⟨r38, e1, h⟩ := h rv I37 hp
      rw [e1]
      clear e1
      change J 65 [jy r38] _ (0, 0) _ _ _
      exact jy_iret hS rfl rfl ⟨rfl, rfl, h⟩
    · have h := h.2 hq
      refine jy_iconst hS rfl ?_
      exact jy_iret hS rfl rfl ⟨rfl, rfl, h⟩
theorem jt_252 : jx_ml 252 = 3 ∧ jx_rt 252 = some .boolean ∧ jx_hz 252 = [] ∧ decide ((jx_nm 252).name = "<init>") = false ∧ jx_code 252 = jx_c252 := by decide +kernel
/-- GCModel.isInRow, from 2 -/
def wz_252_2 (V : jx_V) (X : jx_X) (R : jx_R) (Q : Option Value → jx_I → Prop) (QE : String → jx_I → Prop) (J2 : Int → jx_I → Prop) (a0 : Nat) (a1 : Int) (l2 : Int) (I : jx_I) : Prop :=
  (X.2.1 a0 = some (12, 0)) ∧ (
  (-2147483648 ≤ l2 ∧ l2 < 2147483648) ∧ (
  ((I a0 46).toInt ≤ l2 → (
    Q (some (jy 0)) I
  )) ∧ (¬ (I a0 46).toInt ≤ l2 → (
    ∃ q3 : Nat, (
    (R a0 44 = some q3) ∧ (
    ∃ n5 : Nat, (
    (X.2.1 q3 = some (100, n5) ∧ n5 < 2147483648) ∧ (
    (0 ≤ l2 ∧ l2 < n5) ∧ (
    ((I q3 l2.toNat).toInt ≠ a1 → (
      J2 (l2 + 1) I
    )) ∧ ((I q3 l2.toNat).toInt = a1 → (
      Q (some (jy 1)) I
    )))))))
  ))))
/-- GCModel.isInRow -/
def wz_252 (V : jx_V) (X : jx_X) (R : jx_R) (Q : Option Value → jx_I → Prop) (QE : String → jx_I → Prop) (J2 : Int → jx_I → Prop) (a0 : Nat) (a1 : Int) (I : jx_I) : Prop :=
  J2 0 I
set_option maxRecDepth 20000 in
theorem wm_252 {V : jx_V} (hV : V.1.stackTraces = false) {X : jx_X} {R : jx_R} {I : jx_I} {Q : Option Value → jx_I → Prop} {QE : String → jx_I → Prop} {a0 : Nat} {a1 : Int} (r_a1 : -2147483648 ≤ a1 ∧ a1 < 2147483648) 
    (h : ∀ (J2 : Int → jx_I → Prop), ((∀ (l2 : Int) I, wz_252_2 V X R Q QE J2 a0 a1 l2 I → J2 l2 I)) → wz_252 V X R Q QE J2 a0 a1 I) : jc V 1 252 (0, 0) [.ref a0, jy a1] X I R Q QE := by
  refine jy_met hV (by decide) (n := 3) (rt := some .boolean) (hh := []) (ini := false) (C := jx_c252) (L := [some (.ref a0), some (jy a1), none]) jt_252 (Nat.le_of_ble_eq_true rfl) rfl ?_
  intro J hS
  have h := h (fun l2 I => J 2 [] [some (.ref a0), some (jy a1), some (jy l2)] (0, 0) X I R) ?_
  · unfold wz_252 at h
    refine jy_iconst hS rfl ?_
    refine jy_istore_n hS rfl (Nat.le_of_ble_eq_true rfl) (L' := [some (.ref a0), some (jy a1), some (jy 0)]) rfl ?_
    exact jy_join hS h rfl (jy_sub_s (jy_sub_s (jy_sub_s jy_sub_0)))
  · intro l2 I h
    unfold wz_252_2 at h
    refine jy_iload_n hS rfl rfl ?_
    refine jy_aload_n hS rfl rfl ?_
    obtain ⟨g1, h⟩ := h
    refine jy_getI hS rfl (by decide) g1 ?_
    obtain ⟨g2, h⟩ := h
    refine jy_icmp_ge hS rfl ⟨g2, (jy_rng _)⟩ (fun hq => ?_) (fun hq => ?_)
    · have h := h.1 hq
      refine jy_iconst hS rfl ?_
      exact jy_iret hS rfl rfl ⟨rfl, rfl, h⟩
    · have h := h.2 hq
      refine jy_aload_n hS rfl rfl ?_
      obtain ⟨q3, h⟩ := h
      obtain ⟨g4, h⟩ := h
      refine jy_getR hS rfl (by decide) g1 g4 ?_
      refine jy_iload_n hS rfl rfl ?_
      obtain ⟨n5, h⟩ := h
      obtain ⟨g6, h⟩ := h
      obtain ⟨g7, h⟩ := h
      refine jy_iald hS rfl g6.1 (Nat.le_of_lt g6.2) g7 ?_
      refine jy_iload_n hS rfl rfl ?_
      refine jy_icmp_ne hS rfl ⟨(jy_rng _), r_a1⟩ (fun hq => ?_) (fun hq => ?_)
      · have h := h.1 hq
        refine jy_iinc hS rfl rfl (L' := [some (.ref a0), some (jy a1), some (jy (l2 + 1))]) rfl ?_
        refine jy_goto hS rfl ?_
        exact jy_join hS h rfl (jy_sub_s (jy_sub_s (jy_sub_s jy_sub_0)))
      · have h := h.2 hq
        refine jy_iconst hS rfl ?_
        exact jy_iret hS rfl rfl ⟨rfl, rfl, h⟩
theorem jt_253 : jx_ml 253 = 3 ∧ jx_rt 253 = none ∧ jx_hz 253 = [] ∧ decide ((jx_nm 253).name = "<init>") = false ∧ jx_code 253 = jx_c253 := by decide +kernel
/-- GCModel.feeds, from 2 -/
def wz_253_2 (V : jx_V) (X : jx_X) (R : jx_R) (Q : Option Value → jx_I → Prop) (QE : String → jx_I → Prop) (J2 : Int → jx_I → Prop) (J12 : Int → Int → jx_I → Prop) (J57 : Nat → Int → Int → Int → Int → Int → jx_I → Prop) (a0 : Nat) (l1 : Int) (I : jx_I) : Prop :=
  (X.2.1 a0 = some (12, 0)) ∧ (
  (-2147483648 ≤ l1 ∧ l1 < 2147483648) ∧ (
  ((I a0 46).toInt ≤ l1 → (
    Q none I
  )) ∧ (¬ (I a0 46).toInt ≤ l1 → (
    J12 l1 0 I
  ))))
/-- GCModel.feeds, from 12 -/
def wz_253_12 (V : jx_V) (X : jx_X) (R : jx_R) (Q : Option Value → jx_I → Prop) (QE : String → jx_I → Prop) (J2 : Int → jx_I → Prop) (J12 : Int → Int → jx_I → Prop) (J57 : Nat → Int → Int → Int → Int → Int → jx_I → Prop) (a0 : Nat) (l1 : Int) (l2 : Int) (I : jx_I) : Prop :=
  (X.2.1 a0 = some (12, 0)) ∧ (
  ∃ q4 : Nat, (
  (R a0 11 = some q4) ∧ (
  ∃ n6 : Nat, (
  (X.2.1 q4 = some (100, n6) ∧ n6 < 2147483648) ∧ (
  (0 ≤ (0 : Int) ∧ (0 : Int) < n6) ∧ (
  (-2147483648 ≤ l2 ∧ l2 < 2147483648) ∧ (
  ((I q4 (0 : Int).toNat).toInt ≤ l2 → (
    J2 (l1 + 1) I
  )) ∧ (¬ (I q4 (0 : Int).toNat).toInt ≤ l2 → (
    ∃ q10 : Nat, (
    (R a0 42 = some q10) ∧ (
    ∃ q12 : Nat, (
    (R a0 44 = some q12) ∧ (
    ∃ n14 : Nat, (
    (X.2.1 q12 = some (100, n14) ∧ n14 < 2147483648) ∧ (
    (0 ≤ l1 ∧ l1 < n14) ∧ (
    ∃ n17 : Nat, (
    (X.2.1 q10 = some (104, n17) ∧ n17 < 2147483648) ∧ (
    (0 ≤ (I q12 l1.toNat).toInt ∧ (I q12 l1.toNat).toInt < n17) ∧ (
    ∃ q20 : Nat, (
    (R q10 ((I q12 l1.toNat).toInt).toNat = some q20) ∧ (
    ∃ n22 : Nat, (
    (X.2.1 q20 = some (100, n22) ∧ n22 < 2147483648) ∧ (
    (0 ≤ l2 ∧ l2 < n22) ∧ (
    (0 ≤ l1 ∧ l1 < n14) ∧ (
    (0 ≤ (I q12 l1.toNat).toInt ∧ (I q12 l1.toNat).toInt < n17) ∧ (
    ∃ q27 : Nat, (
    (R q10 ((I q12 l1.toNat).toInt).toNat = some q27) ∧ (
    ∃ n29 : Nat, (
    (X.2.1 q27 = some (100, n29) ∧ n29 < 2147483648) ∧ (
    (0 ≤ l2 ∧ l2 < n29) ∧ (
    ((I q27 l2.toNat).toInt ≤ 0 → (
      J57 q20 l2 ((I q20 l2.toNat).toInt) 0 l1 l2 I
    )) ∧ (¬ (I q27 l2.toNat).toInt ≤ 0 → (
      J57 q20 l2 ((I q20 l2.toNat).toInt) 1 l1 l2 I
    ))))))))))))))))))))))))
  )))))))))
/-- GCModel.feeds, from 57 -/
def wz_253_57 (V : jx_V) (X : jx_X) (R : jx_R) (Q : Option Value → jx_I → Prop) (QE : String → jx_I → Prop) (J2 : Int → jx_I → Prop) (J12 : Int → Int → jx_I → Prop) (J57 : Nat → Int → Int → Int → Int → Int → jx_I → Prop) (a0 : Nat) (s0 : Nat) (s1 : Int) (s2 : Int) (s3 : Int) (l1 : Int) (l2 : Int) (I : jx_I) : Prop :=
  ∃ n32 : Nat, (
  (X.2.1 s0 = some (100, n32) ∧ n32 < 2147483648) ∧ (
  (0 ≤ s1 ∧ s1 < n32) ∧ (
  ∀ I35 : jx_I, I35 = jx_u I s0 s1.toNat (Int32.ofInt (s2 - s3)) → (
  J12 l1 (l2 + 1) I35))))
/-- GCModel.feeds -/
def wz_253 (V : jx_V) (X : jx_X) (R : jx_R) (Q : Option Value → jx_I → Prop) (QE : String → jx_I → Prop) (J2 : Int → jx_I → Prop) (J12 : Int → Int → jx_I → Prop) (J57 : Nat → Int → Int → Int → Int → Int → jx_I → Prop) (a0 : Nat) (I : jx_I) : Prop :=
  J2 0 I
set_option maxRecDepth 20000 in
theorem wm_253 {V : jx_V} (hV : V.1.stackTraces = false) {X : jx_X} {R : jx_R} {I : jx_I} {Q : Option Value → jx_I → Prop} {QE : String → jx_I → Prop} {a0 : Nat}  
    (h : ∀ (J2 : Int → jx_I → Prop) (J12 : Int → Int → jx_I → Prop) (J57 : Nat → Int → Int → Int → Int → Int → jx_I → Prop), ((∀ (l1 : Int) I, wz_253_2 V X R Q QE J2 J12 J57 a0 l1 I → J2 l1 I) ∧ (∀ (l1 : Int) (l2 : Int) I, wz_253_12 V X R Q QE J2 J12 J57 a0 l1 l2 I → J12 l1 l2 I) ∧ (∀ (s0 : Nat) (s1 : Int) (s2 : Int) (s3 : Int) (l1 : Int) (l2 : Int) I, wz_253_57 V X R Q QE J2 J12 J57 a0 s0 s1 s2 s3 l1 l2 I → J57 s0 s1 s2 s3 l1 l2 I)) → wz_253 V X R Q QE J2 J12 J57 a0 I) : jc V 1 253 (0, 0) [.ref a0] X I R Q QE := by
  refine jy_met hV (by decide) (n := 3) (rt := none) (hh := []) (ini := false) (C := jx_c253) (L := [some (.ref a0), none, none]) jt_253 (Nat.le_of_ble_eq_true rfl) rfl ?_
  intro J hS
  have h := h (fun l1 I => J 2 [] [some (.ref a0), some (jy l1), none] (0, 0) X I R) (fun l1 l2 I => J 12 [] [some (.ref a0), some (jy l1), some (jy l2)] (0, 0) X I R) (fun s0 s1 s2 s3 l1 l2 I => J 57 [jy s3, jy s2, jy s1, .ref s0] [some (.ref a0), some (jy l1), some (jy l2)] (0, 0) X I R) ?_
  · unfold wz_253 at h
    refine jy_iconst hS rfl ?_
    refine jy_istore_n hS rfl (Nat.le_of_ble_eq_true rfl) (L' := [some (.ref a0), some (jy 0), none]) rfl ?_
    exact jy_join hS h rfl (jy_sub_s (jy_sub_s (jy_sub_n jy_sub_0)))
  refine ⟨?_, ?_, ?_⟩
  · intro l1 I h
    unfold wz_253_2 at h
    refine jy_iload_n hS rfl rfl ?_
    refine jy_aload_n hS rfl rfl ?_
    obtain ⟨g1, h⟩ := h
    refine jy_getI hS rfl (by decide) g1 ?_
    obtain ⟨g2, h⟩ := h
    refine jy_icmp_ge hS rfl ⟨g2, (jy_rng _)⟩ (fun hq => ?_) (fun hq => ?_)
    · have h := h.1 hq
      exact jy_ret hS rfl rfl ⟨rfl, rfl, h⟩
    · have h := h.2 hq
      refine jy_iconst hS rfl ?_
      refine jy_istore_n hS rfl (Nat.le_of_ble_eq_true rfl) (L' := [some (.ref a0), some (jy l1), some (jy 0)]) rfl ?_
      exact jy_join hS h rfl (jy_sub_s (jy_sub_s (jy_sub_s jy_sub_0)))
  · intro l1 l2 I h
    unfold wz_253_12 at h
    refine jy_iload_n hS rfl rfl ?_
    refine jy_aload_n hS rfl rfl ?_
    obtain ⟨g3, h⟩ := h
    obtain ⟨q4, h⟩ := h
    obtain ⟨g5, h⟩ := h
    refine jy_getR hS rfl (by decide) g3 g5 ?_
    refine jy_iconst hS rfl ?_
    obtain ⟨n6, h⟩ := h
    obtain ⟨g7, h⟩ := h
    obtain ⟨g8, h⟩ := h
    refine jy_iald hS rfl g7.1 (Nat.le_of_lt g7.2) g8 ?_
    obtain ⟨g9, h⟩ := h
    refine jy_icmp_ge hS rfl ⟨g9, (jy_rng _)⟩ (fun hq => ?_) (fun hq => ?_)
    · have h := h.1 hq
      refine jy_iinc hS rfl rfl (L' := [some (.ref a0), some (jy (l1 + 1)), some (jy l2)]) rfl ?_
      refine jy_goto hS rfl ?_
      exact jy_join hS h rfl (jy_sub_s (jy_sub_s (jy_sub_n jy_sub_0)))
    · have h := h.2 hq
      refine jy_aload_n hS rfl rfl ?_
      obtain ⟨q10, h⟩ := h
      obtain ⟨g11, h⟩ := h
      refine jy_getR hS rfl (by decide) g3 g11 ?_
      refine jy_aload_n hS rfl rfl ?_
      obtain ⟨q12, h⟩ := h
      obtain ⟨g13, h⟩ := h
      refine jy_getR hS rfl (by decide) g3 g13 ?_
      refine jy_iload_n hS rfl rfl ?_
      obtain ⟨n14, h⟩ := h
      obtain ⟨g15, h⟩ := h
      obtain ⟨g16, h⟩ := h
      refine jy_iald hS rfl g15.1 (Nat.le_of_lt g15.2) g16 ?_
      obtain ⟨n17, h⟩ := h
      obtain ⟨g18, h⟩ := h
      obtain ⟨g19, h⟩ := h
      obtain ⟨q20, h⟩ := h
      obtain ⟨g21, h⟩ := h
      refine jy_aald hS rfl g18.1 (by decide) (Nat.le_of_lt g18.2) g19 g21 ?_
      refine jy_iload_n hS rfl rfl ?_
      refine jy_dup2 hS rfl rfl rfl ?_
      obtain ⟨n22, h⟩ := h
      obtain ⟨g23, h⟩ := h
      obtain ⟨g24, h⟩ := h
      refine jy_iald hS rfl g23.1 (Nat.le_of_lt g23.2) g24 ?_
      refine jy_aload_n hS rfl rfl ?_
      refine jy_getR hS rfl (by decide) g3 g11 ?_
      refine jy_aload_n hS rfl rfl ?_
      refine jy_getR hS rfl (by decide) g3 g13 ?_
      refine jy_iload_n hS rfl rfl ?_
      obtain ⟨g25, h⟩ := h
      refine jy_iald hS rfl g15.1 (Nat.le_of_lt g15.2) g25 ?_
      obtain ⟨g26, h⟩ := h
      obtain ⟨q27, h⟩ := h
      obtain ⟨g28, h⟩ := h
      refine jy_aald hS rfl g18.1 (by decide) (Nat.le_of_lt g18.2) g26 g28 ?_
      refine jy_iload_n hS rfl rfl ?_
      obtain ⟨n29, h⟩ := h
      obtain ⟨g30, h⟩ := h
      obtain ⟨g31, h⟩ := h
      refine jy_iald hS rfl g30.1 (Nat.le_of_lt g30.2) g31 ?_
      refine jy_if_le hS rfl (jy_rng _) (fun hq => ?_) (fun hq => ?_)
      · have h := h.1 hq
        refine jy_iconst hS rfl ?_
        exact jy_join hS h rfl (jy_sub_s (jy_sub_s (jy_sub_s jy_sub_0)))
      · have h := h.2 hq
        refine jy_iconst hS rfl ?_
        refine jy_goto hS rfl ?_
        exact jy_join hS h rfl (jy_sub_s (jy_sub_s (jy_sub_s jy_sub_0)))
  · intro s0 s1 s2 s3 l1 l2 I h
    unfold wz_253_57 at h
    refine jy_isub hS rfl ?_
    obtain ⟨n32, h⟩ := h
    obtain ⟨g33, h⟩ := h
    obtain ⟨g34, h⟩ := h
    refine jy_iast hS rfl g33.1 (Nat.le_of_lt g33.2) g34 ?_
    intro I35 e9
    have h := h I35 e9
    clear e9
    refine jy_iinc hS rfl rfl (L' := [some (.ref a0), some (jy l1), some (jy (l2 + 1))]) rfl ?_
    refine jy_goto hS rfl ?_
    exact jy_join hS h rfl (jy_sub_s (jy_sub_s (jy_sub_s jy_sub_0)))
theorem jt_254 : jx_ml 254 = 3 ∧ jx_rt 254 = none ∧ jx_hz 254 = [] ∧ decide ((jx_nm 254).name = "<init>") = false ∧ jx_code 254 = jx_c254 := by decide +kernel
/-- GCModel.reminds, from 2 -/
def wz_254_2 (V : jx_V) (X : jx_X) (R : jx_R) (Q : Option Value → jx_I → Prop) (QE : String → jx_I → Prop) (J2 : Int → jx_I → Prop) (J12 : Int → Int → jx_I → Prop) (J76 : Nat → Int → Int → Int → Int → Int → jx_I → Prop) (a0 : Nat) (l1 : Int) (I : jx_I) : Prop :=
  (X.2.1 a0 = some (12, 0)) ∧ (
  (-2147483648 ≤ l1 ∧ l1 < 2147483648) ∧ (
  ((I a0 46).toInt ≤ l1 → (
    Q none I
  )) ∧ (¬ (I a0 46).toInt ≤ l1 → (
    J12 l1 0 I
  ))))
/-- GCModel.reminds, from 12 -/
def wz_254_12 (V : jx_V) (X : jx_X) (R : jx_R) (Q : Option Value → jx_I → Prop) (QE : String → jx_I → Prop) (J2 : Int → jx_I → Prop) (J12 : Int → Int → jx_I → Prop) (J76 : Nat → Int → Int → Int → Int → Int → jx_I → Prop) (a0 : Nat) (l1 : Int) (l2 : Int) (I : jx_I) : Prop :=
  (X.2.1 a0 = some (12, 0)) ∧ (
  ∃ q4 : Nat, (
  (R a0 11 = some q4) ∧ (
  ∃ n6 : Nat, (
  (X.2.1 q4 = some (100, n6) ∧ n6 < 2147483648) ∧ (
  (0 ≤ (0 : Int) ∧ (0 : Int) < n6) ∧ (
  (-2147483648 ≤ l2 ∧ l2 < 2147483648) ∧ (
  ((I q4 (0 : Int).toNat).toInt ≤ l2 → (
    J2 (l1 + 1) I
  )) ∧ (¬ (I q4 (0 : Int).toNat).toInt ≤ l2 → (
    ∃ q10 : Nat, (
    (R a0 42 = some q10) ∧ (
    ∃ q12 : Nat, (
    (R a0 44 = some q12) ∧ (
    ∃ n14 : Nat, (
    (X.2.1 q12 = some (100, n14) ∧ n14 < 2147483648) ∧ (
    (0 ≤ l1 ∧ l1 < n14) ∧ (
    ∃ n17 : Nat, (
    (X.2.1 q10 = some (104, n17) ∧ n17 < 2147483648) ∧ (
    (0 ≤ (I q12 l1.toNat).toInt ∧ (I q12 l1.toNat).toInt < n17) ∧ (
    ∃ q20 : Nat, (
    (R q10 ((I q12 l1.toNat).toInt).toNat = some q20) ∧ (
    ∃ n22 : Nat, (
    (X.2.1 q20 = some (100, n22) ∧ n22 < 2147483648) ∧ (
    (0 ≤ l2 ∧ l2 < n22) ∧ (
    (0 ≤ l1 ∧ l1 < n14) ∧ (
    (0 ≤ (I q12 l1.toNat).toInt ∧ (I q12 l1.toNat).toInt < n17) ∧ (
    ∃ q27 : Nat, (
    (R q10 ((I q12 l1.toNat).toInt).toNat = some q27) ∧ (
    ∃ n29 : Nat, (
    (X.2.1 q27 = some (100, n29) ∧ n29 < 2147483648) ∧ (
    (0 ≤ l2 ∧ l2 < n29) ∧ (
    ∃ q32 : Nat, (
    (R a0 43 = some q32) ∧ (
    (0 ≤ l1 ∧ l1 < n14) ∧ (
    ∃ n35 : Nat, (
    (X.2.1 q32 = some (104, n35) ∧ n35 < 2147483648) ∧ (
    (0 ≤ (I q12 l1.toNat).toInt ∧ (I q12 l1.toNat).toInt < n35) ∧ (
    ∃ q38 : Nat, (
    (R q32 ((I q12 l1.toNat).toInt).toNat = some q38) ∧ (
    ∃ n40 : Nat, (
    (X.2.1 q38 = some (100, n40) ∧ n40 < 2147483648) ∧ (
    (0 ≤ l2 ∧ l2 < n40) ∧ (
    ∃ Q43 : Option Value → jx_I → Prop, (
    (jc V 1 203 (0, 0) [jy ((I q27 l2.toNat).toInt), jy 1, jy ((I q38 l2.toNat).toInt - 1)] X I R Q43 (fun _ _ => False)) ∧ (
    ∀ rv I45, Q43 rv I45 → ∃ r46 : Int, rv = some (jy r46) ∧ (
    (-2147483648 ≤ r46 ∧ r46 < 2147483648) ∧ (
    (r46 = 0 → (
      J76 q20 l2 ((I q20 l2.toNat).toInt) 0 l1 l2 I45
    )) ∧ (¬ r46 = 0 → (
      J76 q20 l2 ((I q20 l2.toNat).toInt) 1 l1 l2 I45
    )))))))))))))))))))))))))))))))))))))))
  )))))))))
/-- GCModel.reminds, from 76 -/
def wz_254_76 (V : jx_V) (X : jx_X) (R : jx_R) (Q : Option Value → jx_I → Prop) (QE : String → jx_I → Prop) (J2 : Int → jx_I → Prop) (J12 : Int → Int → jx_I → Prop) (J76 : Nat → Int → Int → Int → Int → Int → jx_I → Prop) (a0 : Nat) (s0 : Nat) (s1 : Int) (s2 : Int) (s3 : Int) (l1 : Int) (l2 : Int) (I : jx_I) : Prop :=
  ∃ n48 : Nat, (
  (X.2.1 s0 = some (100, n48) ∧ n48 < 2147483648) ∧ (
  (0 ≤ s1 ∧ s1 < n48) ∧ (
  ∀ I51 : jx_I, I51 = jx_u I s0 s1.toNat (Int32.ofInt (s2 + s3)) → (
  J12 l1 (l2 + 1) I51))))
/-- GCModel.reminds -/
def wz_254 (V : jx_V) (X : jx_X) (R : jx_R) (Q : Option Value → jx_I → Prop) (QE : String → jx_I → Prop) (J2 : Int → jx_I → Prop) (J12 : Int → Int → jx_I → Prop) (J76 : Nat → Int → Int → Int → Int → Int → jx_I → Prop) (a0 : Nat) (I : jx_I) : Prop :=
  J2 0 I
set_option maxRecDepth 20000 in
theorem wm_254 {V : jx_V} (hV : V.1.stackTraces = false) {X : jx_X} {R : jx_R} {I : jx_I} {Q : Option Value → jx_I → Prop} {QE : String → jx_I → Prop} {a0 : Nat}  
    (h : ∀ (J2 : Int → jx_I → Prop) (J12 : Int → Int → jx_I → Prop) (J76 : Nat → Int → Int → Int → Int → Int → jx_I → Prop), ((∀ (l1 : Int) I, wz_254_2 V X R Q QE J2 J12 J76 a0 l1 I → J2 l1 I) ∧ (∀ (l1 : Int) (l2 : Int) I, wz_254_12 V X R Q QE J2 J12 J76 a0 l1 l2 I → J12 l1 l2 I) ∧ (∀ (s0 : Nat) (s1 : Int) (s2 : Int) (s3 : Int) (l1 : Int) (l2 : Int) I, wz_254_76 V X R Q QE J2 J12 J76 a0 s0 s1 s2 s3 l1 l2 I → J76 s0 s1 s2 s3 l1 l2 I)) → wz_254 V X R Q QE J2 J12 J76 a0 I) : jc V 2 254 (0, 0) [.ref a0] X I R Q QE := by
  refine jy_met hV (by decide) (n := 3) (rt := none) (hh := []) (ini := false) (C := jx_c254) (L := [some (.ref a0), none, none]) jt_254 (Nat.le_of_ble_eq_true rfl) rfl ?_
  intro J hS
  have h := h (fun l1 I => J 2 [] [some (.ref a0), some (jy l1), none] (0, 0) X I R) (fun l1 l2 I => J 12 [] [some (.ref a0), some (jy l1), some (jy l2)] (0, 0) X I R) (fun s0 s1 s2 s3 l1 l2 I => J 76 [jy s3, jy s2, jy s1, .ref s0] [some (.ref a0), some (jy l1), some (jy l2)] (0, 0) X I R) ?_
  · unfold wz_254 at h
    refine jy_iconst hS rfl ?_
    refine jy_istore_n hS rfl (Nat.le_of_ble_eq_true rfl) (L' := [some (.ref a0), some (jy 0), none]) rfl ?_
    exact jy_join hS h rfl (jy_sub_s (jy_sub_s (jy_sub_n jy_sub_0)))
  refine ⟨?_, ?_, ?_⟩
  · intro l1 I h
    unfold wz_254_2 at h
    refine jy_iload_n hS rfl rfl ?_
    refine jy_aload_n hS rfl rfl ?_
    obtain ⟨g1, h⟩ := h
    refine jy_getI hS rfl (by decide) g1 ?_
    obtain ⟨g2, h⟩ := h
    refine jy_icmp_ge hS rfl ⟨g2, (jy_rng _)⟩ (fun hq => ?_) (fun hq => ?_)
    · have h := h.1 hq
      exact jy_ret hS rfl rfl ⟨rfl, rfl, h⟩
    · have h := h.2 hq
      refine jy_iconst hS rfl ?_
      refine jy_istore_n hS rfl (Nat.le_of_ble_eq_true rfl) (L' := [some (.ref a0), some (jy l1), some (jy 0)]) rfl ?_
      exact jy_join hS h rfl (jy_sub_s (jy_sub_s (jy_sub_s jy_sub_0)))
  · intro l1 l2 I h
    unfold wz_254_12 at h
    refine jy_iload_n hS rfl rfl ?_
    refine jy_aload_n hS rfl rfl ?_
    obtain ⟨g3, h⟩ := h
    obtain ⟨q4, h⟩ := h
    obtain ⟨g5, h⟩ := h
    refine jy_getR hS rfl (by decide) g3 g5 ?_
    refine jy_iconst hS rfl ?_
    obtain ⟨n6, h⟩ := h
    obtain ⟨g7, h⟩ := h
    obtain ⟨g8, h⟩ := h
    refine jy_iald hS rfl g7.1 (Nat.le_of_lt g7.2) g8 ?_
    obtain ⟨g9, h⟩ := h
    refine jy_icmp_ge hS rfl ⟨g9, (jy_rng _)⟩ (fun hq => ?_) (fun hq => ?_)
    · have h := h.1 hq
      refine jy_iinc hS rfl rfl (L' := [some (.ref a0), some (jy (l1 + 1)), some (jy l2)]) rfl ?_
      refine jy_goto hS rfl ?_
      exact jy_join hS h rfl (jy_sub_s (jy_sub_s (jy_sub_n jy_sub_0)))
    · have h := h.2 hq
      refine jy_aload_n hS rfl rfl ?_
      obtain ⟨q10, h⟩ := h
      obtain ⟨g11, h⟩ := h
      refine jy_getR hS rfl (by decide) g3 g11 ?_
      refine jy_aload_n hS rfl rfl ?_
      obtain ⟨q12, h⟩ := h
      obtain ⟨g13, h⟩ := h
      refine jy_getR hS rfl (by decide) g3 g13 ?_
      refine jy_iload_n hS rfl rfl ?_
      obtain ⟨n14, h⟩ := h
      obtain ⟨g15, h⟩ := h
      obtain ⟨g16, h⟩ := h
      refine jy_iald hS rfl g15.1 (Nat.le_of_lt g15.2) g16 ?_
      obtain ⟨n17, h⟩ := h
      obtain ⟨g18, h⟩ := h
      obtain ⟨g19, h⟩ := h
      obtain ⟨q20, h⟩ := h
      obtain ⟨g21, h⟩ := h
      refine jy_aald hS rfl g18.1 (by decide) (Nat.le_of_lt g18.2) g19 g21 ?_
      refine jy_iload_n hS rfl rfl ?_
      refine jy_dup2 hS rfl rfl rfl ?_
      obtain ⟨n22, h⟩ := h
      obtain ⟨g23, h⟩ := h
      obtain ⟨g24, h⟩ := h
      refine jy_iald hS rfl g23.1 (Nat.le_of_lt g23.2) g24 ?_
      refine jy_aload_n hS rfl rfl ?_
      refine jy_getR hS rfl (by decide) g3 g11 ?_
      refine jy_aload_n hS rfl rfl ?_
      refine jy_getR hS rfl (by decide) g3 g13 ?_
      refine jy_iload_n hS rfl rfl ?_
      obtain ⟨g25, h⟩ := h
      refine jy_iald hS rfl g15.1 (Nat.le_of_lt g15.2) g25 ?_
      obtain ⟨g26, h⟩ := h
      obtain ⟨q27, h⟩ := h
      obtain ⟨g28, h⟩ := h
      refine jy_aald hS rfl g18.1 (by decide) (Nat.le_of_lt g18.2) g26 g28 ?_
      refine jy_iload_n hS rfl rfl ?_
      obtain ⟨n29, h⟩ := h
      obtain ⟨g30, h⟩ := h
      obtain ⟨g31, h⟩ := h
      refine jy_iald hS rfl g30.1 (Nat.le_of_lt g30.2) g31 ?_
      refine jy_iconst hS rfl ?_
      refine jy_aload_n hS rfl rfl ?_
      obtain ⟨q32, h⟩ := h
      obtain ⟨g33, h⟩ := h
      refine jy_getR hS rfl (by decide) g3 g33 ?_
      refine jy_aload_n hS rfl rfl ?_
      refine jy_getR hS rfl (by decide) g3 g13 ?_
      refine jy_iload_n hS rfl rfl ?_
      obtain ⟨g34, h⟩ := h
      refine jy_iald hS rfl g15.1 (Nat.le_of_lt g15.2) g34 ?_
      obtain ⟨n35, h⟩ := h
      obtain ⟨g36, h⟩ := h
      obtain ⟨g37, h⟩ := h
      obtain ⟨q38, h⟩ := h
      obtain ⟨g39, h⟩ := h
      refine jy_aald hS rfl g36.1 (by decide) (Nat.le_of_lt g36.2) g37 g39 ?_
      refine jy_iload_n hS rfl rfl ?_
      obtain ⟨n40, h⟩ := h
      obtain ⟨g41, h⟩ := h
      obtain ⟨g42, h⟩ := h
      refine jy_iald hS rfl g41.1 (Nat.le_of_lt g41.2) g42 ?_
      refine jy_iconst hS rfl ?_
      refine jy_isub hS rfl ?_
      obtain ⟨Q43, h⟩ := h
      obtain ⟨g44, h⟩ := h
      refine jy_callS hS rfl rfl rfl (Nat.le_of_ble_eq_true rfl) g44 (by decide) ⟨by decide, by decide⟩ (Nat.le_of_ble_eq_true rfl) ?_ ?_
      rotate_left
      · exact fun Ex Xx Ix Rx hp => hp.2.2.2.elim
      intro rv Xx I45 Rx hp
      obtain ⟨e1, e2, hp⟩ := hp
      rw [e1, e2]
      clear e1 e2
      obtain ⟨r46, e1, h⟩ := h rv I45 hp
      rw [e1]
      clear e1
      change J 68 [jy r46, jy ((I q20 l2.toNat).toInt), jy l2, .ref q20] _ (0, 0) _ _ _
      obtain ⟨g47, h⟩ := h
      refine jy_if_eq hS rfl g47 (fun hq => ?_) (fun hq => ?_)
      · have h := h.1 hq
        refine jy_iconst hS rfl ?_
        exact jy_join hS h rfl (jy_sub_s (jy_sub_s (jy_sub_s jy_sub_0)))
      · have h := h.2 hq
        refine jy_iconst hS rfl ?_
        refine jy_goto hS rfl ?_
        exact jy_join hS h rfl (jy_sub_s (jy_sub_s (jy_sub_s jy_sub_0)))
  · intro s0 s1 s2 s3 l1 l2 I h
    unfold wz_254_76 at h
    refine jy_iadd hS rfl ?_
    obtain ⟨n48, h⟩ := h
    obtain ⟨g49, h⟩ := h
    obtain ⟨g50, h⟩ := h
    refine jy_iast hS rfl g49.1 (Nat.le_of_lt g49.2) g50 ?_
    intro I51 e9
    have h := h I51 e9
    clear e9
    refine jy_iinc hS rfl rfl (L' := [some (.ref a0), some (jy l1), some (jy (l2 + 1))]) rfl ?_
    refine jy_goto hS rfl ?_
    exact jy_join hS h rfl (jy_sub_s (jy_sub_s (jy_sub_s jy_sub_0)))
theorem jt_255 : jx_ml 255 = 6 ∧ jx_rt 255 = some .int ∧ jx_hz 255 = [] ∧ decide ((jx_nm 255).name = "<init>") = false ∧ jx_code 255 = jx_c255 := by decide +kernel
/-- GCModel.comes, from 8 -/
def wz_255_8 (V : jx_V) (X : jx_X) (R : jx_R) (Q : Option Value → jx_I → Prop) (QE : String → jx_I → Prop) (J8 : Int → Int → jx_I → Prop) (J40 : Int → Int → jx_I → Prop) (J170 : Nat → Int → Int → Int → Int → jx_I → Prop) (J171 : Int → Int → jx_I → Prop) (J191 : Int → jx_I → Prop) (a0 : Nat) (a1 : Int) (l2 : Int) (l3 : Int) (I : jx_I) : Prop :=
  (X.2.1 a0 = some (12, 0)) ∧ (
  ∃ q7 : Nat, (
  (R a0 11 = some q7) ∧ (
  ∃ n9 : Nat, (
  (X.2.1 q7 = some (100, n9) ∧ n9 < 2147483648) ∧ (
  (0 ≤ (1 : Int) ∧ (1 : Int) < n9) ∧ (
  (-2147483648 ≤ l3 ∧ l3 < 2147483648) ∧ (
  ((I q7 (1 : Int).toNat).toInt ≤ l3 → (
    J40 l2 0 I
  )) ∧ (¬ (I q7 (1 : Int).toNat).toInt ≤ l3 → (
    ∃ q13 : Nat, (
    (R a0 45 = some q13) ∧ (
    ∃ q15 : Nat, (
    (R a0 42 = some q15) ∧ (
    ∃ n17 : Nat, (
    (X.2.1 q15 = some (104, n17) ∧ n17 < 2147483648) ∧ (
    (0 ≤ l3 ∧ l3 < n17) ∧ (
    ∃ q20 : Nat, (
    (R q15 l3.toNat = some q20) ∧ (
    ∃ n22 : Nat, (
    (X.2.1 q20 = some (100, n22) ∧ n22 < 2147483648) ∧ (
    (0 ≤ a1 ∧ a1 < n22) ∧ (
    ∃ n25 : Nat, (
    (X.2.1 q13 = some (100, n25) ∧ n25 < 2147483648) ∧ (
    (0 ≤ l3 ∧ l3 < n25) ∧ (
    ∀ I28 : jx_I, I28 = jx_u I q13 l3.toNat (Int32.ofInt ((I q20 a1.toNat).toInt)) → (
    J8 l2 (l3 + 1) I28))))))))))))))))
  )))))))))
/-- GCModel.comes, from 40 -/
def wz_255_40 (V : jx_V) (X : jx_X) (R : jx_R) (Q : Option Value → jx_I → Prop) (QE : String → jx_I → Prop) (J8 : Int → Int → jx_I → Prop) (J40 : Int → Int → jx_I → Prop) (J170 : Nat → Int → Int → Int → Int → jx_I → Prop) (J171 : Int → Int → jx_I → Prop) (J191 : Int → jx_I → Prop) (a0 : Nat) (a1 : Int) (l2 : Int) (l3 : Int) (I : jx_I) : Prop :=
  (X.2.1 a0 = some (12, 0)) ∧ (
  (-2147483648 ≤ l3 ∧ l3 < 2147483648) ∧ (
  ((I a0 46).toInt ≤ l3 → (
    ∃ q31 : Nat, (
    (R a0 13 = some q31) ∧ (
    ∃ n33 : Nat, (
    (X.2.1 q31 = some (100, n33) ∧ n33 < 2147483648) ∧ (
    (0 ≤ a1 ∧ a1 < n33) ∧ (
    ((I q31 a1.toNat).toInt ≠ 1 → (
      (0 ≤ a1 ∧ a1 < n33) ∧ (
      ((I q31 a1.toNat).toInt ≠ 2 → (
        Q (some (jy l2)) I
      )) ∧ ((I q31 a1.toNat).toInt = 2 → (
        ∃ Q37 : Option Value → jx_I → Prop, (
        (jc V 2 254 (0, 0) [.ref a0] X I R Q37 (fun _ _ => False)) ∧ (
        ∀ rv I39, Q37 rv I39 → rv = none ∧ (
        Q (some (jy l2)) I39)))
      )))
    )) ∧ ((I q31 a1.toNat).toInt = 1 → (
      ∃ Q41 : Option Value → jx_I → Prop, (
      (jc V 1 253 (0, 0) [.ref a0] X I R Q41 (fun _ _ => False)) ∧ (
      ∀ rv I43, Q41 rv I43 → rv = none ∧ (
      J191 l2 I43)))
    )))))))
  )) ∧ (¬ (I a0 46).toInt ≤ l3 → (
    ∃ q45 : Nat, (
    (R a0 44 = some q45) ∧ (
    ∃ n47 : Nat, (
    (X.2.1 q45 = some (100, n47) ∧ n47 < 2147483648) ∧ (
    (0 ≤ l3 ∧ l3 < n47) ∧ (
    ∃ q50 : Nat, (
    (R a0 17 = some q50) ∧ (
    ∃ n52 : Nat, (
    (X.2.1 q50 = some (100, n52) ∧ n52 < 2147483648) ∧ (
    (0 ≤ (I q45 l3.toNat).toInt ∧ (I q45 l3.toNat).toInt < n52) ∧ (
    ((I q50 ((I q45 l3.toNat).toInt).toNat).toInt = (-1) → (
      J40 l2 (l3 + 1) I
    )) ∧ (¬ (I q50 ((I q45 l3.toNat).toInt).toNat).toInt = (-1) → (
      ∃ Q55 : Option Value → jx_I → Prop, (
      (jc V 1 252 (0, 0) [.ref a0, jy ((I q50 ((I q45 l3.toNat).toInt).toNat).toInt)] X I R Q55 (fun _ _ => False)) ∧ (
      ∀ rv I57, Q55 rv I57 → ∃ r58 : Int, rv = some (jy r58) ∧ (
      (-2147483648 ≤ r58 ∧ r58 < 2147483648) ∧ (
      (r58 = 0 → (
        J40 l2 (l3 + 1) I57
      )) ∧ (¬ r58 = 0 → (
        ∃ q60 : Nat, (
        (R a0 45 = some q60) ∧ (
        ∃ n62 : Nat, (
        (X.2.1 q60 = some (100, n62) ∧ n62 < 2147483648) ∧ (
        (0 ≤ (I q50 ((I q45 l3.toNat).toInt).toNat).toInt ∧ (I q50 ((I q45 l3.toNat).toInt).toNat).toInt < n62) ∧ (
        (0 ≤ (I q45 l3.toNat).toInt ∧ (I q45 l3.toNat).toInt < n62) ∧ (
        ((I57 q60 ((I q45 l3.toNat).toInt).toNat).toInt < (Int32.ofInt ((I57 q60 ((I q50 ((I q45 l3.toNat).toInt).toNat).toInt).toNat).toInt) / Int32.ofInt 2).toInt → (
          ∃ q66 : Nat, (
          (R a0 42 = some q66) ∧ (
          ∃ n68 : Nat, (
          (X.2.1 q66 = some (104, n68) ∧ n68 < 2147483648) ∧ (
          (0 ≤ (I q45 l3.toNat).toInt ∧ (I q45 l3.toNat).toInt < n68) ∧ (
          ∃ q71 : Nat, (
          (R q66 ((I q45 l3.toNat).toInt).toNat = some q71) ∧ (
          (0 ≤ (I q50 ((I q45 l3.toNat).toInt).toNat).toInt ∧ (I q50 ((I q45 l3.toNat).toInt).toNat).toInt < n62) ∧ (
          ∃ n74 : Nat, (
          (X.2.1 q71 = some (100, n74) ∧ n74 < 2147483648) ∧ (
          (0 ≤ a1 ∧ a1 < n74) ∧ (
          ∀ I77 : jx_I, I77 = jx_u I57 q71 a1.toNat (Int32.ofInt ((Int32.ofInt ((I57 q60 ((I q50 ((I q45 l3.toNat).toInt).toNat).toInt).toNat).toInt) / Int32.ofInt 2).toInt)) → (
          ∃ q78 : Nat, (
          (R a0 43 = some q78) ∧ (
          ∃ n80 : Nat, (
          (X.2.1 q78 = some (104, n80) ∧ n80 < 2147483648) ∧ (
          (0 ≤ (I q45 l3.toNat).toInt ∧ (I q45 l3.toNat).toInt < n80) ∧ (
          ∃ q83 : Nat, (
          (R q78 ((I q45 l3.toNat).toInt).toNat = some q83) ∧ (
          (0 ≤ (I q45 l3.toNat).toInt ∧ (I q45 l3.toNat).toInt < n68) ∧ (
          ∃ q86 : Nat, (
          (R q66 ((I q45 l3.toNat).toInt).toNat = some q86) ∧ (
          ∃ n88 : Nat, (
          (X.2.1 q86 = some (100, n88) ∧ n88 < 2147483648) ∧ (
          (0 ≤ a1 ∧ a1 < n88) ∧ (
          (0 ≤ (I q45 l3.toNat).toInt ∧ (I q45 l3.toNat).toInt < n80) ∧ (
          ∃ q92 : Nat, (
          (R q78 ((I q45 l3.toNat).toInt).toNat = some q92) ∧ (
          ∃ n94 : Nat, (
          (X.2.1 q92 = some (100, n94) ∧ n94 < 2147483648) ∧ (
          (0 ≤ a1 ∧ a1 < n94) ∧ (
          ((I77 q86 a1.toNat).toInt ≤ (I77 q92 a1.toNat).toInt → (
            (0 ≤ (I q45 l3.toNat).toInt ∧ (I q45 l3.toNat).toInt < n80) ∧ (
            ∃ q98 : Nat, (
            (R q78 ((I q45 l3.toNat).toInt).toNat = some q98) ∧ (
            ∃ n100 : Nat, (
            (X.2.1 q98 = some (100, n100) ∧ n100 < 2147483648) ∧ (
            (0 ≤ a1 ∧ a1 < n100) ∧ (
            J170 q83 a1 ((I77 q98 a1.toNat).toInt) l2 l3 I77))))))
          )) ∧ (¬ (I77 q86 a1.toNat).toInt ≤ (I77 q92 a1.toNat).toInt → (
            (0 ≤ (I q45 l3.toNat).toInt ∧ (I q45 l3.toNat).toInt < n68) ∧ (
            ∃ q104 : Nat, (
            (R q66 ((I q45 l3.toNat).toInt).toNat = some q104) ∧ (
            ∃ n106 : Nat, (
            (X.2.1 q104 = some (100, n106) ∧ n106 < 2147483648) ∧ (
            (0 ≤ a1 ∧ a1 < n106) ∧ (
            J170 q83 a1 ((I77 q104 a1.toNat).toInt) l2 l3 I77))))))
          )))))))))))))))))))))))))))))))))
        )) ∧ (¬ (I57 q60 ((I q45 l3.toNat).toInt).toNat).toInt < (Int32.ofInt ((I57 q60 ((I q50 ((I q45 l3.toNat).toInt).toNat).toInt).toNat).toInt) / Int32.ofInt 2).toInt → (
          J171 l2 l3 I57
        ))))))))
      ))))))
    ))))))))))))
  ))))
/-- GCModel.comes, from 170 -/
def wz_255_170 (V : jx_V) (X : jx_X) (R : jx_R) (Q : Option Value → jx_I → Prop) (QE : String → jx_I → Prop) (J8 : Int → Int → jx_I → Prop) (J40 : Int → Int → jx_I → Prop) (J170 : Nat → Int → Int → Int → Int → jx_I → Prop) (J171 : Int → Int → jx_I → Prop) (J191 : Int → jx_I → Prop) (a0 : Nat) (a1 : Int) (s0 : Nat) (s1 : Int) (s2 : Int) (l2 : Int) (l3 : Int) (I : jx_I) : Prop :=
  ∃ n109 : Nat, (
  (X.2.1 s0 = some (100, n109) ∧ n109 < 2147483648) ∧ (
  (0 ≤ s1 ∧ s1 < n109) ∧ (
  ∀ I112 : jx_I, I112 = jx_u I s0 s1.toNat (Int32.ofInt s2) → (
  J171 l2 l3 I112))))
/-- GCModel.comes, from 171 -/
def wz_255_171 (V : jx_V) (X : jx_X) (R : jx_R) (Q : Option Value → jx_I → Prop) (QE : String → jx_I → Prop) (J8 : Int → Int → jx_I → Prop) (J40 : Int → Int → jx_I → Prop) (J170 : Nat → Int → Int → Int → Int → jx_I → Prop) (J171 : Int → Int → jx_I → Prop) (J191 : Int → jx_I → Prop) (a0 : Nat) (a1 : Int) (l2 : Int) (l3 : Int) (I : jx_I) : Prop :=
  J40 l2 (l3 + 1) I
/-- GCModel.comes, from 191 -/
def wz_255_191 (V : jx_V) (X : jx_X) (R : jx_R) (Q : Option Value → jx_I → Prop) (QE : String → jx_I → Prop) (J8 : Int → Int → jx_I → Prop) (J40 : Int → Int → jx_I → Prop) (J170 : Nat → Int → Int → Int → Int → jx_I → Prop) (J171 : Int → Int → jx_I → Prop) (J191 : Int → jx_I → Prop) (a0 : Nat) (a1 : Int) (l2 : Int) (I : jx_I) : Prop :=
  (X.2.1 a0 = some (12, 0)) ∧ (
  ∃ q114 : Nat, (
  (R a0 13 = some q114) ∧ (
  ∃ n116 : Nat, (
  (X.2.1 q114 = some (100, n116) ∧ n116 < 2147483648) ∧ (
  (0 ≤ a1 ∧ a1 < n116) ∧ (
  ((I q114 a1.toNat).toInt ≠ 2 → (
    Q (some (jy l2)) I
  )) ∧ ((I q114 a1.toNat).toInt = 2 → (
    ∃ Q119 : Option Value → jx_I → Prop, (
    (jc V 2 254 (0, 0) [.ref a0] X I R Q119 (fun _ _ => False)) ∧ (
    ∀ rv I121, Q119 rv I121 → rv = none ∧ (
    Q (some (jy l2)) I121)))
  ))))))))
/-- GCModel.comes -/
def wz_255 (V : jx_V) (X : jx_X) (R : jx_R) (Q : Option Value → jx_I → Prop) (QE : String → jx_I → Prop) (J8 : Int → Int → jx_I → Prop) (J40 : Int → Int → jx_I → Prop) (J170 : Nat → Int → Int → Int → Int → jx_I → Prop) (J171 : Int → Int → jx_I → Prop) (J191 : Int → jx_I → Prop) (a0 : Nat) (a1 : Int) (I : jx_I) : Prop :=
  (X.2.1 a0 = some (12, 0)) ∧ (
  ∃ Q2 : Option Value → jx_I → Prop, (
  (jc V 3 246 (0, 0) [.ref a0, jy a1] X I R Q2 (fun _ _ => False)) ∧ (
  ∀ rv I4, Q2 rv I4 → ∃ r5 : Int, rv = some (jy r5) ∧ (
  J8 r5 0 I4))))
set_option maxRecDepth 20000 in
theorem wm_255 {V : jx_V} (hV : V.1.stackTraces = false) {X : jx_X} {R : jx_R} {I : jx_I} {Q : Option Value → jx_I → Prop} {QE : String → jx_I → Prop} {a0 : Nat} {a1 : Int} (r_a1 : -2147483648 ≤ a1 ∧ a1 < 2147483648) 
    (h : ∀ (J8 : Int → Int → jx_I → Prop) (J40 : Int → Int → jx_I → Prop) (J170 : Nat → Int → Int → Int → Int → jx_I → Prop) (J171 : Int → Int → jx_I → Prop) (J191 : Int → jx_I → Prop), ((∀ (l2 : Int) (l3 : Int) I, wz_255_8 V X R Q QE J8 J40 J170 J171 J191 a0 a1 l2 l3 I → J8 l2 l3 I) ∧ (∀ (l2 : Int) (l3 : Int) I, wz_255_40 V X R Q QE J8 J40 J170 J171 J191 a0 a1 l2 l3 I → J40 l2 l3 I) ∧ (∀ (s0 : Nat) (s1 : Int) (s2 : Int) (l2 : Int) (l3 : Int) I, wz_255_170 V X R Q QE J8 J40 J170 J171 J191 a0 a1 s0 s1 s2 l2 l3 I → J170 s0 s1 s2 l2 l3 I) ∧ (∀ (l2 : Int) (l3 : Int) I, wz_255_171 V X R Q QE J8 J40 J170 J171 J191 a0 a1 l2 l3 I → J171 l2 l3 I) ∧ (∀ (l2 : Int) I, wz_255_191 V X R Q QE J8 J40 J170 J171 J191 a0 a1 l2 I → J191 l2 I)) → wz_255 V X R Q QE J8 J40 J170 J171 J191 a0 a1 I) : jc V 4 255 (0, 0) [.ref a0, jy a1] X I R Q QE := by
  refine jy_met hV (by decide) (n := 6) (rt := some .int) (hh := []) (ini := false) (C := jx_c255) (L := [some (.ref a0), some (jy a1), none, none, none, none]) jt_255 (Nat.le_of_ble_eq_true rfl) rfl ?_
  intro J hS
  have h := h (fun l2 l3 I => J 8 [] [some (.ref a0), some (jy a1), some (jy l2), some (jy l3), none, none] (0, 0) X I R) (fun l2 l3 I => J 40 [] [some (.ref a0), some (jy a1), some (jy l2), some (jy l3), none, none] (0, 0) X I R) (fun s0 s1 s2 l2 l3 I => J 170 [jy s2, jy s1, .ref s0] [some (.ref a0), some (jy a1), some (jy l2), some (jy l3), none, none] (0, 0) X I R) (fun l2 l3 I => J 171 [] [some (.ref a0), some (jy a1), some (jy l2), some (jy l3), none, none] (0, 0) X I R) (fun l2 I => J 191 [] [some (.ref a0), some (jy a1), some (jy l2), none, none, none] (0, 0) X I R) ?_
  · unfold wz_255 at h
    refine jy_aload_n hS rfl rfl ?_
    refine jy_iload_n hS rfl rfl ?_
    obtain ⟨g1, h⟩ := h
    obtain ⟨Q2, h⟩ := h
    obtain ⟨g3, h⟩ := h
    refine jy_callV hS rfl rfl rfl (Nat.le_of_ble_eq_true rfl) (Or.inl g1) g3 (by decide) ⟨by decide, by decide⟩ (Nat.le_of_ble_eq_true rfl) ?_ ?_
    rotate_left
    · exact fun Ex Xx Ix Rx hp => hp.2.2.2.elim
    intro rv Xx I4 Rx hp
    obtain ⟨e1, e2, hp⟩ := hp
    rw [e1, e2]
    clear e1 e2
    obtain ⟨r5, e1, h⟩ := h rv I4 hp
    rw [e1]
    clear e1
    change J 5 [jy r5] _ (0, 0) _ _ _
    refine jy_istore_n hS rfl (Nat.le_of_ble_eq_true rfl) (L' := [some (.ref a0), some (jy a1), some (jy r5), none, none, none]) rfl ?_
    refine jy_iconst hS rfl ?_
    refine jy_istore_n hS rfl (Nat.le_of_ble_eq_true rfl) (L' := [some (.ref a0), some (jy a1), some (jy r5), some (jy 0), none, none]) rfl ?_
    exact jy_join hS h rfl (jy_sub_s (jy_sub_s (jy_sub_s (jy_sub_s (jy_sub_n (jy_sub_n jy_sub_0))))))
  refine ⟨?_, ?_, ?_, ?_, ?_⟩
  · intro l2 l3 I h
    unfold wz_255_8 at h
    refine jy_iload_n hS rfl rfl ?_
    refine jy_aload_n hS rfl rfl ?_
    obtain ⟨g6, h⟩ := h
    obtain ⟨q7, h⟩ := h
    obtain ⟨g8, h⟩ := h
    refine jy_getR hS rfl (by decide) g6 g8 ?_
    refine jy_iconst hS rfl ?_
    obtain ⟨n9, h⟩ := h
    obtain ⟨g10, h⟩ := h
    obtain ⟨g11, h⟩ := h
    refine jy_iald hS rfl g10.1 (Nat.le_of_lt g10.2) g11 ?_
    obtain ⟨g12, h⟩ := h
    refine jy_icmp_ge hS rfl ⟨g12, (jy_rng _)⟩ (fun hq => ?_) (fun hq => ?_)
    · have h := h.1 hq
      refine jy_iconst hS rfl ?_
      refine jy_istore_n hS rfl (Nat.le_of_ble_eq_true rfl) (L' := [some (.ref a0), some (jy a1), some (jy l2), some (jy 0), none, none]) rfl ?_
      exact jy_join hS h rfl (jy_sub_s (jy_sub_s (jy_sub_s (jy_sub_s (jy_sub_n (jy_sub_n jy_sub_0))))))
    · have h := h.2 hq
      refine jy_aload_n hS rfl rfl ?_
      obtain ⟨q13, h⟩ := h
      obtain ⟨g14, h⟩ := h
      refine jy_getR hS rfl (by decide) g6 g14 ?_
      refine jy_iload_n hS rfl rfl ?_
      refine jy_aload_n hS rfl rfl ?_
      obtain ⟨q15, h⟩ := h
      obtain ⟨g16, h⟩ := h
      refine jy_getR hS rfl (by decide) g6 g16 ?_
      refine jy_iload_n hS rfl rfl ?_
      obtain ⟨n17, h⟩ := h
      obtain ⟨g18, h⟩ := h
      obtain ⟨g19, h⟩ := h
      obtain ⟨q20, h⟩ := h
      obtain ⟨g21, h⟩ := h
      refine jy_aald hS rfl g18.1 (by decide) (Nat.le_of_lt g18.2) g19 g21 ?_
      refine jy_iload_n hS rfl rfl ?_
      obtain ⟨n22, h⟩ := h
      obtain ⟨g23, h⟩ := h
      obtain ⟨g24, h⟩ := h
      refine jy_iald hS rfl g23.1 (Nat.le_of_lt g23.2) g24 ?_
      obtain ⟨n25, h⟩ := h
      obtain ⟨g26, h⟩ := h
      obtain ⟨g27, h⟩ := h
      refine jy_iast hS rfl g26.1 (Nat.le_of_lt g26.2) g27 ?_
      intro I28 e9
      have h := h I28 e9
      clear e9
      refine jy_iinc hS rfl rfl (L' := [some (.ref a0), some (jy a1), some (jy l2), some (jy (l3 + 1)), none, none]) rfl ?_
      refine jy_goto hS rfl ?_
      exact jy_join hS h rfl (jy_sub_s (jy_sub_s (jy_sub_s (jy_sub_s (jy_sub_n (jy_sub_n jy_sub_0))))))
  · intro l2 l3 I h
    unfold wz_255_40 at h
    refine jy_iload_n hS rfl rfl ?_
    refine jy_aload_n hS rfl rfl ?_
    obtain ⟨g29, h⟩ := h
    refine jy_getI hS rfl (by decide) g29 ?_
    obtain ⟨g30, h⟩ := h
    refine jy_icmp_ge hS rfl ⟨g30, (jy_rng _)⟩ (fun hq => ?_) (fun hq => ?_)
    · have h := h.1 hq
      refine jy_aload_n hS rfl rfl ?_
      obtain ⟨q31, h⟩ := h
      obtain ⟨g32, h⟩ := h
      refine jy_getR hS rfl (by decide) g29 g32 ?_
      refine jy_iload_n hS rfl rfl ?_
      obtain ⟨n33, h⟩ := h
      obtain ⟨g34, h⟩ := h
      obtain ⟨g35, h⟩ := h
      refine jy_iald hS rfl g34.1 (Nat.le_of_lt g34.2) g35 ?_
      refine jy_iconst hS rfl ?_
      refine jy_icmp_ne hS rfl ⟨(jy_rng _), ⟨by decide, by decide⟩⟩ (fun hq => ?_) (fun hq => ?_)
      · have h := h.1 hq
        refine jy_aload_n hS rfl rfl ?_
        refine jy_getR hS rfl (by decide) g29 g32 ?_
        refine jy_iload_n hS rfl rfl ?_
        obtain ⟨g36, h⟩ := h
        refine jy_iald hS rfl g34.1 (Nat.le_of_lt g34.2) g36 ?_
        refine jy_iconst hS rfl ?_
        refine jy_icmp_ne hS rfl ⟨(jy_rng _), ⟨by decide, by decide⟩⟩ (fun hq => ?_) (fun hq => ?_)
        · have h := h.1 hq
          refine jy_iload_n hS rfl rfl ?_
          exact jy_iret hS rfl rfl ⟨rfl, rfl, h⟩
        · have h := h.2 hq
          refine jy_aload_n hS rfl rfl ?_
          obtain ⟨Q37, h⟩ := h
          obtain ⟨g38, h⟩ := h
          refine jy_callV hS rfl rfl rfl (Nat.le_of_ble_eq_true rfl) (Or.inl g29) g38 (by decide) ⟨by decide, by decide⟩ (Nat.le_of_ble_eq_true rfl) ?_ ?_
          rotate_left
          · exact fun Ex Xx Ix Rx hp => hp.2.2.2.elim
          intro rv Xx I39 Rx hp
          obtain ⟨e1, e2, hp⟩ := hp
          rw [e1, e2]
          clear e1 e2
          obtain ⟨e1, h⟩ := h rv I39 hp
          rw [e1]
          clear e1
          change J 205 [] _ (0, 0) _ _ _
          refine jy_iload_n hS rfl rfl ?_
          exact jy_iret hS rfl rfl ⟨rfl, rfl, h⟩
      · have h := h.2 hq
        refine jy_aload_n hS rfl rfl ?_
        obtain ⟨Q41, h⟩ := h
        obtain ⟨g42, h⟩ := h
        refine jy_callV hS rfl rfl rfl (Nat.le_of_ble_eq_true rfl) (Or.inl g29) g42 (by decide) ⟨by decide, by decide⟩ (Nat.le_of_ble_eq_true rfl) ?_ ?_
        rotate_left
        · exact fun Ex Xx Ix Rx hp => hp.2.2.2.elim
        intro rv Xx I43 Rx hp
        obtain ⟨e1, e2, hp⟩ := hp
        rw [e1, e2]
        clear e1 e2
        obtain ⟨e1, h⟩ := h rv I43 hp
        rw [e1]
        clear e1
        change J 191 [] _ (0, 0) _ _ _
        exact jy_join hS h rfl (jy_sub_s (jy_sub_s (jy_sub_s (jy_sub_n (jy_sub_n (jy_sub_n jy_sub_0))))))
    · have h := h.2 hq
      refine jy_aload_n hS rfl rfl ?_
      obtain ⟨q45, h⟩ := h
      obtain ⟨g46, h⟩ := h
      refine jy_getR hS rfl (by decide) g29 g46 ?_
      refine jy_iload_n hS rfl rfl ?_
      obtain ⟨n47, h⟩ := h
      obtain ⟨g48, h⟩ := h
      obtain ⟨g49, h⟩ := h
      refine jy_iald hS rfl g48.1 (Nat.le_of_lt g48.2) g49 ?_
      refine jy_istore hS rfl (Nat.le_of_ble_eq_true rfl) (L' := [some (.ref a0), some (jy a1), some (jy l2), some (jy l3), some (jy ((I q45 l3.toNat).toInt)), none]) rfl ?_
      refine jy_aload_n hS rfl rfl ?_
      obtain ⟨q50, h⟩ := h
      obtain ⟨g51, h⟩ := h
      refine jy_getR hS rfl (by decide) g29 g51 ?_
      refine jy_iload hS rfl rfl ?_
      obtain ⟨n52, h⟩ := h
      obtain ⟨g53, h⟩ := h
      obtain ⟨g54, h⟩ := h
      refine jy_iald hS rfl g53.1 (Nat.le_of_lt g53.2) g54 ?_
      refine jy_istore hS rfl (Nat.le_of_ble_eq_true rfl) (L' := [some (.ref a0), some (jy a1), some (jy l2), some (jy l3), some (jy ((I q45 l3.toNat).toInt)), some (jy ((I q50 ((I q45 l3.toNat).toInt).toNat).toInt))]) rfl ?_
      refine jy_iload hS rfl rfl ?_
      refine jy_iconst hS rfl ?_
      refine jy_icmp_eq hS rfl ⟨(jy_rng _), ⟨by decide, by decide⟩⟩ (fun hq => ?_) (fun hq => ?_)
      · have h := h.1 hq
        refine jy_iinc hS rfl rfl (L' := [some (.ref a0), some (jy a1), some (jy l2), some (jy (l3 + 1)), some (jy ((I q45 l3.toNat).toInt)), some (jy ((I q50 ((I q45 l3.toNat).toInt).toNat).toInt))]) rfl ?_
        refine jy_goto hS rfl ?_
        exact jy_join hS h rfl (jy_sub_s (jy_sub_s (jy_sub_s (jy_sub_s (jy_sub_n (jy_sub_n jy_sub_0))))))
      · have h := h.2 hq
        refine jy_aload_n hS rfl rfl ?_
        refine jy_iload hS rfl rfl ?_
        obtain ⟨Q55, h⟩ := h
        obtain ⟨g56, h⟩ := h
        refine jy_callV hS rfl rfl rfl (Nat.le_of_ble_eq_true rfl) (Or.inl g29) g56 (by decide) ⟨by decide, by decide⟩ (Nat.le_of_ble_eq_true rfl) ?_ ?_
        rotate_left
        · exact fun Ex Xx Ix Rx hp => hp.2.2.2.elim
        intro rv Xx I57 Rx hp
        obtain ⟨e1, e2, hp⟩ := hp
        rw [e1, e2]
        clear e1 e2
        obtain ⟨r58, e1, h⟩ := h rv I57 hp
        rw [e1]
        clear e1
        change J 77 [jy r58] _ (0, 0) _ _ _
        obtain ⟨g59, h⟩ := h
        refine jy_if_eq hS rfl g59 (fun hq => ?_) (fun hq => ?_)
        · have h := h.1 hq
          refine jy_iinc hS rfl rfl (L' := [some (.ref a0), some (jy a1), some (jy l2), some (jy (l3 + 1)), some (jy ((I q45 l3.toNat).toInt)), some (jy ((I q50 ((I q45 l3.toNat).toInt).toNat).toInt))]) rfl ?_
          refine jy_goto hS rfl ?_
          exact jy_join hS h rfl (jy_sub_s (jy_sub_s (jy_sub_s (jy_sub_s (jy_sub_n (jy_sub_n jy_sub_0))))))
        · have h := h.2 hq
          refine jy_aload_n hS rfl rfl ?_
          obtain ⟨q60, h⟩ := h
          obtain ⟨g61, h⟩ := h
          refine jy_getR hS rfl (by decide) g29 g61 ?_
          refine jy_iload hS rfl rfl ?_
          obtain ⟨n62, h⟩ := h
          obtain ⟨g63, h⟩ := h
          obtain ⟨g64, h⟩ := h
          refine jy_iald hS rfl g63.1 (Nat.le_of_lt g63.2) g64 ?_
          refine jy_iconst hS rfl ?_
          refine jy_idivX hS rfl ⟨⟨by decide, by decide⟩, by decide⟩ rfl ?_
          refine jy_aload_n hS rfl rfl ?_
          refine jy_getR hS rfl (by decide) g29 g61 ?_
          refine jy_iload hS rfl rfl ?_
          obtain ⟨g65, h⟩ := h
          refine jy_iald hS rfl g63.1 (Nat.le_of_lt g63.2) g65 ?_
          refine jy_icmp_gt hS rfl ⟨(jy_rng _), (jy_rng _)⟩ (fun hq => ?_) (fun hq => ?_)
          · have h := h.1 hq
            refine jy_aload_n hS rfl rfl ?_
            obtain ⟨q66, h⟩ := h
            obtain ⟨g67, h⟩ := h
            refine jy_getR hS rfl (by decide) g29 g67 ?_
            refine jy_iload hS rfl rfl ?_
            obtain ⟨n68, h⟩ := h
            obtain ⟨g69, h⟩ := h
            obtain ⟨g70, h⟩ := h
            obtain ⟨q71, h⟩ := h
            obtain ⟨g72, h⟩ := h
            refine jy_aald hS rfl g69.1 (by decide) (Nat.le_of_lt g69.2) g70 g72 ?_
            refine jy_iload_n hS rfl rfl ?_
            refine jy_aload_n hS rfl rfl ?_
            refine jy_getR hS rfl (by decide) g29 g61 ?_
            refine jy_iload hS rfl rfl ?_
            obtain ⟨g73, h⟩ := h
            refine jy_iald hS rfl g63.1 (Nat.le_of_lt g63.2) g73 ?_
            refine jy_iconst hS rfl ?_
            refine jy_idivX hS rfl ⟨⟨by decide, by decide⟩, by decide⟩ rfl ?_
            obtain ⟨n74, h⟩ := h
            obtain ⟨g75, h⟩ := h
            obtain ⟨g76, h⟩ := h
            refine jy_iast hS rfl g75.1 (Nat.le_of_lt g75.2) g76 ?_
            intro I77 e9
            have h := h I77 e9
            clear e9
            refine jy_aload_n hS rfl rfl ?_
            obtain ⟨q78, h⟩ := h
            obtain ⟨g79, h⟩ := h
            refine jy_getR hS rfl (by decide) g29 g79 ?_
            refine jy_iload hS rfl rfl ?_
            obtain ⟨n80, h⟩ := h
            obtain ⟨g81, h⟩ := h
            obtain ⟨g82, h⟩ := h
            obtain ⟨q83, h⟩ := h
            obtain ⟨g84, h⟩ := h
            refine jy_aald hS rfl g81.1 (by decide) (Nat.le_of_lt g81.2) g82 g84 ?_
            refine jy_iload_n hS rfl rfl ?_
            refine jy_aload_n hS rfl rfl ?_
            refine jy_getR hS rfl (by decide) g29 g67 ?_
            refine jy_iload hS rfl rfl ?_
            obtain ⟨g85, h⟩ := h
            obtain ⟨q86, h⟩ := h
            obtain ⟨g87, h⟩ := h
            refine jy_aald hS rfl g69.1 (by decide) (Nat.le_of_lt g69.2) g85 g87 ?_
            refine jy_iload_n hS rfl rfl ?_
            obtain ⟨n88, h⟩ := h
            obtain ⟨g89, h⟩ := h
            obtain ⟨g90, h⟩ := h
            refine jy_iald hS rfl g89.1 (Nat.le_of_lt g89.2) g90 ?_
            refine jy_aload_n hS rfl rfl ?_
            refine jy_getR hS rfl (by decide) g29 g79 ?_
            refine jy_iload hS rfl rfl ?_
            obtain ⟨g91, h⟩ := h
            obtain ⟨q92, h⟩ := h
            obtain ⟨g93, h⟩ := h
            refine jy_aald hS rfl g81.1 (by decide) (Nat.le_of_lt g81.2) g91 g93 ?_
            refine jy_iload_n hS rfl rfl ?_
            obtain ⟨n94, h⟩ := h
            obtain ⟨g95, h⟩ := h
            obtain ⟨g96, h⟩ := h
            refine jy_iald hS rfl g95.1 (Nat.le_of_lt g95.2) g96 ?_
            refine jy_icmp_le hS rfl ⟨(jy_rng _), (jy_rng _)⟩ (fun hq => ?_) (fun hq => ?_)
            · have h := h.1 hq
              refine jy_aload_n hS rfl rfl ?_
              refine jy_getR hS rfl (by decide) g29 g79 ?_
              refine jy_iload hS rfl rfl ?_
              obtain ⟨g97, h⟩ := h
              obtain ⟨q98, h⟩ := h
              obtain ⟨g99, h⟩ := h
              refine jy_aald hS rfl g81.1 (by decide) (Nat.le_of_lt g81.2) g97 g99 ?_
              refine jy_iload_n hS rfl rfl ?_
              obtain ⟨n100, h⟩ := h
              obtain ⟨g101, h⟩ := h
              obtain ⟨g102, h⟩ := h
              refine jy_iald hS rfl g101.1 (Nat.le_of_lt g101.2) g102 ?_
              exact jy_join hS h rfl (jy_sub_s (jy_sub_s (jy_sub_s (jy_sub_s (jy_sub_n (jy_sub_n jy_sub_0))))))
            · have h := h.2 hq
              refine jy_aload_n hS rfl rfl ?_
              refine jy_getR hS rfl (by decide) g29 g67 ?_
              refine jy_iload hS rfl rfl ?_
              obtain ⟨g103, h⟩ := h
              obtain ⟨q104, h⟩ := h
              obtain ⟨g105, h⟩ := h
              refine jy_aald hS rfl g69.1 (by decide) (Nat.le_of_lt g69.2) g103 g105 ?_
              refine jy_iload_n hS rfl rfl ?_
              obtain ⟨n106, h⟩ := h
              obtain ⟨g107, h⟩ := h
              obtain ⟨g108, h⟩ := h
              refine jy_iald hS rfl g107.1 (Nat.le_of_lt g107.2) g108 ?_
              refine jy_goto hS rfl ?_
              exact jy_join hS h rfl (jy_sub_s (jy_sub_s (jy_sub_s (jy_sub_s (jy_sub_n (jy_sub_n jy_sub_0))))))
          · have h := h.2 hq
            refine jy_goto hS rfl ?_
            exact jy_join hS h rfl (jy_sub_s (jy_sub_s (jy_sub_s (jy_sub_s (jy_sub_n (jy_sub_n jy_sub_0))))))
  · intro s0 s1 s2 l2 l3 I h
    unfold wz_255_170 at h
    obtain ⟨n109, h⟩ := h
    obtain ⟨g110, h⟩ := h
    obtain ⟨g111, h⟩ := h
    refine jy_iast hS rfl g110.1 (Nat.le_of_lt g110.2) g111 ?_
    intro I112 e9
    have h := h I112 e9
    clear e9
    exact jy_join hS h rfl (jy_sub_s (jy_sub_s (jy_sub_s (jy_sub_s (jy_sub_n (jy_sub_n jy_sub_0))))))
  · intro l2 l3 I h
    unfold wz_255_171 at h
    refine jy_iinc hS rfl rfl (L' := [some (.ref a0), some (jy a1), some (jy l2), some (jy (l3 + 1)), none, none]) rfl ?_
    refine jy_goto hS rfl ?_
    exact jy_join hS h rfl (jy_sub_s (jy_sub_s (jy_sub_s (jy_sub_s (jy_sub_n (jy_sub_n jy_sub_0))))))
  · intro l2 I h
    unfold wz_255_191 at h
    refine jy_aload_n hS rfl rfl ?_
    obtain ⟨g113, h⟩ := h
    obtain ⟨q114, h⟩ := h
    obtain ⟨g115, h⟩ := h
    refine jy_getR hS rfl (by decide) g113 g115 ?_
    refine jy_iload_n hS rfl rfl ?_
    obtain ⟨n116, h⟩ := h
    obtain ⟨g117, h⟩ := h
    obtain ⟨g118, h⟩ := h
    refine jy_iald hS rfl g117.1 (Nat.le_of_lt g117.2) g118 ?_
    refine jy_iconst hS rfl ?_
    refine jy_icmp_ne hS rfl ⟨(jy_rng _), ⟨by decide, by decide⟩⟩ (fun hq => ?_) (fun hq => ?_)
    · have h := h.1 hq
      refine jy_iload_n hS rfl rfl ?_
      exact jy_iret hS rfl rfl ⟨rfl, rfl, h⟩
    · have h := h.2 hq
      refine jy_aload_n hS rfl rfl ?_
      obtain ⟨Q119, h⟩ := h
      obtain ⟨g120, h⟩ := h
      refine jy_callV hS rfl rfl rfl (Nat.le_of_ble_eq_true rfl) (Or.inl g113) g120 (by decide) ⟨by decide, by decide⟩ (Nat.le_of_ble_eq_true rfl) ?_ ?_
      rotate_left
      · exact fun Ex Xx Ix Rx hp => hp.2.2.2.elim
      intro rv Xx I121 Rx hp
      obtain ⟨e1, e2, hp⟩ := hp
      rw [e1, e2]
      clear e1 e2
      obtain ⟨e1, h⟩ := h rv I121 hp
      rw [e1]
      clear e1
      change J 205 [] _ (0, 0) _ _ _
      refine jy_iload_n hS rfl rfl ?_
      exact jy_iret hS rfl rfl ⟨rfl, rfl, h⟩
theorem jt_256 : jx_ml 256 = 6 ∧ jx_rt 256 = some .int ∧ jx_hz 256 = [] ∧ decide ((jx_nm 256).name = "<init>") = false ∧ jx_code 256 = jx_c256 := by decide +kernel
/-- GCModel.route, from 21 -/
def wz_256_21 (V : jx_V) (X : jx_X) (R : jx_R) (Q : Option Value → jx_I → Prop) (QE : String → jx_I → Prop) (J21 : Nat → Int → jx_I → Prop) (J48 : Int → Int → jx_I → Prop) (J133 : Int → Int → Int → jx_I → Prop) (J145 : Int → Int → jx_I → Prop) (a0 : Nat) (a1 : Int) (a2 : Int64) (s0 : Nat) (s1 : Int) (I : jx_I) : Prop :=
  (X.2.1 s0 = some (12, 0)) ∧ (
  ∃ Q9 : Option Value → jx_I → Prop, (
  (jc V 1 202 (0, 0) [.ref s0, jy s1, jy 1, jy 2] X I R Q9 (fun _ _ => False)) ∧ (
  ∀ rv I11, Q9 rv I11 → ∃ r12 : Int, rv = some (jy r12) ∧ (
  (-2147483648 ≤ r12 ∧ r12 < 2147483648) ∧ (
  (r12 = 0 → (
    (X.2.1 a0 = some (12, 0)) ∧ (
    ∃ Q15 : Option Value → jx_I → Prop, (
    (jc V 1 240 (0, 0) [.ref a0, .long a2, jy a1] X I11 R Q15 (fun _ _ => False)) ∧ (
    ∀ rv I17, Q15 rv I17 → ∃ r18 : Int, rv = some (jy r18) ∧ (
    (-2147483648 ≤ r18 ∧ r18 < 2147483648) ∧ (
    (r18 ≠ 0 → (
      J48 0 0 I17
    )) ∧ (r18 = 0 → (
      Q (some (jy (-1))) I17
    )))))))
  )) ∧ (¬ r12 = 0 → (
    Q (some (jy 0)) I11
  )))))))
/-- GCModel.route, from 48 -/
def wz_256_48 (V : jx_V) (X : jx_X) (R : jx_R) (Q : Option Value → jx_I → Prop) (QE : String → jx_I → Prop) (J21 : Nat → Int → jx_I → Prop) (J48 : Int → Int → jx_I → Prop) (J133 : Int → Int → Int → jx_I → Prop) (J145 : Int → Int → jx_I → Prop) (a0 : Nat) (a1 : Int) (a2 : Int64) (l4 : Int) (l5 : Int) (I : jx_I) : Prop :=
  (-2147483648 ≤ l5 ∧ l5 < 2147483648) ∧ (
  (a1 ≤ l5 → (
    J145 l4 0 I
  )) ∧ (¬ a1 ≤ l5 → (
    (X.2.1 a0 = some (12, 0)) ∧ (
    ∃ q22 : Nat, (
    (R a0 47 = some q22) ∧ (
    ∃ n24 : Nat, (
    (X.2.1 q22 = some (100, n24) ∧ n24 < 2147483648) ∧ (
    (0 ≤ l5 ∧ l5 < n24) ∧ (
    ∃ Q27 : Option Value → jx_I → Prop, (
    (jc V 2 232 (0, 0) [.ref a0, jy ((I q22 l5.toNat).toInt)] X I R Q27 (fun _ _ => False)) ∧ (
    ∀ rv I29, Q27 rv I29 → ∃ r30 : Int, rv = some (jy r30) ∧ (
    (-2147483648 ≤ r30 ∧ r30 < 2147483648) ∧ (
    (r30 = 0 → (
      Q (some (jy (-1))) I29
    )) ∧ (¬ r30 = 0 → (
      (l5 ≤ 0 → (
        (l5 ≠ 0 → (
          ∃ q32 : Nat, (
          (R a0 21 = some q32) ∧ (
          (0 ≤ (l5 - 1) ∧ (l5 - 1) < n24) ∧ (
          ∃ n35 : Nat, (
          (X.2.1 q32 = some (104, n35) ∧ n35 < 2147483648) ∧ (
          (0 ≤ (I29 q22 (l5 - 1).toNat).toInt ∧ (I29 q22 (l5 - 1).toNat).toInt < n35) ∧ (
          ∃ q38 : Nat, (
          (R q32 ((I29 q22 (l5 - 1).toNat).toInt).toNat = some q38) ∧ (
          (0 ≤ l5 ∧ l5 < n24) ∧ (
          ∃ n41 : Nat, (
          (X.2.1 q38 = some (100, n41) ∧ n41 < 2147483648) ∧ (
          (0 ≤ (I29 q22 l5.toNat).toInt ∧ (I29 q22 l5.toNat).toInt < n41) ∧ (
          J133 l4 ((I29 q38 ((I29 q22 l5.toNat).toInt).toNat).toInt) l5 I29))))))))))))
        )) ∧ (l5 = 0 → (
          J133 l4 0 l5 I29
        ))
      )) ∧ (¬ l5 ≤ 0 → (
        ∃ q44 : Nat, (
        (R a0 21 = some q44) ∧ (
        (0 ≤ (l5 - 1) ∧ (l5 - 1) < n24) ∧ (
        ∃ n47 : Nat, (
        (X.2.1 q44 = some (104, n47) ∧ n47 < 2147483648) ∧ (
        (0 ≤ (I29 q22 (l5 - 1).toNat).toInt ∧ (I29 q22 (l5 - 1).toNat).toInt < n47) ∧ (
        ∃ q50 : Nat, (
        (R q44 ((I29 q22 (l5 - 1).toNat).toInt).toNat = some q50) ∧ (
        (0 ≤ l5 ∧ l5 < n24) ∧ (
        ∃ n53 : Nat, (
        (X.2.1 q50 = some (100, n53) ∧ n53 < 2147483648) ∧ (
        (0 ≤ (I29 q22 l5.toNat).toInt ∧ (I29 q22 l5.toNat).toInt < n53) ∧ (
        ((I29 q50 ((I29 q22 l5.toNat).toInt).toNat).toInt ≠ 0 → (
          (l5 ≠ 0 → (
            (0 ≤ (l5 - 1) ∧ (l5 - 1) < n24) ∧ (
            (0 ≤ (I29 q22 (l5 - 1).toNat).toInt ∧ (I29 q22 (l5 - 1).toNat).toInt < n47) ∧ (
            ∃ q58 : Nat, (
            (R q44 ((I29 q22 (l5 - 1).toNat).toInt).toNat = some q58) ∧ (
            (0 ≤ l5 ∧ l5 < n24) ∧ (
            ∃ n61 : Nat, (
            (X.2.1 q58 = some (100, n61) ∧ n61 < 2147483648) ∧ (
            (0 ≤ (I29 q22 l5.toNat).toInt ∧ (I29 q22 l5.toNat).toInt < n61) ∧ (
            J133 l4 ((I29 q58 ((I29 q22 l5.toNat).toInt).toNat).toInt) l5 I29))))))))
          )) ∧ (l5 = 0 → (
            J133 l4 0 l5 I29
          ))
        )) ∧ ((I29 q50 ((I29 q22 l5.toNat).toInt).toNat).toInt = 0 → (
          Q (some (jy (-1))) I29
        ))))))))))))))
      ))
    ))))))))))))
  )))
/-- GCModel.route, from 133 -/
def wz_256_133 (V : jx_V) (X : jx_X) (R : jx_R) (Q : Option Value → jx_I → Prop) (QE : String → jx_I → Prop) (J21 : Nat → Int → jx_I → Prop) (J48 : Int → Int → jx_I → Prop) (J133 : Int → Int → Int → jx_I → Prop) (J145 : Int → Int → jx_I → Prop) (a0 : Nat) (a1 : Int) (a2 : Int64) (s0 : Int) (s1 : Int) (l5 : Int) (I : jx_I) : Prop :=
  J48 (s0 + s1) (l5 + 1) I
/-- GCModel.route, from 145 -/
def wz_256_145 (V : jx_V) (X : jx_X) (R : jx_R) (Q : Option Value → jx_I → Prop) (QE : String → jx_I → Prop) (J21 : Nat → Int → jx_I → Prop) (J48 : Int → Int → jx_I → Prop) (J133 : Int → Int → Int → jx_I → Prop) (J145 : Int → Int → jx_I → Prop) (a0 : Nat) (a1 : Int) (a2 : Int64) (l4 : Int) (l5 : Int) (I : jx_I) : Prop :=
  (-2147483648 ≤ l5 ∧ l5 < 2147483648) ∧ (
  (a1 ≤ l5 → (
    (X.2.1 a0 = some (12, 0)) ∧ (
    ∀ I66 : jx_I, I66 = jx_u I a0 37 (Int32.ofInt a1) → (
    Q (some (jy l4)) I66))
  )) ∧ (¬ a1 ≤ l5 → (
    (X.2.1 a0 = some (12, 0)) ∧ (
    ∃ q68 : Nat, (
    (R a0 35 = some q68) ∧ (
    ∃ q70 : Nat, (
    (R a0 47 = some q70) ∧ (
    ∃ n72 : Nat, (
    (X.2.1 q70 = some (100, n72) ∧ n72 < 2147483648) ∧ (
    (0 ≤ l5 ∧ l5 < n72) ∧ (
    ∃ n75 : Nat, (
    (X.2.1 q68 = some (100, n75) ∧ n75 < 2147483648) ∧ (
    (0 ≤ l5 ∧ l5 < n75) ∧ (
    ∀ I78 : jx_I, I78 = jx_u I q68 l5.toNat (Int32.ofInt ((I q70 l5.toNat).toInt)) → (
    J145 l4 (l5 + 1) I78))))))))))))
  )))
/-- GCModel.route -/
def wz_256 (V : jx_V) (X : jx_X) (R : jx_R) (Q : Option Value → jx_I → Prop) (QE : String → jx_I → Prop) (J21 : Nat → Int → jx_I → Prop) (J48 : Int → Int → jx_I → Prop) (J133 : Int → Int → Int → jx_I → Prop) (J145 : Int → Int → jx_I → Prop) (a0 : Nat) (a1 : Int) (a2 : Int64) (I : jx_I) : Prop :=
  (X.2.1 a0 = some (12, 0)) ∧ (
  ∀ I2 : jx_I, I2 = jx_u I a0 0 (Int32.ofInt 0) → (
  ∃ Q3 : Option Value → jx_I → Prop, (
  (jc V 1 203 (0, 0) [jy a1, jy 2, jy 12] X I2 R Q3 (fun _ _ => False)) ∧ (
  ∀ rv I5, Q3 rv I5 → ∃ r6 : Int, rv = some (jy r6) ∧ (
  (-2147483648 ≤ r6 ∧ r6 < 2147483648) ∧ (
  (r6 ≠ 0 → (
    J21 a0 0 I5
  )) ∧ (r6 = 0 → (
    J21 a0 1 I5
  ))))))))
set_option maxRecDepth 20000 in
theorem wm_256 {V : jx_V} (hV : V.1.stackTraces = false) {X : jx_X} {R : jx_R} {I : jx_I} {Q : Option Value → jx_I → Prop} {QE : String → jx_I → Prop} {a0 : Nat} {a1 : Int} {a2 : Int64} (r_a1 : -2147483648 ≤ a1 ∧ a1 < 2147483648) 
    (h : ∀ (J21 : Nat → Int → jx_I → Prop) (J48 : Int → Int → jx_I → Prop) (J133 : Int → Int → Int → jx_I → Prop) (J145 : Int → Int → jx_I → Prop), ((∀ (s0 : Nat) (s1 : Int) I, wz_256_21 V X R Q QE J21 J48 J133 J145 a0 a1 a2 s0 s1 I → J21 s0 s1 I) ∧ (∀ (l4 : Int) (l5 : Int) I, wz_256_48 V X R Q QE J21 J48 J133 J145 a0 a1 a2 l4 l5 I → J48 l4 l5 I) ∧ (∀ (s0 : Int) (s1 : Int) (l5 : Int) I, wz_256_133 V X R Q QE J21 J48 J133 J145 a0 a1 a2 s0 s1 l5 I → J133 s0 s1 l5 I) ∧ (∀ (l4 : Int) (l5 : Int) I, wz_256_145 V X R Q QE J21 J48 J133 J145 a0 a1 a2 l4 l5 I → J145 l4 l5 I)) → wz_256 V X R Q QE J21 J48 J133 J145 a0 a1 a2 I) : jc V 3 256 (0, 0) [.ref a0, jy a1, .long a2] X I R Q QE := by
  refine jy_met hV (by decide) (n := 6) (rt := some .int) (hh := []) (ini := false) (C := jx_c256) (L := [some (.ref a0), some (jy a1), some (.long a2), none, none, none]) jt_256 (Nat.le_of_ble_eq_true rfl) rfl ?_
  intro J hS
  have h := h (fun s0 s1 I => J 21 [jy s1, .ref s0] [some (.ref a0), some (jy a1), some (.long a2), none, none, none] (0, 0) X I R) (fun l4 l5 I => J 48 [] [some (.ref a0), some (jy a1), none, none, some (jy l4), some (jy l5)] (0, 0) X I R) (fun s0 s1 l5 I => J 133 [jy s1, jy s0] [some (.ref a0), some (jy a1), none, none, none, some (jy l5)] (0, 0) X I R) (fun l4 l5 I => J 145 [] [some (.ref a0), some (jy a1), none, none, some (jy l4), some (jy l5)] (0, 0) X I R) ?_
  · unfold wz_256 at h
    refine jy_aload_n hS rfl rfl ?_
    refine jy_iconst hS rfl ?_
    obtain ⟨g1, h⟩ := h
    refine jy_putI hS rfl (by decide) g1 ?_
    intro I2 e9
    have h := h I2 e9
    clear e9
    refine jy_aload_n hS rfl rfl ?_
    refine jy_iload_n hS rfl rfl ?_
    refine jy_iconst hS rfl ?_
    refine jy_bipush hS rfl (by decide) ?_
    obtain ⟨Q3, h⟩ := h
    obtain ⟨g4, h⟩ := h
    refine jy_callS hS rfl rfl rfl (Nat.le_of_ble_eq_true rfl) g4 (by decide) ⟨by decide, by decide⟩ (Nat.le_of_ble_eq_true rfl) ?_ ?_
    rotate_left
    · exact fun Ex Xx Ix Rx hp => hp.2.2.2.elim
    intro rv Xx I5 Rx hp
    obtain ⟨e1, e2, hp⟩ := hp
    rw [e1, e2]
    clear e1 e2
    obtain ⟨r6, e1, h⟩ := h rv I5 hp
    rw [e1]
    clear e1
    change J 13 [jy r6, .ref a0] _ (0, 0) _ _ _
    obtain ⟨g7, h⟩ := h
    refine jy_if_ne hS rfl g7 (fun hq => ?_) (fun hq => ?_)
    · have h := h.1 hq
      refine jy_iconst hS rfl ?_
      exact jy_join hS h rfl (jy_sub_s (jy_sub_s (jy_sub_s (jy_sub_n (jy_sub_n (jy_sub_n jy_sub_0))))))
    · have h := h.2 hq
      refine jy_iconst hS rfl ?_
      refine jy_goto hS rfl ?_
      exact jy_join hS h rfl (jy_sub_s (jy_sub_s (jy_sub_s (jy_sub_n (jy_sub_n (jy_sub_n jy_sub_0))))))
  refine ⟨?_, ?_, ?_, ?_⟩
  · intro s0 s1 I h
    unfold wz_256_21 at h
    refine jy_iconst hS rfl ?_
    refine jy_iconst hS rfl ?_
    obtain ⟨g8, h⟩ := h
    obtain ⟨Q9, h⟩ := h
    obtain ⟨g10, h⟩ := h
    refine jy_callV hS rfl rfl rfl (Nat.le_of_ble_eq_true rfl) (Or.inl g8) g10 (by decide) ⟨by decide, by decide⟩ (Nat.le_of_ble_eq_true rfl) ?_ ?_
    rotate_left
    · exact fun Ex Xx Ix Rx hp => hp.2.2.2.elim
    intro rv Xx I11 Rx hp
    obtain ⟨e1, e2, hp⟩ := hp
    rw [e1, e2]
    clear e1 e2
    obtain ⟨r12, e1, h⟩ := h rv I11 hp
    rw [e1]
    clear e1
    change J 26 [jy r12] _ (0, 0) _ _ _
    obtain ⟨g13, h⟩ := h
    refine jy_if_eq hS rfl g13 (fun hq => ?_) (fun hq => ?_)
    · have h := h.1 hq
      refine jy_aload_n hS rfl rfl ?_
      refine jy_lload_n hS rfl rfl ?_
      refine jy_iload_n hS rfl rfl ?_
      obtain ⟨g14, h⟩ := h
      obtain ⟨Q15, h⟩ := h
      obtain ⟨g16, h⟩ := h
      refine jy_callV hS rfl rfl rfl (Nat.le_of_ble_eq_true rfl) (Or.inl g14) g16 (by decide) ⟨by decide, by decide⟩ (Nat.le_of_ble_eq_true rfl) ?_ ?_
      rotate_left
      · exact fun Ex Xx Ix Rx hp => hp.2.2.2.elim
      intro rv Xx I17 Rx hp
      obtain ⟨e1, e2, hp⟩ := hp
      rw [e1, e2]
      clear e1 e2
      obtain ⟨r18, e1, h⟩ := h rv I17 hp
      rw [e1]
      clear e1
      change J 37 [jy r18] _ (0, 0) _ _ _
      obtain ⟨g19, h⟩ := h
      refine jy_if_ne hS rfl g19 (fun hq => ?_) (fun hq => ?_)
      · have h := h.1 hq
        refine jy_iconst hS rfl ?_
        refine jy_istore hS rfl (Nat.le_of_ble_eq_true rfl) (L' := [some (.ref a0), some (jy a1), some (.long a2), none, some (jy 0), none]) rfl ?_
        refine jy_iconst hS rfl ?_
        refine jy_istore hS rfl (Nat.le_of_ble_eq_true rfl) (L' := [some (.ref a0), some (jy a1), some (.long a2), none, some (jy 0), some (jy 0)]) rfl ?_
        exact jy_join hS h rfl (jy_sub_s (jy_sub_s (jy_sub_n (jy_sub_n (jy_sub_s (jy_sub_s jy_sub_0))))))
      · have h := h.2 hq
        refine jy_iconst hS rfl ?_
        exact jy_iret hS rfl rfl ⟨rfl, rfl, h⟩
    · have h := h.2 hq
      refine jy_iconst hS rfl ?_
      exact jy_iret hS rfl rfl ⟨rfl, rfl, h⟩
  · intro l4 l5 I h
    unfold wz_256_48 at h
    refine jy_iload hS rfl rfl ?_
    refine jy_iload_n hS rfl rfl ?_
    obtain ⟨g20, h⟩ := h
    refine jy_icmp_ge hS rfl ⟨g20, r_a1⟩ (fun hq => ?_) (fun hq => ?_)
    · have h := h.1 hq
      refine jy_iconst hS rfl ?_
      refine jy_istore hS rfl (Nat.le_of_ble_eq_true rfl) (L' := [some (.ref a0), some (jy a1), none, none, some (jy l4), some (jy 0)]) rfl ?_
      exact jy_join hS h rfl (jy_sub_s (jy_sub_s (jy_sub_n (jy_sub_n (jy_sub_s (jy_sub_s jy_sub_0))))))
    · have h := h.2 hq
      refine jy_aload_n hS rfl rfl ?_
      refine jy_aload_n hS rfl rfl ?_
      obtain ⟨g21, h⟩ := h
      obtain ⟨q22, h⟩ := h
      obtain ⟨g23, h⟩ := h
      refine jy_getR hS rfl (by decide) g21 g23 ?_
      refine jy_iload hS rfl rfl ?_
      obtain ⟨n24, h⟩ := h
      obtain ⟨g25, h⟩ := h
      obtain ⟨g26, h⟩ := h
      refine jy_iald hS rfl g25.1 (Nat.le_of_lt g25.2) g26 ?_
      obtain ⟨Q27, h⟩ := h
      obtain ⟨g28, h⟩ := h
      refine jy_callV hS rfl rfl rfl (Nat.le_of_ble_eq_true rfl) (Or.inl g21) g28 (by decide) ⟨by decide, by decide⟩ (Nat.le_of_ble_eq_true rfl) ?_ ?_
      rotate_left
      · exact fun Ex Xx Ix Rx hp => hp.2.2.2.elim
      intro rv Xx I29 Rx hp
      obtain ⟨e1, e2, hp⟩ := hp
      rw [e1, e2]
      clear e1 e2
      obtain ⟨r30, e1, h⟩ := h rv I29 hp
      rw [e1]
      clear e1
      change J 65 [jy r30] _ (0, 0) _ _ _
      obtain ⟨g31, h⟩ := h
      refine jy_if_eq hS rfl g31 (fun hq => ?_) (fun hq => ?_)
      · have h := h.1 hq
        refine jy_iconst hS rfl ?_
        exact jy_iret hS rfl rfl ⟨rfl, rfl, h⟩
      · have h := h.2 hq
        refine jy_iload hS rfl rfl ?_
        refine jy_if_le hS rfl g20 (fun hq => ?_) (fun hq => ?_)
        · have h := h.1 hq
          refine jy_iload hS rfl rfl ?_
          refine jy_iload hS rfl rfl ?_
          refine jy_if_ne hS rfl g20 (fun hq => ?_) (fun hq => ?_)
          · have h := h.1 hq
            refine jy_aload_n hS rfl rfl ?_
            obtain ⟨q32, h⟩ := h
            obtain ⟨g33, h⟩ := h
            refine jy_getR hS rfl (by decide) g21 g33 ?_
            refine jy_aload_n hS rfl rfl ?_
            refine jy_getR hS rfl (by decide) g21 g23 ?_
            refine jy_iload hS rfl rfl ?_
            refine jy_iconst hS rfl ?_
            refine jy_isub hS rfl ?_
            obtain ⟨g34, h⟩ := h
            refine jy_iald hS rfl g25.1 (Nat.le_of_lt g25.2) g34 ?_
            obtain ⟨n35, h⟩ := h
            obtain ⟨g36, h⟩ := h
            obtain ⟨g37, h⟩ := h
            obtain ⟨q38, h⟩ := h
            obtain ⟨g39, h⟩ := h
            refine jy_aald hS rfl g36.1 (by decide) (Nat.le_of_lt g36.2) g37 g39 ?_
            refine jy_aload_n hS rfl rfl ?_
            refine jy_getR hS rfl (by decide) g21 g23 ?_
            refine jy_iload hS rfl rfl ?_
            obtain ⟨g40, h⟩ := h
            refine jy_iald hS rfl g25.1 (Nat.le_of_lt g25.2) g40 ?_
            obtain ⟨n41, h⟩ := h
            obtain ⟨g42, h⟩ := h
            obtain ⟨g43, h⟩ := h
            refine jy_iald hS rfl g42.1 (Nat.le_of_lt g42.2) g43 ?_
            exact jy_join hS h rfl (jy_sub_s (jy_sub_s (jy_sub_n (jy_sub_n (jy_sub_n (jy_sub_s jy_sub_0))))))
          · have h := h.2 hq
            refine jy_iconst hS rfl ?_
            refine jy_goto hS rfl ?_
            exact jy_join hS h rfl (jy_sub_s (jy_sub_s (jy_sub_n (jy_sub_n (jy_sub_n (jy_sub_s jy_sub_0))))))
        · have h := h.2 hq
          refine jy_aload_n hS rfl rfl ?_
          obtain ⟨q44, h⟩ := h
          obtain ⟨g45, h⟩ := h
          refine jy_getR hS rfl (by decide) g21 g45 ?_
          refine jy_aload_n hS rfl rfl ?_
          refine jy_getR hS rfl (by decide) g21 g23 ?_
          refine jy_iload hS rfl rfl ?_
          refine jy_iconst hS rfl ?_
          refine jy_isub hS rfl ?_
          obtain ⟨g46, h⟩ := h
          refine jy_iald hS rfl g25.1 (Nat.le_of_lt g25.2) g46 ?_
          obtain ⟨n47, h⟩ := h
          obtain ⟨g48, h⟩ := h
          obtain ⟨g49, h⟩ := h
          obtain ⟨q50, h⟩ := h
          obtain ⟨g51, h⟩ := h
          refine jy_aald hS rfl g48.1 (by decide) (Nat.le_of_lt g48.2) g49 g51 ?_
          refine jy_aload_n hS rfl rfl ?_
          refine jy_getR hS rfl (by decide) g21 g23 ?_
          refine jy_iload hS rfl rfl ?_
          obtain ⟨g52, h⟩ := h
          refine jy_iald hS rfl g25.1 (Nat.le_of_lt g25.2) g52 ?_
          obtain ⟨n53, h⟩ := h
          obtain ⟨g54, h⟩ := h
          obtain ⟨g55, h⟩ := h
          refine jy_iald hS rfl g54.1 (Nat.le_of_lt g54.2) g55 ?_
          refine jy_if_ne hS rfl (jy_rng _) (fun hq => ?_) (fun hq => ?_)
          · have h := h.1 hq
            refine jy_iload hS rfl rfl ?_
            refine jy_iload hS rfl rfl ?_
            refine jy_if_ne hS rfl g20 (fun hq => ?_) (fun hq => ?_)
            · have h := h.1 hq
              refine jy_aload_n hS rfl rfl ?_
              refine jy_getR hS rfl (by decide) g21 g45 ?_
              refine jy_aload_n hS rfl rfl ?_
              refine jy_getR hS rfl (by decide) g21 g23 ?_
              refine jy_iload hS rfl rfl ?_
              refine jy_iconst hS rfl ?_
              refine jy_isub hS rfl ?_
              obtain ⟨g56, h⟩ := h
              refine jy_iald hS rfl g25.1 (Nat.le_of_lt g25.2) g56 ?_
              obtain ⟨g57, h⟩ := h
              obtain ⟨q58, h⟩ := h
              obtain ⟨g59, h⟩ := h
              refine jy_aald hS rfl g48.1 (by decide) (Nat.le_of_lt g48.2) g57 g59 ?_
              refine jy_aload_n hS rfl rfl ?_
              refine jy_getR hS rfl (by decide) g21 g23 ?_
              refine jy_iload hS rfl rfl ?_
              obtain ⟨g60, h⟩ := h
              refine jy_iald hS rfl g25.1 (Nat.le_of_lt g25.2) g60 ?_
              obtain ⟨n61, h⟩ := h
              obtain ⟨g62, h⟩ := h
              obtain ⟨g63, h⟩ := h
              refine jy_iald hS rfl g62.1 (Nat.le_of_lt g62.2) g63 ?_
              exact jy_join hS h rfl (jy_sub_s (jy_sub_s (jy_sub_n (jy_sub_n (jy_sub_n (jy_sub_s jy_sub_0))))))
            · have h := h.2 hq
              refine jy_iconst hS rfl ?_
              refine jy_goto hS rfl ?_
              exact jy_join hS h rfl (jy_sub_s (jy_sub_s (jy_sub_n (jy_sub_n (jy_sub_n (jy_sub_s jy_sub_0))))))
          · have h := h.2 hq
            refine jy_iconst hS rfl ?_
            exact jy_iret hS rfl rfl ⟨rfl, rfl, h⟩
  · intro s0 s1 l5 I h
    unfold wz_256_133 at h
    refine jy_iadd hS rfl ?_
    refine jy_istore hS rfl (Nat.le_of_ble_eq_true rfl) (L' := [some (.ref a0), some (jy a1), none, none, some (jy (s0 + s1)), some (jy l5)]) rfl ?_
    refine jy_iinc hS rfl rfl (L' := [some (.ref a0), some (jy a1), none, none, some (jy (s0 + s1)), some (jy (l5 + 1))]) rfl ?_
    refine jy_goto hS rfl ?_
    exact jy_join hS h rfl (jy_sub_s (jy_sub_s (jy_sub_n (jy_sub_n (jy_sub_s (jy_sub_s jy_sub_0))))))
  · intro l4 l5 I h
    unfold wz_256_145 at h
    refine jy_iload hS rfl rfl ?_
    refine jy_iload_n hS rfl rfl ?_
    obtain ⟨g64, h⟩ := h
    refine jy_icmp_ge hS rfl ⟨g64, r_a1⟩ (fun hq => ?_) (fun hq => ?_)
    · have h := h.1 hq
      refine jy_aload_n hS rfl rfl ?_
      refine jy_iload_n hS rfl rfl ?_
      obtain ⟨g65, h⟩ := h
      refine jy_putI hS rfl (by decide) g65 ?_
      intro I66 e9
      have h := h I66 e9
      clear e9
      refine jy_iload hS rfl rfl ?_
      exact jy_iret hS rfl rfl ⟨rfl, rfl, h⟩
    · have h := h.2 hq
      refine jy_aload_n hS rfl rfl ?_
      obtain ⟨g67, h⟩ := h
      obtain ⟨q68, h⟩ := h
      obtain ⟨g69, h⟩ := h
      refine jy_getR hS rfl (by decide) g67 g69 ?_
      refine jy_iload hS rfl rfl ?_
      refine jy_aload_n hS rfl rfl ?_
      obtain ⟨q70, h⟩ := h
      obtain ⟨g71, h⟩ := h
      refine jy_getR hS rfl (by decide) g67 g71 ?_
      refine jy_iload hS rfl rfl ?_
      obtain ⟨n72, h⟩ := h
      obtain ⟨g73, h⟩ := h
      obtain ⟨g74, h⟩ := h
      refine jy_iald hS rfl g73.1 (Nat.le_of_lt g73.2) g74 ?_
      obtain ⟨n75, h⟩ := h
      obtain ⟨g76, h⟩ := h
      obtain ⟨g77, h⟩ := h
      refine jy_iast hS rfl g76.1 (Nat.le_of_lt g76.2) g77 ?_
      intro I78 e9
      have h := h I78 e9
      clear e9
      refine jy_iinc hS rfl rfl (L' := [some (.ref a0), some (jy a1), none, none, some (jy l4), some (jy (l5 + 1))]) rfl ?_
      refine jy_goto hS rfl ?_
      exact jy_join hS h rfl (jy_sub_s (jy_sub_s (jy_sub_n (jy_sub_n (jy_sub_s (jy_sub_s jy_sub_0))))))
theorem jt_257 : jx_ml 257 = 2 ∧ jx_rt 257 = some .int ∧ jx_hz 257 = [] ∧ decide ((jx_nm 257).name = "<init>") = false ∧ jx_code 257 = jx_c257 := by decide +kernel
/-- GCModel.at -/
def wz_257 (V : jx_V) (X : jx_X) (R : jx_R) (Q : Option Value → jx_I → Prop) (QE : String → jx_I → Prop)  (a0 : Nat) (a1 : Int) (I : jx_I) : Prop :=
  (X.2.1 a0 = some (12, 0)) ∧ (
  ∀ I2 : jx_I, I2 = jx_u I a0 0 (Int32.ofInt 0) → (
  ∃ Q3 : Option Value → jx_I → Prop, (
  (jc V 1 203 (0, 0) [jy a1, jy 0, jy ((I2 a0 37).toInt - 1)] X I2 R Q3 (fun _ _ => False)) ∧ (
  ∀ rv I5, Q3 rv I5 → ∃ r6 : Int, rv = some (jy r6) ∧ (
  (-2147483648 ≤ r6 ∧ r6 < 2147483648) ∧ (
  (r6 = 0 → (
    Q (some (jy (-1))) I5
  )) ∧ (¬ r6 = 0 → (
    ∃ q8 : Nat, (
    (R a0 35 = some q8) ∧ (
    ∃ n10 : Nat, (
    (X.2.1 q8 = some (100, n10) ∧ n10 < 2147483648) ∧ (
    (0 ≤ a1 ∧ a1 < n10) ∧ (
    Q (some (jy ((I5 q8 a1.toNat).toInt))) I5)))))
  ))))))))
set_option maxRecDepth 20000 in
theorem wm_257 {V : jx_V} (hV : V.1.stackTraces = false) {X : jx_X} {R : jx_R} {I : jx_I} {Q : Option Value → jx_I → Prop} {QE : String → jx_I → Prop} {a0 : Nat} {a1 : Int} (r_a1 : -2147483648 ≤ a1 ∧ a1 < 2147483648) 
    (h : wz_257 V X R Q QE  a0 a1 I) : jc V 2 257 (0, 0) [.ref a0, jy a1] X I R Q QE := by
  refine jy_met hV (by decide) (n := 2) (rt := some .int) (hh := []) (ini := false) (C := jx_c257) (L := [some (.ref a0), some (jy a1)]) jt_257 (Nat.le_of_ble_eq_true rfl) rfl ?_
  intro J hS
  unfold wz_257 at h
  refine jy_aload_n hS rfl rfl ?_
  refine jy_iconst hS rfl ?_
  obtain ⟨g1, h⟩ := h
  refine jy_putI hS rfl (by decide) g1 ?_
  intro I2 e9
  have h := h I2 e9
  clear e9
  refine jy_iload_n hS rfl rfl ?_
  refine jy_iconst hS rfl ?_
  refine jy_aload_n hS rfl rfl ?_
  refine jy_getI hS rfl (by decide) g1 ?_
  refine jy_iconst hS rfl ?_
  refine jy_isub hS rfl ?_
  obtain ⟨Q3, h⟩ := h
  obtain ⟨g4, h⟩ := h
  refine jy_callS hS rfl rfl rfl (Nat.le_of_ble_eq_true rfl) g4 (by decide) ⟨by decide, by decide⟩ (Nat.le_of_ble_eq_true rfl) ?_ ?_
  rotate_left
  · exact fun Ex Xx Ix Rx hp => hp.2.2.2.elim
  intro rv Xx I5 Rx hp
  obtain ⟨e1, e2, hp⟩ := hp
  rw [e1, e2]
  clear e1 e2
  obtain ⟨r6, e1, h⟩ := h rv I5 hp
  rw [e1]
  clear e1
  change J 16 [jy r6] _ (0, 0) _ _ _
  obtain ⟨g7, h⟩ := h
  refine jy_if_eq hS rfl g7 (fun hq => ?_) (fun hq => ?_)
  · have h := h.1 hq
    refine jy_iconst hS rfl ?_
    exact jy_iret hS rfl rfl ⟨rfl, rfl, h⟩
  · have h := h.2 hq
    refine jy_aload_n hS rfl rfl ?_
    obtain ⟨q8, h⟩ := h
    obtain ⟨g9, h⟩ := h
    refine jy_getR hS rfl (by decide) g1 g9 ?_
    refine jy_iload_n hS rfl rfl ?_
    obtain ⟨n10, h⟩ := h
    obtain ⟨g11, h⟩ := h
    obtain ⟨g12, h⟩ := h
    refine jy_iald hS rfl g11.1 (Nat.le_of_lt g11.2) g12 ?_
    refine jy_goto hS rfl ?_
    exact jy_iret hS rfl rfl ⟨rfl, rfl, h⟩
theorem jt_258 : jx_ml 258 = 2 ∧ jx_rt 258 = some .int ∧ jx_hz 258 = [] ∧ decide ((jx_nm 258).name = "<init>") = false ∧ jx_code 258 = jx_c258 := by decide +kernel
/-- GCModel.goes, from 12 -/
def wz_258_12 (V : jx_V) (X : jx_X) (R : jx_R) (Q : Option Value → jx_I → Prop) (QE : String → jx_I → Prop) (J12 : Int → jx_I → Prop) (a0 : Nat) (l1 : Int) (I : jx_I) : Prop :=
  (X.2.1 a0 = some (12, 0)) ∧ (
  (-2147483648 ≤ l1 ∧ l1 < 2147483648) ∧ (
  ((I a0 37).toInt ≤ l1 → (
    Q (some (jy ((I a0 48).toInt + (I a0 49).toInt))) I
  )) ∧ (¬ (I a0 37).toInt ≤ l1 → (
    ∃ q6 : Nat, (
    (R a0 21 = some q6) ∧ (
    ∃ q8 : Nat, (
    (R a0 35 = some q8) ∧ (
    ∃ n10 : Nat, (
    (X.2.1 q8 = some (100, n10) ∧ n10 < 2147483648) ∧ (
    (0 ≤ (l1 - 1) ∧ (l1 - 1) < n10) ∧ (
    ∃ n13 : Nat, (
    (X.2.1 q6 = some (104, n13) ∧ n13 < 2147483648) ∧ (
    (0 ≤ (I q8 (l1 - 1).toNat).toInt ∧ (I q8 (l1 - 1).toNat).toInt < n13) ∧ (
    ∃ q16 : Nat, (
    (R q6 ((I q8 (l1 - 1).toNat).toInt).toNat = some q16) ∧ (
    (0 ≤ l1 ∧ l1 < n10) ∧ (
    ∃ n19 : Nat, (
    (X.2.1 q16 = some (100, n19) ∧ n19 < 2147483648) ∧ (
    (0 ≤ (I q8 l1.toNat).toInt ∧ (I q8 l1.toNat).toInt < n19) ∧ (
    ∀ I22 : jx_I, I22 = jx_u I a0 48 (Int32.ofInt ((I a0 48).toInt + (I q16 ((I q8 l1.toNat).toInt).toNat).toInt)) → (
    (0 ≤ l1 ∧ l1 < n10) ∧ (
    ∃ Q24 : Option Value → jx_I → Prop, (
    (jc V 4 255 (0, 0) [.ref a0, jy ((I22 q8 l1.toNat).toInt)] X I22 R Q24 (fun _ _ => False)) ∧ (
    ∀ rv I26, Q24 rv I26 → ∃ r27 : Int, rv = some (jy r27) ∧ (
    ∀ I28 : jx_I, I28 = jx_u I26 a0 49 (Int32.ofInt ((I22 a0 49).toInt + r27)) → (
    J12 (l1 + 1) I28))))))))))))))))))))))
  ))))
/-- GCModel.goes -/
def wz_258 (V : jx_V) (X : jx_X) (R : jx_R) (Q : Option Value → jx_I → Prop) (QE : String → jx_I → Prop) (J12 : Int → jx_I → Prop) (a0 : Nat) (I : jx_I) : Prop :=
  (X.2.1 a0 = some (12, 0)) ∧ (
  ∀ I2 : jx_I, I2 = jx_u I a0 48 (Int32.ofInt 0) → (
  ∀ I3 : jx_I, I3 = jx_u I2 a0 49 (Int32.ofInt 0) → (
  J12 1 I3)))
set_option maxRecDepth 20000 in
theorem wm_258 {V : jx_V} (hV : V.1.stackTraces = false) {X : jx_X} {R : jx_R} {I : jx_I} {Q : Option Value → jx_I → Prop} {QE : String → jx_I → Prop} {a0 : Nat}  
    (h : ∀ (J12 : Int → jx_I → Prop), ((∀ (l1 : Int) I, wz_258_12 V X R Q QE J12 a0 l1 I → J12 l1 I)) → wz_258 V X R Q QE J12 a0 I) : jc V 5 258 (0, 0) [.ref a0] X I R Q QE := by
  refine jy_met hV (by decide) (n := 2) (rt := some .int) (hh := []) (ini := false) (C := jx_c258) (L := [some (.ref a0), none]) jt_258 (Nat.le_of_ble_eq_true rfl) rfl ?_
  intro J hS
  have h := h (fun l1 I => J 12 [] [some (.ref a0), some (jy l1)] (0, 0) X I R) ?_
  · unfold wz_258 at h
    refine jy_aload_n hS rfl rfl ?_
    refine jy_iconst hS rfl ?_
    obtain ⟨g1, h⟩ := h
    refine jy_putI hS rfl (by decide) g1 ?_
    intro I2 e9
    have h := h I2 e9
    clear e9
    refine jy_aload_n hS rfl rfl ?_
    refine jy_iconst hS rfl ?_
    refine jy_putI hS rfl (by decide) g1 ?_
    intro I3 e9
    have h := h I3 e9
    clear e9
    refine jy_iconst hS rfl ?_
    refine jy_istore_n hS rfl (Nat.le_of_ble_eq_true rfl) (L' := [some (.ref a0), some (jy 1)]) rfl ?_
    exact jy_join hS h rfl (jy_sub_s (jy_sub_s jy_sub_0))
  · intro l1 I h
    unfold wz_258_12 at h
    refine jy_iload_n hS rfl rfl ?_
    refine jy_aload_n hS rfl rfl ?_
    obtain ⟨g4, h⟩ := h
    refine jy_getI hS rfl (by decide) g4 ?_
    obtain ⟨g5, h⟩ := h
    refine jy_icmp_ge hS rfl ⟨g5, (jy_rng _)⟩ (fun hq => ?_) (fun hq => ?_)
    · have h := h.1 hq
      refine jy_aload_n hS rfl rfl ?_
      refine jy_getI hS rfl (by decide) g4 ?_
      refine jy_aload_n hS rfl rfl ?_
      refine jy_getI hS rfl (by decide) g4 ?_
      refine jy_iadd hS rfl ?_
      exact jy_iret hS rfl rfl ⟨rfl, rfl, h⟩
    · have h := h.2 hq
      refine jy_aload_n hS rfl rfl ?_
      refine jy_dup hS rfl rfl ?_
      refine jy_getI hS rfl (by decide) g4 ?_
      refine jy_aload_n hS rfl rfl ?_
      obtain ⟨q6, h⟩ := h
      obtain ⟨g7, h⟩ := h
      refine jy_getR hS rfl (by decide) g4 g7 ?_
      refine jy_aload_n hS rfl rfl ?_
      obtain ⟨q8, h⟩ := h
      obtain ⟨g9, h⟩ := h
      refine jy_getR hS rfl (by decide) g4 g9 ?_
      refine jy_iload_n hS rfl rfl ?_
      refine jy_iconst hS rfl ?_
      refine jy_isub hS rfl ?_
      obtain ⟨n10, h⟩ := h
      obtain ⟨g11, h⟩ := h
      obtain ⟨g12, h⟩ := h
      refine jy_iald hS rfl g11.1 (Nat.le_of_lt g11.2) g12 ?_
      obtain ⟨n13, h⟩ := h
      obtain ⟨g14, h⟩ := h
      obtain ⟨g15, h⟩ := h
      obtain ⟨q16, h⟩ := h
      obtain ⟨g17, h⟩ := h
      refine jy_aald hS rfl g14.1 (by decide) (Nat.le_of_lt g14.2) g15 g17 ?_
      refine jy_aload_n hS rfl rfl ?_
      refine jy_getR hS rfl (by decide) g4 g9 ?_
      refine jy_iload_n hS rfl rfl ?_
      obtain ⟨g18, h⟩ := h
      refine jy_iald hS rfl g11.1 (Nat.le_of_lt g11.2) g18 ?_
      obtain ⟨n19, h⟩ := h
      obtain ⟨g20, h⟩ := h
      obtain ⟨g21, h⟩ := h
      refine jy_iald hS rfl g20.1 (Nat.le_of_lt g20.2) g21 ?_
      refine jy_iadd hS rfl ?_
      refine jy_putI hS rfl (by decide) g4 ?_
      intro I22 e9
      have h := h I22 e9
      clear e9
      refine jy_aload_n hS rfl rfl ?_
      refine jy_dup hS rfl rfl ?_
      refine jy_getI hS rfl (by decide) g4 ?_
      refine jy_aload_n hS rfl rfl ?_
      refine jy_aload_n hS rfl rfl ?_
      refine jy_getR hS rfl (by decide) g4 g9 ?_
      refine jy_iload_n hS rfl rfl ?_
      obtain ⟨g23, h⟩ := h
      refine jy_iald hS rfl g11.1 (Nat.le_of_lt g11.2) g23 ?_
      obtain ⟨Q24, h⟩ := h
      obtain ⟨g25, h⟩ := h
      refine jy_callV hS rfl rfl rfl (Nat.le_of_ble_eq_true rfl) (Or.inl g4) g25 (by decide) ⟨by decide, by decide⟩ (Nat.le_of_ble_eq_true rfl) ?_ ?_
      rotate_left
      · exact fun Ex Xx Ix Rx hp => hp.2.2.2.elim
      intro rv Xx I26 Rx hp
      obtain ⟨e1, e2, hp⟩ := hp
      rw [e1, e2]
      clear e1 e2
      obtain ⟨r27, e1, h⟩ := h rv I26 hp
      rw [e1]
      clear e1
      change J 64 [jy r27, jy ((I22 a0 49).toInt), .ref a0] _ (0, 0) _ _ _
      refine jy_iadd hS rfl ?_
      refine jy_putI hS rfl (by decide) g4 ?_
      intro I28 e9
      have h := h I28 e9
      clear e9
      refine jy_iinc hS rfl rfl (L' := [some (.ref a0), some (jy (l1 + 1))]) rfl ?_
      refine jy_goto hS rfl ?_
      exact jy_join hS h rfl (jy_sub_s (jy_sub_s jy_sub_0))
theorem jt_259 : jx_ml 259 = 1 ∧ jx_rt 259 = some .boolean ∧ jx_hz 259 = [] ∧ decide ((jx_nm 259).name = "<init>") = false ∧ jx_code 259 = jx_c259 := by decide +kernel
/-- GCModel.badRoute, from 13 -/
def wz_259_13 (V : jx_V) (X : jx_X) (R : jx_R) (Q : Option Value → jx_I → Prop) (QE : String → jx_I → Prop) (J13 : Nat → Int → jx_I → Prop) (a0 : Nat) (s0 : Nat) (s1 : Int) (I : jx_I) : Prop :=
  (X.2.1 s0 = some (12, 0)) ∧ (
  ∃ Q3 : Option Value → jx_I → Prop, (
  (jc V 1 202 (0, 0) [.ref s0, jy s1, jy 1, jy 3] X I R Q3 (fun _ _ => False)) ∧ (
  ∀ rv I5, Q3 rv I5 → ∃ r6 : Int, rv = some (jy r6) ∧ (
  (r6 = 0 ∨ r6 = 1) ∧ (
  Q (some (jy r6)) I5)))))
/-- GCModel.badRoute -/
def wz_259 (V : jx_V) (X : jx_X) (R : jx_R) (Q : Option Value → jx_I → Prop) (QE : String → jx_I → Prop) (J13 : Nat → Int → jx_I → Prop) (a0 : Nat) (I : jx_I) : Prop :=
  (X.2.1 a0 = some (12, 0)) ∧ (
  ((I a0 37).toInt ≠ 0 → (
    J13 a0 0 I
  )) ∧ ((I a0 37).toInt = 0 → (
    J13 a0 1 I
  )))
set_option maxRecDepth 20000 in
theorem wm_259 {V : jx_V} (hV : V.1.stackTraces = false) {X : jx_X} {R : jx_R} {I : jx_I} {Q : Option Value → jx_I → Prop} {QE : String → jx_I → Prop} {a0 : Nat}  
    (h : ∀ (J13 : Nat → Int → jx_I → Prop), ((∀ (s0 : Nat) (s1 : Int) I, wz_259_13 V X R Q QE J13 a0 s0 s1 I → J13 s0 s1 I)) → wz_259 V X R Q QE J13 a0 I) : jc V 2 259 (0, 0) [.ref a0] X I R Q QE := by
  refine jy_met hV (by decide) (n := 1) (rt := some .boolean) (hh := []) (ini := false) (C := jx_c259) (L := [some (.ref a0)]) jt_259 (Nat.le_of_ble_eq_true rfl) rfl ?_
  intro J hS
  have h := h (fun s0 s1 I => J 13 [jy s1, .ref s0] [none] (0, 0) X I R) ?_
  · unfold wz_259 at h
    refine jy_aload_n hS rfl rfl ?_
    refine jy_aload_n hS rfl rfl ?_
    obtain ⟨g1, h⟩ := h
    refine jy_getI hS rfl (by decide) g1 ?_
    refine jy_if_ne hS rfl (jy_rng _) (fun hq => ?_) (fun hq => ?_)
    · have h := h.1 hq
      refine jy_iconst hS rfl ?_
      exact jy_join hS h rfl (jy_sub_n jy_sub_0)
    · have h := h.2 hq
      refine jy_iconst hS rfl ?_
      refine jy_goto hS rfl ?_
      exact jy_join hS h rfl (jy_sub_n jy_sub_0)
  · intro s0 s1 I h
    unfold wz_259_13 at h
    refine jy_iconst hS rfl ?_
    refine jy_iconst hS rfl ?_
    obtain ⟨g2, h⟩ := h
    obtain ⟨Q3, h⟩ := h
    obtain ⟨g4, h⟩ := h
    refine jy_callV hS rfl rfl rfl (Nat.le_of_ble_eq_true rfl) (Or.inl g2) g4 (by decide) ⟨by decide, by decide⟩ (Nat.le_of_ble_eq_true rfl) ?_ ?_
    rotate_left
    · exact fun Ex Xx Ix Rx hp => hp.2.2.2.elim
    intro rv Xx I5 Rx hp
    obtain ⟨e1, e2, hp⟩ := hp
    rw [e1, e2]
    clear e1 e2
    obtain ⟨r6, e1, h⟩ := h rv I5 hp
    rw [e1]
    clear e1
    change J 18 [jy r6] _ (0, 0) _ _ _
    obtain ⟨g7, h⟩ := h
    exact jy_iret hS rfl (by rcases g7 with q | q <;> rw [q] <;> rfl) ⟨rfl, rfl, h⟩
theorem jt_260 : jx_ml 260 = 2 ∧ jx_rt 260 = some .boolean ∧ jx_hz 260 = [] ∧ decide ((jx_nm 260).name = "<init>") = false ∧ jx_code 260 = jx_c260 := by decide +kernel
/-- GCModel.badBoth, from 23 -/
def wz_260_23 (V : jx_V) (X : jx_X) (R : jx_R) (Q : Option Value → jx_I → Prop) (QE : String → jx_I → Prop) (J23 : Nat → Int → jx_I → Prop) (a0 : Nat) (a1 : Int) (s0 : Nat) (s1 : Int) (I : jx_I) : Prop :=
  (X.2.1 s0 = some (12, 0)) ∧ (
  ∃ Q8 : Option Value → jx_I → Prop, (
  (jc V 1 202 (0, 0) [.ref s0, jy s1, jy 2, jy 3] X I R Q8 (fun _ _ => False)) ∧ (
  ∀ rv I10, Q8 rv I10 → ∃ r11 : Int, rv = some (jy r11) ∧ (
  (-2147483648 ≤ r11 ∧ r11 < 2147483648) ∧ (
  (r11 = 0 → (
    Q (some (jy 0)) I10
  )) ∧ (¬ r11 = 0 → (
    Q (some (jy 1)) I10
  )))))))
/-- GCModel.badBoth -/
def wz_260 (V : jx_V) (X : jx_X) (R : jx_R) (Q : Option Value → jx_I → Prop) (QE : String → jx_I → Prop) (J23 : Nat → Int → jx_I → Prop) (a0 : Nat) (a1 : Int) (I : jx_I) : Prop :=
  (X.2.1 a0 = some (12, 0)) ∧ (
  ∃ Q2 : Option Value → jx_I → Prop, (
  (jc V 1 202 (0, 0) [.ref a0, jy a1, jy 1, jy 2] X I R Q2 (fun _ _ => False)) ∧ (
  ∀ rv I4, Q2 rv I4 → ∃ r5 : Int, rv = some (jy r5) ∧ (
  (-2147483648 ≤ r5 ∧ r5 < 2147483648) ∧ (
  (r5 ≠ 0 → (
    Q (some (jy 1)) I4
  )) ∧ (r5 = 0 → (
    ((I4 a0 37).toInt ≠ 0 → (
      J23 a0 0 I4
    )) ∧ ((I4 a0 37).toInt = 0 → (
      J23 a0 1 I4
    ))
  )))))))
set_option maxRecDepth 20000 in
theorem wm_260 {V : jx_V} (hV : V.1.stackTraces = false) {X : jx_X} {R : jx_R} {I : jx_I} {Q : Option Value → jx_I → Prop} {QE : String → jx_I → Prop} {a0 : Nat} {a1 : Int} (r_a1 : -2147483648 ≤ a1 ∧ a1 < 2147483648) 
    (h : ∀ (J23 : Nat → Int → jx_I → Prop), ((∀ (s0 : Nat) (s1 : Int) I, wz_260_23 V X R Q QE J23 a0 a1 s0 s1 I → J23 s0 s1 I)) → wz_260 V X R Q QE J23 a0 a1 I) : jc V 2 260 (0, 0) [.ref a0, jy a1] X I R Q QE := by
  refine jy_met hV (by decide) (n := 2) (rt := some .boolean) (hh := []) (ini := false) (C := jx_c260) (L := [some (.ref a0), some (jy a1)]) jt_260 (Nat.le_of_ble_eq_true rfl) rfl ?_
  intro J hS
  have h := h (fun s0 s1 I => J 23 [jy s1, .ref s0] [none, none] (0, 0) X I R) ?_
  · unfold wz_260 at h
    refine jy_aload_n hS rfl rfl ?_
    refine jy_iload_n hS rfl rfl ?_
    refine jy_iconst hS rfl ?_
    refine jy_iconst hS rfl ?_
    obtain ⟨g1, h⟩ := h
    obtain ⟨Q2, h⟩ := h
    obtain ⟨g3, h⟩ := h
    refine jy_callV hS rfl rfl rfl (Nat.le_of_ble_eq_true rfl) (Or.inl g1) g3 (by decide) ⟨by decide, by decide⟩ (Nat.le_of_ble_eq_true rfl) ?_ ?_
    rotate_left
    · exact fun Ex Xx Ix Rx hp => hp.2.2.2.elim
    intro rv Xx I4 Rx hp
    obtain ⟨e1, e2, hp⟩ := hp
    rw [e1, e2]
    clear e1 e2
    obtain ⟨r5, e1, h⟩ := h rv I4 hp
    rw [e1]
    clear e1
    change J 7 [jy r5] _ (0, 0) _ _ _
    obtain ⟨g6, h⟩ := h
    refine jy_if_ne hS rfl g6 (fun hq => ?_) (fun hq => ?_)
    · have h := h.1 hq
      refine jy_iconst hS rfl ?_
      refine jy_goto hS rfl ?_
      exact jy_iret hS rfl rfl ⟨rfl, rfl, h⟩
    · have h := h.2 hq
      refine jy_aload_n hS rfl rfl ?_
      refine jy_aload_n hS rfl rfl ?_
      refine jy_getI hS rfl (by decide) g1 ?_
      refine jy_if_ne hS rfl (jy_rng _) (fun hq => ?_) (fun hq => ?_)
      · have h := h.1 hq
        refine jy_iconst hS rfl ?_
        exact jy_join hS h rfl (jy_sub_n (jy_sub_n jy_sub_0))
      · have h := h.2 hq
        refine jy_iconst hS rfl ?_
        refine jy_goto hS rfl ?_
        exact jy_join hS h rfl (jy_sub_n (jy_sub_n jy_sub_0))
  · intro s0 s1 I h
    unfold wz_260_23 at h
    refine jy_iconst hS rfl ?_
    refine jy_iconst hS rfl ?_
    obtain ⟨g7, h⟩ := h
    obtain ⟨Q8, h⟩ := h
    obtain ⟨g9, h⟩ := h
    refine jy_callV hS rfl rfl rfl (Nat.le_of_ble_eq_true rfl) (Or.inl g7) g9 (by decide) ⟨by decide, by decide⟩ (Nat.le_of_ble_eq_true rfl) ?_ ?_
    rotate_left
    · exact fun Ex Xx Ix Rx hp => hp.2.2.2.elim
    intro rv Xx I10 Rx hp
    obtain ⟨e1, e2, hp⟩ := hp
    rw [e1, e2]
    clear e1 e2
    obtain ⟨r11, e1, h⟩ := h rv I10 hp
    rw [e1]
    clear e1
    change J 28 [jy r11] _ (0, 0) _ _ _
    obtain ⟨g12, h⟩ := h
    refine jy_if_eq hS rfl g12 (fun hq => ?_) (fun hq => ?_)
    · have h := h.1 hq
      refine jy_iconst hS rfl ?_
      exact jy_iret hS rfl rfl ⟨rfl, rfl, h⟩
    · have h := h.2 hq
      refine jy_iconst hS rfl ?_
      refine jy_goto hS rfl ?_
      exact jy_iret hS rfl rfl ⟨rfl, rfl, h⟩
theorem jt_261 : jx_ml 261 = 3 ∧ jx_rt 261 = some .int ∧ jx_hz 261 = [] ∧ decide ((jx_nm 261).name = "<init>") = false ∧ jx_code 261 = jx_c261 := by decide +kernel
/-- GCModel.hours, from 20 -/
def wz_261_20 (V : jx_V) (X : jx_X) (R : jx_R) (Q : Option Value → jx_I → Prop) (QE : String → jx_I → Prop) (J20 : Nat → Int → jx_I → Prop) (a0 : Nat) (a1 : Int) (s0 : Nat) (s1 : Int) (I : jx_I) : Prop :=
  (X.2.1 s0 = some (12, 0)) ∧ (
  ∃ Q9 : Option Value → jx_I → Prop, (
  (jc V 2 260 (0, 0) [.ref s0, jy s1] X I R Q9 (fun _ _ => False)) ∧ (
  ∀ rv I11, Q9 rv I11 → ∃ r12 : Int, rv = some (jy r12) ∧ (
  (-2147483648 ≤ r12 ∧ r12 < 2147483648) ∧ (
  (r12 = 0 → (
    (X.2.1 a0 = some (12, 0)) ∧ (
    ∃ Q15 : Option Value → jx_I → Prop, (
    (jc V 1 243 (0, 0) [.ref a0] X I11 R Q15 (fun _ _ => False)) ∧ (
    ∀ rv I17, Q15 rv I17 → rv = none ∧ (
    ∃ Q19 : Option Value → jx_I → Prop, (
    (jc V 5 258 (0, 0) [.ref a0] X I17 R Q19 (fun _ _ => False)) ∧ (
    ∀ rv I21, Q19 rv I21 → ∃ r22 : Int, rv = some (jy r22) ∧ (
    (a1 ≠ 0 → (
      (a1 ≠ 1 → (
        Q (some (jy ((I21 a0 49).toInt))) I21
      )) ∧ (a1 = 1 → (
        Q (some (jy ((I21 a0 48).toInt))) I21
      ))
    )) ∧ (a1 = 0 → (
      Q (some (jy r22)) I21
    )))))))))
  )) ∧ (¬ r12 = 0 → (
    Q (some (jy 0)) I11
  )))))))
/-- GCModel.hours -/
def wz_261 (V : jx_V) (X : jx_X) (R : jx_R) (Q : Option Value → jx_I → Prop) (QE : String → jx_I → Prop) (J20 : Nat → Int → jx_I → Prop) (a0 : Nat) (a1 : Int) (I : jx_I) : Prop :=
  (X.2.1 a0 = some (12, 0)) ∧ (
  ∀ I2 : jx_I, I2 = jx_u I a0 0 (Int32.ofInt 0) → (
  ∃ Q3 : Option Value → jx_I → Prop, (
  (jc V 1 203 (0, 0) [jy a1, jy 0, jy 2] X I2 R Q3 (fun _ _ => False)) ∧ (
  ∀ rv I5, Q3 rv I5 → ∃ r6 : Int, rv = some (jy r6) ∧ (
  (-2147483648 ≤ r6 ∧ r6 < 2147483648) ∧ (
  (r6 ≠ 0 → (
    J20 a0 0 I5
  )) ∧ (r6 = 0 → (
    J20 a0 1 I5
  ))))))))
set_option maxRecDepth 20000 in
theorem wm_261 {V : jx_V} (hV : V.1.stackTraces = false) {X : jx_X} {R : jx_R} {I : jx_I} {Q : Option Value → jx_I → Prop} {QE : String → jx_I → Prop} {a0 : Nat} {a1 : Int} (r_a1 : -2147483648 ≤ a1 ∧ a1 < 2147483648) 
    (h : ∀ (J20 : Nat → Int → jx_I → Prop), ((∀ (s0 : Nat) (s1 : Int) I, wz_261_20 V X R Q QE J20 a0 a1 s0 s1 I → J20 s0 s1 I)) → wz_261 V X R Q QE J20 a0 a1 I) : jc V 6 261 (0, 0) [.ref a0, jy a1] X I R Q QE := by
  refine jy_met hV (by decide) (n := 3) (rt := some .int) (hh := []) (ini := false) (C := jx_c261) (L := [some (.ref a0), some (jy a1), none]) jt_261 (Nat.le_of_ble_eq_true rfl) rfl ?_
  intro J hS
  have h := h (fun s0 s1 I => J 20 [jy s1, .ref s0] [some (.ref a0), some (jy a1), none] (0, 0) X I R) ?_
  · unfold wz_261 at h
    refine jy_aload_n hS rfl rfl ?_
    refine jy_iconst hS rfl ?_
    obtain ⟨g1, h⟩ := h
    refine jy_putI hS rfl (by decide) g1 ?_
    intro I2 e9
    have h := h I2 e9
    clear e9
    refine jy_aload_n hS rfl rfl ?_
    refine jy_iload_n hS rfl rfl ?_
    refine jy_iconst hS rfl ?_
    refine jy_iconst hS rfl ?_
    obtain ⟨Q3, h⟩ := h
    obtain ⟨g4, h⟩ := h
    refine jy_callS hS rfl rfl rfl (Nat.le_of_ble_eq_true rfl) g4 (by decide) ⟨by decide, by decide⟩ (Nat.le_of_ble_eq_true rfl) ?_ ?_
    rotate_left
    · exact fun Ex Xx Ix Rx hp => hp.2.2.2.elim
    intro rv Xx I5 Rx hp
    obtain ⟨e1, e2, hp⟩ := hp
    rw [e1, e2]
    clear e1 e2
    obtain ⟨r6, e1, h⟩ := h rv I5 hp
    rw [e1]
    clear e1
    change J 12 [jy r6, .ref a0] _ (0, 0) _ _ _
    obtain ⟨g7, h⟩ := h
    refine jy_if_ne hS rfl g7 (fun hq => ?_) (fun hq => ?_)
    · have h := h.1 hq
      refine jy_iconst hS rfl ?_
      exact jy_join hS h rfl (jy_sub_s (jy_sub_s (jy_sub_n jy_sub_0)))
    · have h := h.2 hq
      refine jy_iconst hS rfl ?_
      refine jy_goto hS rfl ?_
      exact jy_join hS h rfl (jy_sub_s (jy_sub_s (jy_sub_n jy_sub_0)))
  · intro s0 s1 I h
    unfold wz_261_20 at h
    obtain ⟨g8, h⟩ := h
    obtain ⟨Q9, h⟩ := h
    obtain ⟨g10, h⟩ := h
    refine jy_callV hS rfl rfl rfl (Nat.le_of_ble_eq_true rfl) (Or.inl g8) g10 (by decide) ⟨by decide, by decide⟩ (Nat.le_of_ble_eq_true rfl) ?_ ?_
    rotate_left
    · exact fun Ex Xx Ix Rx hp => hp.2.2.2.elim
    intro rv Xx I11 Rx hp
    obtain ⟨e1, e2, hp⟩ := hp
    rw [e1, e2]
    clear e1 e2
    obtain ⟨r12, e1, h⟩ := h rv I11 hp
    rw [e1]
    clear e1
    change J 23 [jy r12] _ (0, 0) _ _ _
    obtain ⟨g13, h⟩ := h
    refine jy_if_eq hS rfl g13 (fun hq => ?_) (fun hq => ?_)
    · have h := h.1 hq
      refine jy_aload_n hS rfl rfl ?_
      obtain ⟨g14, h⟩ := h
      obtain ⟨Q15, h⟩ := h
      obtain ⟨g16, h⟩ := h
      refine jy_callV hS rfl rfl rfl (Nat.le_of_ble_eq_true rfl) (Or.inl g14) g16 (by decide) ⟨by decide, by decide⟩ (Nat.le_of_ble_eq_true rfl) ?_ ?_
      rotate_left
      · exact fun Ex Xx Ix Rx hp => hp.2.2.2.elim
      intro rv Xx I17 Rx hp
      obtain ⟨e1, e2, hp⟩ := hp
      rw [e1, e2]
      clear e1 e2
      obtain ⟨e1, h⟩ := h rv I17 hp
      rw [e1]
      clear e1
      change J 32 [] _ (0, 0) _ _ _
      refine jy_aload_n hS rfl rfl ?_
      obtain ⟨Q19, h⟩ := h
      obtain ⟨g20, h⟩ := h
      refine jy_callV hS rfl rfl rfl (Nat.le_of_ble_eq_true rfl) (Or.inl g14) g20 (by decide) ⟨by decide, by decide⟩ (Nat.le_of_ble_eq_true rfl) ?_ ?_
      rotate_left
      · exact fun Ex Xx Ix Rx hp => hp.2.2.2.elim
      intro rv Xx I21 Rx hp
      obtain ⟨e1, e2, hp⟩ := hp
      rw [e1, e2]
      clear e1 e2
      obtain ⟨r22, e1, h⟩ := h rv I21 hp
      rw [e1]
      clear e1
      change J 36 [jy r22] _ (0, 0) _ _ _
      refine jy_istore_n hS rfl (Nat.le_of_ble_eq_true rfl) (L' := [some (.ref a0), some (jy a1), some (jy r22)]) rfl ?_
      refine jy_iload_n hS rfl rfl ?_
      refine jy_if_ne hS rfl r_a1 (fun hq => ?_) (fun hq => ?_)
      · have h := h.1 hq
        refine jy_iload_n hS rfl rfl ?_
        refine jy_iconst hS rfl ?_
        refine jy_icmp_ne hS rfl ⟨r_a1, ⟨by decide, by decide⟩⟩ (fun hq => ?_) (fun hq => ?_)
        · have h := h.1 hq
          refine jy_aload_n hS rfl rfl ?_
          refine jy_getI hS rfl (by decide) g14 ?_
          exact jy_iret hS rfl rfl ⟨rfl, rfl, h⟩
        · have h := h.2 hq
          refine jy_aload_n hS rfl rfl ?_
          refine jy_getI hS rfl (by decide) g14 ?_
          refine jy_goto hS rfl ?_
          exact jy_iret hS rfl rfl ⟨rfl, rfl, h⟩
      · have h := h.2 hq
        refine jy_iload_n hS rfl rfl ?_
        refine jy_goto hS rfl ?_
        exact jy_iret hS rfl rfl ⟨rfl, rfl, h⟩
    · have h := h.2 hq
      refine jy_iconst hS rfl ?_
      exact jy_iret hS rfl rfl ⟨rfl, rfl, h⟩
theorem jt_262 : jx_ml 262 = 3 ∧ jx_rt 262 = none ∧ jx_hz 262 = [] ∧ decide ((jx_nm 262).name = "<init>") = false ∧ jx_code 262 = jx_c262 := by decide +kernel
/-- GCModel.goesTo, from 6 -/
def wz_262_6 (V : jx_V) (X : jx_X) (R : jx_R) (Q : Option Value → jx_I → Prop) (QE : String → jx_I → Prop) (J6 : Int → jx_I → Prop) (a0 : Nat) (a1 : Int) (l2 : Int) (I : jx_I) : Prop :=
  (-2147483648 ≤ l2 ∧ l2 < 2147483648) ∧ (
  (a1 ≤ l2 → (
    Q none I
  )) ∧ (¬ a1 ≤ l2 → (
    (X.2.1 a0 = some (12, 0)) ∧ (
    ∃ q8 : Nat, (
    (R a0 35 = some q8) ∧ (
    ∃ n10 : Nat, (
    (X.2.1 q8 = some (100, n10) ∧ n10 < 2147483648) ∧ (
    (0 ≤ l2 ∧ l2 < n10) ∧ (
    ∃ Q13 : Option Value → jx_I → Prop, (
    (jc V 4 255 (0, 0) [.ref a0, jy ((I q8 l2.toNat).toInt)] X I R Q13 (fun _ _ => False)) ∧ (
    ∀ rv I15, Q13 rv I15 → ∃ r16 : Int, rv = some (jy r16) ∧ (
    J6 (l2 + 1) I15)))))))))
  )))
/-- GCModel.goesTo -/
def wz_262 (V : jx_V) (X : jx_X) (R : jx_R) (Q : Option Value → jx_I → Prop) (QE : String → jx_I → Prop) (J6 : Int → jx_I → Prop) (a0 : Nat) (a1 : Int) (I : jx_I) : Prop :=
  (X.2.1 a0 = some (12, 0)) ∧ (
  ∃ Q2 : Option Value → jx_I → Prop, (
  (jc V 1 243 (0, 0) [.ref a0] X I R Q2 (fun _ _ => False)) ∧ (
  ∀ rv I4, Q2 rv I4 → rv = none ∧ (
  J6 1 I4))))
set_option maxRecDepth 20000 in
theorem wm_262 {V : jx_V} (hV : V.1.stackTraces = false) {X : jx_X} {R : jx_R} {I : jx_I} {Q : Option Value → jx_I → Prop} {QE : String → jx_I → Prop} {a0 : Nat} {a1 : Int} (r_a1 : -2147483648 ≤ a1 ∧ a1 < 2147483648) 
    (h : ∀ (J6 : Int → jx_I → Prop), ((∀ (l2 : Int) I, wz_262_6 V X R Q QE J6 a0 a1 l2 I → J6 l2 I)) → wz_262 V X R Q QE J6 a0 a1 I) : jc V 5 262 (0, 0) [.ref a0, jy a1] X I R Q QE := by
  refine jy_met hV (by decide) (n := 3) (rt := none) (hh := []) (ini := false) (C := jx_c262) (L := [some (.ref a0), some (jy a1), none]) jt_262 (Nat.le_of_ble_eq_true rfl) rfl ?_
  intro J hS
  have h := h (fun l2 I => J 6 [] [some (.ref a0), some (jy a1), some (jy l2)] (0, 0) X I R) ?_
  · unfold wz_262 at h
    refine jy_aload_n hS rfl rfl ?_
    obtain ⟨g1, h⟩ := h
    obtain ⟨Q2, h⟩ := h
    obtain ⟨g3, h⟩ := h
    refine jy_callV hS rfl rfl rfl (Nat.le_of_ble_eq_true rfl) (Or.inl g1) g3 (by decide) ⟨by decide, by decide⟩ (Nat.le_of_ble_eq_true rfl) ?_ ?_
    rotate_left
    · exact fun Ex Xx Ix Rx hp => hp.2.2.2.elim
    intro rv Xx I4 Rx hp
    obtain ⟨e1, e2, hp⟩ := hp
    rw [e1, e2]
    clear e1 e2
    obtain ⟨e1, h⟩ := h rv I4 hp
    rw [e1]
    clear e1
    change J 4 [] _ (0, 0) _ _ _
    refine jy_iconst hS rfl ?_
    refine jy_istore_n hS rfl (Nat.le_of_ble_eq_true rfl) (L' := [some (.ref a0), some (jy a1), some (jy 1)]) rfl ?_
    exact jy_join hS h rfl (jy_sub_s (jy_sub_s (jy_sub_s jy_sub_0)))
  · intro l2 I h
    unfold wz_262_6 at h
    refine jy_iload_n hS rfl rfl ?_
    refine jy_iload_n hS rfl rfl ?_
    obtain ⟨g6, h⟩ := h
    refine jy_icmp_ge hS rfl ⟨g6, r_a1⟩ (fun hq => ?_) (fun hq => ?_)
    · have h := h.1 hq
      exact jy_ret hS rfl rfl ⟨rfl, rfl, h⟩
    · have h := h.2 hq
      refine jy_aload_n hS rfl rfl ?_
      refine jy_aload_n hS rfl rfl ?_
      obtain ⟨g7, h⟩ := h
      obtain ⟨q8, h⟩ := h
      obtain ⟨g9, h⟩ := h
      refine jy_getR hS rfl (by decide) g7 g9 ?_
      refine jy_iload_n hS rfl rfl ?_
      obtain ⟨n10, h⟩ := h
      obtain ⟨g11, h⟩ := h
      obtain ⟨g12, h⟩ := h
      refine jy_iald hS rfl g11.1 (Nat.le_of_lt g11.2) g12 ?_
      obtain ⟨Q13, h⟩ := h
      obtain ⟨g14, h⟩ := h
      refine jy_callV hS rfl rfl rfl (Nat.le_of_ble_eq_true rfl) (Or.inl g7) g14 (by decide) ⟨by decide, by decide⟩ (Nat.le_of_ble_eq_true rfl) ?_ ?_
      rotate_left
      · exact fun Ex Xx Ix Rx hp => hp.2.2.2.elim
      intro rv Xx I15 Rx hp
      obtain ⟨e1, e2, hp⟩ := hp
      rw [e1, e2]
      clear e1 e2
      obtain ⟨r16, e1, h⟩ := h rv I15 hp
      rw [e1]
      clear e1
      change J 21 [jy r16] _ (0, 0) _ _ _
      refine jy_pop hS rfl rfl ?_
      refine jy_iinc hS rfl rfl (L' := [some (.ref a0), some (jy a1), some (jy (l2 + 1))]) rfl ?_
      refine jy_goto hS rfl ?_
      exact jy_join hS h rfl (jy_sub_s (jy_sub_s (jy_sub_s jy_sub_0)))
theorem jt_263 : jx_ml 263 = 2 ∧ jx_rt 263 = some .int ∧ jx_hz 263 = [] ∧ decide ((jx_nm 263).name = "<init>") = false ∧ jx_code 263 = jx_c263 := by decide +kernel
/-- GCModel.stop -/
def wz_263 (V : jx_V) (X : jx_X) (R : jx_R) (Q : Option Value → jx_I → Prop) (QE : String → jx_I → Prop)  (a0 : Nat) (a1 : Int) (I : jx_I) : Prop :=
  (X.2.1 a0 = some (12, 0)) ∧ (
  ∀ I2 : jx_I, I2 = jx_u I a0 0 (Int32.ofInt 0) → (
  ∃ Q3 : Option Value → jx_I → Prop, (
  (jc V 2 259 (0, 0) [.ref a0] X I2 R Q3 (fun _ _ => False)) ∧ (
  ∀ rv I5, Q3 rv I5 → ∃ r6 : Int, rv = some (jy r6) ∧ (
  (-2147483648 ≤ r6 ∧ r6 < 2147483648) ∧ (
  (r6 = 0 → (
    ∃ Q8 : Option Value → jx_I → Prop, (
    (jc V 1 203 (0, 0) [jy a1, jy 0, jy ((I5 a0 37).toInt - 1)] X I5 R Q8 (fun _ _ => False)) ∧ (
    ∀ rv I10, Q8 rv I10 → ∃ r11 : Int, rv = some (jy r11) ∧ (
    (-2147483648 ≤ r11 ∧ r11 < 2147483648) ∧ (
    (r11 ≠ 0 → (
      ∃ Q13 : Option Value → jx_I → Prop, (
      (jc V 5 262 (0, 0) [.ref a0, jy a1] X I10 R Q13 (fun _ _ => False)) ∧ (
      ∀ rv I15, Q13 rv I15 → rv = none ∧ (
      (a1 ≠ 0 → (
        ∃ q17 : Nat, (
        (R a0 35 = some q17) ∧ (
        ∃ n19 : Nat, (
        (X.2.1 q17 = some (100, n19) ∧ n19 < 2147483648) ∧ (
        (0 ≤ a1 ∧ a1 < n19) ∧ (
        ∃ Q22 : Option Value → jx_I → Prop, (
        (jc V 3 246 (0, 0) [.ref a0, jy ((I15 q17 a1.toNat).toInt)] X I15 R Q22 (fun _ _ => False)) ∧ (
        ∀ rv I24, Q22 rv I24 → ∃ r25 : Int, rv = some (jy r25) ∧ (
        Q (some (jy r25)) I24))))))))
      )) ∧ (a1 = 0 → (
        Q (some (jy 0)) I15
      )))))
    )) ∧ (r11 = 0 → (
      Q (some (jy (-1))) I10
    ))))))
  )) ∧ (¬ r6 = 0 → (
    Q (some (jy 0)) I5
  ))))))))
set_option maxRecDepth 20000 in
theorem wm_263 {V : jx_V} (hV : V.1.stackTraces = false) {X : jx_X} {R : jx_R} {I : jx_I} {Q : Option Value → jx_I → Prop} {QE : String → jx_I → Prop} {a0 : Nat} {a1 : Int} (r_a1 : -2147483648 ≤ a1 ∧ a1 < 2147483648) 
    (h : wz_263 V X R Q QE  a0 a1 I) : jc V 6 263 (0, 0) [.ref a0, jy a1] X I R Q QE := by
  refine jy_met hV (by decide) (n := 2) (rt := some .int) (hh := []) (ini := false) (C := jx_c263) (L := [some (.ref a0), some (jy a1)]) jt_263 (Nat.le_of_ble_eq_true rfl) rfl ?_
  intro J hS
  unfold wz_263 at h
  refine jy_aload_n hS rfl rfl ?_
  refine jy_iconst hS rfl ?_
  obtain ⟨g1, h⟩ := h
  refine jy_putI hS rfl (by decide) g1 ?_
  intro I2 e9
  have h := h I2 e9
  clear e9
  refine jy_aload_n hS rfl rfl ?_
  obtain ⟨Q3, h⟩ := h
  obtain ⟨g4, h⟩ := h
  refine jy_callV hS rfl rfl rfl (Nat.le_of_ble_eq_true rfl) (Or.inl g1) g4 (by decide) ⟨by decide, by decide⟩ (Nat.le_of_ble_eq_true rfl) ?_ ?_
  rotate_left
  · exact fun Ex Xx Ix Rx hp => hp.2.2.2.elim
  intro rv Xx I5 Rx hp
  obtain ⟨e1, e2, hp⟩ := hp
  rw [e1, e2]
  clear e1 e2
  obtain ⟨r6, e1, h⟩ := h rv I5 hp
  rw [e1]
  clear e1
  change J 9 [jy r6] _ (0, 0) _ _ _
  obtain ⟨g7, h⟩ := h
  refine jy_if_eq hS rfl g7 (fun hq => ?_) (fun hq => ?_)
  · have h := h.1 hq
    refine jy_iload_n hS rfl rfl ?_
    refine jy_iconst hS rfl ?_
    refine jy_aload_n hS rfl rfl ?_
    refine jy_getI hS rfl (by decide) g1 ?_
    refine jy_iconst hS rfl ?_
    refine jy_isub hS rfl ?_
    obtain ⟨Q8, h⟩ := h
    obtain ⟨g9, h⟩ := h
    refine jy_callS hS rfl rfl rfl (Nat.le_of_ble_eq_true rfl) g9 (by decide) ⟨by decide, by decide⟩ (Nat.le_of_ble_eq_true rfl) ?_ ?_
    rotate_left
    · exact fun Ex Xx Ix Rx hp => hp.2.2.2.elim
    intro rv Xx I10 Rx hp
    obtain ⟨e1, e2, hp⟩ := hp
    rw [e1, e2]
    clear e1 e2
    obtain ⟨r11, e1, h⟩ := h rv I10 hp
    rw [e1]
    clear e1
    change J 25 [jy r11] _ (0, 0) _ _ _
    obtain ⟨g12, h⟩ := h
    refine jy_if_ne hS rfl g12 (fun hq => ?_) (fun hq => ?_)
    · have h := h.1 hq
      refine jy_aload_n hS rfl rfl ?_
      refine jy_iload_n hS rfl rfl ?_
      obtain ⟨Q13, h⟩ := h
      obtain ⟨g14, h⟩ := h
      refine jy_callV hS rfl rfl rfl (Nat.le_of_ble_eq_true rfl) (Or.inl g1) g14 (by decide) ⟨by decide, by decide⟩ (Nat.le_of_ble_eq_true rfl) ?_ ?_
      rotate_left
      · exact fun Ex Xx Ix Rx hp => hp.2.2.2.elim
      intro rv Xx I15 Rx hp
      obtain ⟨e1, e2, hp⟩ := hp
      rw [e1, e2]
      clear e1 e2
      obtain ⟨e1, h⟩ := h rv I15 hp
      rw [e1]
      clear e1
      change J 35 [] _ (0, 0) _ _ _
      refine jy_iload_n hS rfl rfl ?_
      refine jy_if_ne hS rfl r_a1 (fun hq => ?_) (fun hq => ?_)
      · have h := h.1 hq
        refine jy_aload_n hS rfl rfl ?_
        refine jy_aload_n hS rfl rfl ?_
        obtain ⟨q17, h⟩ := h
        obtain ⟨g18, h⟩ := h
        refine jy_getR hS rfl (by decide) g1 g18 ?_
        refine jy_iload_n hS rfl rfl ?_
        obtain ⟨n19, h⟩ := h
        obtain ⟨g20, h⟩ := h
        obtain ⟨g21, h⟩ := h
        refine jy_iald hS rfl g20.1 (Nat.le_of_lt g20.2) g21 ?_
        obtain ⟨Q22, h⟩ := h
        obtain ⟨g23, h⟩ := h
        refine jy_callV hS rfl rfl rfl (Nat.le_of_ble_eq_true rfl) (Or.inl g1) g23 (by decide) ⟨by decide, by decide⟩ (Nat.le_of_ble_eq_true rfl) ?_ ?_
        rotate_left
        · exact fun Ex Xx Ix Rx hp => hp.2.2.2.elim
        intro rv Xx I24 Rx hp
        obtain ⟨e1, e2, hp⟩ := hp
        rw [e1, e2]
        clear e1 e2
        obtain ⟨r25, e1, h⟩ := h rv I24 hp
        rw [e1]
        clear e1
        change J 53 [jy r25] _ (0, 0) _ _ _
        exact jy_iret hS rfl rfl ⟨rfl, rfl, h⟩
      · have h := h.2 hq
        refine jy_iconst hS rfl ?_
        refine jy_goto hS rfl ?_
        exact jy_iret hS rfl rfl ⟨rfl, rfl, h⟩
    · have h := h.2 hq
      refine jy_iconst hS rfl ?_
      exact jy_iret hS rfl rfl ⟨rfl, rfl, h⟩
  · have h := h.2 hq
    refine jy_iconst hS rfl ?_
    exact jy_iret hS rfl rfl ⟨rfl, rfl, h⟩
theorem jt_264 : jx_ml 264 = 5 ∧ jx_rt 264 = some .int ∧ jx_hz 264 = [] ∧ decide ((jx_nm 264).name = "<init>") = false ∧ jx_code 264 = jx_c264 := by decide +kernel
/-- GCModel.whose, from 42 -/
def wz_264_42 (V : jx_V) (X : jx_X) (R : jx_R) (Q : Option Value → jx_I → Prop) (QE : String → jx_I → Prop) (J42 : Int → Int → Int → jx_I → Prop) (J105 : Int → Int → Int → jx_I → Prop) (a0 : Nat) (a1 : Int) (l2 : Int) (l3 : Int) (l4 : Int) (I : jx_I) : Prop :=
  (X.2.1 a0 = some (12, 0)) ∧ (
  (-2147483648 ≤ l4 ∧ l4 < 2147483648) ∧ (
  ((I a0 46).toInt ≤ l4 → (
    Q (some (jy l2)) I
  )) ∧ (¬ (I a0 46).toInt ≤ l4 → (
    ∃ q19 : Nat, (
    (R a0 42 = some q19) ∧ (
    ∃ q21 : Nat, (
    (R a0 44 = some q21) ∧ (
    ∃ n23 : Nat, (
    (X.2.1 q21 = some (100, n23) ∧ n23 < 2147483648) ∧ (
    (0 ≤ l4 ∧ l4 < n23) ∧ (
    ∃ n26 : Nat, (
    (X.2.1 q19 = some (104, n26) ∧ n26 < 2147483648) ∧ (
    (0 ≤ (I q21 l4.toNat).toInt ∧ (I q21 l4.toNat).toInt < n26) ∧ (
    ∃ q29 : Nat, (
    (R q19 ((I q21 l4.toNat).toInt).toNat = some q29) ∧ (
    ∃ q31 : Nat, (
    (R a0 35 = some q31) ∧ (
    ∃ n33 : Nat, (
    (X.2.1 q31 = some (100, n33) ∧ n33 < 2147483648) ∧ (
    (0 ≤ a1 ∧ a1 < n33) ∧ (
    ∃ n36 : Nat, (
    (X.2.1 q29 = some (100, n36) ∧ n36 < 2147483648) ∧ (
    (0 ≤ (I q31 a1.toNat).toInt ∧ (I q31 a1.toNat).toInt < n36) ∧ (
    (-2147483648 ≤ l3 ∧ l3 < 2147483648) ∧ (
    (l3 < (I q29 ((I q31 a1.toNat).toInt).toNat).toInt → (
      (0 ≤ l4 ∧ l4 < n23) ∧ (
      (0 ≤ l4 ∧ l4 < n23) ∧ (
      (0 ≤ (I q21 l4.toNat).toInt ∧ (I q21 l4.toNat).toInt < n26) ∧ (
      ∃ q43 : Nat, (
      (R q19 ((I q21 l4.toNat).toInt).toNat = some q43) ∧ (
      (0 ≤ a1 ∧ a1 < n33) ∧ (
      ∃ n46 : Nat, (
      (X.2.1 q43 = some (100, n46) ∧ n46 < 2147483648) ∧ (
      (0 ≤ (I q31 a1.toNat).toInt ∧ (I q31 a1.toNat).toInt < n46) ∧ (
      J105 ((I q21 l4.toNat).toInt) ((I q43 ((I q31 a1.toNat).toInt).toNat).toInt) l4 I)))))))))
    )) ∧ (¬ l3 < (I q29 ((I q31 a1.toNat).toInt).toNat).toInt → (
      J105 l2 l3 l4 I
    )))))))))))))))))))))))
  ))))
/-- GCModel.whose, from 105 -/
def wz_264_105 (V : jx_V) (X : jx_X) (R : jx_R) (Q : Option Value → jx_I → Prop) (QE : String → jx_I → Prop) (J42 : Int → Int → Int → jx_I → Prop) (J105 : Int → Int → Int → jx_I → Prop) (a0 : Nat) (a1 : Int) (l2 : Int) (l3 : Int) (l4 : Int) (I : jx_I) : Prop :=
  J42 l2 l3 (l4 + 1) I
/-- GCModel.whose -/
def wz_264 (V : jx_V) (X : jx_X) (R : jx_R) (Q : Option Value → jx_I → Prop) (QE : String → jx_I → Prop) (J42 : Int → Int → Int → jx_I → Prop) (J105 : Int → Int → Int → jx_I → Prop) (a0 : Nat) (a1 : Int) (I : jx_I) : Prop :=
  (X.2.1 a0 = some (12, 0)) ∧ (
  ∀ I2 : jx_I, I2 = jx_u I a0 0 (Int32.ofInt 0) → (
  ∃ Q3 : Option Value → jx_I → Prop, (
  (jc V 2 259 (0, 0) [.ref a0] X I2 R Q3 (fun _ _ => False)) ∧ (
  ∀ rv I5, Q3 rv I5 → ∃ r6 : Int, rv = some (jy r6) ∧ (
  (-2147483648 ≤ r6 ∧ r6 < 2147483648) ∧ (
  (r6 = 0 → (
    ∃ Q8 : Option Value → jx_I → Prop, (
    (jc V 1 203 (0, 0) [jy a1, jy 1, jy ((I5 a0 37).toInt - 1)] X I5 R Q8 (fun _ _ => False)) ∧ (
    ∀ rv I10, Q8 rv I10 → ∃ r11 : Int, rv = some (jy r11) ∧ (
    (-2147483648 ≤ r11 ∧ r11 < 2147483648) ∧ (
    (r11 ≠ 0 → (
      ∃ Q13 : Option Value → jx_I → Prop, (
      (jc V 5 262 (0, 0) [.ref a0, jy a1] X I10 R Q13 (fun _ _ => False)) ∧ (
      ∀ rv I15, Q13 rv I15 → rv = none ∧ (
      J42 (-1) 0 0 I15)))
    )) ∧ (r11 = 0 → (
      Q (some (jy (-1))) I10
    ))))))
  )) ∧ (¬ r6 = 0 → (
    Q (some (jy 0)) I5
  ))))))))
set_option maxRecDepth 20000 in
theorem wm_264 {V : jx_V} (hV : V.1.stackTraces = false) {X : jx_X} {R : jx_R} {I : jx_I} {Q : Option Value → jx_I → Prop} {QE : String → jx_I → Prop} {a0 : Nat} {a1 : Int} (r_a1 : -2147483648 ≤ a1 ∧ a1 < 2147483648) 
    (h : ∀ (J42 : Int → Int → Int → jx_I → Prop) (J105 : Int → Int → Int → jx_I → Prop), ((∀ (l2 : Int) (l3 : Int) (l4 : Int) I, wz_264_42 V X R Q QE J42 J105 a0 a1 l2 l3 l4 I → J42 l2 l3 l4 I) ∧ (∀ (l2 : Int) (l3 : Int) (l4 : Int) I, wz_264_105 V X R Q QE J42 J105 a0 a1 l2 l3 l4 I → J105 l2 l3 l4 I)) → wz_264 V X R Q QE J42 J105 a0 a1 I) : jc V 6 264 (0, 0) [.ref a0, jy a1] X I R Q QE := by
  refine jy_met hV (by decide) (n := 5) (rt := some .int) (hh := []) (ini := false) (C := jx_c264) (L := [some (.ref a0), some (jy a1), none, none, none]) jt_264 (Nat.le_of_ble_eq_true rfl) rfl ?_
  intro J hS
  have h := h (fun l2 l3 l4 I => J 42 [] [some (.ref a0), some (jy a1), some (jy l2), some (jy l3), some (jy l4)] (0, 0) X I R) (fun l2 l3 l4 I => J 105 [] [some (.ref a0), some (jy a1), some (jy l2), some (jy l3), some (jy l4)] (0, 0) X I R) ?_
  · unfold wz_264 at h
    refine jy_aload_n hS rfl rfl ?_
    refine jy_iconst hS rfl ?_
    obtain ⟨g1, h⟩ := h
    refine jy_putI hS rfl (by decide) g1 ?_
    intro I2 e9
    have h := h I2 e9
    clear e9
    refine jy_aload_n hS rfl rfl ?_
    obtain ⟨Q3, h⟩ := h
    obtain ⟨g4, h⟩ := h
    refine jy_callV hS rfl rfl rfl (Nat.le_of_ble_eq_true rfl) (Or.inl g1) g4 (by decide) ⟨by decide, by decide⟩ (Nat.le_of_ble_eq_true rfl) ?_ ?_
    rotate_left
    · exact fun Ex Xx Ix Rx hp => hp.2.2.2.elim
    intro rv Xx I5 Rx hp
    obtain ⟨e1, e2, hp⟩ := hp
    rw [e1, e2]
    clear e1 e2
    obtain ⟨r6, e1, h⟩ := h rv I5 hp
    rw [e1]
    clear e1
    change J 9 [jy r6] _ (0, 0) _ _ _
    obtain ⟨g7, h⟩ := h
    refine jy_if_eq hS rfl g7 (fun hq => ?_) (fun hq => ?_)
    · have h := h.1 hq
      refine jy_iload_n hS rfl rfl ?_
      refine jy_iconst hS rfl ?_
      refine jy_aload_n hS rfl rfl ?_
      refine jy_getI hS rfl (by decide) g1 ?_
      refine jy_iconst hS rfl ?_
      refine jy_isub hS rfl ?_
      obtain ⟨Q8, h⟩ := h
      obtain ⟨g9, h⟩ := h
      refine jy_callS hS rfl rfl rfl (Nat.le_of_ble_eq_true rfl) g9 (by decide) ⟨by decide, by decide⟩ (Nat.le_of_ble_eq_true rfl) ?_ ?_
      rotate_left
      · exact fun Ex Xx Ix Rx hp => hp.2.2.2.elim
      intro rv Xx I10 Rx hp
      obtain ⟨e1, e2, hp⟩ := hp
      rw [e1, e2]
      clear e1 e2
      obtain ⟨r11, e1, h⟩ := h rv I10 hp
      rw [e1]
      clear e1
      change J 25 [jy r11] _ (0, 0) _ _ _
      obtain ⟨g12, h⟩ := h
      refine jy_if_ne hS rfl g12 (fun hq => ?_) (fun hq => ?_)
      · have h := h.1 hq
        refine jy_aload_n hS rfl rfl ?_
        refine jy_iload_n hS rfl rfl ?_
        obtain ⟨Q13, h⟩ := h
        obtain ⟨g14, h⟩ := h
        refine jy_callV hS rfl rfl rfl (Nat.le_of_ble_eq_true rfl) (Or.inl g1) g14 (by decide) ⟨by decide, by decide⟩ (Nat.le_of_ble_eq_true rfl) ?_ ?_
        rotate_left
        · exact fun Ex Xx Ix Rx hp => hp.2.2.2.elim
        intro rv Xx I15 Rx hp
        obtain ⟨e1, e2, hp⟩ := hp
        rw [e1, e2]
        clear e1 e2
        obtain ⟨e1, h⟩ := h rv I15 hp
        rw [e1]
        clear e1
        change J 35 [] _ (0, 0) _ _ _
        refine jy_iconst hS rfl ?_
        refine jy_istore_n hS rfl (Nat.le_of_ble_eq_true rfl) (L' := [some (.ref a0), some (jy a1), some (jy (-1)), none, none]) rfl ?_
        refine jy_iconst hS rfl ?_
        refine jy_istore_n hS rfl (Nat.le_of_ble_eq_true rfl) (L' := [some (.ref a0), some (jy a1), some (jy (-1)), some (jy 0), none]) rfl ?_
        refine jy_iconst hS rfl ?_
        refine jy_istore hS rfl (Nat.le_of_ble_eq_true rfl) (L' := [some (.ref a0), some (jy a1), some (jy (-1)), some (jy 0), some (jy 0)]) rfl ?_
        exact jy_join hS h rfl (jy_sub_s (jy_sub_s (jy_sub_s (jy_sub_s (jy_sub_s jy_sub_0)))))
      · have h := h.2 hq
        refine jy_iconst hS rfl ?_
        exact jy_iret hS rfl rfl ⟨rfl, rfl, h⟩
    · have h := h.2 hq
      refine jy_iconst hS rfl ?_
      exact jy_iret hS rfl rfl ⟨rfl, rfl, h⟩
  refine ⟨?_, ?_⟩
  · intro l2 l3 l4 I h
    unfold wz_264_42 at h
    refine jy_iload hS rfl rfl ?_
    refine jy_aload_n hS rfl rfl ?_
    obtain ⟨g17, h⟩ := h
    refine jy_getI hS rfl (by decide) g17 ?_
    obtain ⟨g18, h⟩ := h
    refine jy_icmp_ge hS rfl ⟨g18, (jy_rng _)⟩ (fun hq => ?_) (fun hq => ?_)
    · have h := h.1 hq
      refine jy_iload_n hS rfl rfl ?_
      exact jy_iret hS rfl rfl ⟨rfl, rfl, h⟩
    · have h := h.2 hq
      refine jy_aload_n hS rfl rfl ?_
      obtain ⟨q19, h⟩ := h
      obtain ⟨g20, h⟩ := h
      refine jy_getR hS rfl (by decide) g17 g20 ?_
      refine jy_aload_n hS rfl rfl ?_
      obtain ⟨q21, h⟩ := h
      obtain ⟨g22, h⟩ := h
      refine jy_getR hS rfl (by decide) g17 g22 ?_
      refine jy_iload hS rfl rfl ?_
      obtain ⟨n23, h⟩ := h
      obtain ⟨g24, h⟩ := h
      obtain ⟨g25, h⟩ := h
      refine jy_iald hS rfl g24.1 (Nat.le_of_lt g24.2) g25 ?_
      obtain ⟨n26, h⟩ := h
      obtain ⟨g27, h⟩ := h
      obtain ⟨g28, h⟩ := h
      obtain ⟨q29, h⟩ := h
      obtain ⟨g30, h⟩ := h
      refine jy_aald hS rfl g27.1 (by decide) (Nat.le_of_lt g27.2) g28 g30 ?_
      refine jy_aload_n hS rfl rfl ?_
      obtain ⟨q31, h⟩ := h
      obtain ⟨g32, h⟩ := h
      refine jy_getR hS rfl (by decide) g17 g32 ?_
      refine jy_iload_n hS rfl rfl ?_
      obtain ⟨n33, h⟩ := h
      obtain ⟨g34, h⟩ := h
      obtain ⟨g35, h⟩ := h
      refine jy_iald hS rfl g34.1 (Nat.le_of_lt g34.2) g35 ?_
      obtain ⟨n36, h⟩ := h
      obtain ⟨g37, h⟩ := h
      obtain ⟨g38, h⟩ := h
      refine jy_iald hS rfl g37.1 (Nat.le_of_lt g37.2) g38 ?_
      refine jy_iload_n hS rfl rfl ?_
      obtain ⟨g39, h⟩ := h
      refine jy_icmp_gt hS rfl ⟨(jy_rng _), g39⟩ (fun hq => ?_) (fun hq => ?_)
      · have h := h.1 hq
        refine jy_aload_n hS rfl rfl ?_
        refine jy_getR hS rfl (by decide) g17 g22 ?_
        refine jy_iload hS rfl rfl ?_
        obtain ⟨g40, h⟩ := h
        refine jy_iald hS rfl g24.1 (Nat.le_of_lt g24.2) g40 ?_
        refine jy_istore_n hS rfl (Nat.le_of_ble_eq_true rfl) (L' := [some (.ref a0), some (jy a1), some (jy ((I q21 l4.toNat).toInt)), some (jy l3), some (jy l4)]) rfl ?_
        refine jy_aload_n hS rfl rfl ?_
        refine jy_getR hS rfl (by decide) g17 g20 ?_
        refine jy_aload_n hS rfl rfl ?_
        refine jy_getR hS rfl (by decide) g17 g22 ?_
        refine jy_iload hS rfl rfl ?_
        obtain ⟨g41, h⟩ := h
        refine jy_iald hS rfl g24.1 (Nat.le_of_lt g24.2) g41 ?_
        obtain ⟨g42, h⟩ := h
        obtain ⟨q43, h⟩ := h
        obtain ⟨g44, h⟩ := h
        refine jy_aald hS rfl g27.1 (by decide) (Nat.le_of_lt g27.2) g42 g44 ?_
        refine jy_aload_n hS rfl rfl ?_
        refine jy_getR hS rfl (by decide) g17 g32 ?_
        refine jy_iload_n hS rfl rfl ?_
        obtain ⟨g45, h⟩ := h
        refine jy_iald hS rfl g34.1 (Nat.le_of_lt g34.2) g45 ?_
        obtain ⟨n46, h⟩ := h
        obtain ⟨g47, h⟩ := h
        obtain ⟨g48, h⟩ := h
        refine jy_iald hS rfl g47.1 (Nat.le_of_lt g47.2) g48 ?_
        refine jy_istore_n hS rfl (Nat.le_of_ble_eq_true rfl) (L' := [some (.ref a0), some (jy a1), some (jy ((I q21 l4.toNat).toInt)), some (jy ((I q43 ((I q31 a1.toNat).toInt).toNat).toInt)), some (jy l4)]) rfl ?_
        exact jy_join hS h rfl (jy_sub_s (jy_sub_s (jy_sub_s (jy_sub_s (jy_sub_s jy_sub_0)))))
      · have h := h.2 hq
        refine jy_goto hS rfl ?_
        exact jy_join hS h rfl (jy_sub_s (jy_sub_s (jy_sub_s (jy_sub_s (jy_sub_s jy_sub_0)))))
  · intro l2 l3 l4 I h
    unfold wz_264_105 at h
    refine jy_iinc hS rfl rfl (L' := [some (.ref a0), some (jy a1), some (jy l2), some (jy l3), some (jy (l4 + 1))]) rfl ?_
    refine jy_goto hS rfl ?_
    exact jy_join hS h rfl (jy_sub_s (jy_sub_s (jy_sub_s (jy_sub_s (jy_sub_s jy_sub_0)))))
theorem jt_265 : jx_ml 265 = 4 ∧ jx_rt 265 = none ∧ jx_hz 265 = [] ∧ decide ((jx_nm 265).name = "<init>") = false ∧ jx_code 265 = jx_c265 := by decide +kernel
/-- GCModel.notesGriefs, from 2 -/
def wz_265_2 (V : jx_V) (X : jx_X) (R : jx_R) (Q : Option Value → jx_I → Prop) (QE : String → jx_I → Prop) (J2 : Int → jx_I → Prop) (J10 : Int → Int → jx_I → Prop) (a0 : Nat) (a1 : Nat) (l2 : Int) (I : jx_I) : Prop :=
  (-2147483648 ≤ l2 ∧ l2 < 2147483648) ∧ (
  (8 ≤ l2 → (
    Q none I
  )) ∧ (¬ 8 ≤ l2 → (
    J10 l2 0 I
  )))
/-- GCModel.notesGriefs, from 10 -/
def wz_265_10 (V : jx_V) (X : jx_X) (R : jx_R) (Q : Option Value → jx_I → Prop) (QE : String → jx_I → Prop) (J2 : Int → jx_I → Prop) (J10 : Int → Int → jx_I → Prop) (a0 : Nat) (a1 : Nat) (l2 : Int) (l3 : Int) (I : jx_I) : Prop :=
  (-2147483648 ≤ l3 ∧ l3 < 2147483648) ∧ (
  (10 ≤ l3 → (
    J2 (l2 + 1) I
  )) ∧ (¬ 10 ≤ l3 → (
    (X.2.1 a0 = some (12, 0)) ∧ (
    ∃ q4 : Nat, (
    (R a0 29 = some q4) ∧ (
    ∃ n6 : Nat, (
    (X.2.1 q4 = some (104, n6) ∧ n6 < 2147483648) ∧ (
    (0 ≤ l2 ∧ l2 < n6) ∧ (
    ∃ q9 : Nat, (
    (R q4 l2.toNat = some q9) ∧ (
    ∃ n11 : Nat, (
    (X.2.1 q9 = some (100, n11) ∧ n11 < 2147483648) ∧ (
    (0 ≤ l3 ∧ l3 < n11) ∧ (
    ∃ n14 : Nat, (
    (X.2.1 a1 = some (100, n14) ∧ n14 < 2147483648) ∧ (
    (0 ≤ ((l2 * 10) + l3) ∧ ((l2 * 10) + l3) < n14) ∧ (
    ∀ I17 : jx_I, I17 = jx_u I a1 ((l2 * 10) + l3).toNat (Int32.ofInt ((I q9 l3.toNat).toInt)) → (
    ∃ q18 : Nat, (
    (R a0 30 = some q18) ∧ (
    ∃ n20 : Nat, (
    (X.2.1 q18 = some (104, n20) ∧ n20 < 2147483648) ∧ (
    (0 ≤ l2 ∧ l2 < n20) ∧ (
    ∃ q23 : Nat, (
    (R q18 l2.toNat = some q23) ∧ (
    ∃ n25 : Nat, (
    (X.2.1 q23 = some (100, n25) ∧ n25 < 2147483648) ∧ (
    (0 ≤ l3 ∧ l3 < n25) ∧ (
    (0 ≤ ((80 + (l2 * 10)) + l3) ∧ ((80 + (l2 * 10)) + l3) < n14) ∧ (
    ∀ I29 : jx_I, I29 = jx_u I17 a1 ((80 + (l2 * 10)) + l3).toNat (Int32.ofInt ((I17 q23 l3.toNat).toInt)) → (
    J10 l2 (l3 + 1) I29)))))))))))))))))))))))))))
  )))
/-- GCModel.notesGriefs -/
def wz_265 (V : jx_V) (X : jx_X) (R : jx_R) (Q : Option Value → jx_I → Prop) (QE : String → jx_I → Prop) (J2 : Int → jx_I → Prop) (J10 : Int → Int → jx_I → Prop) (a0 : Nat) (a1 : Nat) (I : jx_I) : Prop :=
  J2 0 I
set_option maxRecDepth 20000 in
theorem wm_265 {V : jx_V} (hV : V.1.stackTraces = false) {X : jx_X} {R : jx_R} {I : jx_I} {Q : Option Value → jx_I → Prop} {QE : String → jx_I → Prop} {a0 : Nat} {a1 : Nat}  
    (h : ∀ (J2 : Int → jx_I → Prop) (J10 : Int → Int → jx_I → Prop), ((∀ (l2 : Int) I, wz_265_2 V X R Q QE J2 J10 a0 a1 l2 I → J2 l2 I) ∧ (∀ (l2 : Int) (l3 : Int) I, wz_265_10 V X R Q QE J2 J10 a0 a1 l2 l3 I → J10 l2 l3 I)) → wz_265 V X R Q QE J2 J10 a0 a1 I) : jc V 1 265 (0, 0) [.ref a0, .ref a1] X I R Q QE := by
  refine jy_met hV (by decide) (n := 4) (rt := none) (hh := []) (ini := false) (C := jx_c265) (L := [some (.ref a0), some (.ref a1), none, none]) jt_265 (Nat.le_of_ble_eq_true rfl) rfl ?_
  intro J hS
  have h := h (fun l2 I => J 2 [] [some (.ref a0), some (.ref a1), some (jy l2), none] (0, 0) X I R) (fun l2 l3 I => J 10 [] [some (.ref a0), some (.ref a1), some (jy l2), some (jy l3)] (0, 0) X I R) ?_
  · unfold wz_265 at h
    refine jy_iconst hS rfl ?_
    refine jy_istore_n hS rfl (Nat.le_of_ble_eq_true rfl) (L' := [some (.ref a0), some (.ref a1), some (jy 0), none]) rfl ?_
    exact jy_join hS h rfl (jy_sub_s (jy_sub_s (jy_sub_s (jy_sub_n jy_sub_0))))
  refine ⟨?_, ?_⟩
  · intro l2 I h
    unfold wz_265_2 at h
    refine jy_iload_n hS rfl rfl ?_
    refine jy_bipush hS rfl (by decide) ?_
    obtain ⟨g1, h⟩ := h
    refine jy_icmp_ge hS rfl ⟨g1, ⟨by decide, by decide⟩⟩ (fun hq => ?_) (fun hq => ?_)
    · have h := h.1 hq
      exact jy_ret hS rfl rfl ⟨rfl, rfl, h⟩
    · have h := h.2 hq
      refine jy_iconst hS rfl ?_
      refine jy_istore_n hS rfl (Nat.le_of_ble_eq_true rfl) (L' := [some (.ref a0), some (.ref a1), some (jy l2), some (jy 0)]) rfl ?_
      exact jy_join hS h rfl (jy_sub_s (jy_sub_s (jy_sub_s (jy_sub_s jy_sub_0))))
  · intro l2 l3 I h
    unfold wz_265_10 at h
    refine jy_iload_n hS rfl rfl ?_
    refine jy_bipush hS rfl (by decide) ?_
    obtain ⟨g2, h⟩ := h
    refine jy_icmp_ge hS rfl ⟨g2, ⟨by decide, by decide⟩⟩ (fun hq => ?_) (fun hq => ?_)
    · have h := h.1 hq
      refine jy_iinc hS rfl rfl (L' := [some (.ref a0), some (.ref a1), some (jy (l2 + 1)), some (jy l3)]) rfl ?_
      refine jy_goto hS rfl ?_
      exact jy_join hS h rfl (jy_sub_s (jy_sub_s (jy_sub_s (jy_sub_n jy_sub_0))))
    · have h := h.2 hq
      refine jy_aload_n hS rfl rfl ?_
      refine jy_iload_n hS rfl rfl ?_
      refine jy_bipush hS rfl (by decide) ?_
      refine jy_imul hS rfl ?_
      refine jy_iload_n hS rfl rfl ?_
      refine jy_iadd hS rfl ?_
      refine jy_aload_n hS rfl rfl ?_
      obtain ⟨g3, h⟩ := h
      obtain ⟨q4, h⟩ := h
      obtain ⟨g5, h⟩ := h
      refine jy_getR hS rfl (by decide) g3 g5 ?_
      refine jy_iload_n hS rfl rfl ?_
      obtain ⟨n6, h⟩ := h
      obtain ⟨g7, h⟩ := h
      obtain ⟨g8, h⟩ := h
      obtain ⟨q9, h⟩ := h
      obtain ⟨g10, h⟩ := h
      refine jy_aald hS rfl g7.1 (by decide) (Nat.le_of_lt g7.2) g8 g10 ?_
      refine jy_iload_n hS rfl rfl ?_
      obtain ⟨n11, h⟩ := h
      obtain ⟨g12, h⟩ := h
      obtain ⟨g13, h⟩ := h
      refine jy_iald hS rfl g12.1 (Nat.le_of_lt g12.2) g13 ?_
      obtain ⟨n14, h⟩ := h
      obtain ⟨g15, h⟩ := h
      obtain ⟨g16, h⟩ := h
      refine jy_iast hS rfl g15.1 (Nat.le_of_lt g15.2) g16 ?_
      intro I17 e9
      have h := h I17 e9
      clear e9
      refine jy_aload_n hS rfl rfl ?_
      refine jy_bipush hS rfl (by decide) ?_
      refine jy_iload_n hS rfl rfl ?_
      refine jy_bipush hS rfl (by decide) ?_
      refine jy_imul hS rfl ?_
      refine jy_iadd hS rfl ?_
      refine jy_iload_n hS rfl rfl ?_
      refine jy_iadd hS rfl ?_
      refine jy_aload_n hS rfl rfl ?_
      obtain ⟨q18, h⟩ := h
      obtain ⟨g19, h⟩ := h
      refine jy_getR hS rfl (by decide) g3 g19 ?_
      refine jy_iload_n hS rfl rfl ?_
      obtain ⟨n20, h⟩ := h
      obtain ⟨g21, h⟩ := h
      obtain ⟨g22, h⟩ := h
      obtain ⟨q23, h⟩ := h
      obtain ⟨g24, h⟩ := h
      refine jy_aald hS rfl g21.1 (by decide) (Nat.le_of_lt g21.2) g22 g24 ?_
      refine jy_iload_n hS rfl rfl ?_
      obtain ⟨n25, h⟩ := h
      obtain ⟨g26, h⟩ := h
      obtain ⟨g27, h⟩ := h
      refine jy_iald hS rfl g26.1 (Nat.le_of_lt g26.2) g27 ?_
      obtain ⟨g28, h⟩ := h
      refine jy_iast hS rfl g15.1 (Nat.le_of_lt g15.2) g28 ?_
      intro I29 e9
      have h := h I29 e9
      clear e9
      refine jy_iinc hS rfl rfl (L' := [some (.ref a0), some (.ref a1), some (jy l2), some (jy (l3 + 1))]) rfl ?_
      refine jy_goto hS rfl ?_
      exact jy_join hS h rfl (jy_sub_s (jy_sub_s (jy_sub_s (jy_sub_s jy_sub_0))))
