theorem jt_162 : jx_ml 162 = 10 ∧ jx_rt 162 = some .int ∧ jx_hz 162 = [] ∧ decide ((jx_nm 162).name = "<init>") = false ∧ jx_code 162 = jx_c162 := by decide +kernel
/-- GC.span, from 22 -/
def wz_162_22 (V : jx_V) (X : jx_X) (R : jx_R) (Q : Option Value → jx_I → Prop) (QE : String → jx_I → Prop) (J22 : Nat → Int → jx_I → Prop) (J54 : Int → Int → Int → Int → jx_I → Prop) (a0 : Nat) (a1 : Int) (a2 : Int) (a3 : Int) (a4 : Int) (s0 : Nat) (s1 : Int) (I : jx_I) : Prop :=
  (X.2.1 s0 = some (11, 0)) ∧ (
  ∃ Q9 : Option Value → jx_I → Prop, (
  ∃ E10 : String → jx_I → Prop, (
  (jc V 8 189 (1, 6) [.ref s0, jy s1] X I R Q9 E10) ∧ (
  (∀ Ex Ix, E10 Ex Ix → QE Ex Ix) ∧ (
  ∀ rv I13, Q9 rv I13 → rv = none ∧ (
  (X.2.1 a0 = some (11, 0)) ∧ (
  ∃ Q16 : Option Value → jx_I → Prop, (
  ∃ E17 : String → jx_I → Prop, (
  (jc V 9 190 (1, 6) [.ref a0, jy a4, jy 2] X I13 R Q16 E17) ∧ (
  (∀ Ex Ix, E17 Ex Ix → QE Ex Ix) ∧ (
  ∀ rv I20, Q16 rv I20 → rv = none ∧ (
  ∃ Q22 : Option Value → jx_I → Prop, (
  ∃ E23 : String → jx_I → Prop, (
  (jc V 8 193 (1, 6) [.ref a0] X I20 R Q22 E23) ∧ (
  (∀ Ex Ix, E23 Ex Ix → QE Ex Ix) ∧ (
  ∀ rv I26, Q22 rv I26 → rv = none ∧ (
  ∃ Q28 : Option Value → jx_I → Prop, (
  (jc V 6 194 (0, 0) [.ref a0] X I26 R Q28 (fun _ _ => False)) ∧ (
  ∀ rv I30, Q28 rv I30 → rv = none ∧ (
  J54 2147483647 0 0 0 I30))))))))))))))))))))
/-- GC.span, from 54 -/
def wz_162_54 (V : jx_V) (X : jx_X) (R : jx_R) (Q : Option Value → jx_I → Prop) (QE : String → jx_I → Prop) (J22 : Nat → Int → jx_I → Prop) (J54 : Int → Int → Int → Int → jx_I → Prop) (a0 : Nat) (a1 : Int) (a2 : Int) (a3 : Int) (a4 : Int) (l5 : Int) (l6 : Int) (l7 : Int) (l8 : Int) (I : jx_I) : Prop :=
  (-2147483648 ≤ l8 ∧ l8 < 2147483648) ∧ (
  (a3 ≤ l8 → (
    (a4 ≠ 0 → (
      (a4 ≠ 1 → (
        Q (some (jy l7)) I
      )) ∧ (a4 = 1 → (
        Q (some (jy l6)) I
      ))
    )) ∧ (a4 = 0 → (
      Q (some (jy l5)) I
    ))
  )) ∧ (¬ a3 ≤ l8 → (
    (X.2.1 a0 = some (11, 0)) ∧ (
    ∃ q34 : Nat, (
    (R a0 4 = some q34) ∧ (
    (X.2.1 q34 = some (9, 0)) ∧ (
    ∃ Q37 : Option Value → jx_I → Prop, (
    (jc V 1 123 (0, 0) [.ref q34] X I R Q37 (fun _ _ => False)) ∧ (
    ∀ rv I39, Q37 rv I39 → ∃ r40 : Int, rv = some (jy r40) ∧ (
    ∃ Q41 : Option Value → jx_I → Prop, (
    (jc V 1 197 (0, 0) [.ref a0, jy (a1 + l8), jy a2] X I39 R Q41 (fun _ _ => False)) ∧ (
    ∀ rv I43, Q41 rv I43 → ∃ r44 : Int, rv = some (jy r44) ∧ (
    ∃ Q45 : Option Value → jx_I → Prop, (
    (jc V 1 329 (0, 0) [jy l5, jy (r40 + r44)] X I43 R Q45 (fun _ _ => False)) ∧ (
    ∀ rv I47, Q45 rv I47 → ∃ r48 : Int, rv = some (jy r48) ∧ (
    ∃ Q49 : Option Value → jx_I → Prop, (
    (jc V 1 328 (0, 0) [jy l6, jy (r40 + r44)] X I47 R Q49 (fun _ _ => False)) ∧ (
    ∀ rv I51, Q49 rv I51 → ∃ r52 : Int, rv = some (jy r52) ∧ (
    J54 r48 r52 (l7 + (r40 + r44)) (l8 + 1) I51))))))))))))))))
  )))
/-- GC.span -/
def wz_162 (V : jx_V) (X : jx_X) (R : jx_R) (Q : Option Value → jx_I → Prop) (QE : String → jx_I → Prop) (J22 : Nat → Int → jx_I → Prop) (J54 : Int → Int → Int → Int → jx_I → Prop) (a0 : Nat) (a1 : Int) (a2 : Int) (a3 : Int) (a4 : Int) (I : jx_I) : Prop :=
  (X.2.1 a0 = some (11, 0)) ∧ (
  ∃ Q2 : Option Value → jx_I → Prop, (
  ∃ E3 : String → jx_I → Prop, (
  (jc V 9 192 (1, 6) [.ref a0, jy a2] X I R Q2 E3) ∧ (
  (∀ Ex Ix, E3 Ex Ix → QE Ex Ix) ∧ (
  ∀ rv I6, Q2 rv I6 → rv = none ∧ (
  (a3 < 1 → (
    J22 a0 0 I6
  )) ∧ (¬ a3 < 1 → (
    (60 < a3 → (
      J22 a0 0 I6
    )) ∧ (¬ 60 < a3 → (
      J22 a0 1 I6
    ))
  ))))))))
set_option maxRecDepth 20000 in
theorem wm_162 {V : jx_V} (hV : V.1.stackTraces = false) {X : jx_X} {R : jx_R} {I : jx_I} {Q : Option Value → jx_I → Prop} {QE : String → jx_I → Prop} {a0 : Nat} {a1 : Int} {a2 : Int} {a3 : Int} {a4 : Int} (r_a1 : -2147483648 ≤ a1 ∧ a1 < 2147483648) (r_a2 : -2147483648 ≤ a2 ∧ a2 < 2147483648) (r_a3 : -2147483648 ≤ a3 ∧ a3 < 2147483648) (r_a4 : -2147483648 ≤ a4 ∧ a4 < 2147483648) 
    (h : ∀ (J22 : Nat → Int → jx_I → Prop) (J54 : Int → Int → Int → Int → jx_I → Prop), ((∀ (s0 : Nat) (s1 : Int) I, wz_162_22 V X R Q QE J22 J54 a0 a1 a2 a3 a4 s0 s1 I → J22 s0 s1 I) ∧ (∀ (l5 : Int) (l6 : Int) (l7 : Int) (l8 : Int) I, wz_162_54 V X R Q QE J22 J54 a0 a1 a2 a3 a4 l5 l6 l7 l8 I → J54 l5 l6 l7 l8 I)) → wz_162 V X R Q QE J22 J54 a0 a1 a2 a3 a4 I) : jc V 10 162 (4, 24) [.ref a0, jy a1, jy a2, jy a3, jy a4] X I R Q QE := by
  refine jy_met hV (by decide) (n := 10) (rt := some .int) (hh := []) (ini := false) (C := jx_c162) (L := [some (.ref a0), some (jy a1), some (jy a2), some (jy a3), some (jy a4), none, none, none, none, none]) jt_162 (Nat.le_of_ble_eq_true rfl) rfl ?_
  intro J hS
  have h := h (fun s0 s1 I => J 22 [jy s1, .ref s0] [some (.ref a0), some (jy a1), some (jy a2), some (jy a3), some (jy a4), none, none, none, none, none] (3, 18) X I R) (fun l5 l6 l7 l8 I => J 54 [] [some (.ref a0), some (jy a1), some (jy a2), some (jy a3), some (jy a4), some (jy l5), some (jy l6), some (jy l7), some (jy l8), none] (0, 0) X I R) ?_
  · unfold wz_162 at h
    refine jy_aload_n hS rfl rfl ?_
    refine jy_iload_n hS rfl rfl ?_
    obtain ⟨g1, h⟩ := h
    obtain ⟨Q2, h⟩ := h
    obtain ⟨E3, h⟩ := h
    obtain ⟨g4, h⟩ := h
    obtain ⟨g5, h⟩ := h
    refine jy_callV hS rfl rfl rfl (Nat.le_of_ble_eq_true rfl) (Or.inl g1) g4 (by decide) ⟨by decide, by decide⟩ (Nat.le_of_ble_eq_true rfl) ?_ ?_
    rotate_left
    · exact fun Ex Xx Ix Rx hp => ⟨hp.1, hp.2.1, hp.2.2.1, g5 _ _ hp.2.2.2⟩
    intro rv Xx I6 Rx hp
    obtain ⟨e1, e2, hp⟩ := hp
    rw [e1, e2]
    clear e1 e2
    obtain ⟨e1, h⟩ := h rv I6 hp
    rw [e1]
    clear e1
    change J 5 [] _ (3, 18) _ _ _
    refine jy_aload_n hS rfl rfl ?_
    refine jy_iload_n hS rfl rfl ?_
    refine jy_iconst hS rfl ?_
    refine jy_icmp_lt hS rfl ⟨r_a3, ⟨by decide, by decide⟩⟩ (fun hq => ?_) (fun hq => ?_)
    · have h := h.1 hq
      refine jy_iconst hS rfl ?_
      exact jy_join hS h rfl (jy_sub_s (jy_sub_s (jy_sub_s (jy_sub_s (jy_sub_s (jy_sub_n (jy_sub_n (jy_sub_n (jy_sub_n (jy_sub_n jy_sub_0))))))))))
    · have h := h.2 hq
      refine jy_iload_n hS rfl rfl ?_
      refine jy_bipush hS rfl (by decide) ?_
      refine jy_icmp_gt hS rfl ⟨r_a3, ⟨by decide, by decide⟩⟩ (fun hq => ?_) (fun hq => ?_)
      · have h := h.1 hq
        refine jy_iconst hS rfl ?_
        exact jy_join hS h rfl (jy_sub_s (jy_sub_s (jy_sub_s (jy_sub_s (jy_sub_s (jy_sub_n (jy_sub_n (jy_sub_n (jy_sub_n (jy_sub_n jy_sub_0))))))))))
      · have h := h.2 hq
        refine jy_iconst hS rfl ?_
        refine jy_goto hS rfl ?_
        exact jy_join hS h rfl (jy_sub_s (jy_sub_s (jy_sub_s (jy_sub_s (jy_sub_s (jy_sub_n (jy_sub_n (jy_sub_n (jy_sub_n (jy_sub_n jy_sub_0))))))))))
  refine ⟨?_, ?_⟩
  · intro s0 s1 I h
    unfold wz_162_22 at h
    obtain ⟨g8, h⟩ := h
    obtain ⟨Q9, h⟩ := h
    obtain ⟨E10, h⟩ := h
    obtain ⟨g11, h⟩ := h
    obtain ⟨g12, h⟩ := h
    refine jy_callV hS rfl rfl rfl (Nat.le_of_ble_eq_true rfl) (Or.inl g8) g11 (by decide) ⟨by decide, by decide⟩ (Nat.le_of_ble_eq_true rfl) ?_ ?_
    rotate_left
    · exact fun Ex Xx Ix Rx hp => ⟨hp.1, hp.2.1, hp.2.2.1, g12 _ _ hp.2.2.2⟩
    intro rv Xx I13 Rx hp
    obtain ⟨e1, e2, hp⟩ := hp
    rw [e1, e2]
    clear e1 e2
    obtain ⟨e1, h⟩ := h rv I13 hp
    rw [e1]
    clear e1
    change J 25 [] _ (2, 12) _ _ _
    refine jy_aload_n hS rfl rfl ?_
    refine jy_iload hS rfl rfl ?_
    refine jy_iconst hS rfl ?_
    obtain ⟨g15, h⟩ := h
    obtain ⟨Q16, h⟩ := h
    obtain ⟨E17, h⟩ := h
    obtain ⟨g18, h⟩ := h
    obtain ⟨g19, h⟩ := h
    refine jy_callV hS rfl rfl rfl (Nat.le_of_ble_eq_true rfl) (Or.inl g15) g18 (by decide) ⟨by decide, by decide⟩ (Nat.le_of_ble_eq_true rfl) ?_ ?_
    rotate_left
    · exact fun Ex Xx Ix Rx hp => ⟨hp.1, hp.2.1, hp.2.2.1, g19 _ _ hp.2.2.2⟩
    intro rv Xx I20 Rx hp
    obtain ⟨e1, e2, hp⟩ := hp
    rw [e1, e2]
    clear e1 e2
    obtain ⟨e1, h⟩ := h rv I20 hp
    rw [e1]
    clear e1
    change J 32 [] _ (1, 6) _ _ _
    refine jy_aload_n hS rfl rfl ?_
    obtain ⟨Q22, h⟩ := h
    obtain ⟨E23, h⟩ := h
    obtain ⟨g24, h⟩ := h
    obtain ⟨g25, h⟩ := h
    refine jy_callV hS rfl rfl rfl (Nat.le_of_ble_eq_true rfl) (Or.inl g15) g24 (by decide) ⟨by decide, by decide⟩ (Nat.le_of_ble_eq_true rfl) ?_ ?_
    rotate_left
    · exact fun Ex Xx Ix Rx hp => ⟨hp.1, hp.2.1, hp.2.2.1, g25 _ _ hp.2.2.2⟩
    intro rv Xx I26 Rx hp
    obtain ⟨e1, e2, hp⟩ := hp
    rw [e1, e2]
    clear e1 e2
    obtain ⟨e1, h⟩ := h rv I26 hp
    rw [e1]
    clear e1
    change J 36 [] _ (0, 0) _ _ _
    refine jy_aload_n hS rfl rfl ?_
    obtain ⟨Q28, h⟩ := h
    obtain ⟨g29, h⟩ := h
    refine jy_callV hS rfl rfl rfl (Nat.le_of_ble_eq_true rfl) (Or.inl g15) g29 (by decide) ⟨by decide, by decide⟩ (Nat.le_of_ble_eq_true rfl) ?_ ?_
    rotate_left
    · exact fun Ex Xx Ix Rx hp => hp.2.2.2.elim
    intro rv Xx I30 Rx hp
    obtain ⟨e1, e2, hp⟩ := hp
    rw [e1, e2]
    clear e1 e2
    obtain ⟨e1, h⟩ := h rv I30 hp
    rw [e1]
    clear e1
    change J 40 [] _ (0, 0) _ _ _
    refine jy_ldcw hS rfl (n := 2147483647) (by decide) ?_
    refine jy_istore hS rfl (Nat.le_of_ble_eq_true rfl) (L' := [some (.ref a0), some (jy a1), some (jy a2), some (jy a3), some (jy a4), some (jy 2147483647), none, none, none, none]) rfl ?_
    refine jy_iconst hS rfl ?_
    refine jy_istore hS rfl (Nat.le_of_ble_eq_true rfl) (L' := [some (.ref a0), some (jy a1), some (jy a2), some (jy a3), some (jy a4), some (jy 2147483647), some (jy 0), none, none, none]) rfl ?_
    refine jy_iconst hS rfl ?_
    refine jy_istore hS rfl (Nat.le_of_ble_eq_true rfl) (L' := [some (.ref a0), some (jy a1), some (jy a2), some (jy a3), some (jy a4), some (jy 2147483647), some (jy 0), some (jy 0), none, none]) rfl ?_
    refine jy_iconst hS rfl ?_
    refine jy_istore hS rfl (Nat.le_of_ble_eq_true rfl) (L' := [some (.ref a0), some (jy a1), some (jy a2), some (jy a3), some (jy a4), some (jy 2147483647), some (jy 0), some (jy 0), some (jy 0), none]) rfl ?_
    exact jy_join hS h rfl (jy_sub_s (jy_sub_s (jy_sub_s (jy_sub_s (jy_sub_s (jy_sub_s (jy_sub_s (jy_sub_s (jy_sub_s (jy_sub_n jy_sub_0))))))))))
  · intro l5 l6 l7 l8 I h
    unfold wz_162_54 at h
    refine jy_iload hS rfl rfl ?_
    refine jy_iload_n hS rfl rfl ?_
    obtain ⟨g32, h⟩ := h
    refine jy_icmp_ge hS rfl ⟨g32, r_a3⟩ (fun hq => ?_) (fun hq => ?_)
    · have h := h.1 hq
      refine jy_iload hS rfl rfl ?_
      refine jy_if_ne hS rfl r_a4 (fun hq => ?_) (fun hq => ?_)
      · have h := h.1 hq
        refine jy_iload hS rfl rfl ?_
        refine jy_iconst hS rfl ?_
        refine jy_icmp_ne hS rfl ⟨r_a4, ⟨by decide, by decide⟩⟩ (fun hq => ?_) (fun hq => ?_)
        · have h := h.1 hq
          refine jy_iload hS rfl rfl ?_
          exact jy_iret hS rfl rfl ⟨rfl, rfl, h⟩
        · have h := h.2 hq
          refine jy_iload hS rfl rfl ?_
          refine jy_goto hS rfl ?_
          exact jy_iret hS rfl rfl ⟨rfl, rfl, h⟩
      · have h := h.2 hq
        refine jy_iload hS rfl rfl ?_
        refine jy_goto hS rfl ?_
        exact jy_iret hS rfl rfl ⟨rfl, rfl, h⟩
    · have h := h.2 hq
      refine jy_aload_n hS rfl rfl ?_
      obtain ⟨g33, h⟩ := h
      obtain ⟨q34, h⟩ := h
      obtain ⟨g35, h⟩ := h
      refine jy_getR hS rfl (by decide) g33 g35 ?_
      obtain ⟨g36, h⟩ := h
      obtain ⟨Q37, h⟩ := h
      obtain ⟨g38, h⟩ := h
      refine jy_callV hS rfl rfl rfl (Nat.le_of_ble_eq_true rfl) (Or.inl g36) g38 (by decide) ⟨by decide, by decide⟩ (Nat.le_of_ble_eq_true rfl) ?_ ?_
      rotate_left
      · exact fun Ex Xx Ix Rx hp => hp.2.2.2.elim
      intro rv Xx I39 Rx hp
      obtain ⟨e1, e2, hp⟩ := hp
      rw [e1, e2]
      clear e1 e2
      obtain ⟨r40, e1, h⟩ := h rv I39 hp
      rw [e1]
      clear e1
      change J 67 [jy r40] _ (0, 0) _ _ _
      refine jy_aload_n hS rfl rfl ?_
      refine jy_iload_n hS rfl rfl ?_
      refine jy_iload hS rfl rfl ?_
      refine jy_iadd hS rfl ?_
      refine jy_iload_n hS rfl rfl ?_
      obtain ⟨Q41, h⟩ := h
      obtain ⟨g42, h⟩ := h
      refine jy_callV hS rfl rfl rfl (Nat.le_of_ble_eq_true rfl) (Or.inl g33) g42 (by decide) ⟨by decide, by decide⟩ (Nat.le_of_ble_eq_true rfl) ?_ ?_
      rotate_left
      · exact fun Ex Xx Ix Rx hp => hp.2.2.2.elim
      intro rv Xx I43 Rx hp
      obtain ⟨e1, e2, hp⟩ := hp
      rw [e1, e2]
      clear e1 e2
      obtain ⟨r44, e1, h⟩ := h rv I43 hp
      rw [e1]
      clear e1
      change J 76 [jy r44, jy r40] _ (0, 0) _ _ _
      refine jy_iadd hS rfl ?_
      refine jy_istore hS rfl (Nat.le_of_ble_eq_true rfl) (L' := [some (.ref a0), some (jy a1), some (jy a2), some (jy a3), some (jy a4), some (jy l5), some (jy l6), some (jy l7), some (jy l8), some (jy (r40 + r44))]) rfl ?_
      refine jy_iload hS rfl rfl ?_
      refine jy_iload hS rfl rfl ?_
      obtain ⟨Q45, h⟩ := h
      obtain ⟨g46, h⟩ := h
      refine jy_callS hS rfl rfl rfl (Nat.le_of_ble_eq_true rfl) g46 (by decide) ⟨by decide, by decide⟩ (Nat.le_of_ble_eq_true rfl) ?_ ?_
      rotate_left
      · exact fun Ex Xx Ix Rx hp => hp.2.2.2.elim
      intro rv Xx I47 Rx hp
      obtain ⟨e1, e2, hp⟩ := hp
      rw [e1, e2]
      clear e1 e2
      obtain ⟨r48, e1, h⟩ := h rv I47 hp
      rw [e1]
      clear e1
      change J 86 [jy r48] _ (0, 0) _ _ _
      refine jy_istore hS rfl (Nat.le_of_ble_eq_true rfl) (L' := [some (.ref a0), some (jy a1), some (jy a2), some (jy a3), some (jy a4), some (jy r48), some (jy l6), some (jy l7), some (jy l8), some (jy (r40 + r44))]) rfl ?_
      refine jy_iload hS rfl rfl ?_
      refine jy_iload hS rfl rfl ?_
      obtain ⟨Q49, h⟩ := h
      obtain ⟨g50, h⟩ := h
      refine jy_callS hS rfl rfl rfl (Nat.le_of_ble_eq_true rfl) g50 (by decide) ⟨by decide, by decide⟩ (Nat.le_of_ble_eq_true rfl) ?_ ?_
      rotate_left
      · exact fun Ex Xx Ix Rx hp => hp.2.2.2.elim
      intro rv Xx I51 Rx hp
      obtain ⟨e1, e2, hp⟩ := hp
      rw [e1, e2]
      clear e1 e2
      obtain ⟨r52, e1, h⟩ := h rv I51 hp
      rw [e1]
      clear e1
      change J 95 [jy r52] _ (0, 0) _ _ _
      refine jy_istore hS rfl (Nat.le_of_ble_eq_true rfl) (L' := [some (.ref a0), some (jy a1), some (jy a2), some (jy a3), some (jy a4), some (jy r48), some (jy r52), some (jy l7), some (jy l8), some (jy (r40 + r44))]) rfl ?_
      refine jy_iload hS rfl rfl ?_
      refine jy_iload hS rfl rfl ?_
      refine jy_iadd hS rfl ?_
      refine jy_istore hS rfl (Nat.le_of_ble_eq_true rfl) (L' := [some (.ref a0), some (jy a1), some (jy a2), some (jy a3), some (jy a4), some (jy r48), some (jy r52), some (jy (l7 + (r40 + r44))), some (jy l8), some (jy (r40 + r44))]) rfl ?_
      refine jy_iinc hS rfl rfl (L' := [some (.ref a0), some (jy a1), some (jy a2), some (jy a3), some (jy a4), some (jy r48), some (jy r52), some (jy (l7 + (r40 + r44))), some (jy (l8 + 1)), some (jy (r40 + r44))]) rfl ?_
      refine jy_goto hS rfl ?_
      exact jy_join hS h rfl (jy_sub_s (jy_sub_s (jy_sub_s (jy_sub_s (jy_sub_s (jy_sub_s (jy_sub_s (jy_sub_s (jy_sub_s (jy_sub_n jy_sub_0))))))))))
theorem jt_163 : jx_ml 163 = 5 ∧ jx_rt 163 = some .long ∧ jx_hz 163 = [] ∧ decide ((jx_nm 163).name = "<init>") = false ∧ jx_code 163 = jx_c163 := by decide +kernel
/-- GC.least -/
def wz_163 (V : jx_V) (X : jx_X) (R : jx_R) (Q : Option Value → jx_I → Prop) (QE : String → jx_I → Prop)  (a0 : Nat) (a1 : Int) (a2 : Int) (a3 : Int) (I : jx_I) : Prop :=
  (X.2.1 a0 = some (11, 0)) ∧ (
  ∃ Q2 : Option Value → jx_I → Prop, (
  ∃ E3 : String → jx_I → Prop, (
  (jc V 8 187 (1, 6) [.ref a0, jy a1] X I R Q2 E3) ∧ (
  (∀ Ex Ix, E3 Ex Ix → QE Ex Ix) ∧ (
  ∀ rv I6, Q2 rv I6 → rv = none ∧ (
  ∃ Q8 : Option Value → jx_I → Prop, (
  ∃ E9 : String → jx_I → Prop, (
  (jc V 8 187 (1, 6) [.ref a0, jy a2] X I6 R Q8 E9) ∧ (
  (∀ Ex Ix, E9 Ex Ix → QE Ex Ix) ∧ (
  ∀ rv I12, Q8 rv I12 → rv = none ∧ (
  ∃ Q14 : Option Value → jx_I → Prop, (
  ∃ E15 : String → jx_I → Prop, (
  (jc V 9 190 (1, 6) [.ref a0, jy a3, jy 2] X I12 R Q14 E15) ∧ (
  (∀ Ex Ix, E15 Ex Ix → QE Ex Ix) ∧ (
  ∀ rv I18, Q14 rv I18 → rv = none ∧ (
  ∃ q20 : Nat, (
  (R a0 6 = some q20) ∧ (
  ∃ q22 : Nat, (
  (R a0 11 = some q22) ∧ (
  ∃ q24 : Nat, (
  (R a0 2 = some q24) ∧ (
  (X.2.1 q20 = some (10, 0)) ∧ (
  ∃ Q27 : Option Value → jx_I → Prop, (
  (jc V 5 127 (0, 0) [.ref q20, .ref q22, .ref q24] X I18 R Q27 (fun _ _ => False)) ∧ (
  ∀ rv I29, Q27 rv I29 → rv = none ∧ (
  ∃ Q31 : Option Value → jx_I → Prop, (
  (jc V 1 129 (0, 0) [.ref q20, jy a1, jy a2] X I29 R Q31 (fun _ _ => False)) ∧ (
  ∀ rv I33, Q31 rv I33 → ∃ r34 : Int, rv = some (jy r34) ∧ (
  (a3 = 0 → (
    Q (some (.long ((Int32.ofInt r34).toInt64))) I33
  )) ∧ (¬ a3 = 0 → (
    (-2147483648 ≤ r34 ∧ r34 < 2147483648) ∧ (
    (0 ≤ r34 → (
      ∃ q36 : Nat, (
      (R a0 8 = some q36) ∧ (
      ∃ Q38 : Option Value → jx_I → Prop, (
      (jc V 3 130 (0, 0) [.ref q20, .ref q22, jy a1, jy a2, .ref q36] X I33 R Q38 (fun _ _ => False)) ∧ (
      ∀ rv I40, Q38 rv I40 → rv = none ∧ (
      (a3 ≠ 1 → (
        (X.2.1 q36 = some (5, 0)) ∧ (
        ∃ Q43 : Option Value → jx_I → Prop, (
        (jc V 1 81 (0, 0) [.ref q36] X I40 R Q43 (fun _ _ => False)) ∧ (
        ∀ rv I45, Q43 rv I45 → ∃ r46 : Int64, rv = some (.long r46) ∧ (
        Q (some (.long r46)) I45))))
      )) ∧ (a3 = 1 → (
        (X.2.1 q36 = some (5, 0)) ∧ (
        Q (some (.long ((Int32.ofInt ((I40 q36 1).toInt)).toInt64))) I40)
      )))))))
    )) ∧ (¬ 0 ≤ r34 → (
      Q (some (.long ((Int32.ofInt r34).toInt64))) I33
    )))
  )))))))))))))))))))))))))))))))
set_option maxRecDepth 20000 in
theorem wm_163 {V : jx_V} (hV : V.1.stackTraces = false) {X : jx_X} {R : jx_R} {I : jx_I} {Q : Option Value → jx_I → Prop} {QE : String → jx_I → Prop} {a0 : Nat} {a1 : Int} {a2 : Int} {a3 : Int} (r_a1 : -2147483648 ≤ a1 ∧ a1 < 2147483648) (r_a2 : -2147483648 ≤ a2 ∧ a2 < 2147483648) (r_a3 : -2147483648 ≤ a3 ∧ a3 < 2147483648) 
    (h : wz_163 V X R Q QE  a0 a1 a2 a3 I) : jc V 10 163 (3, 18) [.ref a0, jy a1, jy a2, jy a3] X I R Q QE := by
  refine jy_met hV (by decide) (n := 5) (rt := some .long) (hh := []) (ini := false) (C := jx_c163) (L := [some (.ref a0), some (jy a1), some (jy a2), some (jy a3), none]) jt_163 (Nat.le_of_ble_eq_true rfl) rfl ?_
  intro J hS
  unfold wz_163 at h
  refine jy_aload_n hS rfl rfl ?_
  refine jy_iload_n hS rfl rfl ?_
  obtain ⟨g1, h⟩ := h
  obtain ⟨Q2, h⟩ := h
  obtain ⟨E3, h⟩ := h
  obtain ⟨g4, h⟩ := h
  obtain ⟨g5, h⟩ := h
  refine jy_callV hS rfl rfl rfl (Nat.le_of_ble_eq_true rfl) (Or.inl g1) g4 (by decide) ⟨by decide, by decide⟩ (Nat.le_of_ble_eq_true rfl) ?_ ?_
  rotate_left
  · exact fun Ex Xx Ix Rx hp => ⟨hp.1, hp.2.1, hp.2.2.1, g5 _ _ hp.2.2.2⟩
  intro rv Xx I6 Rx hp
  obtain ⟨e1, e2, hp⟩ := hp
  rw [e1, e2]
  clear e1 e2
  obtain ⟨e1, h⟩ := h rv I6 hp
  rw [e1]
  clear e1
  change J 5 [] _ (2, 12) _ _ _
  refine jy_aload_n hS rfl rfl ?_
  refine jy_iload_n hS rfl rfl ?_
  obtain ⟨Q8, h⟩ := h
  obtain ⟨E9, h⟩ := h
  obtain ⟨g10, h⟩ := h
  obtain ⟨g11, h⟩ := h
  refine jy_callV hS rfl rfl rfl (Nat.le_of_ble_eq_true rfl) (Or.inl g1) g10 (by decide) ⟨by decide, by decide⟩ (Nat.le_of_ble_eq_true rfl) ?_ ?_
  rotate_left
  · exact fun Ex Xx Ix Rx hp => ⟨hp.1, hp.2.1, hp.2.2.1, g11 _ _ hp.2.2.2⟩
  intro rv Xx I12 Rx hp
  obtain ⟨e1, e2, hp⟩ := hp
  rw [e1, e2]
  clear e1 e2
  obtain ⟨e1, h⟩ := h rv I12 hp
  rw [e1]
  clear e1
  change J 10 [] _ (1, 6) _ _ _
  refine jy_aload_n hS rfl rfl ?_
  refine jy_iload_n hS rfl rfl ?_
  refine jy_iconst hS rfl ?_
  obtain ⟨Q14, h⟩ := h
  obtain ⟨E15, h⟩ := h
  obtain ⟨g16, h⟩ := h
  obtain ⟨g17, h⟩ := h
  refine jy_callV hS rfl rfl rfl (Nat.le_of_ble_eq_true rfl) (Or.inl g1) g16 (by decide) ⟨by decide, by decide⟩ (Nat.le_of_ble_eq_true rfl) ?_ ?_
  rotate_left
  · exact fun Ex Xx Ix Rx hp => ⟨hp.1, hp.2.1, hp.2.2.1, g17 _ _ hp.2.2.2⟩
  intro rv Xx I18 Rx hp
  obtain ⟨e1, e2, hp⟩ := hp
  rw [e1, e2]
  clear e1 e2
  obtain ⟨e1, h⟩ := h rv I18 hp
  rw [e1]
  clear e1
  change J 16 [] _ (0, 0) _ _ _
  refine jy_aload_n hS rfl rfl ?_
  obtain ⟨q20, h⟩ := h
  obtain ⟨g21, h⟩ := h
  refine jy_getR hS rfl (by decide) g1 g21 ?_
  refine jy_aload_n hS rfl rfl ?_
  obtain ⟨q22, h⟩ := h
  obtain ⟨g23, h⟩ := h
  refine jy_getR hS rfl (by decide) g1 g23 ?_
  refine jy_aload_n hS rfl rfl ?_
  obtain ⟨q24, h⟩ := h
  obtain ⟨g25, h⟩ := h
  refine jy_getR hS rfl (by decide) g1 g25 ?_
  obtain ⟨g26, h⟩ := h
  obtain ⟨Q27, h⟩ := h
  obtain ⟨g28, h⟩ := h
  refine jy_callV hS rfl rfl rfl (Nat.le_of_ble_eq_true rfl) (Or.inl g26) g28 (by decide) ⟨by decide, by decide⟩ (Nat.le_of_ble_eq_true rfl) ?_ ?_
  rotate_left
  · exact fun Ex Xx Ix Rx hp => hp.2.2.2.elim
  intro rv Xx I29 Rx hp
  obtain ⟨e1, e2, hp⟩ := hp
  rw [e1, e2]
  clear e1 e2
  obtain ⟨e1, h⟩ := h rv I29 hp
  rw [e1]
  clear e1
  change J 31 [] _ (0, 0) _ _ _
  refine jy_aload_n hS rfl rfl ?_
  refine jy_getR hS rfl (by decide) g1 g21 ?_
  refine jy_iload_n hS rfl rfl ?_
  refine jy_iload_n hS rfl rfl ?_
  obtain ⟨Q31, h⟩ := h
  obtain ⟨g32, h⟩ := h
  refine jy_callV hS rfl rfl rfl (Nat.le_of_ble_eq_true rfl) (Or.inl g26) g32 (by decide) ⟨by decide, by decide⟩ (Nat.le_of_ble_eq_true rfl) ?_ ?_
  rotate_left
  · exact fun Ex Xx Ix Rx hp => hp.2.2.2.elim
  intro rv Xx I33 Rx hp
  obtain ⟨e1, e2, hp⟩ := hp
  rw [e1, e2]
  clear e1 e2
  obtain ⟨r34, e1, h⟩ := h rv I33 hp
  rw [e1]
  clear e1
  change J 40 [jy r34] _ (0, 0) _ _ _
  refine jy_istore hS rfl (Nat.le_of_ble_eq_true rfl) (L' := [some (.ref a0), some (jy a1), some (jy a2), some (jy a3), some (jy r34)]) rfl ?_
  refine jy_iload_n hS rfl rfl ?_
  refine jy_if_eq hS rfl r_a3 (fun hq => ?_) (fun hq => ?_)
  · have h := h.1 hq
    refine jy_iload hS rfl rfl ?_
    refine jy_i2l hS rfl rfl ?_
    exact jy_lret hS rfl rfl ⟨rfl, rfl, h⟩
  · have h := h.2 hq
    refine jy_iload hS rfl rfl ?_
    obtain ⟨g35, h⟩ := h
    refine jy_if_ge hS rfl g35 (fun hq => ?_) (fun hq => ?_)
    · have h := h.1 hq
      refine jy_aload_n hS rfl rfl ?_
      refine jy_getR hS rfl (by decide) g1 g21 ?_
      refine jy_aload_n hS rfl rfl ?_
      refine jy_getR hS rfl (by decide) g1 g23 ?_
      refine jy_iload_n hS rfl rfl ?_
      refine jy_iload_n hS rfl rfl ?_
      refine jy_aload_n hS rfl rfl ?_
      obtain ⟨q36, h⟩ := h
      obtain ⟨g37, h⟩ := h
      refine jy_getR hS rfl (by decide) g1 g37 ?_
      obtain ⟨Q38, h⟩ := h
      obtain ⟨g39, h⟩ := h
      refine jy_callV hS rfl rfl rfl (Nat.le_of_ble_eq_true rfl) (Or.inl g26) g39 (by decide) ⟨by decide, by decide⟩ (Nat.le_of_ble_eq_true rfl) ?_ ?_
      rotate_left
      · exact fun Ex Xx Ix Rx hp => hp.2.2.2.elim
      intro rv Xx I40 Rx hp
      obtain ⟨e1, e2, hp⟩ := hp
      rw [e1, e2]
      clear e1 e2
      obtain ⟨e1, h⟩ := h rv I40 hp
      rw [e1]
      clear e1
      change J 72 [] _ (0, 0) _ _ _
      refine jy_iload_n hS rfl rfl ?_
      refine jy_iconst hS rfl ?_
      refine jy_icmp_ne hS rfl ⟨r_a3, ⟨by decide, by decide⟩⟩ (fun hq => ?_) (fun hq => ?_)
      · have h := h.1 hq
        refine jy_aload_n hS rfl rfl ?_
        refine jy_getR hS rfl (by decide) g1 g37 ?_
        obtain ⟨g42, h⟩ := h
        obtain ⟨Q43, h⟩ := h
        obtain ⟨g44, h⟩ := h
        refine jy_callV hS rfl rfl rfl (Nat.le_of_ble_eq_true rfl) (Or.inl g42) g44 (by decide) ⟨by decide, by decide⟩ (Nat.le_of_ble_eq_true rfl) ?_ ?_
        rotate_left
        · exact fun Ex Xx Ix Rx hp => hp.2.2.2.elim
        intro rv Xx I45 Rx hp
        obtain ⟨e1, e2, hp⟩ := hp
        rw [e1, e2]
        clear e1 e2
        obtain ⟨r46, e1, h⟩ := h rv I45 hp
        rw [e1]
        clear e1
        change J 95 [.long r46] _ (0, 0) _ _ _
        exact jy_lret hS rfl rfl ⟨rfl, rfl, h⟩
      · have h := h.2 hq
        refine jy_aload_n hS rfl rfl ?_
        refine jy_getR hS rfl (by decide) g1 g37 ?_
        obtain ⟨g47, h⟩ := h
        refine jy_getI hS rfl (by decide) g47 ?_
        refine jy_i2l hS rfl rfl ?_
        refine jy_goto hS rfl ?_
        exact jy_lret hS rfl rfl ⟨rfl, rfl, h⟩
    · have h := h.2 hq
      refine jy_iload hS rfl rfl ?_
      refine jy_i2l hS rfl rfl ?_
      exact jy_lret hS rfl rfl ⟨rfl, rfl, h⟩
theorem jt_164 : jx_ml 164 = 6 ∧ jx_rt 164 = some .int ∧ jx_hz 164 = [] ∧ decide ((jx_nm 164).name = "<init>") = false ∧ jx_code 164 = jx_c164 := by decide +kernel
/-- GC.widest, from 28 -/
def wz_164_28 (V : jx_V) (X : jx_X) (R : jx_R) (Q : Option Value → jx_I → Prop) (QE : String → jx_I → Prop) (J28 : Int → Int → Int → jx_I → Prop) (J43 : Int → Int → Int → Int → jx_I → Prop) (J98 : Int → Int → Int → Int → jx_I → Prop) (a0 : Nat) (a1 : Int) (l2 : Int) (l3 : Int) (l4 : Int) (I : jx_I) : Prop :=
  (X.2.1 a0 = some (11, 0)) ∧ (
  ∃ q20 : Nat, (
  (R a0 11 = some q20) ∧ (
  (X.2.1 q20 = some (2, 0)) ∧ (
  (-2147483648 ≤ l4 ∧ l4 < 2147483648) ∧ (
  ((I q20 7).toInt ≤ l4 → (
    (a1 ≠ 0 → (
      Q (some (jy l3)) I
    )) ∧ (a1 = 0 → (
      Q (some (jy l2)) I
    ))
  )) ∧ (¬ (I q20 7).toInt ≤ l4 → (
    J43 l2 l3 l4 0 I
  )))))))
/-- GC.widest, from 43 -/
def wz_164_43 (V : jx_V) (X : jx_X) (R : jx_R) (Q : Option Value → jx_I → Prop) (QE : String → jx_I → Prop) (J28 : Int → Int → Int → jx_I → Prop) (J43 : Int → Int → Int → Int → jx_I → Prop) (J98 : Int → Int → Int → Int → jx_I → Prop) (a0 : Nat) (a1 : Int) (l2 : Int) (l3 : Int) (l4 : Int) (l5 : Int) (I : jx_I) : Prop :=
  (X.2.1 a0 = some (11, 0)) ∧ (
  ∃ q25 : Nat, (
  (R a0 11 = some q25) ∧ (
  (X.2.1 q25 = some (2, 0)) ∧ (
  (-2147483648 ≤ l5 ∧ l5 < 2147483648) ∧ (
  ((I q25 7).toInt ≤ l5 → (
    J28 l2 l3 (l4 + 1) I
  )) ∧ (¬ (I q25 7).toInt ≤ l5 → (
    (-2147483648 ≤ l4 ∧ l4 < 2147483648) ∧ (
    (l4 = l5 → (
      J43 l2 l3 l4 (l5 + 1) I
    )) ∧ (¬ l4 = l5 → (
      ∃ q30 : Nat, (
      (R a0 6 = some q30) ∧ (
      (X.2.1 q30 = some (10, 0)) ∧ (
      ∃ Q33 : Option Value → jx_I → Prop, (
      (jc V 1 129 (0, 0) [.ref q30, jy l4, jy l5] X I R Q33 (fun _ _ => False)) ∧ (
      ∀ rv I35, Q33 rv I35 → ∃ r36 : Int, rv = some (jy r36) ∧ (
      (-2147483648 ≤ r36 ∧ r36 < 2147483648) ∧ (
      (-2147483648 ≤ l2 ∧ l2 < 2147483648) ∧ (
      (r36 ≤ l2 → (
        J43 l2 l3 l4 (l5 + 1) I35
      )) ∧ (¬ r36 ≤ l2 → (
        ∃ Q39 : Option Value → jx_I → Prop, (
        (jc V 1 129 (0, 0) [.ref q30, jy l4, jy l5] X I35 R Q39 (fun _ _ => False)) ∧ (
        ∀ rv I41, Q39 rv I41 → ∃ r42 : Int, rv = some (jy r42) ∧ (
        J98 r42 ((l4 * 10) + l5) l4 l5 I41)))
      ))))))))))
    )))
  )))))))
/-- GC.widest, from 98 -/
def wz_164_98 (V : jx_V) (X : jx_X) (R : jx_R) (Q : Option Value → jx_I → Prop) (QE : String → jx_I → Prop) (J28 : Int → Int → Int → jx_I → Prop) (J43 : Int → Int → Int → Int → jx_I → Prop) (J98 : Int → Int → Int → Int → jx_I → Prop) (a0 : Nat) (a1 : Int) (l2 : Int) (l3 : Int) (l4 : Int) (l5 : Int) (I : jx_I) : Prop :=
  J43 l2 l3 l4 (l5 + 1) I
/-- GC.widest -/
def wz_164 (V : jx_V) (X : jx_X) (R : jx_R) (Q : Option Value → jx_I → Prop) (QE : String → jx_I → Prop) (J28 : Int → Int → Int → jx_I → Prop) (J43 : Int → Int → Int → Int → jx_I → Prop) (J98 : Int → Int → Int → Int → jx_I → Prop) (a0 : Nat) (a1 : Int) (I : jx_I) : Prop :=
  (X.2.1 a0 = some (11, 0)) ∧ (
  ∃ Q2 : Option Value → jx_I → Prop, (
  ∃ E3 : String → jx_I → Prop, (
  (jc V 9 190 (1, 6) [.ref a0, jy a1, jy 1] X I R Q2 E3) ∧ (
  (∀ Ex Ix, E3 Ex Ix → QE Ex Ix) ∧ (
  ∀ rv I6, Q2 rv I6 → rv = none ∧ (
  ∃ q8 : Nat, (
  (R a0 6 = some q8) ∧ (
  ∃ q10 : Nat, (
  (R a0 11 = some q10) ∧ (
  ∃ q12 : Nat, (
  (R a0 2 = some q12) ∧ (
  (X.2.1 q8 = some (10, 0)) ∧ (
  ∃ Q15 : Option Value → jx_I → Prop, (
  (jc V 5 127 (0, 0) [.ref q8, .ref q10, .ref q12] X I6 R Q15 (fun _ _ => False)) ∧ (
  ∀ rv I17, Q15 rv I17 → rv = none ∧ (
  J28 (-1) (-1) 0 I17))))))))))))))))
set_option maxRecDepth 20000 in
theorem wm_164 {V : jx_V} (hV : V.1.stackTraces = false) {X : jx_X} {R : jx_R} {I : jx_I} {Q : Option Value → jx_I → Prop} {QE : String → jx_I → Prop} {a0 : Nat} {a1 : Int} (r_a1 : -2147483648 ≤ a1 ∧ a1 < 2147483648) 
    (h : ∀ (J28 : Int → Int → Int → jx_I → Prop) (J43 : Int → Int → Int → Int → jx_I → Prop) (J98 : Int → Int → Int → Int → jx_I → Prop), ((∀ (l2 : Int) (l3 : Int) (l4 : Int) I, wz_164_28 V X R Q QE J28 J43 J98 a0 a1 l2 l3 l4 I → J28 l2 l3 l4 I) ∧ (∀ (l2 : Int) (l3 : Int) (l4 : Int) (l5 : Int) I, wz_164_43 V X R Q QE J28 J43 J98 a0 a1 l2 l3 l4 l5 I → J43 l2 l3 l4 l5 I) ∧ (∀ (l2 : Int) (l3 : Int) (l4 : Int) (l5 : Int) I, wz_164_98 V X R Q QE J28 J43 J98 a0 a1 l2 l3 l4 l5 I → J98 l2 l3 l4 l5 I)) → wz_164 V X R Q QE J28 J43 J98 a0 a1 I) : jc V 10 164 (1, 6) [.ref a0, jy a1] X I R Q QE := by
  refine jy_met hV (by decide) (n := 6) (rt := some .int) (hh := []) (ini := false) (C := jx_c164) (L := [some (.ref a0), some (jy a1), none, none, none, none]) jt_164 (Nat.le_of_ble_eq_true rfl) rfl ?_
  intro J hS
  have h := h (fun l2 l3 l4 I => J 28 [] [some (.ref a0), some (jy a1), some (jy l2), some (jy l3), some (jy l4), none] (0, 0) X I R) (fun l2 l3 l4 l5 I => J 43 [] [some (.ref a0), some (jy a1), some (jy l2), some (jy l3), some (jy l4), some (jy l5)] (0, 0) X I R) (fun l2 l3 l4 l5 I => J 98 [] [some (.ref a0), some (jy a1), some (jy l2), some (jy l3), some (jy l4), some (jy l5)] (0, 0) X I R) ?_
  · unfold wz_164 at h
    refine jy_aload_n hS rfl rfl ?_
    refine jy_iload_n hS rfl rfl ?_
    refine jy_iconst hS rfl ?_
    obtain ⟨g1, h⟩ := h
    obtain ⟨Q2, h⟩ := h
    obtain ⟨E3, h⟩ := h
    obtain ⟨g4, h⟩ := h
    obtain ⟨g5, h⟩ := h
    refine jy_callV hS rfl rfl rfl (Nat.le_of_ble_eq_true rfl) (Or.inl g1) g4 (by decide) ⟨by decide, by decide⟩ (Nat.le_of_ble_eq_true rfl) ?_ ?_
    rotate_left
    · exact fun Ex Xx Ix Rx hp => ⟨hp.1, hp.2.1, hp.2.2.1, g5 _ _ hp.2.2.2⟩
    intro rv Xx I6 Rx hp
    obtain ⟨e1, e2, hp⟩ := hp
    rw [e1, e2]
    clear e1 e2
    obtain ⟨e1, h⟩ := h rv I6 hp
    rw [e1]
    clear e1
    change J 6 [] _ (0, 0) _ _ _
    refine jy_aload_n hS rfl rfl ?_
    obtain ⟨q8, h⟩ := h
    obtain ⟨g9, h⟩ := h
    refine jy_getR hS rfl (by decide) g1 g9 ?_
    refine jy_aload_n hS rfl rfl ?_
    obtain ⟨q10, h⟩ := h
    obtain ⟨g11, h⟩ := h
    refine jy_getR hS rfl (by decide) g1 g11 ?_
    refine jy_aload_n hS rfl rfl ?_
    obtain ⟨q12, h⟩ := h
    obtain ⟨g13, h⟩ := h
    refine jy_getR hS rfl (by decide) g1 g13 ?_
    obtain ⟨g14, h⟩ := h
    obtain ⟨Q15, h⟩ := h
    obtain ⟨g16, h⟩ := h
    refine jy_callV hS rfl rfl rfl (Nat.le_of_ble_eq_true rfl) (Or.inl g14) g16 (by decide) ⟨by decide, by decide⟩ (Nat.le_of_ble_eq_true rfl) ?_ ?_
    rotate_left
    · exact fun Ex Xx Ix Rx hp => hp.2.2.2.elim
    intro rv Xx I17 Rx hp
    obtain ⟨e1, e2, hp⟩ := hp
    rw [e1, e2]
    clear e1 e2
    obtain ⟨e1, h⟩ := h rv I17 hp
    rw [e1]
    clear e1
    change J 21 [] _ (0, 0) _ _ _
    refine jy_iconst hS rfl ?_
    refine jy_istore_n hS rfl (Nat.le_of_ble_eq_true rfl) (L' := [some (.ref a0), some (jy a1), some (jy (-1)), none, none, none]) rfl ?_
    refine jy_iconst hS rfl ?_
    refine jy_istore_n hS rfl (Nat.le_of_ble_eq_true rfl) (L' := [some (.ref a0), some (jy a1), some (jy (-1)), some (jy (-1)), none, none]) rfl ?_
    refine jy_iconst hS rfl ?_
    refine jy_istore hS rfl (Nat.le_of_ble_eq_true rfl) (L' := [some (.ref a0), some (jy a1), some (jy (-1)), some (jy (-1)), some (jy 0), none]) rfl ?_
    exact jy_join hS h rfl (jy_sub_s (jy_sub_s (jy_sub_s (jy_sub_s (jy_sub_s (jy_sub_n jy_sub_0))))))
  refine ⟨?_, ?_, ?_⟩
  · intro l2 l3 l4 I h
    unfold wz_164_28 at h
    refine jy_iload hS rfl rfl ?_
    refine jy_aload_n hS rfl rfl ?_
    obtain ⟨g19, h⟩ := h
    obtain ⟨q20, h⟩ := h
    obtain ⟨g21, h⟩ := h
    refine jy_getR hS rfl (by decide) g19 g21 ?_
    obtain ⟨g22, h⟩ := h
    refine jy_getI hS rfl (by decide) g22 ?_
    obtain ⟨g23, h⟩ := h
    refine jy_icmp_ge hS rfl ⟨g23, (jy_rng _)⟩ (fun hq => ?_) (fun hq => ?_)
    · have h := h.1 hq
      refine jy_iload_n hS rfl rfl ?_
      refine jy_if_ne hS rfl r_a1 (fun hq => ?_) (fun hq => ?_)
      · have h := h.1 hq
        refine jy_iload_n hS rfl rfl ?_
        exact jy_iret hS rfl rfl ⟨rfl, rfl, h⟩
      · have h := h.2 hq
        refine jy_iload_n hS rfl rfl ?_
        refine jy_goto hS rfl ?_
        exact jy_iret hS rfl rfl ⟨rfl, rfl, h⟩
    · have h := h.2 hq
      refine jy_iconst hS rfl ?_
      refine jy_istore hS rfl (Nat.le_of_ble_eq_true rfl) (L' := [some (.ref a0), some (jy a1), some (jy l2), some (jy l3), some (jy l4), some (jy 0)]) rfl ?_
      exact jy_join hS h rfl (jy_sub_s (jy_sub_s (jy_sub_s (jy_sub_s (jy_sub_s (jy_sub_s jy_sub_0))))))
  · intro l2 l3 l4 l5 I h
    unfold wz_164_43 at h
    refine jy_iload hS rfl rfl ?_
    refine jy_aload_n hS rfl rfl ?_
    obtain ⟨g24, h⟩ := h
    obtain ⟨q25, h⟩ := h
    obtain ⟨g26, h⟩ := h
    refine jy_getR hS rfl (by decide) g24 g26 ?_
    obtain ⟨g27, h⟩ := h
    refine jy_getI hS rfl (by decide) g27 ?_
    obtain ⟨g28, h⟩ := h
    refine jy_icmp_ge hS rfl ⟨g28, (jy_rng _)⟩ (fun hq => ?_) (fun hq => ?_)
    · have h := h.1 hq
      refine jy_iinc hS rfl rfl (L' := [some (.ref a0), some (jy a1), some (jy l2), some (jy l3), some (jy (l4 + 1)), some (jy l5)]) rfl ?_
      refine jy_goto hS rfl ?_
      exact jy_join hS h rfl (jy_sub_s (jy_sub_s (jy_sub_s (jy_sub_s (jy_sub_s (jy_sub_n jy_sub_0))))))
    · have h := h.2 hq
      refine jy_iload hS rfl rfl ?_
      refine jy_iload hS rfl rfl ?_
      obtain ⟨g29, h⟩ := h
      refine jy_icmp_eq hS rfl ⟨g29, g28⟩ (fun hq => ?_) (fun hq => ?_)
      · have h := h.1 hq
        refine jy_iinc hS rfl rfl (L' := [some (.ref a0), some (jy a1), some (jy l2), some (jy l3), some (jy l4), some (jy (l5 + 1))]) rfl ?_
        refine jy_goto hS rfl ?_
        exact jy_join hS h rfl (jy_sub_s (jy_sub_s (jy_sub_s (jy_sub_s (jy_sub_s (jy_sub_s jy_sub_0))))))
      · have h := h.2 hq
        refine jy_aload_n hS rfl rfl ?_
        obtain ⟨q30, h⟩ := h
        obtain ⟨g31, h⟩ := h
        refine jy_getR hS rfl (by decide) g24 g31 ?_
        refine jy_iload hS rfl rfl ?_
        refine jy_iload hS rfl rfl ?_
        obtain ⟨g32, h⟩ := h
        obtain ⟨Q33, h⟩ := h
        obtain ⟨g34, h⟩ := h
        refine jy_callV hS rfl rfl rfl (Nat.le_of_ble_eq_true rfl) (Or.inl g32) g34 (by decide) ⟨by decide, by decide⟩ (Nat.le_of_ble_eq_true rfl) ?_ ?_
        rotate_left
        · exact fun Ex Xx Ix Rx hp => hp.2.2.2.elim
        intro rv Xx I35 Rx hp
        obtain ⟨e1, e2, hp⟩ := hp
        rw [e1, e2]
        clear e1 e2
        obtain ⟨r36, e1, h⟩ := h rv I35 hp
        rw [e1]
        clear e1
        change J 73 [jy r36] _ (0, 0) _ _ _
        refine jy_iload_n hS rfl rfl ?_
        obtain ⟨g37, h⟩ := h
        obtain ⟨g38, h⟩ := h
        refine jy_icmp_le hS rfl ⟨g37, g38⟩ (fun hq => ?_) (fun hq => ?_)
        · have h := h.1 hq
          refine jy_iinc hS rfl rfl (L' := [some (.ref a0), some (jy a1), some (jy l2), some (jy l3), some (jy l4), some (jy (l5 + 1))]) rfl ?_
          refine jy_goto hS rfl ?_
          exact jy_join hS h rfl (jy_sub_s (jy_sub_s (jy_sub_s (jy_sub_s (jy_sub_s (jy_sub_s jy_sub_0))))))
        · have h := h.2 hq
          refine jy_aload_n hS rfl rfl ?_
          refine jy_getR hS rfl (by decide) g24 g31 ?_
          refine jy_iload hS rfl rfl ?_
          refine jy_iload hS rfl rfl ?_
          obtain ⟨Q39, h⟩ := h
          obtain ⟨g40, h⟩ := h
          refine jy_callV hS rfl rfl rfl (Nat.le_of_ble_eq_true rfl) (Or.inl g32) g40 (by decide) ⟨by decide, by decide⟩ (Nat.le_of_ble_eq_true rfl) ?_ ?_
          rotate_left
          · exact fun Ex Xx Ix Rx hp => hp.2.2.2.elim
          intro rv Xx I41 Rx hp
          obtain ⟨e1, e2, hp⟩ := hp
          rw [e1, e2]
          clear e1 e2
          obtain ⟨r42, e1, h⟩ := h rv I41 hp
          rw [e1]
          clear e1
          change J 88 [jy r42] _ (0, 0) _ _ _
          refine jy_istore_n hS rfl (Nat.le_of_ble_eq_true rfl) (L' := [some (.ref a0), some (jy a1), some (jy r42), some (jy l3), some (jy l4), some (jy l5)]) rfl ?_
          refine jy_iload hS rfl rfl ?_
          refine jy_bipush hS rfl (by decide) ?_
          refine jy_imul hS rfl ?_
          refine jy_iload hS rfl rfl ?_
          refine jy_iadd hS rfl ?_
          refine jy_istore_n hS rfl (Nat.le_of_ble_eq_true rfl) (L' := [some (.ref a0), some (jy a1), some (jy r42), some (jy ((l4 * 10) + l5)), some (jy l4), some (jy l5)]) rfl ?_
          exact jy_join hS h rfl (jy_sub_s (jy_sub_s (jy_sub_s (jy_sub_s (jy_sub_s (jy_sub_s jy_sub_0))))))
  · intro l2 l3 l4 l5 I h
    unfold wz_164_98 at h
    refine jy_iinc hS rfl rfl (L' := [some (.ref a0), some (jy a1), some (jy l2), some (jy l3), some (jy l4), some (jy (l5 + 1))]) rfl ?_
    refine jy_goto hS rfl ?_
    exact jy_join hS h rfl (jy_sub_s (jy_sub_s (jy_sub_s (jy_sub_s (jy_sub_s (jy_sub_s jy_sub_0))))))
theorem jt_165 : jx_ml 165 = 5 ∧ jx_rt 165 = some .int ∧ jx_hz 165 = [] ∧ decide ((jx_nm 165).name = "<init>") = false ∧ jx_code 165 = jx_c165 := by decide +kernel
/-- GC.visited, from 22 -/
def wz_165_22 (V : jx_V) (X : jx_X) (R : jx_R) (Q : Option Value → jx_I → Prop) (QE : String → jx_I → Prop) (J22 : Nat → Int → jx_I → Prop) (a0 : Nat) (a1 : Int) (a2 : Int) (a3 : Int) (s0 : Nat) (s1 : Int) (I : jx_I) : Prop :=
  (X.2.1 s0 = some (11, 0)) ∧ (
  ∃ Q9 : Option Value → jx_I → Prop, (
  ∃ E10 : String → jx_I → Prop, (
  (jc V 8 189 (1, 6) [.ref s0, jy s1] X I R Q9 E10) ∧ (
  (∀ Ex Ix, E10 Ex Ix → QE Ex Ix) ∧ (
  ∀ rv I13, Q9 rv I13 → rv = none ∧ (
  (X.2.1 a0 = some (11, 0)) ∧ (
  ∃ Q16 : Option Value → jx_I → Prop, (
  ∃ E17 : String → jx_I → Prop, (
  (jc V 9 190 (1, 6) [.ref a0, jy a3, jy 1] X I13 R Q16 E17) ∧ (
  (∀ Ex Ix, E17 Ex Ix → QE Ex Ix) ∧ (
  ∀ rv I20, Q16 rv I20 → rv = none ∧ (
  ∃ q22 : Nat, (
  (R a0 6 = some q22) ∧ (
  ∃ q24 : Nat, (
  (R a0 11 = some q24) ∧ (
  ∃ q26 : Nat, (
  (R a0 2 = some q26) ∧ (
  (X.2.1 q22 = some (10, 0)) ∧ (
  ∃ Q29 : Option Value → jx_I → Prop, (
  (jc V 5 127 (0, 0) [.ref q22, .ref q24, .ref q26] X I20 R Q29 (fun _ _ => False)) ∧ (
  ∀ rv I31, Q29 rv I31 → rv = none ∧ (
  (X.2.1 q24 = some (2, 0)) ∧ (
  ∃ Q34 : Option Value → jx_I → Prop, (
  (jc V 3 132 (0, 0) [.ref q22, jy ((I31 q24 7).toInt), jy a1, jy a2] X I31 R Q34 (fun _ _ => False)) ∧ (
  ∀ rv I36, Q34 rv I36 → ∃ r37 : Int, rv = some (jy r37) ∧ (
  (a3 ≠ 0 → (
    Q (some (jy r37)) I36
  )) ∧ (a3 = 0 → (
    ∃ Q38 : Option Value → jx_I → Prop, (
    (jc V 1 327 (0, 0) [jy r37] X I36 R Q38 (fun _ _ => False)) ∧ (
    ∀ rv I40, Q38 rv I40 → ∃ r41 : Int, rv = some (jy r41) ∧ (
    Q (some (jy r41)) I40)))
  ))))))))))))))))))))))))))))
/-- GC.visited -/
def wz_165 (V : jx_V) (X : jx_X) (R : jx_R) (Q : Option Value → jx_I → Prop) (QE : String → jx_I → Prop) (J22 : Nat → Int → jx_I → Prop) (a0 : Nat) (a1 : Int) (a2 : Int) (a3 : Int) (I : jx_I) : Prop :=
  (X.2.1 a0 = some (11, 0)) ∧ (
  ∃ Q2 : Option Value → jx_I → Prop, (
  ∃ E3 : String → jx_I → Prop, (
  (jc V 8 187 (1, 6) [.ref a0, jy a1] X I R Q2 E3) ∧ (
  (∀ Ex Ix, E3 Ex Ix → QE Ex Ix) ∧ (
  ∀ rv I6, Q2 rv I6 → rv = none ∧ (
  (a2 < 0 → (
    J22 a0 0 I6
  )) ∧ (¬ a2 < 0 → (
    (999 < a2 → (
      J22 a0 0 I6
    )) ∧ (¬ 999 < a2 → (
      J22 a0 1 I6
    ))
  ))))))))
set_option maxRecDepth 20000 in
theorem wm_165 {V : jx_V} (hV : V.1.stackTraces = false) {X : jx_X} {R : jx_R} {I : jx_I} {Q : Option Value → jx_I → Prop} {QE : String → jx_I → Prop} {a0 : Nat} {a1 : Int} {a2 : Int} {a3 : Int} (r_a1 : -2147483648 ≤ a1 ∧ a1 < 2147483648) (r_a2 : -2147483648 ≤ a2 ∧ a2 < 2147483648) (r_a3 : -2147483648 ≤ a3 ∧ a3 < 2147483648) 
    (h : ∀ (J22 : Nat → Int → jx_I → Prop), ((∀ (s0 : Nat) (s1 : Int) I, wz_165_22 V X R Q QE J22 a0 a1 a2 a3 s0 s1 I → J22 s0 s1 I)) → wz_165 V X R Q QE J22 a0 a1 a2 a3 I) : jc V 10 165 (3, 18) [.ref a0, jy a1, jy a2, jy a3] X I R Q QE := by
  refine jy_met hV (by decide) (n := 5) (rt := some .int) (hh := []) (ini := false) (C := jx_c165) (L := [some (.ref a0), some (jy a1), some (jy a2), some (jy a3), none]) jt_165 (Nat.le_of_ble_eq_true rfl) rfl ?_
  intro J hS
  have h := h (fun s0 s1 I => J 22 [jy s1, .ref s0] [some (.ref a0), some (jy a1), some (jy a2), some (jy a3), none] (2, 12) X I R) ?_
  · unfold wz_165 at h
    refine jy_aload_n hS rfl rfl ?_
    refine jy_iload_n hS rfl rfl ?_
    obtain ⟨g1, h⟩ := h
    obtain ⟨Q2, h⟩ := h
    obtain ⟨E3, h⟩ := h
    obtain ⟨g4, h⟩ := h
    obtain ⟨g5, h⟩ := h
    refine jy_callV hS rfl rfl rfl (Nat.le_of_ble_eq_true rfl) (Or.inl g1) g4 (by decide) ⟨by decide, by decide⟩ (Nat.le_of_ble_eq_true rfl) ?_ ?_
    rotate_left
    · exact fun Ex Xx Ix Rx hp => ⟨hp.1, hp.2.1, hp.2.2.1, g5 _ _ hp.2.2.2⟩
    intro rv Xx I6 Rx hp
    obtain ⟨e1, e2, hp⟩ := hp
    rw [e1, e2]
    clear e1 e2
    obtain ⟨e1, h⟩ := h rv I6 hp
    rw [e1]
    clear e1
    change J 5 [] _ (2, 12) _ _ _
    refine jy_aload_n hS rfl rfl ?_
    refine jy_iload_n hS rfl rfl ?_
    refine jy_if_lt hS rfl r_a2 (fun hq => ?_) (fun hq => ?_)
    · have h := h.1 hq
      refine jy_iconst hS rfl ?_
      exact jy_join hS h rfl (jy_sub_s (jy_sub_s (jy_sub_s (jy_sub_s (jy_sub_n jy_sub_0)))))
    · have h := h.2 hq
      refine jy_iload_n hS rfl rfl ?_
      refine jy_sipush hS rfl (by decide) ?_
      refine jy_icmp_gt hS rfl ⟨r_a2, ⟨by decide, by decide⟩⟩ (fun hq => ?_) (fun hq => ?_)
      · have h := h.1 hq
        refine jy_iconst hS rfl ?_
        exact jy_join hS h rfl (jy_sub_s (jy_sub_s (jy_sub_s (jy_sub_s (jy_sub_n jy_sub_0)))))
      · have h := h.2 hq
        refine jy_iconst hS rfl ?_
        refine jy_goto hS rfl ?_
        exact jy_join hS h rfl (jy_sub_s (jy_sub_s (jy_sub_s (jy_sub_s (jy_sub_n jy_sub_0)))))
  · intro s0 s1 I h
    unfold wz_165_22 at h
    obtain ⟨g8, h⟩ := h
    obtain ⟨Q9, h⟩ := h
    obtain ⟨E10, h⟩ := h
    obtain ⟨g11, h⟩ := h
    obtain ⟨g12, h⟩ := h
    refine jy_callV hS rfl rfl rfl (Nat.le_of_ble_eq_true rfl) (Or.inl g8) g11 (by decide) ⟨by decide, by decide⟩ (Nat.le_of_ble_eq_true rfl) ?_ ?_
    rotate_left
    · exact fun Ex Xx Ix Rx hp => ⟨hp.1, hp.2.1, hp.2.2.1, g12 _ _ hp.2.2.2⟩
    intro rv Xx I13 Rx hp
    obtain ⟨e1, e2, hp⟩ := hp
    rw [e1, e2]
    clear e1 e2
    obtain ⟨e1, h⟩ := h rv I13 hp
    rw [e1]
    clear e1
    change J 25 [] _ (1, 6) _ _ _
    refine jy_aload_n hS rfl rfl ?_
    refine jy_iload_n hS rfl rfl ?_
    refine jy_iconst hS rfl ?_
    obtain ⟨g15, h⟩ := h
    obtain ⟨Q16, h⟩ := h
    obtain ⟨E17, h⟩ := h
    obtain ⟨g18, h⟩ := h
    obtain ⟨g19, h⟩ := h
    refine jy_callV hS rfl rfl rfl (Nat.le_of_ble_eq_true rfl) (Or.inl g15) g18 (by decide) ⟨by decide, by decide⟩ (Nat.le_of_ble_eq_true rfl) ?_ ?_
    rotate_left
    · exact fun Ex Xx Ix Rx hp => ⟨hp.1, hp.2.1, hp.2.2.1, g19 _ _ hp.2.2.2⟩
    intro rv Xx I20 Rx hp
    obtain ⟨e1, e2, hp⟩ := hp
    rw [e1, e2]
    clear e1 e2
    obtain ⟨e1, h⟩ := h rv I20 hp
    rw [e1]
    clear e1
    change J 31 [] _ (0, 0) _ _ _
    refine jy_aload_n hS rfl rfl ?_
    obtain ⟨q22, h⟩ := h
    obtain ⟨g23, h⟩ := h
    refine jy_getR hS rfl (by decide) g15 g23 ?_
    refine jy_aload_n hS rfl rfl ?_
    obtain ⟨q24, h⟩ := h
    obtain ⟨g25, h⟩ := h
    refine jy_getR hS rfl (by decide) g15 g25 ?_
    refine jy_aload_n hS rfl rfl ?_
    obtain ⟨q26, h⟩ := h
    obtain ⟨g27, h⟩ := h
    refine jy_getR hS rfl (by decide) g15 g27 ?_
    obtain ⟨g28, h⟩ := h
    obtain ⟨Q29, h⟩ := h
    obtain ⟨g30, h⟩ := h
    refine jy_callV hS rfl rfl rfl (Nat.le_of_ble_eq_true rfl) (Or.inl g28) g30 (by decide) ⟨by decide, by decide⟩ (Nat.le_of_ble_eq_true rfl) ?_ ?_
    rotate_left
    · exact fun Ex Xx Ix Rx hp => hp.2.2.2.elim
    intro rv Xx I31 Rx hp
    obtain ⟨e1, e2, hp⟩ := hp
    rw [e1, e2]
    clear e1 e2
    obtain ⟨e1, h⟩ := h rv I31 hp
    rw [e1]
    clear e1
    change J 46 [] _ (0, 0) _ _ _
    refine jy_aload_n hS rfl rfl ?_
    refine jy_getR hS rfl (by decide) g15 g23 ?_
    refine jy_aload_n hS rfl rfl ?_
    refine jy_getR hS rfl (by decide) g15 g25 ?_
    obtain ⟨g33, h⟩ := h
    refine jy_getI hS rfl (by decide) g33 ?_
    refine jy_iload_n hS rfl rfl ?_
    refine jy_iload_n hS rfl rfl ?_
    obtain ⟨Q34, h⟩ := h
    obtain ⟨g35, h⟩ := h
    refine jy_callV hS rfl rfl rfl (Nat.le_of_ble_eq_true rfl) (Or.inl g28) g35 (by decide) ⟨by decide, by decide⟩ (Nat.le_of_ble_eq_true rfl) ?_ ?_
    rotate_left
    · exact fun Ex Xx Ix Rx hp => hp.2.2.2.elim
    intro rv Xx I36 Rx hp
    obtain ⟨e1, e2, hp⟩ := hp
    rw [e1, e2]
    clear e1 e2
    obtain ⟨r37, e1, h⟩ := h rv I36 hp
    rw [e1]
    clear e1
    change J 62 [jy r37] _ (0, 0) _ _ _
    refine jy_istore hS rfl (Nat.le_of_ble_eq_true rfl) (L' := [some (.ref a0), some (jy a1), some (jy a2), some (jy a3), some (jy r37)]) rfl ?_
    refine jy_iload_n hS rfl rfl ?_
    refine jy_if_ne hS rfl r_a3 (fun hq => ?_) (fun hq => ?_)
    · have h := h.1 hq
      refine jy_iload hS rfl rfl ?_
      exact jy_iret hS rfl rfl ⟨rfl, rfl, h⟩
    · have h := h.2 hq
      refine jy_iload hS rfl rfl ?_
      obtain ⟨Q38, h⟩ := h
      obtain ⟨g39, h⟩ := h
      refine jy_callS hS rfl rfl rfl (Nat.le_of_ble_eq_true rfl) g39 (by decide) ⟨by decide, by decide⟩ (Nat.le_of_ble_eq_true rfl) ?_ ?_
      rotate_left
      · exact fun Ex Xx Ix Rx hp => hp.2.2.2.elim
      intro rv Xx I40 Rx hp
      obtain ⟨e1, e2, hp⟩ := hp
      rw [e1, e2]
      clear e1 e2
      obtain ⟨r41, e1, h⟩ := h rv I40 hp
      rw [e1]
      clear e1
      change J 73 [jy r41] _ (0, 0) _ _ _
      refine jy_goto hS rfl ?_
      exact jy_iret hS rfl rfl ⟨rfl, rfl, h⟩
theorem jt_166 : jx_ml 166 = 4 ∧ jx_rt 166 = some .int ∧ jx_hz 166 = [] ∧ decide ((jx_nm 166).name = "<init>") = false ∧ jx_code 166 = jx_c166 := by decide +kernel
/-- GC.roped, from 30 -/
def wz_166_30 (V : jx_V) (X : jx_X) (R : jx_R) (Q : Option Value → jx_I → Prop) (QE : String → jx_I → Prop) (J30 : Nat → Int → jx_I → Prop) (a0 : Nat) (a1 : Int) (a2 : Int) (s0 : Nat) (s1 : Int) (I : jx_I) : Prop :=
  (X.2.1 s0 = some (11, 0)) ∧ (
  ∃ Q16 : Option Value → jx_I → Prop, (
  ∃ E17 : String → jx_I → Prop, (
  (jc V 8 189 (1, 6) [.ref s0, jy s1] X I R Q16 E17) ∧ (
  (∀ Ex Ix, E17 Ex Ix → QE Ex Ix) ∧ (
  ∀ rv I20, Q16 rv I20 → rv = none ∧ (
  (X.2.1 a0 = some (11, 0)) ∧ (
  ∃ Q23 : Option Value → jx_I → Prop, (
  ∃ E24 : String → jx_I → Prop, (
  (jc V 9 190 (1, 6) [.ref a0, jy a2, jy 1] X I20 R Q23 E24) ∧ (
  (∀ Ex Ix, E24 Ex Ix → QE Ex Ix) ∧ (
  ∀ rv I27, Q23 rv I27 → rv = none ∧ (
  ∃ Q29 : Option Value → jx_I → Prop, (
  ∃ E30 : String → jx_I → Prop, (
  (jc V 8 193 (1, 6) [.ref a0] X I27 R Q29 E30) ∧ (
  (∀ Ex Ix, E30 Ex Ix → QE Ex Ix) ∧ (
  ∀ rv I33, Q29 rv I33 → rv = none ∧ (
  ∃ Q35 : Option Value → jx_I → Prop, (
  (jc V 6 196 (0, 0) [.ref a0, jy a1] X I33 R Q35 (fun _ _ => False)) ∧ (
  ∀ rv I37, Q35 rv I37 → ∃ r38 : Int, rv = some (jy r38) ∧ (
  (-2147483648 ≤ r38 ∧ r38 < 2147483648) ∧ (
  (0 ≤ r38 → (
    (a2 ≠ 0 → (
      ∃ q40 : Nat, (
      (R a0 9 = some q40) ∧ (
      (X.2.1 q40 = some (5, 0)) ∧ (
      ∃ Q43 : Option Value → jx_I → Prop, (
      (jc V 1 81 (0, 0) [.ref q40] X I37 R Q43 (fun _ _ => False)) ∧ (
      ∀ rv I45, Q43 rv I45 → ∃ r46 : Int64, rv = some (.long r46) ∧ (
      Q (some (jy ((r46.toInt32).toInt))) I45))))))
    )) ∧ (a2 = 0 → (
      Q (some (jy r38)) I37
    ))
  )) ∧ (¬ 0 ≤ r38 → (
    Q (some (jy (-1))) I37
  )))))))))))))))))))))))
/-- GC.roped -/
def wz_166 (V : jx_V) (X : jx_X) (R : jx_R) (Q : Option Value → jx_I → Prop) (QE : String → jx_I → Prop) (J30 : Nat → Int → jx_I → Prop) (a0 : Nat) (a1 : Int) (a2 : Int) (I : jx_I) : Prop :=
  (a1 = 0 → (
    J30 a0 0 I
  )) ∧ (¬ a1 = 0 → (
    (X.2.1 a0 = some (11, 0)) ∧ (
    ∃ q2 : Nat, (
    (R a0 11 = some q2) ∧ (
    (X.2.1 q2 = some (2, 0)) ∧ (
    ∃ Q5 : Option Value → jx_I → Prop, (
    (jc V 1 42 (0, 0) [.ref q2, jy a1] X I R Q5 (fun _ _ => False)) ∧ (
    ∀ rv I7, Q5 rv I7 → ∃ r8 : Int, rv = some (jy r8) ∧ (
    (-2147483648 ≤ r8 ∧ r8 < 2147483648) ∧ (
    (r8 = 0 → (
      J30 a0 0 I7
    )) ∧ (¬ r8 = 0 → (
      ∃ Q10 : Option Value → jx_I → Prop, (
      (jc V 1 327 (0, 0) [jy a1] X I7 R Q10 (fun _ _ => False)) ∧ (
      ∀ rv I12, Q10 rv I12 → ∃ r13 : Int, rv = some (jy r13) ∧ (
      (-2147483648 ≤ r13 ∧ r13 < 2147483648) ∧ (
      (6 < r13 → (
        J30 a0 0 I12
      )) ∧ (¬ 6 < r13 → (
        J30 a0 1 I12
      ))))))
    ))))))))))
  ))
set_option maxRecDepth 20000 in
theorem wm_166 {V : jx_V} (hV : V.1.stackTraces = false) {X : jx_X} {R : jx_R} {I : jx_I} {Q : Option Value → jx_I → Prop} {QE : String → jx_I → Prop} {a0 : Nat} {a1 : Int} {a2 : Int} (r_a1 : -2147483648 ≤ a1 ∧ a1 < 2147483648) (r_a2 : -2147483648 ≤ a2 ∧ a2 < 2147483648) 
    (h : ∀ (J30 : Nat → Int → jx_I → Prop), ((∀ (s0 : Nat) (s1 : Int) I, wz_166_30 V X R Q QE J30 a0 a1 a2 s0 s1 I → J30 s0 s1 I)) → wz_166 V X R Q QE J30 a0 a1 a2 I) : jc V 10 166 (3, 18) [.ref a0, jy a1, jy a2] X I R Q QE := by
  refine jy_met hV (by decide) (n := 4) (rt := some .int) (hh := []) (ini := false) (C := jx_c166) (L := [some (.ref a0), some (jy a1), some (jy a2), none]) jt_166 (Nat.le_of_ble_eq_true rfl) rfl ?_
  intro J hS
  have h := h (fun s0 s1 I => J 30 [jy s1, .ref s0] [some (.ref a0), some (jy a1), some (jy a2), none] (3, 18) X I R) ?_
  · unfold wz_166 at h
    refine jy_aload_n hS rfl rfl ?_
    refine jy_iload_n hS rfl rfl ?_
    refine jy_if_eq hS rfl r_a1 (fun hq => ?_) (fun hq => ?_)
    · have h := h.1 hq
      refine jy_iconst hS rfl ?_
      exact jy_join hS h rfl (jy_sub_s (jy_sub_s (jy_sub_s (jy_sub_n jy_sub_0))))
    · have h := h.2 hq
      refine jy_aload_n hS rfl rfl ?_
      obtain ⟨g1, h⟩ := h
      obtain ⟨q2, h⟩ := h
      obtain ⟨g3, h⟩ := h
      refine jy_getR hS rfl (by decide) g1 g3 ?_
      refine jy_iload_n hS rfl rfl ?_
      obtain ⟨g4, h⟩ := h
      obtain ⟨Q5, h⟩ := h
      obtain ⟨g6, h⟩ := h
      refine jy_callV hS rfl rfl rfl (Nat.le_of_ble_eq_true rfl) (Or.inl g4) g6 (by decide) ⟨by decide, by decide⟩ (Nat.le_of_ble_eq_true rfl) ?_ ?_
      rotate_left
      · exact fun Ex Xx Ix Rx hp => hp.2.2.2.elim
      intro rv Xx I7 Rx hp
      obtain ⟨e1, e2, hp⟩ := hp
      rw [e1, e2]
      clear e1 e2
      obtain ⟨r8, e1, h⟩ := h rv I7 hp
      rw [e1]
      clear e1
      change J 13 [jy r8, .ref a0] _ (3, 18) _ _ _
      obtain ⟨g9, h⟩ := h
      refine jy_if_eq hS rfl g9 (fun hq => ?_) (fun hq => ?_)
      · have h := h.1 hq
        refine jy_iconst hS rfl ?_
        exact jy_join hS h rfl (jy_sub_s (jy_sub_s (jy_sub_s (jy_sub_n jy_sub_0))))
      · have h := h.2 hq
        refine jy_iload_n hS rfl rfl ?_
        obtain ⟨Q10, h⟩ := h
        obtain ⟨g11, h⟩ := h
        refine jy_callS hS rfl rfl rfl (Nat.le_of_ble_eq_true rfl) g11 (by decide) ⟨by decide, by decide⟩ (Nat.le_of_ble_eq_true rfl) ?_ ?_
        rotate_left
        · exact fun Ex Xx Ix Rx hp => hp.2.2.2.elim
        intro rv Xx I12 Rx hp
        obtain ⟨e1, e2, hp⟩ := hp
        rw [e1, e2]
        clear e1 e2
        obtain ⟨r13, e1, h⟩ := h rv I12 hp
        rw [e1]
        clear e1
        change J 20 [jy r13, .ref a0] _ (3, 18) _ _ _
        refine jy_bipush hS rfl (by decide) ?_
        obtain ⟨g14, h⟩ := h
        refine jy_icmp_gt hS rfl ⟨g14, ⟨by decide, by decide⟩⟩ (fun hq => ?_) (fun hq => ?_)
        · have h := h.1 hq
          refine jy_iconst hS rfl ?_
          exact jy_join hS h rfl (jy_sub_s (jy_sub_s (jy_sub_s (jy_sub_n jy_sub_0))))
        · have h := h.2 hq
          refine jy_iconst hS rfl ?_
          refine jy_goto hS rfl ?_
          exact jy_join hS h rfl (jy_sub_s (jy_sub_s (jy_sub_s (jy_sub_n jy_sub_0))))
  · intro s0 s1 I h
    unfold wz_166_30 at h
    obtain ⟨g15, h⟩ := h
    obtain ⟨Q16, h⟩ := h
    obtain ⟨E17, h⟩ := h
    obtain ⟨g18, h⟩ := h
    obtain ⟨g19, h⟩ := h
    refine jy_callV hS rfl rfl rfl (Nat.le_of_ble_eq_true rfl) (Or.inl g15) g18 (by decide) ⟨by decide, by decide⟩ (Nat.le_of_ble_eq_true rfl) ?_ ?_
    rotate_left
    · exact fun Ex Xx Ix Rx hp => ⟨hp.1, hp.2.1, hp.2.2.1, g19 _ _ hp.2.2.2⟩
    intro rv Xx I20 Rx hp
    obtain ⟨e1, e2, hp⟩ := hp
    rw [e1, e2]
    clear e1 e2
    obtain ⟨e1, h⟩ := h rv I20 hp
    rw [e1]
    clear e1
    change J 33 [] _ (2, 12) _ _ _
    refine jy_aload_n hS rfl rfl ?_
    refine jy_iload_n hS rfl rfl ?_
    refine jy_iconst hS rfl ?_
    obtain ⟨g22, h⟩ := h
    obtain ⟨Q23, h⟩ := h
    obtain ⟨E24, h⟩ := h
    obtain ⟨g25, h⟩ := h
    obtain ⟨g26, h⟩ := h
    refine jy_callV hS rfl rfl rfl (Nat.le_of_ble_eq_true rfl) (Or.inl g22) g25 (by decide) ⟨by decide, by decide⟩ (Nat.le_of_ble_eq_true rfl) ?_ ?_
    rotate_left
    · exact fun Ex Xx Ix Rx hp => ⟨hp.1, hp.2.1, hp.2.2.1, g26 _ _ hp.2.2.2⟩
    intro rv Xx I27 Rx hp
    obtain ⟨e1, e2, hp⟩ := hp
    rw [e1, e2]
    clear e1 e2
    obtain ⟨e1, h⟩ := h rv I27 hp
    rw [e1]
    clear e1
    change J 39 [] _ (1, 6) _ _ _
    refine jy_aload_n hS rfl rfl ?_
    obtain ⟨Q29, h⟩ := h
    obtain ⟨E30, h⟩ := h
    obtain ⟨g31, h⟩ := h
    obtain ⟨g32, h⟩ := h
    refine jy_callV hS rfl rfl rfl (Nat.le_of_ble_eq_true rfl) (Or.inl g22) g31 (by decide) ⟨by decide, by decide⟩ (Nat.le_of_ble_eq_true rfl) ?_ ?_
    rotate_left
    · exact fun Ex Xx Ix Rx hp => ⟨hp.1, hp.2.1, hp.2.2.1, g32 _ _ hp.2.2.2⟩
    intro rv Xx I33 Rx hp
    obtain ⟨e1, e2, hp⟩ := hp
    rw [e1, e2]
    clear e1 e2
    obtain ⟨e1, h⟩ := h rv I33 hp
    rw [e1]
    clear e1
    change J 43 [] _ (0, 0) _ _ _
    refine jy_aload_n hS rfl rfl ?_
    refine jy_iload_n hS rfl rfl ?_
    obtain ⟨Q35, h⟩ := h
    obtain ⟨g36, h⟩ := h
    refine jy_callV hS rfl rfl rfl (Nat.le_of_ble_eq_true rfl) (Or.inl g22) g36 (by decide) ⟨by decide, by decide⟩ (Nat.le_of_ble_eq_true rfl) ?_ ?_
    rotate_left
    · exact fun Ex Xx Ix Rx hp => hp.2.2.2.elim
    intro rv Xx I37 Rx hp
    obtain ⟨e1, e2, hp⟩ := hp
    rw [e1, e2]
    clear e1 e2
    obtain ⟨r38, e1, h⟩ := h rv I37 hp
    rw [e1]
    clear e1
    change J 48 [jy r38] _ (0, 0) _ _ _
    refine jy_istore_n hS rfl (Nat.le_of_ble_eq_true rfl) (L' := [some (.ref a0), some (jy a1), some (jy a2), some (jy r38)]) rfl ?_
    refine jy_iload_n hS rfl rfl ?_
    obtain ⟨g39, h⟩ := h
    refine jy_if_ge hS rfl g39 (fun hq => ?_) (fun hq => ?_)
    · have h := h.1 hq
      refine jy_iload_n hS rfl rfl ?_
      refine jy_if_ne hS rfl r_a2 (fun hq => ?_) (fun hq => ?_)
      · have h := h.1 hq
        refine jy_aload_n hS rfl rfl ?_
        obtain ⟨q40, h⟩ := h
        obtain ⟨g41, h⟩ := h
        refine jy_getR hS rfl (by decide) g22 g41 ?_
        obtain ⟨g42, h⟩ := h
        obtain ⟨Q43, h⟩ := h
        obtain ⟨g44, h⟩ := h
        refine jy_callV hS rfl rfl rfl (Nat.le_of_ble_eq_true rfl) (Or.inl g42) g44 (by decide) ⟨by decide, by decide⟩ (Nat.le_of_ble_eq_true rfl) ?_ ?_
        rotate_left
        · exact fun Ex Xx Ix Rx hp => hp.2.2.2.elim
        intro rv Xx I45 Rx hp
        obtain ⟨e1, e2, hp⟩ := hp
        rw [e1, e2]
        clear e1 e2
        obtain ⟨r46, e1, h⟩ := h rv I45 hp
        rw [e1]
        clear e1
        change J 70 [.long r46] _ (0, 0) _ _ _
        refine jy_l2i hS rfl rfl ?_
        exact jy_iret hS rfl rfl ⟨rfl, rfl, h⟩
      · have h := h.2 hq
        refine jy_iload_n hS rfl rfl ?_
        refine jy_goto hS rfl ?_
        exact jy_iret hS rfl rfl ⟨rfl, rfl, h⟩
    · have h := h.2 hq
      refine jy_iconst hS rfl ?_
      exact jy_iret hS rfl rfl ⟨rfl, rfl, h⟩
theorem jt_167 : jx_ml 167 = 8 ∧ jx_rt 167 = some .int ∧ jx_hz 167 = [] ∧ decide ((jx_nm 167).name = "<init>") = false ∧ jx_code 167 = jx_c167 := by decide +kernel
/-- GC.parted, from 52 -/
def wz_167_52 (V : jx_V) (X : jx_X) (R : jx_R) (Q : Option Value → jx_I → Prop) (QE : String → jx_I → Prop) (J52 : Int → Int → Int → Int → Int → jx_I → Prop) (J100 : Int → Int → Int → Int → Int → Int → Int → jx_I → Prop) (J120 : Int → Int → Int → Int → Int → jx_I → Prop) (a0 : Nat) (a1 : Int) (l2 : Int) (l3 : Int) (l4 : Int) (l5 : Int) (l6 : Int) (I : jx_I) : Prop :=
  (-2147483648 ≤ l6 ∧ l6 < 2147483648) ∧ (
  (-2147483648 ≤ l2 ∧ l2 < 2147483648) ∧ (
  (l2 < l6 → (
    (a1 ≠ 0 → (
      Q (some (jy l5)) I
    )) ∧ (a1 = 0 → (
      Q (some (jy l4)) I
    ))
  )) ∧ (¬ l2 < l6 → (
    ((Int32.ofInt l6 &&& Int32.ofInt ((Int32.ofInt l2 ^^^ Int32.ofInt (-1)).toInt)).toInt ≠ 0 → (
      J52 l2 l3 l4 l5 (l6 + 1) I
    )) ∧ ((Int32.ofInt l6 &&& Int32.ofInt ((Int32.ofInt l2 ^^^ Int32.ofInt (-1)).toInt)).toInt = 0 → (
      ((Int32.ofInt l6 &&& Int32.ofInt l3).toInt = 0 → (
        J52 l2 l3 l4 l5 (l6 + 1) I
      )) ∧ (¬ (Int32.ofInt l6 &&& Int32.ofInt l3).toInt = 0 → (
        (X.2.1 a0 = some (11, 0)) ∧ (
        ∃ Q32 : Option Value → jx_I → Prop, (
        (jc V 6 195 (0, 0) [.ref a0, jy l6] X I R Q32 (fun _ _ => False)) ∧ (
        ∀ rv I34, Q32 rv I34 → ∃ r35 : Int, rv = some (jy r35) ∧ (
        (l6 ≠ l2 → (
          ∃ Q36 : Option Value → jx_I → Prop, (
          (jc V 6 195 (0, 0) [.ref a0, jy ((Int32.ofInt l2 &&& Int32.ofInt ((Int32.ofInt l6 ^^^ Int32.ofInt (-1)).toInt)).toInt)] X I34 R Q36 (fun _ _ => False)) ∧ (
          ∀ rv I38, Q36 rv I38 → ∃ r39 : Int, rv = some (jy r39) ∧ (
          J100 r35 r39 l2 l3 l4 l5 l6 I38)))
        )) ∧ (l6 = l2 → (
          J100 r35 0 l2 l3 l4 l5 l6 I34
        ))))))
      ))
    ))
  ))))
/-- GC.parted, from 100 -/
def wz_167_100 (V : jx_V) (X : jx_X) (R : jx_R) (Q : Option Value → jx_I → Prop) (QE : String → jx_I → Prop) (J52 : Int → Int → Int → Int → Int → jx_I → Prop) (J100 : Int → Int → Int → Int → Int → Int → Int → jx_I → Prop) (J120 : Int → Int → Int → Int → Int → jx_I → Prop) (a0 : Nat) (a1 : Int) (s0 : Int) (s1 : Int) (l2 : Int) (l3 : Int) (l4 : Int) (l5 : Int) (l6 : Int) (I : jx_I) : Prop :=
  ∃ Q40 : Option Value → jx_I → Prop, (
  (jc V 1 328 (0, 0) [jy s0, jy s1] X I R Q40 (fun _ _ => False)) ∧ (
  ∀ rv I42, Q40 rv I42 → ∃ r43 : Int, rv = some (jy r43) ∧ (
  (-2147483648 ≤ r43 ∧ r43 < 2147483648) ∧ (
  (-2147483648 ≤ l4 ∧ l4 < 2147483648) ∧ (
  (l4 ≤ r43 → (
    J52 l2 l3 l4 l5 (l6 + 1) I42
  )) ∧ (¬ l4 ≤ r43 → (
    J120 l2 l3 r43 l6 l6 I42
  )))))))
/-- GC.parted, from 120 -/
def wz_167_120 (V : jx_V) (X : jx_X) (R : jx_R) (Q : Option Value → jx_I → Prop) (QE : String → jx_I → Prop) (J52 : Int → Int → Int → Int → Int → jx_I → Prop) (J100 : Int → Int → Int → Int → Int → Int → Int → jx_I → Prop) (J120 : Int → Int → Int → Int → Int → jx_I → Prop) (a0 : Nat) (a1 : Int) (l2 : Int) (l3 : Int) (l4 : Int) (l5 : Int) (l6 : Int) (I : jx_I) : Prop :=
  J52 l2 l3 l4 l5 (l6 + 1) I
/-- GC.parted -/
def wz_167 (V : jx_V) (X : jx_X) (R : jx_R) (Q : Option Value → jx_I → Prop) (QE : String → jx_I → Prop) (J52 : Int → Int → Int → Int → Int → jx_I → Prop) (J100 : Int → Int → Int → Int → Int → Int → Int → jx_I → Prop) (J120 : Int → Int → Int → Int → Int → jx_I → Prop) (a0 : Nat) (a1 : Int) (I : jx_I) : Prop :=
  (X.2.1 a0 = some (11, 0)) ∧ (
  ∃ Q2 : Option Value → jx_I → Prop, (
  ∃ E3 : String → jx_I → Prop, (
  (jc V 9 190 (1, 6) [.ref a0, jy a1, jy 1] X I R Q2 E3) ∧ (
  (∀ Ex Ix, E3 Ex Ix → QE Ex Ix) ∧ (
  ∀ rv I6, Q2 rv I6 → rv = none ∧ (
  ∃ Q8 : Option Value → jx_I → Prop, (
  ∃ E9 : String → jx_I → Prop, (
  (jc V 8 193 (1, 6) [.ref a0] X I6 R Q8 E9) ∧ (
  (∀ Ex Ix, E9 Ex Ix → QE Ex Ix) ∧ (
  ∀ rv I12, Q8 rv I12 → rv = none ∧ (
  ∃ q14 : Nat, (
  (R a0 2 = some q14) ∧ (
  (X.2.1 q14 = some (7, 0)) ∧ (
  ∃ q17 : Nat, (
  (R q14 1 = some q17) ∧ (
  (X.2.1 q17 = some (5, 0)) ∧ (
  ∃ Q20 : Option Value → jx_I → Prop, (
  (jc V 1 80 (0, 0) [.ref q17] X I12 R Q20 (fun _ _ => False)) ∧ (
  ∀ rv I22, Q20 rv I22 → ∃ r23 : Int, rv = some (jy r23) ∧ (
  (-2147483648 ≤ r23 ∧ r23 < 2147483648) ∧ (
  (r23 ≠ 0 → (
    ∃ Q25 : Option Value → jx_I → Prop, (
    (jc V 1 73 (0, 0) [.ref q17, jy 0] X I22 R Q25 (fun _ _ => False)) ∧ (
    ∀ rv I27, Q25 rv I27 → ∃ r28 : Int, rv = some (jy r28) ∧ (
    J52 r23 ((Int32.ofInt 1 <<< (Int32.ofInt r28 &&& 31)).toInt) 2147483647 0 ((Int32.ofInt 1 <<< (Int32.ofInt r28 &&& 31)).toInt) I27)))
  )) ∧ (r23 = 0 → (
    Q (some (jy 0)) I22
  )))))))))))))))))))))))
set_option maxRecDepth 20000 in
theorem wm_167 {V : jx_V} (hV : V.1.stackTraces = false) {X : jx_X} {R : jx_R} {I : jx_I} {Q : Option Value → jx_I → Prop} {QE : String → jx_I → Prop} {a0 : Nat} {a1 : Int} (r_a1 : -2147483648 ≤ a1 ∧ a1 < 2147483648) 
    (h : ∀ (J52 : Int → Int → Int → Int → Int → jx_I → Prop) (J100 : Int → Int → Int → Int → Int → Int → Int → jx_I → Prop) (J120 : Int → Int → Int → Int → Int → jx_I → Prop), ((∀ (l2 : Int) (l3 : Int) (l4 : Int) (l5 : Int) (l6 : Int) I, wz_167_52 V X R Q QE J52 J100 J120 a0 a1 l2 l3 l4 l5 l6 I → J52 l2 l3 l4 l5 l6 I) ∧ (∀ (s0 : Int) (s1 : Int) (l2 : Int) (l3 : Int) (l4 : Int) (l5 : Int) (l6 : Int) I, wz_167_100 V X R Q QE J52 J100 J120 a0 a1 s0 s1 l2 l3 l4 l5 l6 I → J100 s0 s1 l2 l3 l4 l5 l6 I) ∧ (∀ (l2 : Int) (l3 : Int) (l4 : Int) (l5 : Int) (l6 : Int) I, wz_167_120 V X R Q QE J52 J100 J120 a0 a1 l2 l3 l4 l5 l6 I → J120 l2 l3 l4 l5 l6 I)) → wz_167 V X R Q QE J52 J100 J120 a0 a1 I) : jc V 10 167 (2, 12) [.ref a0, jy a1] X I R Q QE := by
  refine jy_met hV (by decide) (n := 8) (rt := some .int) (hh := []) (ini := false) (C := jx_c167) (L := [some (.ref a0), some (jy a1), none, none, none, none, none, none]) jt_167 (Nat.le_of_ble_eq_true rfl) rfl ?_
  intro J hS
  have h := h (fun l2 l3 l4 l5 l6 I => J 52 [] [some (.ref a0), some (jy a1), some (jy l2), some (jy l3), some (jy l4), some (jy l5), some (jy l6), none] (0, 0) X I R) (fun s0 s1 l2 l3 l4 l5 l6 I => J 100 [jy s1, jy s0] [some (.ref a0), some (jy a1), some (jy l2), some (jy l3), some (jy l4), some (jy l5), some (jy l6), none] (0, 0) X I R) (fun l2 l3 l4 l5 l6 I => J 120 [] [some (.ref a0), some (jy a1), some (jy l2), some (jy l3), some (jy l4), some (jy l5), some (jy l6), none] (0, 0) X I R) ?_
  · unfold wz_167 at h
    refine jy_aload_n hS rfl rfl ?_
    refine jy_iload_n hS rfl rfl ?_
    refine jy_iconst hS rfl ?_
    obtain ⟨g1, h⟩ := h
    obtain ⟨Q2, h⟩ := h
    obtain ⟨E3, h⟩ := h
    obtain ⟨g4, h⟩ := h
    obtain ⟨g5, h⟩ := h
    refine jy_callV hS rfl rfl rfl (Nat.le_of_ble_eq_true rfl) (Or.inl g1) g4 (by decide) ⟨by decide, by decide⟩ (Nat.le_of_ble_eq_true rfl) ?_ ?_
    rotate_left
    · exact fun Ex Xx Ix Rx hp => ⟨hp.1, hp.2.1, hp.2.2.1, g5 _ _ hp.2.2.2⟩
    intro rv Xx I6 Rx hp
    obtain ⟨e1, e2, hp⟩ := hp
    rw [e1, e2]
    clear e1 e2
    obtain ⟨e1, h⟩ := h rv I6 hp
    rw [e1]
    clear e1
    change J 6 [] _ (1, 6) _ _ _
    refine jy_aload_n hS rfl rfl ?_
    obtain ⟨Q8, h⟩ := h
    obtain ⟨E9, h⟩ := h
    obtain ⟨g10, h⟩ := h
    obtain ⟨g11, h⟩ := h
    refine jy_callV hS rfl rfl rfl (Nat.le_of_ble_eq_true rfl) (Or.inl g1) g10 (by decide) ⟨by decide, by decide⟩ (Nat.le_of_ble_eq_true rfl) ?_ ?_
    rotate_left
    · exact fun Ex Xx Ix Rx hp => ⟨hp.1, hp.2.1, hp.2.2.1, g11 _ _ hp.2.2.2⟩
    intro rv Xx I12 Rx hp
    obtain ⟨e1, e2, hp⟩ := hp
    rw [e1, e2]
    clear e1 e2
    obtain ⟨e1, h⟩ := h rv I12 hp
    rw [e1]
    clear e1
    change J 10 [] _ (0, 0) _ _ _
    refine jy_aload_n hS rfl rfl ?_
    obtain ⟨q14, h⟩ := h
    obtain ⟨g15, h⟩ := h
    refine jy_getR hS rfl (by decide) g1 g15 ?_
    obtain ⟨g16, h⟩ := h
    obtain ⟨q17, h⟩ := h
    obtain ⟨g18, h⟩ := h
    refine jy_getR hS rfl (by decide) g16 g18 ?_
    obtain ⟨g19, h⟩ := h
    obtain ⟨Q20, h⟩ := h
    obtain ⟨g21, h⟩ := h
    refine jy_callV hS rfl rfl rfl (Nat.le_of_ble_eq_true rfl) (Or.inl g19) g21 (by decide) ⟨by decide, by decide⟩ (Nat.le_of_ble_eq_true rfl) ?_ ?_
    rotate_left
    · exact fun Ex Xx Ix Rx hp => hp.2.2.2.elim
    intro rv Xx I22 Rx hp
    obtain ⟨e1, e2, hp⟩ := hp
    rw [e1, e2]
    clear e1 e2
    obtain ⟨r23, e1, h⟩ := h rv I22 hp
    rw [e1]
    clear e1
    change J 20 [jy r23] _ (0, 0) _ _ _
    refine jy_istore_n hS rfl (Nat.le_of_ble_eq_true rfl) (L' := [some (.ref a0), some (jy a1), some (jy r23), none, none, none, none, none]) rfl ?_
    refine jy_iload_n hS rfl rfl ?_
    obtain ⟨g24, h⟩ := h
    refine jy_if_ne hS rfl g24 (fun hq => ?_) (fun hq => ?_)
    · have h := h.1 hq
      refine jy_iconst hS rfl ?_
      refine jy_aload_n hS rfl rfl ?_
      refine jy_getR hS rfl (by decide) g1 g15 ?_
      refine jy_getR hS rfl (by decide) g16 g18 ?_
      refine jy_iconst hS rfl ?_
      obtain ⟨Q25, h⟩ := h
      obtain ⟨g26, h⟩ := h
      refine jy_callV hS rfl rfl rfl (Nat.le_of_ble_eq_true rfl) (Or.inl g19) g26 (by decide) ⟨by decide, by decide⟩ (Nat.le_of_ble_eq_true rfl) ?_ ?_
      rotate_left
      · exact fun Ex Xx Ix Rx hp => hp.2.2.2.elim
      intro rv Xx I27 Rx hp
      obtain ⟨e1, e2, hp⟩ := hp
      rw [e1, e2]
      clear e1 e2
      obtain ⟨r28, e1, h⟩ := h rv I27 hp
      rw [e1]
      clear e1
      change J 39 [jy r28, jy 1] _ (0, 0) _ _ _
      refine jy_ishlX hS rfl rfl ?_
      refine jy_istore_n hS rfl (Nat.le_of_ble_eq_true rfl) (L' := [some (.ref a0), some (jy a1), some (jy r23), some (jy ((Int32.ofInt 1 <<< (Int32.ofInt r28 &&& 31)).toInt)), none, none, none, none]) rfl ?_
      refine jy_ldcw hS rfl (n := 2147483647) (by decide) ?_
      refine jy_istore hS rfl (Nat.le_of_ble_eq_true rfl) (L' := [some (.ref a0), some (jy a1), some (jy r23), some (jy ((Int32.ofInt 1 <<< (Int32.ofInt r28 &&& 31)).toInt)), some (jy 2147483647), none, none, none]) rfl ?_
      refine jy_iconst hS rfl ?_
      refine jy_istore hS rfl (Nat.le_of_ble_eq_true rfl) (L' := [some (.ref a0), some (jy a1), some (jy r23), some (jy ((Int32.ofInt 1 <<< (Int32.ofInt r28 &&& 31)).toInt)), some (jy 2147483647), some (jy 0), none, none]) rfl ?_
      refine jy_iload_n hS rfl rfl ?_
      refine jy_istore hS rfl (Nat.le_of_ble_eq_true rfl) (L' := [some (.ref a0), some (jy a1), some (jy r23), some (jy ((Int32.ofInt 1 <<< (Int32.ofInt r28 &&& 31)).toInt)), some (jy 2147483647), some (jy 0), some (jy ((Int32.ofInt 1 <<< (Int32.ofInt r28 &&& 31)).toInt)), none]) rfl ?_
      exact jy_join hS h rfl (jy_sub_s (jy_sub_s (jy_sub_s (jy_sub_s (jy_sub_s (jy_sub_s (jy_sub_s (jy_sub_n jy_sub_0))))))))
    · have h := h.2 hq
      refine jy_iconst hS rfl ?_
      exact jy_iret hS rfl rfl ⟨rfl, rfl, h⟩
  refine ⟨?_, ?_, ?_⟩
  · intro l2 l3 l4 l5 l6 I h
    unfold wz_167_52 at h
    refine jy_iload hS rfl rfl ?_
    refine jy_iload_n hS rfl rfl ?_
    obtain ⟨g29, h⟩ := h
    obtain ⟨g30, h⟩ := h
    refine jy_icmp_gt hS rfl ⟨g29, g30⟩ (fun hq => ?_) (fun hq => ?_)
    · have h := h.1 hq
      refine jy_iload_n hS rfl rfl ?_
      refine jy_if_ne hS rfl r_a1 (fun hq => ?_) (fun hq => ?_)
      · have h := h.1 hq
        refine jy_iload hS rfl rfl ?_
        exact jy_iret hS rfl rfl ⟨rfl, rfl, h⟩
      · have h := h.2 hq
        refine jy_iload hS rfl rfl ?_
        refine jy_goto hS rfl ?_
        exact jy_iret hS rfl rfl ⟨rfl, rfl, h⟩
    · have h := h.2 hq
      refine jy_iload hS rfl rfl ?_
      refine jy_iload_n hS rfl rfl ?_
      refine jy_iconst hS rfl ?_
      refine jy_ixorX hS rfl rfl ?_
      refine jy_iandX hS rfl rfl ?_
      refine jy_if_ne hS rfl (jy_rng _) (fun hq => ?_) (fun hq => ?_)
      · have h := h.1 hq
        refine jy_iinc hS rfl rfl (L' := [some (.ref a0), some (jy a1), some (jy l2), some (jy l3), some (jy l4), some (jy l5), some (jy (l6 + 1)), none]) rfl ?_
        refine jy_goto hS rfl ?_
        exact jy_join hS h rfl (jy_sub_s (jy_sub_s (jy_sub_s (jy_sub_s (jy_sub_s (jy_sub_s (jy_sub_s (jy_sub_n jy_sub_0))))))))
      · have h := h.2 hq
        refine jy_iload hS rfl rfl ?_
        refine jy_iload_n hS rfl rfl ?_
        refine jy_iandX hS rfl rfl ?_
        refine jy_if_eq hS rfl (jy_rng _) (fun hq => ?_) (fun hq => ?_)
        · have h := h.1 hq
          refine jy_iinc hS rfl rfl (L' := [some (.ref a0), some (jy a1), some (jy l2), some (jy l3), some (jy l4), some (jy l5), some (jy (l6 + 1)), none]) rfl ?_
          refine jy_goto hS rfl ?_
          exact jy_join hS h rfl (jy_sub_s (jy_sub_s (jy_sub_s (jy_sub_s (jy_sub_s (jy_sub_s (jy_sub_s (jy_sub_n jy_sub_0))))))))
        · have h := h.2 hq
          refine jy_aload_n hS rfl rfl ?_
          refine jy_iload hS rfl rfl ?_
          obtain ⟨g31, h⟩ := h
          obtain ⟨Q32, h⟩ := h
          obtain ⟨g33, h⟩ := h
          refine jy_callV hS rfl rfl rfl (Nat.le_of_ble_eq_true rfl) (Or.inl g31) g33 (by decide) ⟨by decide, by decide⟩ (Nat.le_of_ble_eq_true rfl) ?_ ?_
          rotate_left
          · exact fun Ex Xx Ix Rx hp => hp.2.2.2.elim
          intro rv Xx I34 Rx hp
          obtain ⟨e1, e2, hp⟩ := hp
          rw [e1, e2]
          clear e1 e2
          obtain ⟨r35, e1, h⟩ := h rv I34 hp
          rw [e1]
          clear e1
          change J 80 [jy r35] _ (0, 0) _ _ _
          refine jy_iload hS rfl rfl ?_
          refine jy_iload_n hS rfl rfl ?_
          refine jy_icmp_ne hS rfl ⟨g29, g30⟩ (fun hq => ?_) (fun hq => ?_)
          · have h := h.1 hq
            refine jy_aload_n hS rfl rfl ?_
            refine jy_iload_n hS rfl rfl ?_
            refine jy_iload hS rfl rfl ?_
            refine jy_iconst hS rfl ?_
            refine jy_ixorX hS rfl rfl ?_
            refine jy_iandX hS rfl rfl ?_
            obtain ⟨Q36, h⟩ := h
            obtain ⟨g37, h⟩ := h
            refine jy_callV hS rfl rfl rfl (Nat.le_of_ble_eq_true rfl) (Or.inl g31) g37 (by decide) ⟨by decide, by decide⟩ (Nat.le_of_ble_eq_true rfl) ?_ ?_
            rotate_left
            · exact fun Ex Xx Ix Rx hp => hp.2.2.2.elim
            intro rv Xx I38 Rx hp
            obtain ⟨e1, e2, hp⟩ := hp
            rw [e1, e2]
            clear e1 e2
            obtain ⟨r39, e1, h⟩ := h rv I38 hp
            rw [e1]
            clear e1
            change J 100 [jy r39, jy r35] _ (0, 0) _ _ _
            exact jy_join hS h rfl (jy_sub_s (jy_sub_s (jy_sub_s (jy_sub_s (jy_sub_s (jy_sub_s (jy_sub_s (jy_sub_n jy_sub_0))))))))
          · have h := h.2 hq
            refine jy_iconst hS rfl ?_
            refine jy_goto hS rfl ?_
            exact jy_join hS h rfl (jy_sub_s (jy_sub_s (jy_sub_s (jy_sub_s (jy_sub_s (jy_sub_s (jy_sub_s (jy_sub_n jy_sub_0))))))))
  · intro s0 s1 l2 l3 l4 l5 l6 I h
    unfold wz_167_100 at h
    obtain ⟨Q40, h⟩ := h
    obtain ⟨g41, h⟩ := h
    refine jy_callS hS rfl rfl rfl (Nat.le_of_ble_eq_true rfl) g41 (by decide) ⟨by decide, by decide⟩ (Nat.le_of_ble_eq_true rfl) ?_ ?_
    rotate_left
    · exact fun Ex Xx Ix Rx hp => hp.2.2.2.elim
    intro rv Xx I42 Rx hp
    obtain ⟨e1, e2, hp⟩ := hp
    rw [e1, e2]
    clear e1 e2
    obtain ⟨r43, e1, h⟩ := h rv I42 hp
    rw [e1]
    clear e1
    change J 103 [jy r43] _ (0, 0) _ _ _
    refine jy_istore hS rfl (Nat.le_of_ble_eq_true rfl) (L' := [some (.ref a0), some (jy a1), some (jy l2), some (jy l3), some (jy l4), some (jy l5), some (jy l6), some (jy r43)]) rfl ?_
    refine jy_iload hS rfl rfl ?_
    refine jy_iload hS rfl rfl ?_
    obtain ⟨g44, h⟩ := h
    obtain ⟨g45, h⟩ := h
    refine jy_icmp_ge hS rfl ⟨g44, g45⟩ (fun hq => ?_) (fun hq => ?_)
    · have h := h.1 hq
      refine jy_iinc hS rfl rfl (L' := [some (.ref a0), some (jy a1), some (jy l2), some (jy l3), some (jy l4), some (jy l5), some (jy (l6 + 1)), some (jy r43)]) rfl ?_
      refine jy_goto hS rfl ?_
      exact jy_join hS h rfl (jy_sub_s (jy_sub_s (jy_sub_s (jy_sub_s (jy_sub_s (jy_sub_s (jy_sub_s (jy_sub_n jy_sub_0))))))))
    · have h := h.2 hq
      refine jy_iload hS rfl rfl ?_
      refine jy_istore hS rfl (Nat.le_of_ble_eq_true rfl) (L' := [some (.ref a0), some (jy a1), some (jy l2), some (jy l3), some (jy r43), some (jy l5), some (jy l6), some (jy r43)]) rfl ?_
      refine jy_iload hS rfl rfl ?_
      refine jy_istore hS rfl (Nat.le_of_ble_eq_true rfl) (L' := [some (.ref a0), some (jy a1), some (jy l2), some (jy l3), some (jy r43), some (jy l6), some (jy l6), some (jy r43)]) rfl ?_
      exact jy_join hS h rfl (jy_sub_s (jy_sub_s (jy_sub_s (jy_sub_s (jy_sub_s (jy_sub_s (jy_sub_s (jy_sub_n jy_sub_0))))))))
  · intro l2 l3 l4 l5 l6 I h
    unfold wz_167_120 at h
    refine jy_iinc hS rfl rfl (L' := [some (.ref a0), some (jy a1), some (jy l2), some (jy l3), some (jy l4), some (jy l5), some (jy (l6 + 1)), none]) rfl ?_
    refine jy_goto hS rfl ?_
    exact jy_join hS h rfl (jy_sub_s (jy_sub_s (jy_sub_s (jy_sub_s (jy_sub_s (jy_sub_s (jy_sub_s (jy_sub_n jy_sub_0))))))))
theorem jt_168 : jx_ml 168 = 8 ∧ jx_rt 168 = some .int ∧ jx_hz 168 = [] ∧ decide ((jx_nm 168).name = "<init>") = false ∧ jx_code 168 = jx_c168 := by decide +kernel
/-- GC.sell, from 29 -/
def wz_168_29 (V : jx_V) (X : jx_X) (R : jx_R) (Q : Option Value → jx_I → Prop) (QE : String → jx_I → Prop) (J29 : Int → Int → Int → Int → jx_I → Prop) (J119 : Int → Int → Int → Int → jx_I → Prop) (a0 : Nat) (a1 : Int) (l2 : Int) (l3 : Int) (l4 : Int) (l5 : Int) (I : jx_I) : Prop :=
  (X.2.1 a0 = some (11, 0)) ∧ (
  ∃ q25 : Nat, (
  (R a0 2 = some q25) ∧ (
  (X.2.1 q25 = some (7, 0)) ∧ (
  ∃ q28 : Nat, (
  (R q25 1 = some q28) ∧ (
  (X.2.1 q28 = some (5, 0)) ∧ (
  (-2147483648 ≤ l5 ∧ l5 < 2147483648) ∧ (
  ((I q28 1).toInt ≤ l5 → (
    (a1 ≠ 0 → (
      Q (some (jy l4)) I
    )) ∧ (a1 = 0 → (
      Q (some (jy l3)) I
    ))
  )) ∧ (¬ (I q28 1).toInt ≤ l5 → (
    ∃ Q32 : Option Value → jx_I → Prop, (
    (jc V 1 73 (0, 0) [.ref q28, jy l5] X I R Q32 (fun _ _ => False)) ∧ (
    ∀ rv I34, Q32 rv I34 → ∃ r35 : Int, rv = some (jy r35) ∧ (
    ∃ Q36 : Option Value → jx_I → Prop, (
    (jc V 6 195 (0, 0) [.ref a0, jy ((Int32.ofInt l2 &&& Int32.ofInt ((Int32.ofInt ((Int32.ofInt 1 <<< (Int32.ofInt r35 &&& 31)).toInt) ^^^ Int32.ofInt (-1)).toInt)).toInt)] X I34 R Q36 (fun _ _ => False)) ∧ (
    ∀ rv I38, Q36 rv I38 → ∃ r39 : Int, rv = some (jy r39) ∧ (
    (-2147483648 ≤ l3 ∧ l3 < 2147483648) ∧ (
    (l3 < 0 → (
      J119 l2 r35 r39 l5 I38
    )) ∧ (¬ l3 < 0 → (
      (-2147483648 ≤ r39 ∧ r39 < 2147483648) ∧ (
      (-2147483648 ≤ l4 ∧ l4 < 2147483648) ∧ (
      (r39 < l4 → (
        J119 l2 r35 r39 l5 I38
      )) ∧ (¬ r39 < l4 → (
        (r39 ≠ l4 → (
          J29 l2 l3 l4 (l5 + 1) I38
        )) ∧ (r39 = l4 → (
          ∃ q43 : Nat, (
          (R a0 11 = some q43) ∧ (
          (X.2.1 q43 = some (2, 0)) ∧ (
          ∃ q46 : Nat, (
          (R q43 2 = some q46) ∧ (
          ∃ n48 : Nat, (
          (X.2.1 q46 = some (100, n48) ∧ n48 < 2147483648) ∧ (
          (0 ≤ r35 ∧ r35 < n48) ∧ (
          (0 ≤ l3 ∧ l3 < n48) ∧ (
          ((I38 q46 r35.toNat).toInt ≤ (I38 q46 l3.toNat).toInt → (
            J29 l2 l3 l4 (l5 + 1) I38
          )) ∧ (¬ (I38 q46 r35.toNat).toInt ≤ (I38 q46 l3.toNat).toInt → (
            J119 l2 r35 r39 l5 I38
          )))))))))))
        ))
      ))))
    )))))))))
  ))))))))))
/-- GC.sell, from 119 -/
def wz_168_119 (V : jx_V) (X : jx_X) (R : jx_R) (Q : Option Value → jx_I → Prop) (QE : String → jx_I → Prop) (J29 : Int → Int → Int → Int → jx_I → Prop) (J119 : Int → Int → Int → Int → jx_I → Prop) (a0 : Nat) (a1 : Int) (l2 : Int) (l3 : Int) (l4 : Int) (l5 : Int) (I : jx_I) : Prop :=
  J29 l2 l3 l4 (l5 + 1) I
/-- GC.sell -/
def wz_168 (V : jx_V) (X : jx_X) (R : jx_R) (Q : Option Value → jx_I → Prop) (QE : String → jx_I → Prop) (J29 : Int → Int → Int → Int → jx_I → Prop) (J119 : Int → Int → Int → Int → jx_I → Prop) (a0 : Nat) (a1 : Int) (I : jx_I) : Prop :=
  (X.2.1 a0 = some (11, 0)) ∧ (
  ∃ Q2 : Option Value → jx_I → Prop, (
  ∃ E3 : String → jx_I → Prop, (
  (jc V 9 190 (1, 6) [.ref a0, jy a1, jy 1] X I R Q2 E3) ∧ (
  (∀ Ex Ix, E3 Ex Ix → QE Ex Ix) ∧ (
  ∀ rv I6, Q2 rv I6 → rv = none ∧ (
  ∃ Q8 : Option Value → jx_I → Prop, (
  ∃ E9 : String → jx_I → Prop, (
  (jc V 8 193 (1, 6) [.ref a0] X I6 R Q8 E9) ∧ (
  (∀ Ex Ix, E9 Ex Ix → QE Ex Ix) ∧ (
  ∀ rv I12, Q8 rv I12 → rv = none ∧ (
  ∃ q14 : Nat, (
  (R a0 2 = some q14) ∧ (
  (X.2.1 q14 = some (7, 0)) ∧ (
  ∃ q17 : Nat, (
  (R q14 1 = some q17) ∧ (
  (X.2.1 q17 = some (5, 0)) ∧ (
  ∃ Q20 : Option Value → jx_I → Prop, (
  (jc V 1 80 (0, 0) [.ref q17] X I12 R Q20 (fun _ _ => False)) ∧ (
  ∀ rv I22, Q20 rv I22 → ∃ r23 : Int, rv = some (jy r23) ∧ (
  J29 r23 (-1) (-1) 0 I22))))))))))))))))))))
set_option maxRecDepth 20000 in
theorem wm_168 {V : jx_V} (hV : V.1.stackTraces = false) {X : jx_X} {R : jx_R} {I : jx_I} {Q : Option Value → jx_I → Prop} {QE : String → jx_I → Prop} {a0 : Nat} {a1 : Int} (r_a1 : -2147483648 ≤ a1 ∧ a1 < 2147483648) 
    (h : ∀ (J29 : Int → Int → Int → Int → jx_I → Prop) (J119 : Int → Int → Int → Int → jx_I → Prop), ((∀ (l2 : Int) (l3 : Int) (l4 : Int) (l5 : Int) I, wz_168_29 V X R Q QE J29 J119 a0 a1 l2 l3 l4 l5 I → J29 l2 l3 l4 l5 I) ∧ (∀ (l2 : Int) (l3 : Int) (l4 : Int) (l5 : Int) I, wz_168_119 V X R Q QE J29 J119 a0 a1 l2 l3 l4 l5 I → J119 l2 l3 l4 l5 I)) → wz_168 V X R Q QE J29 J119 a0 a1 I) : jc V 10 168 (2, 12) [.ref a0, jy a1] X I R Q QE := by
  refine jy_met hV (by decide) (n := 8) (rt := some .int) (hh := []) (ini := false) (C := jx_c168) (L := [some (.ref a0), some (jy a1), none, none, none, none, none, none]) jt_168 (Nat.le_of_ble_eq_true rfl) rfl ?_
  intro J hS
  have h := h (fun l2 l3 l4 l5 I => J 29 [] [some (.ref a0), some (jy a1), some (jy l2), some (jy l3), some (jy l4), some (jy l5), none, none] (0, 0) X I R) (fun l2 l3 l4 l5 I => J 119 [] [some (.ref a0), some (jy a1), some (jy l2), some (jy l3), some (jy l4), some (jy l5), none, none] (0, 0) X I R) ?_
  · unfold wz_168 at h
    refine jy_aload_n hS rfl rfl ?_
    refine jy_iload_n hS rfl rfl ?_
    refine jy_iconst hS rfl ?_
    obtain ⟨g1, h⟩ := h
    obtain ⟨Q2, h⟩ := h
    obtain ⟨E3, h⟩ := h
    obtain ⟨g4, h⟩ := h
    obtain ⟨g5, h⟩ := h
    refine jy_callV hS rfl rfl rfl (Nat.le_of_ble_eq_true rfl) (Or.inl g1) g4 (by decide) ⟨by decide, by decide⟩ (Nat.le_of_ble_eq_true rfl) ?_ ?_
    rotate_left
    · exact fun Ex Xx Ix Rx hp => ⟨hp.1, hp.2.1, hp.2.2.1, g5 _ _ hp.2.2.2⟩
    intro rv Xx I6 Rx hp
    obtain ⟨e1, e2, hp⟩ := hp
    rw [e1, e2]
    clear e1 e2
    obtain ⟨e1, h⟩ := h rv I6 hp
    rw [e1]
    clear e1
    change J 6 [] _ (1, 6) _ _ _
    refine jy_aload_n hS rfl rfl ?_
    obtain ⟨Q8, h⟩ := h
    obtain ⟨E9, h⟩ := h
    obtain ⟨g10, h⟩ := h
    obtain ⟨g11, h⟩ := h
    refine jy_callV hS rfl rfl rfl (Nat.le_of_ble_eq_true rfl) (Or.inl g1) g10 (by decide) ⟨by decide, by decide⟩ (Nat.le_of_ble_eq_true rfl) ?_ ?_
    rotate_left
    · exact fun Ex Xx Ix Rx hp => ⟨hp.1, hp.2.1, hp.2.2.1, g11 _ _ hp.2.2.2⟩
    intro rv Xx I12 Rx hp
    obtain ⟨e1, e2, hp⟩ := hp
    rw [e1, e2]
    clear e1 e2
    obtain ⟨e1, h⟩ := h rv I12 hp
    rw [e1]
    clear e1
    change J 10 [] _ (0, 0) _ _ _
    refine jy_aload_n hS rfl rfl ?_
    obtain ⟨q14, h⟩ := h
    obtain ⟨g15, h⟩ := h
    refine jy_getR hS rfl (by decide) g1 g15 ?_
    obtain ⟨g16, h⟩ := h
    obtain ⟨q17, h⟩ := h
    obtain ⟨g18, h⟩ := h
    refine jy_getR hS rfl (by decide) g16 g18 ?_
    obtain ⟨g19, h⟩ := h
    obtain ⟨Q20, h⟩ := h
    obtain ⟨g21, h⟩ := h
    refine jy_callV hS rfl rfl rfl (Nat.le_of_ble_eq_true rfl) (Or.inl g19) g21 (by decide) ⟨by decide, by decide⟩ (Nat.le_of_ble_eq_true rfl) ?_ ?_
    rotate_left
    · exact fun Ex Xx Ix Rx hp => hp.2.2.2.elim
    intro rv Xx I22 Rx hp
    obtain ⟨e1, e2, hp⟩ := hp
    rw [e1, e2]
    clear e1 e2
    obtain ⟨r23, e1, h⟩ := h rv I22 hp
    rw [e1]
    clear e1
    change J 20 [jy r23] _ (0, 0) _ _ _
    refine jy_istore_n hS rfl (Nat.le_of_ble_eq_true rfl) (L' := [some (.ref a0), some (jy a1), some (jy r23), none, none, none, none, none]) rfl ?_
    refine jy_iconst hS rfl ?_
    refine jy_istore_n hS rfl (Nat.le_of_ble_eq_true rfl) (L' := [some (.ref a0), some (jy a1), some (jy r23), some (jy (-1)), none, none, none, none]) rfl ?_
    refine jy_iconst hS rfl ?_
    refine jy_istore hS rfl (Nat.le_of_ble_eq_true rfl) (L' := [some (.ref a0), some (jy a1), some (jy r23), some (jy (-1)), some (jy (-1)), none, none, none]) rfl ?_
    refine jy_iconst hS rfl ?_
    refine jy_istore hS rfl (Nat.le_of_ble_eq_true rfl) (L' := [some (.ref a0), some (jy a1), some (jy r23), some (jy (-1)), some (jy (-1)), some (jy 0), none, none]) rfl ?_
    exact jy_join hS h rfl (jy_sub_s (jy_sub_s (jy_sub_s (jy_sub_s (jy_sub_s (jy_sub_s (jy_sub_n (jy_sub_n jy_sub_0))))))))
  refine ⟨?_, ?_⟩
  · intro l2 l3 l4 l5 I h
    unfold wz_168_29 at h
    refine jy_iload hS rfl rfl ?_
    refine jy_aload_n hS rfl rfl ?_
    obtain ⟨g24, h⟩ := h
    obtain ⟨q25, h⟩ := h
    obtain ⟨g26, h⟩ := h
    refine jy_getR hS rfl (by decide) g24 g26 ?_
    obtain ⟨g27, h⟩ := h
    obtain ⟨q28, h⟩ := h
    obtain ⟨g29, h⟩ := h
    refine jy_getR hS rfl (by decide) g27 g29 ?_
    obtain ⟨g30, h⟩ := h
    refine jy_getI hS rfl (by decide) g30 ?_
    obtain ⟨g31, h⟩ := h
    refine jy_icmp_ge hS rfl ⟨g31, (jy_rng _)⟩ (fun hq => ?_) (fun hq => ?_)
    · have h := h.1 hq
      refine jy_iload_n hS rfl rfl ?_
      refine jy_if_ne hS rfl r_a1 (fun hq => ?_) (fun hq => ?_)
      · have h := h.1 hq
        refine jy_iload hS rfl rfl ?_
        exact jy_iret hS rfl rfl ⟨rfl, rfl, h⟩
      · have h := h.2 hq
        refine jy_iload_n hS rfl rfl ?_
        refine jy_goto hS rfl ?_
        exact jy_iret hS rfl rfl ⟨rfl, rfl, h⟩
    · have h := h.2 hq
      refine jy_aload_n hS rfl rfl ?_
      refine jy_getR hS rfl (by decide) g24 g26 ?_
      refine jy_getR hS rfl (by decide) g27 g29 ?_
      refine jy_iload hS rfl rfl ?_
      obtain ⟨Q32, h⟩ := h
      obtain ⟨g33, h⟩ := h
      refine jy_callV hS rfl rfl rfl (Nat.le_of_ble_eq_true rfl) (Or.inl g30) g33 (by decide) ⟨by decide, by decide⟩ (Nat.le_of_ble_eq_true rfl) ?_ ?_
      rotate_left
      · exact fun Ex Xx Ix Rx hp => hp.2.2.2.elim
      intro rv Xx I34 Rx hp
      obtain ⟨e1, e2, hp⟩ := hp
      rw [e1, e2]
      clear e1 e2
      obtain ⟨r35, e1, h⟩ := h rv I34 hp
      rw [e1]
      clear e1
      change J 56 [jy r35] _ (0, 0) _ _ _
      refine jy_istore hS rfl (Nat.le_of_ble_eq_true rfl) (L' := [some (.ref a0), some (jy a1), some (jy l2), some (jy l3), some (jy l4), some (jy l5), some (jy r35), none]) rfl ?_
      refine jy_aload_n hS rfl rfl ?_
      refine jy_iload_n hS rfl rfl ?_
      refine jy_iconst hS rfl ?_
      refine jy_iload hS rfl rfl ?_
      refine jy_ishlX hS rfl rfl ?_
      refine jy_iconst hS rfl ?_
      refine jy_ixorX hS rfl rfl ?_
      refine jy_iandX hS rfl rfl ?_
      obtain ⟨Q36, h⟩ := h
      obtain ⟨g37, h⟩ := h
      refine jy_callV hS rfl rfl rfl (Nat.le_of_ble_eq_true rfl) (Or.inl g24) g37 (by decide) ⟨by decide, by decide⟩ (Nat.le_of_ble_eq_true rfl) ?_ ?_
      rotate_left
      · exact fun Ex Xx Ix Rx hp => hp.2.2.2.elim
      intro rv Xx I38 Rx hp
      obtain ⟨e1, e2, hp⟩ := hp
      rw [e1, e2]
      clear e1 e2
      obtain ⟨r39, e1, h⟩ := h rv I38 hp
      rw [e1]
      clear e1
      change J 70 [jy r39] _ (0, 0) _ _ _
      refine jy_istore hS rfl (Nat.le_of_ble_eq_true rfl) (L' := [some (.ref a0), some (jy a1), some (jy l2), some (jy l3), some (jy l4), some (jy l5), some (jy r35), some (jy r39)]) rfl ?_
      refine jy_iload_n hS rfl rfl ?_
      obtain ⟨g40, h⟩ := h
      refine jy_if_lt hS rfl g40 (fun hq => ?_) (fun hq => ?_)
      · have h := h.1 hq
        refine jy_iload hS rfl rfl ?_
        refine jy_istore_n hS rfl (Nat.le_of_ble_eq_true rfl) (L' := [some (.ref a0), some (jy a1), some (jy l2), some (jy r35), some (jy l4), some (jy l5), some (jy r35), some (jy r39)]) rfl ?_
        refine jy_iload hS rfl rfl ?_
        refine jy_istore hS rfl (Nat.le_of_ble_eq_true rfl) (L' := [some (.ref a0), some (jy a1), some (jy l2), some (jy r35), some (jy r39), some (jy l5), some (jy r35), some (jy r39)]) rfl ?_
        exact jy_join hS h rfl (jy_sub_s (jy_sub_s (jy_sub_s (jy_sub_s (jy_sub_s (jy_sub_s (jy_sub_n (jy_sub_n jy_sub_0))))))))
      · have h := h.2 hq
        refine jy_iload hS rfl rfl ?_
        refine jy_iload hS rfl rfl ?_
        obtain ⟨g41, h⟩ := h
        obtain ⟨g42, h⟩ := h
        refine jy_icmp_lt hS rfl ⟨g41, g42⟩ (fun hq => ?_) (fun hq => ?_)
        · have h := h.1 hq
          refine jy_iload hS rfl rfl ?_
          refine jy_istore_n hS rfl (Nat.le_of_ble_eq_true rfl) (L' := [some (.ref a0), some (jy a1), some (jy l2), some (jy r35), some (jy l4), some (jy l5), some (jy r35), some (jy r39)]) rfl ?_
          refine jy_iload hS rfl rfl ?_
          refine jy_istore hS rfl (Nat.le_of_ble_eq_true rfl) (L' := [some (.ref a0), some (jy a1), some (jy l2), some (jy r35), some (jy r39), some (jy l5), some (jy r35), some (jy r39)]) rfl ?_
          exact jy_join hS h rfl (jy_sub_s (jy_sub_s (jy_sub_s (jy_sub_s (jy_sub_s (jy_sub_s (jy_sub_n (jy_sub_n jy_sub_0))))))))
        · have h := h.2 hq
          refine jy_iload hS rfl rfl ?_
          refine jy_iload hS rfl rfl ?_
          refine jy_icmp_ne hS rfl ⟨g41, g42⟩ (fun hq => ?_) (fun hq => ?_)
          · have h := h.1 hq
            refine jy_iinc hS rfl rfl (L' := [some (.ref a0), some (jy a1), some (jy l2), some (jy l3), some (jy l4), some (jy (l5 + 1)), some (jy r35), some (jy r39)]) rfl ?_
            refine jy_goto hS rfl ?_
            exact jy_join hS h rfl (jy_sub_s (jy_sub_s (jy_sub_s (jy_sub_s (jy_sub_s (jy_sub_s (jy_sub_n (jy_sub_n jy_sub_0))))))))
          · have h := h.2 hq
            refine jy_aload_n hS rfl rfl ?_
            obtain ⟨q43, h⟩ := h
            obtain ⟨g44, h⟩ := h
            refine jy_getR hS rfl (by decide) g24 g44 ?_
            obtain ⟨g45, h⟩ := h
            obtain ⟨q46, h⟩ := h
            obtain ⟨g47, h⟩ := h
            refine jy_getR hS rfl (by decide) g45 g47 ?_
            refine jy_iload hS rfl rfl ?_
            obtain ⟨n48, h⟩ := h
            obtain ⟨g49, h⟩ := h
            obtain ⟨g50, h⟩ := h
            refine jy_iald hS rfl g49.1 (Nat.le_of_lt g49.2) g50 ?_
            refine jy_aload_n hS rfl rfl ?_
            refine jy_getR hS rfl (by decide) g24 g44 ?_
            refine jy_getR hS rfl (by decide) g45 g47 ?_
            refine jy_iload_n hS rfl rfl ?_
            obtain ⟨g51, h⟩ := h
            refine jy_iald hS rfl g49.1 (Nat.le_of_lt g49.2) g51 ?_
            refine jy_icmp_le hS rfl ⟨(jy_rng _), (jy_rng _)⟩ (fun hq => ?_) (fun hq => ?_)
            · have h := h.1 hq
              refine jy_iinc hS rfl rfl (L' := [some (.ref a0), some (jy a1), some (jy l2), some (jy l3), some (jy l4), some (jy (l5 + 1)), some (jy r35), some (jy r39)]) rfl ?_
              refine jy_goto hS rfl ?_
              exact jy_join hS h rfl (jy_sub_s (jy_sub_s (jy_sub_s (jy_sub_s (jy_sub_s (jy_sub_s (jy_sub_n (jy_sub_n jy_sub_0))))))))
            · have h := h.2 hq
              refine jy_iload hS rfl rfl ?_
              refine jy_istore_n hS rfl (Nat.le_of_ble_eq_true rfl) (L' := [some (.ref a0), some (jy a1), some (jy l2), some (jy r35), some (jy l4), some (jy l5), some (jy r35), some (jy r39)]) rfl ?_
              refine jy_iload hS rfl rfl ?_
              refine jy_istore hS rfl (Nat.le_of_ble_eq_true rfl) (L' := [some (.ref a0), some (jy a1), some (jy l2), some (jy r35), some (jy r39), some (jy l5), some (jy r35), some (jy r39)]) rfl ?_
              exact jy_join hS h rfl (jy_sub_s (jy_sub_s (jy_sub_s (jy_sub_s (jy_sub_s (jy_sub_s (jy_sub_n (jy_sub_n jy_sub_0))))))))
  · intro l2 l3 l4 l5 I h
    unfold wz_168_119 at h
    refine jy_iinc hS rfl rfl (L' := [some (.ref a0), some (jy a1), some (jy l2), some (jy l3), some (jy l4), some (jy (l5 + 1)), none, none]) rfl ?_
    refine jy_goto hS rfl ?_
    exact jy_join hS h rfl (jy_sub_s (jy_sub_s (jy_sub_s (jy_sub_s (jy_sub_s (jy_sub_s (jy_sub_n (jy_sub_n jy_sub_0))))))))
theorem jt_169 : jx_ml 169 = 5 ∧ jx_rt 169 = some .int ∧ jx_hz 169 = [] ∧ decide ((jx_nm 169).name = "<init>") = false ∧ jx_code 169 = jx_c169 := by decide +kernel
/-- GC.heal, from 17 -/
def wz_169_17 (V : jx_V) (X : jx_X) (R : jx_R) (Q : Option Value → jx_I → Prop) (QE : String → jx_I → Prop) (J17 : Int → Int → Int → jx_I → Prop) (J107 : Int → Int → Int → jx_I → Prop) (a0 : Nat) (a1 : Int) (l2 : Int) (l3 : Int) (l4 : Int) (I : jx_I) : Prop :=
  (X.2.1 a0 = some (11, 0)) ∧ (
  ∃ q15 : Nat, (
  (R a0 11 = some q15) ∧ (
  (X.2.1 q15 = some (2, 0)) ∧ (
  (-2147483648 ≤ l4 ∧ l4 < 2147483648) ∧ (
  ((I q15 7).toInt ≤ l4 → (
    (a1 ≠ 0 → (
      Q (some (jy l3)) I
    )) ∧ (a1 = 0 → (
      Q (some (jy l2)) I
    ))
  )) ∧ (¬ (I q15 7).toInt ≤ l4 → (
    ∃ q19 : Nat, (
    (R a0 10 = some q19) ∧ (
    ∃ q21 : Nat, (
    (R a0 2 = some q21) ∧ (
    (X.2.1 q21 = some (7, 0)) ∧ (
    ∃ q24 : Nat, (
    (R q21 0 = some q24) ∧ (
    (X.2.1 q19 = some (1, 0)) ∧ (
    ∃ Q27 : Option Value → jx_I → Prop, (
    (jc V 1 9 (0, 0) [.ref q19, .ref q24] X I R Q27 (fun _ _ => False)) ∧ (
    ∀ rv I29, Q27 rv I29 → rv = none ∧ (
    ∃ Q31 : Option Value → jx_I → Prop, (
    (jc V 2 15 (0, 0) [.ref q19, jy l4] X I29 R Q31 (fun _ _ => False)) ∧ (
    ∀ rv I33, Q31 rv I33 → rv = none ∧ (
    ∃ q35 : Nat, (
    (R a0 4 = some q35) ∧ (
    ∃ q37 : Nat, (
    (R q21 2 = some q37) ∧ (
    ∃ q39 : Nat, (
    (R q21 1 = some q39) ∧ (
    (X.2.1 q35 = some (9, 0)) ∧ (
    ∃ Q42 : Option Value → jx_I → Prop, (
    (jc V 5 121 (0, 0) [.ref q35, .ref q15, .ref q37, .ref q39, .ref q19] X I33 R Q42 (fun _ _ => False)) ∧ (
    ∀ rv I44, Q42 rv I44 → rv = none ∧ (
    (-2147483648 ≤ l2 ∧ l2 < 2147483648) ∧ (
    (l2 < 0 → (
      ∃ Q47 : Option Value → jx_I → Prop, (
      (jc V 1 123 (0, 0) [.ref q35] X I44 R Q47 (fun _ _ => False)) ∧ (
      ∀ rv I49, Q47 rv I49 → ∃ r50 : Int, rv = some (jy r50) ∧ (
      J107 l4 r50 l4 I49)))
    )) ∧ (¬ l2 < 0 → (
      ∃ Q51 : Option Value → jx_I → Prop, (
      (jc V 1 123 (0, 0) [.ref q35] X I44 R Q51 (fun _ _ => False)) ∧ (
      ∀ rv I53, Q51 rv I53 → ∃ r54 : Int, rv = some (jy r54) ∧ (
      (-2147483648 ≤ r54 ∧ r54 < 2147483648) ∧ (
      (-2147483648 ≤ l3 ∧ l3 < 2147483648) ∧ (
      (l3 ≤ r54 → (
        J17 l2 l3 (l4 + 1) I53
      )) ∧ (¬ l3 ≤ r54 → (
        ∃ Q57 : Option Value → jx_I → Prop, (
        (jc V 1 123 (0, 0) [.ref q35] X I53 R Q57 (fun _ _ => False)) ∧ (
        ∀ rv I59, Q57 rv I59 → ∃ r60 : Int, rv = some (jy r60) ∧ (
        J107 l4 r60 l4 I59)))
      )))))))
    )))))))))))))))))))))))))))
  )))))))
/-- GC.heal, from 107 -/
def wz_169_107 (V : jx_V) (X : jx_X) (R : jx_R) (Q : Option Value → jx_I → Prop) (QE : String → jx_I → Prop) (J17 : Int → Int → Int → jx_I → Prop) (J107 : Int → Int → Int → jx_I → Prop) (a0 : Nat) (a1 : Int) (l2 : Int) (l3 : Int) (l4 : Int) (I : jx_I) : Prop :=
  J17 l2 l3 (l4 + 1) I
/-- GC.heal -/
def wz_169 (V : jx_V) (X : jx_X) (R : jx_R) (Q : Option Value → jx_I → Prop) (QE : String → jx_I → Prop) (J17 : Int → Int → Int → jx_I → Prop) (J107 : Int → Int → Int → jx_I → Prop) (a0 : Nat) (a1 : Int) (I : jx_I) : Prop :=
  (X.2.1 a0 = some (11, 0)) ∧ (
  ∃ Q2 : Option Value → jx_I → Prop, (
  ∃ E3 : String → jx_I → Prop, (
  (jc V 9 190 (1, 6) [.ref a0, jy a1, jy 1] X I R Q2 E3) ∧ (
  (∀ Ex Ix, E3 Ex Ix → QE Ex Ix) ∧ (
  ∀ rv I6, Q2 rv I6 → rv = none ∧ (
  ∃ Q8 : Option Value → jx_I → Prop, (
  ∃ E9 : String → jx_I → Prop, (
  (jc V 8 193 (1, 6) [.ref a0] X I6 R Q8 E9) ∧ (
  (∀ Ex Ix, E9 Ex Ix → QE Ex Ix) ∧ (
  ∀ rv I12, Q8 rv I12 → rv = none ∧ (
  J17 (-1) (-1) 0 I12)))))))))))
set_option maxRecDepth 20000 in
theorem wm_169 {V : jx_V} (hV : V.1.stackTraces = false) {X : jx_X} {R : jx_R} {I : jx_I} {Q : Option Value → jx_I → Prop} {QE : String → jx_I → Prop} {a0 : Nat} {a1 : Int} (r_a1 : -2147483648 ≤ a1 ∧ a1 < 2147483648) 
    (h : ∀ (J17 : Int → Int → Int → jx_I → Prop) (J107 : Int → Int → Int → jx_I → Prop), ((∀ (l2 : Int) (l3 : Int) (l4 : Int) I, wz_169_17 V X R Q QE J17 J107 a0 a1 l2 l3 l4 I → J17 l2 l3 l4 I) ∧ (∀ (l2 : Int) (l3 : Int) (l4 : Int) I, wz_169_107 V X R Q QE J17 J107 a0 a1 l2 l3 l4 I → J107 l2 l3 l4 I)) → wz_169 V X R Q QE J17 J107 a0 a1 I) : jc V 10 169 (2, 12) [.ref a0, jy a1] X I R Q QE := by
  refine jy_met hV (by decide) (n := 5) (rt := some .int) (hh := []) (ini := false) (C := jx_c169) (L := [some (.ref a0), some (jy a1), none, none, none]) jt_169 (Nat.le_of_ble_eq_true rfl) rfl ?_
  intro J hS
  have h := h (fun l2 l3 l4 I => J 17 [] [some (.ref a0), some (jy a1), some (jy l2), some (jy l3), some (jy l4)] (0, 0) X I R) (fun l2 l3 l4 I => J 107 [] [some (.ref a0), some (jy a1), some (jy l2), some (jy l3), some (jy l4)] (0, 0) X I R) ?_
  · unfold wz_169 at h
    refine jy_aload_n hS rfl rfl ?_
    refine jy_iload_n hS rfl rfl ?_
    refine jy_iconst hS rfl ?_
    obtain ⟨g1, h⟩ := h
    obtain ⟨Q2, h⟩ := h
    obtain ⟨E3, h⟩ := h
    obtain ⟨g4, h⟩ := h
    obtain ⟨g5, h⟩ := h
    refine jy_callV hS rfl rfl rfl (Nat.le_of_ble_eq_true rfl) (Or.inl g1) g4 (by decide) ⟨by decide, by decide⟩ (Nat.le_of_ble_eq_true rfl) ?_ ?_
    rotate_left
    · exact fun Ex Xx Ix Rx hp => ⟨hp.1, hp.2.1, hp.2.2.1, g5 _ _ hp.2.2.2⟩
    intro rv Xx I6 Rx hp
    obtain ⟨e1, e2, hp⟩ := hp
    rw [e1, e2]
    clear e1 e2
    obtain ⟨e1, h⟩ := h rv I6 hp
    rw [e1]
    clear e1
    change J 6 [] _ (1, 6) _ _ _
    refine jy_aload_n hS rfl rfl ?_
    obtain ⟨Q8, h⟩ := h
    obtain ⟨E9, h⟩ := h
    obtain ⟨g10, h⟩ := h
    obtain ⟨g11, h⟩ := h
    refine jy_callV hS rfl rfl rfl (Nat.le_of_ble_eq_true rfl) (Or.inl g1) g10 (by decide) ⟨by decide, by decide⟩ (Nat.le_of_ble_eq_true rfl) ?_ ?_
    rotate_left
    · exact fun Ex Xx Ix Rx hp => ⟨hp.1, hp.2.1, hp.2.2.1, g11 _ _ hp.2.2.2⟩
    intro rv Xx I12 Rx hp
    obtain ⟨e1, e2, hp⟩ := hp
    rw [e1, e2]
    clear e1 e2
    obtain ⟨e1, h⟩ := h rv I12 hp
    rw [e1]
    clear e1
    change J 10 [] _ (0, 0) _ _ _
    refine jy_iconst hS rfl ?_
    refine jy_istore_n hS rfl (Nat.le_of_ble_eq_true rfl) (L' := [some (.ref a0), some (jy a1), some (jy (-1)), none, none]) rfl ?_
    refine jy_iconst hS rfl ?_
    refine jy_istore_n hS rfl (Nat.le_of_ble_eq_true rfl) (L' := [some (.ref a0), some (jy a1), some (jy (-1)), some (jy (-1)), none]) rfl ?_
    refine jy_iconst hS rfl ?_
    refine jy_istore hS rfl (Nat.le_of_ble_eq_true rfl) (L' := [some (.ref a0), some (jy a1), some (jy (-1)), some (jy (-1)), some (jy 0)]) rfl ?_
    exact jy_join hS h rfl (jy_sub_s (jy_sub_s (jy_sub_s (jy_sub_s (jy_sub_s jy_sub_0)))))
  refine ⟨?_, ?_⟩
  · intro l2 l3 l4 I h
    unfold wz_169_17 at h
    refine jy_iload hS rfl rfl ?_
    refine jy_aload_n hS rfl rfl ?_
    obtain ⟨g14, h⟩ := h
    obtain ⟨q15, h⟩ := h
    obtain ⟨g16, h⟩ := h
    refine jy_getR hS rfl (by decide) g14 g16 ?_
    obtain ⟨g17, h⟩ := h
    refine jy_getI hS rfl (by decide) g17 ?_
    obtain ⟨g18, h⟩ := h
    refine jy_icmp_ge hS rfl ⟨g18, (jy_rng _)⟩ (fun hq => ?_) (fun hq => ?_)
    · have h := h.1 hq
      refine jy_iload_n hS rfl rfl ?_
      refine jy_if_ne hS rfl r_a1 (fun hq => ?_) (fun hq => ?_)
      · have h := h.1 hq
        refine jy_iload_n hS rfl rfl ?_
        exact jy_iret hS rfl rfl ⟨rfl, rfl, h⟩
      · have h := h.2 hq
        refine jy_iload_n hS rfl rfl ?_
        refine jy_goto hS rfl ?_
        exact jy_iret hS rfl rfl ⟨rfl, rfl, h⟩
    · have h := h.2 hq
      refine jy_aload_n hS rfl rfl ?_
      obtain ⟨q19, h⟩ := h
      obtain ⟨g20, h⟩ := h
      refine jy_getR hS rfl (by decide) g14 g20 ?_
      refine jy_aload_n hS rfl rfl ?_
      obtain ⟨q21, h⟩ := h
      obtain ⟨g22, h⟩ := h
      refine jy_getR hS rfl (by decide) g14 g22 ?_
      obtain ⟨g23, h⟩ := h
      obtain ⟨q24, h⟩ := h
      obtain ⟨g25, h⟩ := h
      refine jy_getR hS rfl (by decide) g23 g25 ?_
      obtain ⟨g26, h⟩ := h
      obtain ⟨Q27, h⟩ := h
      obtain ⟨g28, h⟩ := h
      refine jy_callV hS rfl rfl rfl (Nat.le_of_ble_eq_true rfl) (Or.inl g26) g28 (by decide) ⟨by decide, by decide⟩ (Nat.le_of_ble_eq_true rfl) ?_ ?_
      rotate_left
      · exact fun Ex Xx Ix Rx hp => hp.2.2.2.elim
      intro rv Xx I29 Rx hp
      obtain ⟨e1, e2, hp⟩ := hp
      rw [e1, e2]
      clear e1 e2
      obtain ⟨e1, h⟩ := h rv I29 hp
      rw [e1]
      clear e1
      change J 43 [] _ (0, 0) _ _ _
      refine jy_aload_n hS rfl rfl ?_
      refine jy_getR hS rfl (by decide) g14 g20 ?_
      refine jy_iload hS rfl rfl ?_
      obtain ⟨Q31, h⟩ := h
      obtain ⟨g32, h⟩ := h
      refine jy_callV hS rfl rfl rfl (Nat.le_of_ble_eq_true rfl) (Or.inl g26) g32 (by decide) ⟨by decide, by decide⟩ (Nat.le_of_ble_eq_true rfl) ?_ ?_
      rotate_left
      · exact fun Ex Xx Ix Rx hp => hp.2.2.2.elim
      intro rv Xx I33 Rx hp
      obtain ⟨e1, e2, hp⟩ := hp
      rw [e1, e2]
      clear e1 e2
      obtain ⟨e1, h⟩ := h rv I33 hp
      rw [e1]
      clear e1
      change J 52 [] _ (0, 0) _ _ _
      refine jy_aload_n hS rfl rfl ?_
      obtain ⟨q35, h⟩ := h
      obtain ⟨g36, h⟩ := h
      refine jy_getR hS rfl (by decide) g14 g36 ?_
      refine jy_aload_n hS rfl rfl ?_
      refine jy_getR hS rfl (by decide) g14 g16 ?_
      refine jy_aload_n hS rfl rfl ?_
      refine jy_getR hS rfl (by decide) g14 g22 ?_
      obtain ⟨q37, h⟩ := h
      obtain ⟨g38, h⟩ := h
      refine jy_getR hS rfl (by decide) g23 g38 ?_
      refine jy_aload_n hS rfl rfl ?_
      refine jy_getR hS rfl (by decide) g14 g22 ?_
      obtain ⟨q39, h⟩ := h
      obtain ⟨g40, h⟩ := h
      refine jy_getR hS rfl (by decide) g23 g40 ?_
      refine jy_aload_n hS rfl rfl ?_
      refine jy_getR hS rfl (by decide) g14 g20 ?_
      obtain ⟨g41, h⟩ := h
      obtain ⟨Q42, h⟩ := h
      obtain ⟨g43, h⟩ := h
      refine jy_callV hS rfl rfl rfl (Nat.le_of_ble_eq_true rfl) (Or.inl g41) g43 (by decide) ⟨by decide, by decide⟩ (Nat.le_of_ble_eq_true rfl) ?_ ?_
      rotate_left
      · exact fun Ex Xx Ix Rx hp => hp.2.2.2.elim
      intro rv Xx I44 Rx hp
      obtain ⟨e1, e2, hp⟩ := hp
      rw [e1, e2]
      clear e1 e2
      obtain ⟨e1, h⟩ := h rv I44 hp
      rw [e1]
      clear e1
      change J 81 [] _ (0, 0) _ _ _
      refine jy_iload_n hS rfl rfl ?_
      obtain ⟨g46, h⟩ := h
      refine jy_if_lt hS rfl g46 (fun hq => ?_) (fun hq => ?_)
      · have h := h.1 hq
        refine jy_iload hS rfl rfl ?_
        refine jy_istore_n hS rfl (Nat.le_of_ble_eq_true rfl) (L' := [some (.ref a0), some (jy a1), some (jy l4), some (jy l3), some (jy l4)]) rfl ?_
        refine jy_aload_n hS rfl rfl ?_
        refine jy_getR hS rfl (by decide) g14 g36 ?_
        obtain ⟨Q47, h⟩ := h
        obtain ⟨g48, h⟩ := h
        refine jy_callV hS rfl rfl rfl (Nat.le_of_ble_eq_true rfl) (Or.inl g41) g48 (by decide) ⟨by decide, by decide⟩ (Nat.le_of_ble_eq_true rfl) ?_ ?_
        rotate_left
        · exact fun Ex Xx Ix Rx hp => hp.2.2.2.elim
        intro rv Xx I49 Rx hp
        obtain ⟨e1, e2, hp⟩ := hp
        rw [e1, e2]
        clear e1 e2
        obtain ⟨r50, e1, h⟩ := h rv I49 hp
        rw [e1]
        clear e1
        change J 106 [jy r50] _ (0, 0) _ _ _
        refine jy_istore_n hS rfl (Nat.le_of_ble_eq_true rfl) (L' := [some (.ref a0), some (jy a1), some (jy l4), some (jy r50), some (jy l4)]) rfl ?_
        exact jy_join hS h rfl (jy_sub_s (jy_sub_s (jy_sub_s (jy_sub_s (jy_sub_s jy_sub_0)))))
      · have h := h.2 hq
        refine jy_aload_n hS rfl rfl ?_
        refine jy_getR hS rfl (by decide) g14 g36 ?_
        obtain ⟨Q51, h⟩ := h
        obtain ⟨g52, h⟩ := h
        refine jy_callV hS rfl rfl rfl (Nat.le_of_ble_eq_true rfl) (Or.inl g41) g52 (by decide) ⟨by decide, by decide⟩ (Nat.le_of_ble_eq_true rfl) ?_ ?_
        rotate_left
        · exact fun Ex Xx Ix Rx hp => hp.2.2.2.elim
        intro rv Xx I53 Rx hp
        obtain ⟨e1, e2, hp⟩ := hp
        rw [e1, e2]
        clear e1 e2
        obtain ⟨r54, e1, h⟩ := h rv I53 hp
        rw [e1]
        clear e1
        change J 92 [jy r54] _ (0, 0) _ _ _
        refine jy_iload_n hS rfl rfl ?_
        obtain ⟨g55, h⟩ := h
        obtain ⟨g56, h⟩ := h
        refine jy_icmp_ge hS rfl ⟨g55, g56⟩ (fun hq => ?_) (fun hq => ?_)
        · have h := h.1 hq
          refine jy_iinc hS rfl rfl (L' := [some (.ref a0), some (jy a1), some (jy l2), some (jy l3), some (jy (l4 + 1))]) rfl ?_
          refine jy_goto hS rfl ?_
          exact jy_join hS h rfl (jy_sub_s (jy_sub_s (jy_sub_s (jy_sub_s (jy_sub_s jy_sub_0)))))
        · have h := h.2 hq
          refine jy_iload hS rfl rfl ?_
          refine jy_istore_n hS rfl (Nat.le_of_ble_eq_true rfl) (L' := [some (.ref a0), some (jy a1), some (jy l4), some (jy l3), some (jy l4)]) rfl ?_
          refine jy_aload_n hS rfl rfl ?_
          refine jy_getR hS rfl (by decide) g14 g36 ?_
          obtain ⟨Q57, h⟩ := h
          obtain ⟨g58, h⟩ := h
          refine jy_callV hS rfl rfl rfl (Nat.le_of_ble_eq_true rfl) (Or.inl g41) g58 (by decide) ⟨by decide, by decide⟩ (Nat.le_of_ble_eq_true rfl) ?_ ?_
          rotate_left
          · exact fun Ex Xx Ix Rx hp => hp.2.2.2.elim
          intro rv Xx I59 Rx hp
          obtain ⟨e1, e2, hp⟩ := hp
          rw [e1, e2]
          clear e1 e2
          obtain ⟨r60, e1, h⟩ := h rv I59 hp
          rw [e1]
          clear e1
          change J 106 [jy r60] _ (0, 0) _ _ _
          refine jy_istore_n hS rfl (Nat.le_of_ble_eq_true rfl) (L' := [some (.ref a0), some (jy a1), some (jy l4), some (jy r60), some (jy l4)]) rfl ?_
          exact jy_join hS h rfl (jy_sub_s (jy_sub_s (jy_sub_s (jy_sub_s (jy_sub_s jy_sub_0)))))
  · intro l2 l3 l4 I h
    unfold wz_169_107 at h
    refine jy_iinc hS rfl rfl (L' := [some (.ref a0), some (jy a1), some (jy l2), some (jy l3), some (jy (l4 + 1))]) rfl ?_
    refine jy_goto hS rfl ?_
    exact jy_join hS h rfl (jy_sub_s (jy_sub_s (jy_sub_s (jy_sub_s (jy_sub_s jy_sub_0)))))
theorem jt_170 : jx_ml 170 = 6 ∧ jx_rt 170 = some .int ∧ jx_hz 170 = [] ∧ decide ((jx_nm 170).name = "<init>") = false ∧ jx_code 170 = jx_c170 := by decide +kernel
/-- GC.light, from 25 -/
def wz_170_25 (V : jx_V) (X : jx_X) (R : jx_R) (Q : Option Value → jx_I → Prop) (QE : String → jx_I → Prop) (J25 : Int → Int → Int → jx_I → Prop) (J52 : Int → Int → Int → Int → jx_I → Prop) (J85 : Int → Int → Int → jx_I → Prop) (a0 : Nat) (a1 : Int) (l2 : Int) (l3 : Int) (l4 : Int) (I : jx_I) : Prop :=
  (-2147483648 ≤ l4 ∧ l4 < 2147483648) ∧ (
  (-2147483648 ≤ l2 ∧ l2 < 2147483648) ∧ (
  (l2 < l4 → (
    Q (some (jy l3)) I
  )) ∧ (¬ l2 < l4 → (
    (-2147483648 ≤ l3 ∧ l3 < 2147483648) ∧ (
    (l3 < 0 → (
      J52 1 l2 l3 l4 I
    )) ∧ (¬ l3 < 0 → (
      ∃ Q27 : Option Value → jx_I → Prop, (
      (jc V 1 327 (0, 0) [jy l4] X I R Q27 (fun _ _ => False)) ∧ (
      ∀ rv I29, Q27 rv I29 → ∃ r30 : Int, rv = some (jy r30) ∧ (
      ∃ Q31 : Option Value → jx_I → Prop, (
      (jc V 1 327 (0, 0) [jy l3] X I29 R Q31 (fun _ _ => False)) ∧ (
      ∀ rv I33, Q31 rv I33 → ∃ r34 : Int, rv = some (jy r34) ∧ (
      (-2147483648 ≤ r30 ∧ r30 < 2147483648) ∧ (
      (-2147483648 ≤ r34 ∧ r34 < 2147483648) ∧ (
      (r34 ≤ r30 → (
        J52 0 l2 l3 l4 I33
      )) ∧ (¬ r34 ≤ r30 → (
        J52 1 l2 l3 l4 I33
      ))))))))))
    )))
  ))))
/-- GC.light, from 52 -/
def wz_170_52 (V : jx_V) (X : jx_X) (R : jx_R) (Q : Option Value → jx_I → Prop) (QE : String → jx_I → Prop) (J25 : Int → Int → Int → jx_I → Prop) (J52 : Int → Int → Int → Int → jx_I → Prop) (J85 : Int → Int → Int → jx_I → Prop) (a0 : Nat) (a1 : Int) (s0 : Int) (l2 : Int) (l3 : Int) (l4 : Int) (I : jx_I) : Prop :=
  ((Int32.ofInt l4 &&& Int32.ofInt ((Int32.ofInt l2 ^^^ Int32.ofInt (-1)).toInt)).toInt ≠ 0 → (
    J25 l2 l3 (l4 + 1) I
  )) ∧ ((Int32.ofInt l4 &&& Int32.ofInt ((Int32.ofInt l2 ^^^ Int32.ofInt (-1)).toInt)).toInt = 0 → (
    (-2147483648 ≤ s0 ∧ s0 < 2147483648) ∧ (
    (s0 = 0 → (
      J25 l2 l3 (l4 + 1) I
    )) ∧ (¬ s0 = 0 → (
      (X.2.1 a0 = some (11, 0)) ∧ (
      ∃ Q39 : Option Value → jx_I → Prop, (
      (jc V 6 195 (0, 0) [.ref a0, jy ((Int32.ofInt l2 &&& Int32.ofInt ((Int32.ofInt l4 ^^^ Int32.ofInt (-1)).toInt)).toInt)] X I R Q39 (fun _ _ => False)) ∧ (
      ∀ rv I41, Q39 rv I41 → ∃ r42 : Int, rv = some (jy r42) ∧ (
      (-2147483648 ≤ r42 ∧ r42 < 2147483648) ∧ (
      (a1 < r42 → (
        J25 l2 l3 (l4 + 1) I41
      )) ∧ (¬ a1 < r42 → (
        J85 l2 l4 l4 I41
      )))))))
    )))
  ))
/-- GC.light, from 85 -/
def wz_170_85 (V : jx_V) (X : jx_X) (R : jx_R) (Q : Option Value → jx_I → Prop) (QE : String → jx_I → Prop) (J25 : Int → Int → Int → jx_I → Prop) (J52 : Int → Int → Int → Int → jx_I → Prop) (J85 : Int → Int → Int → jx_I → Prop) (a0 : Nat) (a1 : Int) (l2 : Int) (l3 : Int) (l4 : Int) (I : jx_I) : Prop :=
  J25 l2 l3 (l4 + 1) I
/-- GC.light -/
def wz_170 (V : jx_V) (X : jx_X) (R : jx_R) (Q : Option Value → jx_I → Prop) (QE : String → jx_I → Prop) (J25 : Int → Int → Int → jx_I → Prop) (J52 : Int → Int → Int → Int → jx_I → Prop) (J85 : Int → Int → Int → jx_I → Prop) (a0 : Nat) (a1 : Int) (I : jx_I) : Prop :=
  (X.2.1 a0 = some (11, 0)) ∧ (
  ∃ Q2 : Option Value → jx_I → Prop, (
  ∃ E3 : String → jx_I → Prop, (
  (jc V 9 191 (1, 6) [.ref a0, jy a1] X I R Q2 E3) ∧ (
  (∀ Ex Ix, E3 Ex Ix → QE Ex Ix) ∧ (
  ∀ rv I6, Q2 rv I6 → rv = none ∧ (
  ∃ Q8 : Option Value → jx_I → Prop, (
  ∃ E9 : String → jx_I → Prop, (
  (jc V 8 193 (1, 6) [.ref a0] X I6 R Q8 E9) ∧ (
  (∀ Ex Ix, E9 Ex Ix → QE Ex Ix) ∧ (
  ∀ rv I12, Q8 rv I12 → rv = none ∧ (
  ∃ q14 : Nat, (
  (R a0 2 = some q14) ∧ (
  (X.2.1 q14 = some (7, 0)) ∧ (
  ∃ q17 : Nat, (
  (R q14 1 = some q17) ∧ (
  (X.2.1 q17 = some (5, 0)) ∧ (
  ∃ Q20 : Option Value → jx_I → Prop, (
  (jc V 1 80 (0, 0) [.ref q17] X I12 R Q20 (fun _ _ => False)) ∧ (
  ∀ rv I22, Q20 rv I22 → ∃ r23 : Int, rv = some (jy r23) ∧ (
  J25 r23 (-1) 0 I22))))))))))))))))))))
set_option maxRecDepth 20000 in
theorem wm_170 {V : jx_V} (hV : V.1.stackTraces = false) {X : jx_X} {R : jx_R} {I : jx_I} {Q : Option Value → jx_I → Prop} {QE : String → jx_I → Prop} {a0 : Nat} {a1 : Int} (r_a1 : -2147483648 ≤ a1 ∧ a1 < 2147483648) 
    (h : ∀ (J25 : Int → Int → Int → jx_I → Prop) (J52 : Int → Int → Int → Int → jx_I → Prop) (J85 : Int → Int → Int → jx_I → Prop), ((∀ (l2 : Int) (l3 : Int) (l4 : Int) I, wz_170_25 V X R Q QE J25 J52 J85 a0 a1 l2 l3 l4 I → J25 l2 l3 l4 I) ∧ (∀ (s0 : Int) (l2 : Int) (l3 : Int) (l4 : Int) I, wz_170_52 V X R Q QE J25 J52 J85 a0 a1 s0 l2 l3 l4 I → J52 s0 l2 l3 l4 I) ∧ (∀ (l2 : Int) (l3 : Int) (l4 : Int) I, wz_170_85 V X R Q QE J25 J52 J85 a0 a1 l2 l3 l4 I → J85 l2 l3 l4 I)) → wz_170 V X R Q QE J25 J52 J85 a0 a1 I) : jc V 10 170 (2, 12) [.ref a0, jy a1] X I R Q QE := by
  refine jy_met hV (by decide) (n := 6) (rt := some .int) (hh := []) (ini := false) (C := jx_c170) (L := [some (.ref a0), some (jy a1), none, none, none, none]) jt_170 (Nat.le_of_ble_eq_true rfl) rfl ?_
  intro J hS
  have h := h (fun l2 l3 l4 I => J 25 [] [some (.ref a0), some (jy a1), some (jy l2), some (jy l3), some (jy l4), none] (0, 0) X I R) (fun s0 l2 l3 l4 I => J 52 [jy s0] [some (.ref a0), some (jy a1), some (jy l2), some (jy l3), some (jy l4), none] (0, 0) X I R) (fun l2 l3 l4 I => J 85 [] [some (.ref a0), some (jy a1), some (jy l2), some (jy l3), some (jy l4), none] (0, 0) X I R) ?_
  · unfold wz_170 at h
    refine jy_aload_n hS rfl rfl ?_
    refine jy_iload_n hS rfl rfl ?_
    obtain ⟨g1, h⟩ := h
    obtain ⟨Q2, h⟩ := h
    obtain ⟨E3, h⟩ := h
    obtain ⟨g4, h⟩ := h
    obtain ⟨g5, h⟩ := h
    refine jy_callV hS rfl rfl rfl (Nat.le_of_ble_eq_true rfl) (Or.inl g1) g4 (by decide) ⟨by decide, by decide⟩ (Nat.le_of_ble_eq_true rfl) ?_ ?_
    rotate_left
    · exact fun Ex Xx Ix Rx hp => ⟨hp.1, hp.2.1, hp.2.2.1, g5 _ _ hp.2.2.2⟩
    intro rv Xx I6 Rx hp
    obtain ⟨e1, e2, hp⟩ := hp
    rw [e1, e2]
    clear e1 e2
    obtain ⟨e1, h⟩ := h rv I6 hp
    rw [e1]
    clear e1
    change J 5 [] _ (1, 6) _ _ _
    refine jy_aload_n hS rfl rfl ?_
    obtain ⟨Q8, h⟩ := h
    obtain ⟨E9, h⟩ := h
    obtain ⟨g10, h⟩ := h
    obtain ⟨g11, h⟩ := h
    refine jy_callV hS rfl rfl rfl (Nat.le_of_ble_eq_true rfl) (Or.inl g1) g10 (by decide) ⟨by decide, by decide⟩ (Nat.le_of_ble_eq_true rfl) ?_ ?_
    rotate_left
    · exact fun Ex Xx Ix Rx hp => ⟨hp.1, hp.2.1, hp.2.2.1, g11 _ _ hp.2.2.2⟩
    intro rv Xx I12 Rx hp
    obtain ⟨e1, e2, hp⟩ := hp
    rw [e1, e2]
    clear e1 e2
    obtain ⟨e1, h⟩ := h rv I12 hp
    rw [e1]
    clear e1
    change J 9 [] _ (0, 0) _ _ _
    refine jy_aload_n hS rfl rfl ?_
    obtain ⟨q14, h⟩ := h
    obtain ⟨g15, h⟩ := h
    refine jy_getR hS rfl (by decide) g1 g15 ?_
    obtain ⟨g16, h⟩ := h
    obtain ⟨q17, h⟩ := h
    obtain ⟨g18, h⟩ := h
    refine jy_getR hS rfl (by decide) g16 g18 ?_
    obtain ⟨g19, h⟩ := h
    obtain ⟨Q20, h⟩ := h
    obtain ⟨g21, h⟩ := h
    refine jy_callV hS rfl rfl rfl (Nat.le_of_ble_eq_true rfl) (Or.inl g19) g21 (by decide) ⟨by decide, by decide⟩ (Nat.le_of_ble_eq_true rfl) ?_ ?_
    rotate_left
    · exact fun Ex Xx Ix Rx hp => hp.2.2.2.elim
    intro rv Xx I22 Rx hp
    obtain ⟨e1, e2, hp⟩ := hp
    rw [e1, e2]
    clear e1 e2
    obtain ⟨r23, e1, h⟩ := h rv I22 hp
    rw [e1]
    clear e1
    change J 19 [jy r23] _ (0, 0) _ _ _
    refine jy_istore_n hS rfl (Nat.le_of_ble_eq_true rfl) (L' := [some (.ref a0), some (jy a1), some (jy r23), none, none, none]) rfl ?_
    refine jy_iconst hS rfl ?_
    refine jy_istore_n hS rfl (Nat.le_of_ble_eq_true rfl) (L' := [some (.ref a0), some (jy a1), some (jy r23), some (jy (-1)), none, none]) rfl ?_
    refine jy_iconst hS rfl ?_
    refine jy_istore hS rfl (Nat.le_of_ble_eq_true rfl) (L' := [some (.ref a0), some (jy a1), some (jy r23), some (jy (-1)), some (jy 0), none]) rfl ?_
    exact jy_join hS h rfl (jy_sub_s (jy_sub_s (jy_sub_s (jy_sub_s (jy_sub_s (jy_sub_n jy_sub_0))))))
  refine ⟨?_, ?_, ?_⟩
  · intro l2 l3 l4 I h
    unfold wz_170_25 at h
    refine jy_iload hS rfl rfl ?_
    refine jy_iload_n hS rfl rfl ?_
    obtain ⟨g24, h⟩ := h
    obtain ⟨g25, h⟩ := h
    refine jy_icmp_gt hS rfl ⟨g24, g25⟩ (fun hq => ?_) (fun hq => ?_)
    · have h := h.1 hq
      refine jy_iload_n hS rfl rfl ?_
      exact jy_iret hS rfl rfl ⟨rfl, rfl, h⟩
    · have h := h.2 hq
      refine jy_iload_n hS rfl rfl ?_
      obtain ⟨g26, h⟩ := h
      refine jy_if_lt hS rfl g26 (fun hq => ?_) (fun hq => ?_)
      · have h := h.1 hq
        refine jy_iconst hS rfl ?_
        refine jy_goto hS rfl ?_
        exact jy_join hS h rfl (jy_sub_s (jy_sub_s (jy_sub_s (jy_sub_s (jy_sub_s (jy_sub_n jy_sub_0))))))
      · have h := h.2 hq
        refine jy_iload hS rfl rfl ?_
        obtain ⟨Q27, h⟩ := h
        obtain ⟨g28, h⟩ := h
        refine jy_callS hS rfl rfl rfl (Nat.le_of_ble_eq_true rfl) g28 (by decide) ⟨by decide, by decide⟩ (Nat.le_of_ble_eq_true rfl) ?_ ?_
        rotate_left
        · exact fun Ex Xx Ix Rx hp => hp.2.2.2.elim
        intro rv Xx I29 Rx hp
        obtain ⟨e1, e2, hp⟩ := hp
        rw [e1, e2]
        clear e1 e2
        obtain ⟨r30, e1, h⟩ := h rv I29 hp
        rw [e1]
        clear e1
        change J 40 [jy r30] _ (0, 0) _ _ _
        refine jy_iload_n hS rfl rfl ?_
        obtain ⟨Q31, h⟩ := h
        obtain ⟨g32, h⟩ := h
        refine jy_callS hS rfl rfl rfl (Nat.le_of_ble_eq_true rfl) g32 (by decide) ⟨by decide, by decide⟩ (Nat.le_of_ble_eq_true rfl) ?_ ?_
        rotate_left
        · exact fun Ex Xx Ix Rx hp => hp.2.2.2.elim
        intro rv Xx I33 Rx hp
        obtain ⟨e1, e2, hp⟩ := hp
        rw [e1, e2]
        clear e1 e2
        obtain ⟨r34, e1, h⟩ := h rv I33 hp
        rw [e1]
        clear e1
        change J 44 [jy r34, jy r30] _ (0, 0) _ _ _
        obtain ⟨g35, h⟩ := h
        obtain ⟨g36, h⟩ := h
        refine jy_icmp_ge hS rfl ⟨g35, g36⟩ (fun hq => ?_) (fun hq => ?_)
        · have h := h.1 hq
          refine jy_iconst hS rfl ?_
          exact jy_join hS h rfl (jy_sub_s (jy_sub_s (jy_sub_s (jy_sub_s (jy_sub_s (jy_sub_n jy_sub_0))))))
        · have h := h.2 hq
          refine jy_iconst hS rfl ?_
          refine jy_goto hS rfl ?_
          exact jy_join hS h rfl (jy_sub_s (jy_sub_s (jy_sub_s (jy_sub_s (jy_sub_s (jy_sub_n jy_sub_0))))))
  · intro s0 l2 l3 l4 I h
    unfold wz_170_52 at h
    refine jy_istore hS rfl (Nat.le_of_ble_eq_true rfl) (L' := [some (.ref a0), some (jy a1), some (jy l2), some (jy l3), some (jy l4), some (jy s0)]) rfl ?_
    refine jy_iload hS rfl rfl ?_
    refine jy_iload_n hS rfl rfl ?_
    refine jy_iconst hS rfl ?_
    refine jy_ixorX hS rfl rfl ?_
    refine jy_iandX hS rfl rfl ?_
    refine jy_if_ne hS rfl (jy_rng _) (fun hq => ?_) (fun hq => ?_)
    · have h := h.1 hq
      refine jy_iinc hS rfl rfl (L' := [some (.ref a0), some (jy a1), some (jy l2), some (jy l3), some (jy (l4 + 1)), some (jy s0)]) rfl ?_
      refine jy_goto hS rfl ?_
      exact jy_join hS h rfl (jy_sub_s (jy_sub_s (jy_sub_s (jy_sub_s (jy_sub_s (jy_sub_n jy_sub_0))))))
    · have h := h.2 hq
      refine jy_iload hS rfl rfl ?_
      obtain ⟨g37, h⟩ := h
      refine jy_if_eq hS rfl g37 (fun hq => ?_) (fun hq => ?_)
      · have h := h.1 hq
        refine jy_iinc hS rfl rfl (L' := [some (.ref a0), some (jy a1), some (jy l2), some (jy l3), some (jy (l4 + 1)), some (jy s0)]) rfl ?_
        refine jy_goto hS rfl ?_
        exact jy_join hS h rfl (jy_sub_s (jy_sub_s (jy_sub_s (jy_sub_s (jy_sub_s (jy_sub_n jy_sub_0))))))
      · have h := h.2 hq
        refine jy_aload_n hS rfl rfl ?_
        refine jy_iload_n hS rfl rfl ?_
        refine jy_iload hS rfl rfl ?_
        refine jy_iconst hS rfl ?_
        refine jy_ixorX hS rfl rfl ?_
        refine jy_iandX hS rfl rfl ?_
        obtain ⟨g38, h⟩ := h
        obtain ⟨Q39, h⟩ := h
        obtain ⟨g40, h⟩ := h
        refine jy_callV hS rfl rfl rfl (Nat.le_of_ble_eq_true rfl) (Or.inl g38) g40 (by decide) ⟨by decide, by decide⟩ (Nat.le_of_ble_eq_true rfl) ?_ ?_
        rotate_left
        · exact fun Ex Xx Ix Rx hp => hp.2.2.2.elim
        intro rv Xx I41 Rx hp
        obtain ⟨e1, e2, hp⟩ := hp
        rw [e1, e2]
        clear e1 e2
        obtain ⟨r42, e1, h⟩ := h rv I41 hp
        rw [e1]
        clear e1
        change J 78 [jy r42] _ (0, 0) _ _ _
        refine jy_iload_n hS rfl rfl ?_
        obtain ⟨g43, h⟩ := h
        refine jy_icmp_gt hS rfl ⟨g43, r_a1⟩ (fun hq => ?_) (fun hq => ?_)
        · have h := h.1 hq
          refine jy_iinc hS rfl rfl (L' := [some (.ref a0), some (jy a1), some (jy l2), some (jy l3), some (jy (l4 + 1)), some (jy s0)]) rfl ?_
          refine jy_goto hS rfl ?_
          exact jy_join hS h rfl (jy_sub_s (jy_sub_s (jy_sub_s (jy_sub_s (jy_sub_s (jy_sub_n jy_sub_0))))))
        · have h := h.2 hq
          refine jy_iload hS rfl rfl ?_
          refine jy_istore_n hS rfl (Nat.le_of_ble_eq_true rfl) (L' := [some (.ref a0), some (jy a1), some (jy l2), some (jy l4), some (jy l4), some (jy s0)]) rfl ?_
          exact jy_join hS h rfl (jy_sub_s (jy_sub_s (jy_sub_s (jy_sub_s (jy_sub_s (jy_sub_n jy_sub_0))))))
  · intro l2 l3 l4 I h
    unfold wz_170_85 at h
    refine jy_iinc hS rfl rfl (L' := [some (.ref a0), some (jy a1), some (jy l2), some (jy l3), some (jy (l4 + 1)), none]) rfl ?_
    refine jy_goto hS rfl ?_
    exact jy_join hS h rfl (jy_sub_s (jy_sub_s (jy_sub_s (jy_sub_s (jy_sub_s (jy_sub_n jy_sub_0))))))
theorem jt_171 : jx_ml 171 = 3 ∧ jx_rt 171 = some .int ∧ jx_hz 171 = [] ∧ decide ((jx_nm 171).name = "<init>") = false ∧ jx_code 171 = jx_c171 := by decide +kernel
/-- GC.learnt -/
def wz_171 (V : jx_V) (X : jx_X) (R : jx_R) (Q : Option Value → jx_I → Prop) (QE : String → jx_I → Prop)  (a0 : Nat) (a1 : Int) (a2 : Int) (I : jx_I) : Prop :=
  (X.2.1 a0 = some (11, 0)) ∧ (
  ∃ Q2 : Option Value → jx_I → Prop, (
  ∃ E3 : String → jx_I → Prop, (
  (jc V 8 187 (1, 6) [.ref a0, jy a1] X I R Q2 E3) ∧ (
  (∀ Ex Ix, E3 Ex Ix → QE Ex Ix) ∧ (
  ∀ rv I6, Q2 rv I6 → rv = none ∧ (
  ∃ Q8 : Option Value → jx_I → Prop, (
  ∃ E9 : String → jx_I → Prop, (
  (jc V 8 188 (1, 6) [.ref a0, jy a2] X I6 R Q8 E9) ∧ (
  (∀ Ex Ix, E9 Ex Ix → QE Ex Ix) ∧ (
  ∀ rv I12, Q8 rv I12 → rv = none ∧ (
  ∃ Q14 : Option Value → jx_I → Prop, (
  ∃ E15 : String → jx_I → Prop, (
  (jc V 8 193 (1, 6) [.ref a0] X I12 R Q14 E15) ∧ (
  (∀ Ex Ix, E15 Ex Ix → QE Ex Ix) ∧ (
  ∀ rv I18, Q14 rv I18 → rv = none ∧ (
  ∃ Q20 : Option Value → jx_I → Prop, (
  (jc V 6 198 (0, 0) [.ref a0, jy a1, jy a2, jy 1] X I18 R Q20 (fun _ _ => False)) ∧ (
  ∀ rv I22, Q20 rv I22 → ∃ r23 : Int, rv = some (jy r23) ∧ (
  Q (some (jy r23)) I22)))))))))))))))))))
set_option maxRecDepth 20000 in
theorem wm_171 {V : jx_V} (hV : V.1.stackTraces = false) {X : jx_X} {R : jx_R} {I : jx_I} {Q : Option Value → jx_I → Prop} {QE : String → jx_I → Prop} {a0 : Nat} {a1 : Int} {a2 : Int} (r_a1 : -2147483648 ≤ a1 ∧ a1 < 2147483648) (r_a2 : -2147483648 ≤ a2 ∧ a2 < 2147483648) 
    (h : wz_171 V X R Q QE  a0 a1 a2 I) : jc V 9 171 (3, 18) [.ref a0, jy a1, jy a2] X I R Q QE := by
  refine jy_met hV (by decide) (n := 3) (rt := some .int) (hh := []) (ini := false) (C := jx_c171) (L := [some (.ref a0), some (jy a1), some (jy a2)]) jt_171 (Nat.le_of_ble_eq_true rfl) rfl ?_
  intro J hS
  unfold wz_171 at h
  refine jy_aload_n hS rfl rfl ?_
  refine jy_iload_n hS rfl rfl ?_
  obtain ⟨g1, h⟩ := h
  obtain ⟨Q2, h⟩ := h
  obtain ⟨E3, h⟩ := h
  obtain ⟨g4, h⟩ := h
  obtain ⟨g5, h⟩ := h
  refine jy_callV hS rfl rfl rfl (Nat.le_of_ble_eq_true rfl) (Or.inl g1) g4 (by decide) ⟨by decide, by decide⟩ (Nat.le_of_ble_eq_true rfl) ?_ ?_
  rotate_left
  · exact fun Ex Xx Ix Rx hp => ⟨hp.1, hp.2.1, hp.2.2.1, g5 _ _ hp.2.2.2⟩
  intro rv Xx I6 Rx hp
  obtain ⟨e1, e2, hp⟩ := hp
  rw [e1, e2]
  clear e1 e2
  obtain ⟨e1, h⟩ := h rv I6 hp
  rw [e1]
  clear e1
  change J 5 [] _ (2, 12) _ _ _
  refine jy_aload_n hS rfl rfl ?_
  refine jy_iload_n hS rfl rfl ?_
  obtain ⟨Q8, h⟩ := h
  obtain ⟨E9, h⟩ := h
  obtain ⟨g10, h⟩ := h
  obtain ⟨g11, h⟩ := h
  refine jy_callV hS rfl rfl rfl (Nat.le_of_ble_eq_true rfl) (Or.inl g1) g10 (by decide) ⟨by decide, by decide⟩ (Nat.le_of_ble_eq_true rfl) ?_ ?_
  rotate_left
  · exact fun Ex Xx Ix Rx hp => ⟨hp.1, hp.2.1, hp.2.2.1, g11 _ _ hp.2.2.2⟩
  intro rv Xx I12 Rx hp
  obtain ⟨e1, e2, hp⟩ := hp
  rw [e1, e2]
  clear e1 e2
  obtain ⟨e1, h⟩ := h rv I12 hp
  rw [e1]
  clear e1
  change J 10 [] _ (1, 6) _ _ _
  refine jy_aload_n hS rfl rfl ?_
  obtain ⟨Q14, h⟩ := h
  obtain ⟨E15, h⟩ := h
  obtain ⟨g16, h⟩ := h
  obtain ⟨g17, h⟩ := h
  refine jy_callV hS rfl rfl rfl (Nat.le_of_ble_eq_true rfl) (Or.inl g1) g16 (by decide) ⟨by decide, by decide⟩ (Nat.le_of_ble_eq_true rfl) ?_ ?_
  rotate_left
  · exact fun Ex Xx Ix Rx hp => ⟨hp.1, hp.2.1, hp.2.2.1, g17 _ _ hp.2.2.2⟩
  intro rv Xx I18 Rx hp
  obtain ⟨e1, e2, hp⟩ := hp
  rw [e1, e2]
  clear e1 e2
  obtain ⟨e1, h⟩ := h rv I18 hp
  rw [e1]
  clear e1
  change J 14 [] _ (0, 0) _ _ _
  refine jy_aload_n hS rfl rfl ?_
  refine jy_iload_n hS rfl rfl ?_
  refine jy_iload_n hS rfl rfl ?_
  refine jy_iconst hS rfl ?_
  obtain ⟨Q20, h⟩ := h
  obtain ⟨g21, h⟩ := h
  refine jy_callV hS rfl rfl rfl (Nat.le_of_ble_eq_true rfl) (Or.inl g1) g21 (by decide) ⟨by decide, by decide⟩ (Nat.le_of_ble_eq_true rfl) ?_ ?_
  rotate_left
  · exact fun Ex Xx Ix Rx hp => hp.2.2.2.elim
  intro rv Xx I22 Rx hp
  obtain ⟨e1, e2, hp⟩ := hp
  rw [e1, e2]
  clear e1 e2
  obtain ⟨r23, e1, h⟩ := h rv I22 hp
  rw [e1]
  clear e1
  change J 21 [jy r23] _ (0, 0) _ _ _
  exact jy_iret hS rfl rfl ⟨rfl, rfl, h⟩
theorem jt_172 : jx_ml 172 = 3 ∧ jx_rt 172 = some .int ∧ jx_hz 172 = [] ∧ decide ((jx_nm 172).name = "<init>") = false ∧ jx_code 172 = jx_c172 := by decide +kernel
/-- GC.forgot -/
def wz_172 (V : jx_V) (X : jx_X) (R : jx_R) (Q : Option Value → jx_I → Prop) (QE : String → jx_I → Prop)  (a0 : Nat) (a1 : Int) (a2 : Int) (I : jx_I) : Prop :=
  (X.2.1 a0 = some (11, 0)) ∧ (
  ∃ Q2 : Option Value → jx_I → Prop, (
  ∃ E3 : String → jx_I → Prop, (
  (jc V 8 187 (1, 6) [.ref a0, jy a1] X I R Q2 E3) ∧ (
  (∀ Ex Ix, E3 Ex Ix → QE Ex Ix) ∧ (
  ∀ rv I6, Q2 rv I6 → rv = none ∧ (
  ∃ Q8 : Option Value → jx_I → Prop, (
  ∃ E9 : String → jx_I → Prop, (
  (jc V 8 188 (1, 6) [.ref a0, jy a2] X I6 R Q8 E9) ∧ (
  (∀ Ex Ix, E9 Ex Ix → QE Ex Ix) ∧ (
  ∀ rv I12, Q8 rv I12 → rv = none ∧ (
  ∃ Q14 : Option Value → jx_I → Prop, (
  ∃ E15 : String → jx_I → Prop, (
  (jc V 8 193 (1, 6) [.ref a0] X I12 R Q14 E15) ∧ (
  (∀ Ex Ix, E15 Ex Ix → QE Ex Ix) ∧ (
  ∀ rv I18, Q14 rv I18 → rv = none ∧ (
  ∃ Q20 : Option Value → jx_I → Prop, (
  (jc V 6 198 (0, 0) [.ref a0, jy a1, jy a2, jy 0] X I18 R Q20 (fun _ _ => False)) ∧ (
  ∀ rv I22, Q20 rv I22 → ∃ r23 : Int, rv = some (jy r23) ∧ (
  Q (some (jy r23)) I22)))))))))))))))))))
set_option maxRecDepth 20000 in
theorem wm_172 {V : jx_V} (hV : V.1.stackTraces = false) {X : jx_X} {R : jx_R} {I : jx_I} {Q : Option Value → jx_I → Prop} {QE : String → jx_I → Prop} {a0 : Nat} {a1 : Int} {a2 : Int} (r_a1 : -2147483648 ≤ a1 ∧ a1 < 2147483648) (r_a2 : -2147483648 ≤ a2 ∧ a2 < 2147483648) 
    (h : wz_172 V X R Q QE  a0 a1 a2 I) : jc V 9 172 (3, 18) [.ref a0, jy a1, jy a2] X I R Q QE := by
  refine jy_met hV (by decide) (n := 3) (rt := some .int) (hh := []) (ini := false) (C := jx_c172) (L := [some (.ref a0), some (jy a1), some (jy a2)]) jt_172 (Nat.le_of_ble_eq_true rfl) rfl ?_
  intro J hS
  unfold wz_172 at h
  refine jy_aload_n hS rfl rfl ?_
  refine jy_iload_n hS rfl rfl ?_
  obtain ⟨g1, h⟩ := h
  obtain ⟨Q2, h⟩ := h
  obtain ⟨E3, h⟩ := h
  obtain ⟨g4, h⟩ := h
  obtain ⟨g5, h⟩ := h
  refine jy_callV hS rfl rfl rfl (Nat.le_of_ble_eq_true rfl) (Or.inl g1) g4 (by decide) ⟨by decide, by decide⟩ (Nat.le_of_ble_eq_true rfl) ?_ ?_
  rotate_left
  · exact fun Ex Xx Ix Rx hp => ⟨hp.1, hp.2.1, hp.2.2.1, g5 _ _ hp.2.2.2⟩
  intro rv Xx I6 Rx hp
  obtain ⟨e1, e2, hp⟩ := hp
  rw [e1, e2]
  clear e1 e2
  obtain ⟨e1, h⟩ := h rv I6 hp
  rw [e1]
  clear e1
  change J 5 [] _ (2, 12) _ _ _
  refine jy_aload_n hS rfl rfl ?_
  refine jy_iload_n hS rfl rfl ?_
  obtain ⟨Q8, h⟩ := h
  obtain ⟨E9, h⟩ := h
  obtain ⟨g10, h⟩ := h
  obtain ⟨g11, h⟩ := h
  refine jy_callV hS rfl rfl rfl (Nat.le_of_ble_eq_true rfl) (Or.inl g1) g10 (by decide) ⟨by decide, by decide⟩ (Nat.le_of_ble_eq_true rfl) ?_ ?_
  rotate_left
  · exact fun Ex Xx Ix Rx hp => ⟨hp.1, hp.2.1, hp.2.2.1, g11 _ _ hp.2.2.2⟩
  intro rv Xx I12 Rx hp
  obtain ⟨e1, e2, hp⟩ := hp
  rw [e1, e2]
  clear e1 e2
  obtain ⟨e1, h⟩ := h rv I12 hp
  rw [e1]
  clear e1
  change J 10 [] _ (1, 6) _ _ _
  refine jy_aload_n hS rfl rfl ?_
  obtain ⟨Q14, h⟩ := h
  obtain ⟨E15, h⟩ := h
  obtain ⟨g16, h⟩ := h
  obtain ⟨g17, h⟩ := h
  refine jy_callV hS rfl rfl rfl (Nat.le_of_ble_eq_true rfl) (Or.inl g1) g16 (by decide) ⟨by decide, by decide⟩ (Nat.le_of_ble_eq_true rfl) ?_ ?_
  rotate_left
  · exact fun Ex Xx Ix Rx hp => ⟨hp.1, hp.2.1, hp.2.2.1, g17 _ _ hp.2.2.2⟩
  intro rv Xx I18 Rx hp
  obtain ⟨e1, e2, hp⟩ := hp
  rw [e1, e2]
  clear e1 e2
  obtain ⟨e1, h⟩ := h rv I18 hp
  rw [e1]
  clear e1
  change J 14 [] _ (0, 0) _ _ _
  refine jy_aload_n hS rfl rfl ?_
  refine jy_iload_n hS rfl rfl ?_
  refine jy_iload_n hS rfl rfl ?_
  refine jy_iconst hS rfl ?_
  obtain ⟨Q20, h⟩ := h
  obtain ⟨g21, h⟩ := h
  refine jy_callV hS rfl rfl rfl (Nat.le_of_ble_eq_true rfl) (Or.inl g1) g21 (by decide) ⟨by decide, by decide⟩ (Nat.le_of_ble_eq_true rfl) ?_ ?_
  rotate_left
  · exact fun Ex Xx Ix Rx hp => hp.2.2.2.elim
  intro rv Xx I22 Rx hp
  obtain ⟨e1, e2, hp⟩ := hp
  rw [e1, e2]
  clear e1 e2
  obtain ⟨r23, e1, h⟩ := h rv I22 hp
  rw [e1]
  clear e1
  change J 21 [jy r23] _ (0, 0) _ _ _
  exact jy_iret hS rfl rfl ⟨rfl, rfl, h⟩
theorem jt_173 : jx_ml 173 = 4 ∧ jx_rt 173 = some .int ∧ jx_hz 173 = [] ∧ decide ((jx_nm 173).name = "<init>") = false ∧ jx_code 173 = jx_c173 := by decide +kernel
/-- GC.soon, from 19 -/
def wz_173_19 (V : jx_V) (X : jx_X) (R : jx_R) (Q : Option Value → jx_I → Prop) (QE : String → jx_I → Prop) (J19 : Nat → Int → jx_I → Prop) (a0 : Nat) (a1 : Int) (l2 : Nat) (l3 : Int) (I : jx_I) : Prop :=
  (-2147483648 ≤ l3 ∧ l3 < 2147483648) ∧ (
  (24 < l3 → (
    Q (some (jy (-1))) I
  )) ∧ (¬ 24 < l3 → (
    (X.2.1 a0 = some (11, 0)) ∧ (
    ∃ q21 : Nat, (
    (R a0 4 = some q21) ∧ (
    ∃ q23 : Nat, (
    (R a0 11 = some q23) ∧ (
    ∃ q25 : Nat, (
    (R a0 2 = some q25) ∧ (
    (X.2.1 q25 = some (7, 0)) ∧ (
    ∃ q28 : Nat, (
    (R q25 2 = some q28) ∧ (
    ∃ q30 : Nat, (
    (R q25 1 = some q30) ∧ (
    (X.2.1 q21 = some (9, 0)) ∧ (
    ∃ Q33 : Option Value → jx_I → Prop, (
    (jc V 5 121 (0, 0) [.ref q21, .ref q23, .ref q28, .ref q30, .ref l2] X I R Q33 (fun _ _ => False)) ∧ (
    ∀ rv I35, Q33 rv I35 → rv = none ∧ (
    ∃ Q37 : Option Value → jx_I → Prop, (
    (jc V 1 123 (0, 0) [.ref q21] X I35 R Q37 (fun _ _ => False)) ∧ (
    ∀ rv I39, Q37 rv I39 → ∃ r40 : Int, rv = some (jy r40) ∧ (
    (-2147483648 ≤ r40 ∧ r40 < 2147483648) ∧ (
    (a1 < r40 → (
      ∃ q42 : Nat, (
      (R q21 0 = some q42) ∧ (
      J19 q42 (l3 + 1) I39))
    )) ∧ (¬ a1 < r40 → (
      Q (some (jy l3)) I39
    ))))))))))))))))))))))
  )))
/-- GC.soon -/
def wz_173 (V : jx_V) (X : jx_X) (R : jx_R) (Q : Option Value → jx_I → Prop) (QE : String → jx_I → Prop) (J19 : Nat → Int → jx_I → Prop) (a0 : Nat) (a1 : Int) (I : jx_I) : Prop :=
  (X.2.1 a0 = some (11, 0)) ∧ (
  ∃ Q2 : Option Value → jx_I → Prop, (
  ∃ E3 : String → jx_I → Prop, (
  (jc V 9 191 (1, 6) [.ref a0, jy a1] X I R Q2 E3) ∧ (
  (∀ Ex Ix, E3 Ex Ix → QE Ex Ix) ∧ (
  ∀ rv I6, Q2 rv I6 → rv = none ∧ (
  ∃ Q8 : Option Value → jx_I → Prop, (
  ∃ E9 : String → jx_I → Prop, (
  (jc V 8 193 (1, 6) [.ref a0] X I6 R Q8 E9) ∧ (
  (∀ Ex Ix, E9 Ex Ix → QE Ex Ix) ∧ (
  ∀ rv I12, Q8 rv I12 → rv = none ∧ (
  ∃ q14 : Nat, (
  (R a0 2 = some q14) ∧ (
  (X.2.1 q14 = some (7, 0)) ∧ (
  ∃ q17 : Nat, (
  (R q14 0 = some q17) ∧ (
  J19 q17 1 I12))))))))))))))))
set_option maxRecDepth 20000 in
theorem wm_173 {V : jx_V} (hV : V.1.stackTraces = false) {X : jx_X} {R : jx_R} {I : jx_I} {Q : Option Value → jx_I → Prop} {QE : String → jx_I → Prop} {a0 : Nat} {a1 : Int} (r_a1 : -2147483648 ≤ a1 ∧ a1 < 2147483648) 
    (h : ∀ (J19 : Nat → Int → jx_I → Prop), ((∀ (l2 : Nat) (l3 : Int) I, wz_173_19 V X R Q QE J19 a0 a1 l2 l3 I → J19 l2 l3 I)) → wz_173 V X R Q QE J19 a0 a1 I) : jc V 10 173 (2, 12) [.ref a0, jy a1] X I R Q QE := by
  refine jy_met hV (by decide) (n := 4) (rt := some .int) (hh := []) (ini := false) (C := jx_c173) (L := [some (.ref a0), some (jy a1), none, none]) jt_173 (Nat.le_of_ble_eq_true rfl) rfl ?_
  intro J hS
  have h := h (fun l2 l3 I => J 19 [] [some (.ref a0), some (jy a1), some (.ref l2), some (jy l3)] (0, 0) X I R) ?_
  · unfold wz_173 at h
    refine jy_aload_n hS rfl rfl ?_
    refine jy_iload_n hS rfl rfl ?_
    obtain ⟨g1, h⟩ := h
    obtain ⟨Q2, h⟩ := h
    obtain ⟨E3, h⟩ := h
    obtain ⟨g4, h⟩ := h
    obtain ⟨g5, h⟩ := h
    refine jy_callV hS rfl rfl rfl (Nat.le_of_ble_eq_true rfl) (Or.inl g1) g4 (by decide) ⟨by decide, by decide⟩ (Nat.le_of_ble_eq_true rfl) ?_ ?_
    rotate_left
    · exact fun Ex Xx Ix Rx hp => ⟨hp.1, hp.2.1, hp.2.2.1, g5 _ _ hp.2.2.2⟩
    intro rv Xx I6 Rx hp
    obtain ⟨e1, e2, hp⟩ := hp
    rw [e1, e2]
    clear e1 e2
    obtain ⟨e1, h⟩ := h rv I6 hp
    rw [e1]
    clear e1
    change J 5 [] _ (1, 6) _ _ _
    refine jy_aload_n hS rfl rfl ?_
    obtain ⟨Q8, h⟩ := h
    obtain ⟨E9, h⟩ := h
    obtain ⟨g10, h⟩ := h
    obtain ⟨g11, h⟩ := h
    refine jy_callV hS rfl rfl rfl (Nat.le_of_ble_eq_true rfl) (Or.inl g1) g10 (by decide) ⟨by decide, by decide⟩ (Nat.le_of_ble_eq_true rfl) ?_ ?_
    rotate_left
    · exact fun Ex Xx Ix Rx hp => ⟨hp.1, hp.2.1, hp.2.2.1, g11 _ _ hp.2.2.2⟩
    intro rv Xx I12 Rx hp
    obtain ⟨e1, e2, hp⟩ := hp
    rw [e1, e2]
    clear e1 e2
    obtain ⟨e1, h⟩ := h rv I12 hp
    rw [e1]
    clear e1
    change J 9 [] _ (0, 0) _ _ _
    refine jy_aload_n hS rfl rfl ?_
    obtain ⟨q14, h⟩ := h
    obtain ⟨g15, h⟩ := h
    refine jy_getR hS rfl (by decide) g1 g15 ?_
    obtain ⟨g16, h⟩ := h
    obtain ⟨q17, h⟩ := h
    obtain ⟨g18, h⟩ := h
    refine jy_getR hS rfl (by decide) g16 g18 ?_
    refine jy_astore_n hS rfl (Nat.le_of_ble_eq_true rfl) (L' := [some (.ref a0), some (jy a1), some (.ref q17), none]) rfl ?_
    refine jy_iconst hS rfl ?_
    refine jy_istore_n hS rfl (Nat.le_of_ble_eq_true rfl) (L' := [some (.ref a0), some (jy a1), some (.ref q17), some (jy 1)]) rfl ?_
    exact jy_join hS h rfl (jy_sub_s (jy_sub_s (jy_sub_s (jy_sub_s jy_sub_0))))
  · intro l2 l3 I h
    unfold wz_173_19 at h
    refine jy_iload_n hS rfl rfl ?_
    refine jy_bipush hS rfl (by decide) ?_
    obtain ⟨g19, h⟩ := h
    refine jy_icmp_gt hS rfl ⟨g19, ⟨by decide, by decide⟩⟩ (fun hq => ?_) (fun hq => ?_)
    · have h := h.1 hq
      refine jy_iconst hS rfl ?_
      exact jy_iret hS rfl rfl ⟨rfl, rfl, h⟩
    · have h := h.2 hq
      refine jy_aload_n hS rfl rfl ?_
      obtain ⟨g20, h⟩ := h
      obtain ⟨q21, h⟩ := h
      obtain ⟨g22, h⟩ := h
      refine jy_getR hS rfl (by decide) g20 g22 ?_
      refine jy_aload_n hS rfl rfl ?_
      obtain ⟨q23, h⟩ := h
      obtain ⟨g24, h⟩ := h
      refine jy_getR hS rfl (by decide) g20 g24 ?_
      refine jy_aload_n hS rfl rfl ?_
      obtain ⟨q25, h⟩ := h
      obtain ⟨g26, h⟩ := h
      refine jy_getR hS rfl (by decide) g20 g26 ?_
      obtain ⟨g27, h⟩ := h
      obtain ⟨q28, h⟩ := h
      obtain ⟨g29, h⟩ := h
      refine jy_getR hS rfl (by decide) g27 g29 ?_
      refine jy_aload_n hS rfl rfl ?_
      refine jy_getR hS rfl (by decide) g20 g26 ?_
      obtain ⟨q30, h⟩ := h
      obtain ⟨g31, h⟩ := h
      refine jy_getR hS rfl (by decide) g27 g31 ?_
      refine jy_aload_n hS rfl rfl ?_
      obtain ⟨g32, h⟩ := h
      obtain ⟨Q33, h⟩ := h
      obtain ⟨g34, h⟩ := h
      refine jy_callV hS rfl rfl rfl (Nat.le_of_ble_eq_true rfl) (Or.inl g32) g34 (by decide) ⟨by decide, by decide⟩ (Nat.le_of_ble_eq_true rfl) ?_ ?_
      rotate_left
      · exact fun Ex Xx Ix Rx hp => hp.2.2.2.elim
      intro rv Xx I35 Rx hp
      obtain ⟨e1, e2, hp⟩ := hp
      rw [e1, e2]
      clear e1 e2
      obtain ⟨e1, h⟩ := h rv I35 hp
      rw [e1]
      clear e1
      change J 51 [] _ (0, 0) _ _ _
      refine jy_aload_n hS rfl rfl ?_
      refine jy_getR hS rfl (by decide) g20 g22 ?_
      obtain ⟨Q37, h⟩ := h
      obtain ⟨g38, h⟩ := h
      refine jy_callV hS rfl rfl rfl (Nat.le_of_ble_eq_true rfl) (Or.inl g32) g38 (by decide) ⟨by decide, by decide⟩ (Nat.le_of_ble_eq_true rfl) ?_ ?_
      rotate_left
      · exact fun Ex Xx Ix Rx hp => hp.2.2.2.elim
      intro rv Xx I39 Rx hp
      obtain ⟨e1, e2, hp⟩ := hp
      rw [e1, e2]
      clear e1 e2
      obtain ⟨r40, e1, h⟩ := h rv I39 hp
      rw [e1]
      clear e1
      change J 58 [jy r40] _ (0, 0) _ _ _
      refine jy_iload_n hS rfl rfl ?_
      obtain ⟨g41, h⟩ := h
      refine jy_icmp_gt hS rfl ⟨g41, r_a1⟩ (fun hq => ?_) (fun hq => ?_)
      · have h := h.1 hq
        refine jy_aload_n hS rfl rfl ?_
        refine jy_getR hS rfl (by decide) g20 g22 ?_
        obtain ⟨q42, h⟩ := h
        obtain ⟨g43, h⟩ := h
        refine jy_getR hS rfl (by decide) g32 g43 ?_
        refine jy_astore_n hS rfl (Nat.le_of_ble_eq_true rfl) (L' := [some (.ref a0), some (jy a1), some (.ref q42), some (jy l3)]) rfl ?_
        refine jy_iinc hS rfl rfl (L' := [some (.ref a0), some (jy a1), some (.ref q42), some (jy (l3 + 1))]) rfl ?_
        refine jy_goto hS rfl ?_
        exact jy_join hS h rfl (jy_sub_s (jy_sub_s (jy_sub_s (jy_sub_s jy_sub_0))))
      · have h := h.2 hq
        refine jy_iload_n hS rfl rfl ?_
        exact jy_iret hS rfl rfl ⟨rfl, rfl, h⟩
