theorem jt_198 : jx_ml 198 = 6 ∧ jx_rt 198 = some .int ∧ jx_hz 198 = [] ∧ decide ((jx_nm 198).name = "<init>") = false ∧ jx_code 198 = jx_c198 := by decide +kernel
/-- GC.goingsUntil, from 12 -/
def wz_198_12 (V : jx_V) (X : jx_X) (R : jx_R) (Q : Option Value → jx_I → Prop) (QE : String → jx_I → Prop) (J12 : Nat → Int → jx_I → Prop) (J70 : Int → Nat → Int → jx_I → Prop) (a0 : Nat) (a1 : Int) (a2 : Int) (a3 : Int) (l4 : Nat) (l5 : Int) (I : jx_I) : Prop :=
  (-2147483648 ≤ l5 ∧ l5 < 2147483648) ∧ (
  (24 < l5 → (
    Q (some (jy (-1))) I
  )) ∧ (¬ 24 < l5 → (
    (X.2.1 a0 = some (11, 0)) ∧ (
    ∃ q9 : Nat, (
    (R a0 4 = some q9) ∧ (
    ∃ q11 : Nat, (
    (R a0 11 = some q11) ∧ (
    ∃ q13 : Nat, (
    (R a0 2 = some q13) ∧ (
    (X.2.1 q13 = some (7, 0)) ∧ (
    ∃ q16 : Nat, (
    (R q13 2 = some q16) ∧ (
    ∃ q18 : Nat, (
    (R q13 1 = some q18) ∧ (
    (X.2.1 q9 = some (9, 0)) ∧ (
    ∃ Q21 : Option Value → jx_I → Prop, (
    (jc V 5 121 (0, 0) [.ref q9, .ref q11, .ref q16, .ref q18, .ref l4] X I R Q21 (fun _ _ => False)) ∧ (
    ∀ rv I23, Q21 rv I23 → rv = none ∧ (
    ∃ q25 : Nat, (
    (R q9 0 = some q25) ∧ (
    (X.2.1 q25 = some (1, 0)) ∧ (
    ∃ Q28 : Option Value → jx_I → Prop, (
    (jc V 1 11 (0, 0) [.ref q25, jy a1, jy a2] X I23 R Q28 (fun _ _ => False)) ∧ (
    ∀ rv I30, Q28 rv I30 → ∃ r31 : Int, rv = some (jy r31) ∧ (
    (-2147483648 ≤ r31 ∧ r31 < 2147483648) ∧ (
    (r31 ≤ 0 → (
      J70 0 q25 l5 I30
    )) ∧ (¬ r31 ≤ 0 → (
      J70 1 q25 l5 I30
    )))))))))))))))))))))))))
  )))
/-- GC.goingsUntil, from 70 -/
def wz_198_70 (V : jx_V) (X : jx_X) (R : jx_R) (Q : Option Value → jx_I → Prop) (QE : String → jx_I → Prop) (J12 : Nat → Int → jx_I → Prop) (J70 : Int → Nat → Int → jx_I → Prop) (a0 : Nat) (a1 : Int) (a2 : Int) (a3 : Int) (s0 : Int) (l4 : Nat) (l5 : Int) (I : jx_I) : Prop :=
  (-2147483648 ≤ s0 ∧ s0 < 2147483648) ∧ (
  (s0 ≠ a3 → (
    J12 l4 (l5 + 1) I
  )) ∧ (s0 = a3 → (
    Q (some (jy l5)) I
  )))
/-- GC.goingsUntil -/
def wz_198 (V : jx_V) (X : jx_X) (R : jx_R) (Q : Option Value → jx_I → Prop) (QE : String → jx_I → Prop) (J12 : Nat → Int → jx_I → Prop) (J70 : Int → Nat → Int → jx_I → Prop) (a0 : Nat) (a1 : Int) (a2 : Int) (a3 : Int) (I : jx_I) : Prop :=
  (X.2.1 a0 = some (11, 0)) ∧ (
  ∃ q2 : Nat, (
  (R a0 2 = some q2) ∧ (
  (X.2.1 q2 = some (7, 0)) ∧ (
  ∃ q5 : Nat, (
  (R q2 0 = some q5) ∧ (
  J12 q5 1 I))))))
set_option maxRecDepth 20000 in
theorem wm_198 {V : jx_V} (hV : V.1.stackTraces = false) {X : jx_X} {R : jx_R} {I : jx_I} {Q : Option Value → jx_I → Prop} {QE : String → jx_I → Prop} {a0 : Nat} {a1 : Int} {a2 : Int} {a3 : Int} (r_a1 : -2147483648 ≤ a1 ∧ a1 < 2147483648) (r_a2 : -2147483648 ≤ a2 ∧ a2 < 2147483648) (r_a3 : -2147483648 ≤ a3 ∧ a3 < 2147483648) 
    (h : ∀ (J12 : Nat → Int → jx_I → Prop) (J70 : Int → Nat → Int → jx_I → Prop), ((∀ (l4 : Nat) (l5 : Int) I, wz_198_12 V X R Q QE J12 J70 a0 a1 a2 a3 l4 l5 I → J12 l4 l5 I) ∧ (∀ (s0 : Int) (l4 : Nat) (l5 : Int) I, wz_198_70 V X R Q QE J12 J70 a0 a1 a2 a3 s0 l4 l5 I → J70 s0 l4 l5 I)) → wz_198 V X R Q QE J12 J70 a0 a1 a2 a3 I) : jc V 6 198 (0, 0) [.ref a0, jy a1, jy a2, jy a3] X I R Q QE := by
  refine jy_met hV (by decide) (n := 6) (rt := some .int) (hh := []) (ini := false) (C := jx_c198) (L := [some (.ref a0), some (jy a1), some (jy a2), some (jy a3), none, none]) jt_198 (Nat.le_of_ble_eq_true rfl) rfl ?_
  intro J hS
  have h := h (fun l4 l5 I => J 12 [] [some (.ref a0), some (jy a1), some (jy a2), some (jy a3), some (.ref l4), some (jy l5)] (0, 0) X I R) (fun s0 l4 l5 I => J 70 [jy s0] [some (.ref a0), some (jy a1), some (jy a2), some (jy a3), some (.ref l4), some (jy l5)] (0, 0) X I R) ?_
  · unfold wz_198 at h
    refine jy_aload_n hS rfl rfl ?_
    obtain ⟨g1, h⟩ := h
    obtain ⟨q2, h⟩ := h
    obtain ⟨g3, h⟩ := h
    refine jy_getR hS rfl (by decide) g1 g3 ?_
    obtain ⟨g4, h⟩ := h
    obtain ⟨q5, h⟩ := h
    obtain ⟨g6, h⟩ := h
    refine jy_getR hS rfl (by decide) g4 g6 ?_
    refine jy_astore hS rfl (Nat.le_of_ble_eq_true rfl) (L' := [some (.ref a0), some (jy a1), some (jy a2), some (jy a3), some (.ref q5), none]) rfl ?_
    refine jy_iconst hS rfl ?_
    refine jy_istore hS rfl (Nat.le_of_ble_eq_true rfl) (L' := [some (.ref a0), some (jy a1), some (jy a2), some (jy a3), some (.ref q5), some (jy 1)]) rfl ?_
    exact jy_join hS h rfl (jy_sub_s (jy_sub_s (jy_sub_s (jy_sub_s (jy_sub_s (jy_sub_s jy_sub_0))))))
  refine ⟨?_, ?_⟩
  · intro l4 l5 I h
    unfold wz_198_12 at h
    refine jy_iload hS rfl rfl ?_
    refine jy_bipush hS rfl (by decide) ?_
    obtain ⟨g7, h⟩ := h
    refine jy_icmp_gt hS rfl ⟨g7, ⟨by decide, by decide⟩⟩ (fun hq => ?_) (fun hq => ?_)
    · have h := h.1 hq
      refine jy_iconst hS rfl ?_
      exact jy_iret hS rfl rfl ⟨rfl, rfl, h⟩
    · have h := h.2 hq
      refine jy_aload_n hS rfl rfl ?_
      obtain ⟨g8, h⟩ := h
      obtain ⟨q9, h⟩ := h
      obtain ⟨g10, h⟩ := h
      refine jy_getR hS rfl (by decide) g8 g10 ?_
      refine jy_aload_n hS rfl rfl ?_
      obtain ⟨q11, h⟩ := h
      obtain ⟨g12, h⟩ := h
      refine jy_getR hS rfl (by decide) g8 g12 ?_
      refine jy_aload_n hS rfl rfl ?_
      obtain ⟨q13, h⟩ := h
      obtain ⟨g14, h⟩ := h
      refine jy_getR hS rfl (by decide) g8 g14 ?_
      obtain ⟨g15, h⟩ := h
      obtain ⟨q16, h⟩ := h
      obtain ⟨g17, h⟩ := h
      refine jy_getR hS rfl (by decide) g15 g17 ?_
      refine jy_aload_n hS rfl rfl ?_
      refine jy_getR hS rfl (by decide) g8 g14 ?_
      obtain ⟨q18, h⟩ := h
      obtain ⟨g19, h⟩ := h
      refine jy_getR hS rfl (by decide) g15 g19 ?_
      refine jy_aload hS rfl rfl ?_
      obtain ⟨g20, h⟩ := h
      obtain ⟨Q21, h⟩ := h
      obtain ⟨g22, h⟩ := h
      refine jy_callV hS rfl rfl rfl (Nat.le_of_ble_eq_true rfl) (Or.inl g20) g22 (by decide) ⟨by decide, by decide⟩ (Nat.le_of_ble_eq_true rfl) ?_ ?_
      rotate_left
      · exact fun Ex Xx Ix Rx hp => hp.2.2.2.elim
      intro rv Xx I23 Rx hp
      obtain ⟨e1, e2, hp⟩ := hp
      rw [e1, e2]
      clear e1 e2
      obtain ⟨e1, h⟩ := h rv I23 hp
      rw [e1]
      clear e1
      change J 46 [] _ (0, 0) _ _ _
      refine jy_aload_n hS rfl rfl ?_
      refine jy_getR hS rfl (by decide) g8 g10 ?_
      obtain ⟨q25, h⟩ := h
      obtain ⟨g26, h⟩ := h
      refine jy_getR hS rfl (by decide) g20 g26 ?_
      refine jy_astore hS rfl (Nat.le_of_ble_eq_true rfl) (L' := [some (.ref a0), some (jy a1), some (jy a2), some (jy a3), some (.ref q25), some (jy l5)]) rfl ?_
      refine jy_aload hS rfl rfl ?_
      refine jy_iload_n hS rfl rfl ?_
      refine jy_iload_n hS rfl rfl ?_
      obtain ⟨g27, h⟩ := h
      obtain ⟨Q28, h⟩ := h
      obtain ⟨g29, h⟩ := h
      refine jy_callV hS rfl rfl rfl (Nat.le_of_ble_eq_true rfl) (Or.inl g27) g29 (by decide) ⟨by decide, by decide⟩ (Nat.le_of_ble_eq_true rfl) ?_ ?_
      rotate_left
      · exact fun Ex Xx Ix Rx hp => hp.2.2.2.elim
      intro rv Xx I30 Rx hp
      obtain ⟨e1, e2, hp⟩ := hp
      rw [e1, e2]
      clear e1 e2
      obtain ⟨r31, e1, h⟩ := h rv I30 hp
      rw [e1]
      clear e1
      change J 62 [jy r31] _ (0, 0) _ _ _
      obtain ⟨g32, h⟩ := h
      refine jy_if_le hS rfl g32 (fun hq => ?_) (fun hq => ?_)
      · have h := h.1 hq
        refine jy_iconst hS rfl ?_
        exact jy_join hS h rfl (jy_sub_s (jy_sub_s (jy_sub_s (jy_sub_s (jy_sub_s (jy_sub_s jy_sub_0))))))
      · have h := h.2 hq
        refine jy_iconst hS rfl ?_
        refine jy_goto hS rfl ?_
        exact jy_join hS h rfl (jy_sub_s (jy_sub_s (jy_sub_s (jy_sub_s (jy_sub_s (jy_sub_s jy_sub_0))))))
  · intro s0 l4 l5 I h
    unfold wz_198_70 at h
    refine jy_iload_n hS rfl rfl ?_
    obtain ⟨g33, h⟩ := h
    refine jy_icmp_ne hS rfl ⟨g33, r_a3⟩ (fun hq => ?_) (fun hq => ?_)
    · have h := h.1 hq
      refine jy_iinc hS rfl rfl (L' := [some (.ref a0), some (jy a1), some (jy a2), some (jy a3), some (.ref l4), some (jy (l5 + 1))]) rfl ?_
      refine jy_goto hS rfl ?_
      exact jy_join hS h rfl (jy_sub_s (jy_sub_s (jy_sub_s (jy_sub_s (jy_sub_s (jy_sub_s jy_sub_0))))))
    · have h := h.2 hq
      refine jy_iload hS rfl rfl ?_
      exact jy_iret hS rfl rfl ⟨rfl, rfl, h⟩
theorem jt_200 : jx_ml 200 = 3 ∧ jx_rt 200 = none ∧ jx_hz 200 = [] ∧ decide ((jx_nm 200).name = "<init>") = false ∧ jx_code 200 = jx_c200 := by decide +kernel
/-- GCModel.tellsNothing, from 39 -/
def wz_200_39 (V : jx_V) (X : jx_X) (R : jx_R) (Q : Option Value → jx_I → Prop) (QE : String → jx_I → Prop) (J39 : Int → jx_I → Prop) (J47 : Int → Int → jx_I → Prop) (a0 : Nat) (l1 : Int) (I : jx_I) : Prop :=
  (-2147483648 ≤ l1 ∧ l1 < 2147483648) ∧ (
  (10 ≤ l1 → (
    Q none I
  )) ∧ (¬ 10 ≤ l1 → (
    J47 l1 0 I
  )))
/-- GCModel.tellsNothing, from 47 -/
def wz_200_47 (V : jx_V) (X : jx_X) (R : jx_R) (Q : Option Value → jx_I → Prop) (QE : String → jx_I → Prop) (J39 : Int → jx_I → Prop) (J47 : Int → Int → jx_I → Prop) (a0 : Nat) (l1 : Int) (l2 : Int) (I : jx_I) : Prop :=
  (-2147483648 ≤ l2 ∧ l2 < 2147483648) ∧ (
  (10 ≤ l2 → (
    J39 (l1 + 1) I
  )) ∧ (¬ 10 ≤ l2 → (
    (X.2.1 a0 = some (12, 0)) ∧ (
    ∃ q32 : Nat, (
    (R a0 20 = some q32) ∧ (
    ∃ n34 : Nat, (
    (X.2.1 q32 = some (104, n34) ∧ n34 < 2147483648) ∧ (
    (0 ≤ l1 ∧ l1 < n34) ∧ (
    ∃ q37 : Nat, (
    (R q32 l1.toNat = some q37) ∧ (
    ∃ n39 : Nat, (
    (X.2.1 q37 = some (100, n39) ∧ n39 < 2147483648) ∧ (
    (0 ≤ l2 ∧ l2 < n39) ∧ (
    ∀ I42 : jx_I, I42 = jx_u I q37 l2.toNat (Int32.ofInt 0) → (
    J47 l1 (l2 + 1) I42))))))))))))
  )))
/-- GCModel.tellsNothing -/
def wz_200 (V : jx_V) (X : jx_X) (R : jx_R) (Q : Option Value → jx_I → Prop) (QE : String → jx_I → Prop) (J39 : Int → jx_I → Prop) (J47 : Int → Int → jx_I → Prop) (a0 : Nat) (I : jx_I) : Prop :=
  (X.2.1 a0 = some (12, 0)) ∧ (
  ∃ q2 : Nat, (
  (R a0 10 = some q2) ∧ (
  ∃ n4 : Nat, (
  (X.2.1 q2 = some (100, n4) ∧ n4 < 2147483648) ∧ (
  (0 ≤ (0 : Int) ∧ (0 : Int) < n4) ∧ (
  ∀ I7 : jx_I, I7 = jx_u I q2 (0 : Int).toNat (Int32.ofInt 0) → (
  (0 ≤ (1 : Int) ∧ (1 : Int) < n4) ∧ (
  ∀ I9 : jx_I, I9 = jx_u I7 q2 (1 : Int).toNat (Int32.ofInt 0) → (
  ∀ I10 : jx_I, I10 = jx_u I9 a0 24 (Int32.ofInt 1) → (
  ∃ q11 : Nat, (
  (R a0 27 = some q11) ∧ (
  ∃ n13 : Nat, (
  (X.2.1 q11 = some (104, n13) ∧ n13 < 2147483648) ∧ (
  (0 ≤ (0 : Int) ∧ (0 : Int) < n13) ∧ (
  ∃ q16 : Nat, (
  (R q11 (0 : Int).toNat = some q16) ∧ (
  ∃ n18 : Nat, (
  (X.2.1 q16 = some (100, n18) ∧ n18 < 2147483648) ∧ (
  (0 ≤ (0 : Int) ∧ (0 : Int) < n18) ∧ (
  ∀ I21 : jx_I, I21 = jx_u I10 q16 (0 : Int).toNat (Int32.ofInt 1) → (
  (0 ≤ (0 : Int) ∧ (0 : Int) < n13) ∧ (
  ∃ q23 : Nat, (
  (R q11 (0 : Int).toNat = some q23) ∧ (
  ∃ n25 : Nat, (
  (X.2.1 q23 = some (100, n25) ∧ n25 < 2147483648) ∧ (
  (0 ≤ (1 : Int) ∧ (1 : Int) < n25) ∧ (
  ∀ I28 : jx_I, I28 = jx_u I21 q23 (1 : Int).toNat (Int32.ofInt 0) → (
  J39 0 I28))))))))))))))))))))))))))))
set_option maxRecDepth 20000 in
theorem wm_200 {V : jx_V} (hV : V.1.stackTraces = false) {X : jx_X} {R : jx_R} {I : jx_I} {Q : Option Value → jx_I → Prop} {QE : String → jx_I → Prop} {a0 : Nat}  
    (h : ∀ (J39 : Int → jx_I → Prop) (J47 : Int → Int → jx_I → Prop), ((∀ (l1 : Int) I, wz_200_39 V X R Q QE J39 J47 a0 l1 I → J39 l1 I) ∧ (∀ (l1 : Int) (l2 : Int) I, wz_200_47 V X R Q QE J39 J47 a0 l1 l2 I → J47 l1 l2 I)) → wz_200 V X R Q QE J39 J47 a0 I) : jc V 1 200 (0, 0) [.ref a0] X I R Q QE := by
  refine jy_met hV (by decide) (n := 3) (rt := none) (hh := []) (ini := false) (C := jx_c200) (L := [some (.ref a0), none, none]) jt_200 (Nat.le_of_ble_eq_true rfl) rfl ?_
  intro J hS
  have h := h (fun l1 I => J 39 [] [some (.ref a0), some (jy l1), none] (0, 0) X I R) (fun l1 l2 I => J 47 [] [some (.ref a0), some (jy l1), some (jy l2)] (0, 0) X I R) ?_
  · unfold wz_200 at h
    refine jy_aload_n hS rfl rfl ?_
    obtain ⟨g1, h⟩ := h
    obtain ⟨q2, h⟩ := h
    obtain ⟨g3, h⟩ := h
    refine jy_getR hS rfl (by decide) g1 g3 ?_
    refine jy_iconst hS rfl ?_
    refine jy_iconst hS rfl ?_
    obtain ⟨n4, h⟩ := h
    obtain ⟨g5, h⟩ := h
    obtain ⟨g6, h⟩ := h
    refine jy_iast hS rfl g5.1 (Nat.le_of_lt g5.2) g6 ?_
    intro I7 e9
    have h := h I7 e9
    clear e9
    refine jy_aload_n hS rfl rfl ?_
    refine jy_getR hS rfl (by decide) g1 g3 ?_
    refine jy_iconst hS rfl ?_
    refine jy_iconst hS rfl ?_
    obtain ⟨g8, h⟩ := h
    refine jy_iast hS rfl g5.1 (Nat.le_of_lt g5.2) g8 ?_
    intro I9 e9
    have h := h I9 e9
    clear e9
    refine jy_aload_n hS rfl rfl ?_
    refine jy_iconst hS rfl ?_
    refine jy_putI hS rfl (by decide) g1 ?_
    intro I10 e9
    have h := h I10 e9
    clear e9
    refine jy_aload_n hS rfl rfl ?_
    obtain ⟨q11, h⟩ := h
    obtain ⟨g12, h⟩ := h
    refine jy_getR hS rfl (by decide) g1 g12 ?_
    refine jy_iconst hS rfl ?_
    obtain ⟨n13, h⟩ := h
    obtain ⟨g14, h⟩ := h
    obtain ⟨g15, h⟩ := h
    obtain ⟨q16, h⟩ := h
    obtain ⟨g17, h⟩ := h
    refine jy_aald hS rfl g14.1 (by decide) (Nat.le_of_lt g14.2) g15 g17 ?_
    refine jy_iconst hS rfl ?_
    refine jy_iconst hS rfl ?_
    obtain ⟨n18, h⟩ := h
    obtain ⟨g19, h⟩ := h
    obtain ⟨g20, h⟩ := h
    refine jy_iast hS rfl g19.1 (Nat.le_of_lt g19.2) g20 ?_
    intro I21 e9
    have h := h I21 e9
    clear e9
    refine jy_aload_n hS rfl rfl ?_
    refine jy_getR hS rfl (by decide) g1 g12 ?_
    refine jy_iconst hS rfl ?_
    obtain ⟨g22, h⟩ := h
    obtain ⟨q23, h⟩ := h
    obtain ⟨g24, h⟩ := h
    refine jy_aald hS rfl g14.1 (by decide) (Nat.le_of_lt g14.2) g22 g24 ?_
    refine jy_iconst hS rfl ?_
    refine jy_iconst hS rfl ?_
    obtain ⟨n25, h⟩ := h
    obtain ⟨g26, h⟩ := h
    obtain ⟨g27, h⟩ := h
    refine jy_iast hS rfl g26.1 (Nat.le_of_lt g26.2) g27 ?_
    intro I28 e9
    have h := h I28 e9
    clear e9
    refine jy_iconst hS rfl ?_
    refine jy_istore_n hS rfl (Nat.le_of_ble_eq_true rfl) (L' := [some (.ref a0), some (jy 0), none]) rfl ?_
    exact jy_join hS h rfl (jy_sub_s (jy_sub_s (jy_sub_n jy_sub_0)))
  refine ⟨?_, ?_⟩
  · intro l1 I h
    unfold wz_200_39 at h
    refine jy_iload_n hS rfl rfl ?_
    refine jy_bipush hS rfl (by decide) ?_
    obtain ⟨g29, h⟩ := h
    refine jy_icmp_ge hS rfl ⟨g29, ⟨by decide, by decide⟩⟩ (fun hq => ?_) (fun hq => ?_)
    · have h := h.1 hq
      exact jy_ret hS rfl rfl ⟨rfl, rfl, h⟩
    · have h := h.2 hq
      refine jy_iconst hS rfl ?_
      refine jy_istore_n hS rfl (Nat.le_of_ble_eq_true rfl) (L' := [some (.ref a0), some (jy l1), some (jy 0)]) rfl ?_
      exact jy_join hS h rfl (jy_sub_s (jy_sub_s (jy_sub_s jy_sub_0)))
  · intro l1 l2 I h
    unfold wz_200_47 at h
    refine jy_iload_n hS rfl rfl ?_
    refine jy_bipush hS rfl (by decide) ?_
    obtain ⟨g30, h⟩ := h
    refine jy_icmp_ge hS rfl ⟨g30, ⟨by decide, by decide⟩⟩ (fun hq => ?_) (fun hq => ?_)
    · have h := h.1 hq
      refine jy_iinc hS rfl rfl (L' := [some (.ref a0), some (jy (l1 + 1)), some (jy l2)]) rfl ?_
      refine jy_goto hS rfl ?_
      exact jy_join hS h rfl (jy_sub_s (jy_sub_s (jy_sub_n jy_sub_0)))
    · have h := h.2 hq
      refine jy_aload_n hS rfl rfl ?_
      obtain ⟨g31, h⟩ := h
      obtain ⟨q32, h⟩ := h
      obtain ⟨g33, h⟩ := h
      refine jy_getR hS rfl (by decide) g31 g33 ?_
      refine jy_iload_n hS rfl rfl ?_
      obtain ⟨n34, h⟩ := h
      obtain ⟨g35, h⟩ := h
      obtain ⟨g36, h⟩ := h
      obtain ⟨q37, h⟩ := h
      obtain ⟨g38, h⟩ := h
      refine jy_aald hS rfl g35.1 (by decide) (Nat.le_of_lt g35.2) g36 g38 ?_
      refine jy_iload_n hS rfl rfl ?_
      refine jy_iconst hS rfl ?_
      obtain ⟨n39, h⟩ := h
      obtain ⟨g40, h⟩ := h
      obtain ⟨g41, h⟩ := h
      refine jy_iast hS rfl g40.1 (Nat.le_of_lt g40.2) g41 ?_
      intro I42 e9
      have h := h I42 e9
      clear e9
      refine jy_iinc hS rfl rfl (L' := [some (.ref a0), some (jy l1), some (jy (l2 + 1))]) rfl ?_
      refine jy_goto hS rfl ?_
      exact jy_join hS h rfl (jy_sub_s (jy_sub_s (jy_sub_s jy_sub_0)))
theorem jt_201 : jx_ml 201 = 1 ∧ jx_rt 201 = some .int ∧ jx_hz 201 = [] ∧ decide ((jx_nm 201).name = "<init>") = false ∧ jx_code 201 = jx_c201 := by decide +kernel
/-- GCModel.thrown -/
def wz_201 (V : jx_V) (X : jx_X) (R : jx_R) (Q : Option Value → jx_I → Prop) (QE : String → jx_I → Prop)  (a0 : Nat) (I : jx_I) : Prop :=
  (X.2.1 a0 = some (12, 0)) ∧ (
  Q (some (jy ((I a0 0).toInt))) I)
set_option maxRecDepth 20000 in
theorem wm_201 {V : jx_V} (hV : V.1.stackTraces = false) {X : jx_X} {R : jx_R} {I : jx_I} {Q : Option Value → jx_I → Prop} {QE : String → jx_I → Prop} {a0 : Nat}  
    (h : wz_201 V X R Q QE  a0 I) : jc V 1 201 (0, 0) [.ref a0] X I R Q QE := by
  refine jy_met hV (by decide) (n := 1) (rt := some .int) (hh := []) (ini := false) (C := jx_c201) (L := [some (.ref a0)]) jt_201 (Nat.le_of_ble_eq_true rfl) rfl ?_
  intro J hS
  unfold wz_201 at h
  refine jy_aload_n hS rfl rfl ?_
  obtain ⟨g1, h⟩ := h
  refine jy_getI hS rfl (by decide) g1 ?_
  exact jy_iret hS rfl rfl ⟨rfl, rfl, h⟩
theorem jt_202 : jx_ml 202 = 4 ∧ jx_rt 202 = some .boolean ∧ jx_hz 202 = [] ∧ decide ((jx_nm 202).name = "<init>") = false ∧ jx_code 202 = jx_c202 := by decide +kernel
/-- GCModel.bad, from 26 -/
def wz_202_26 (V : jx_V) (X : jx_X) (R : jx_R) (Q : Option Value → jx_I → Prop) (QE : String → jx_I → Prop) (J26 : jx_I → Prop) (a0 : Nat) (a1 : Int) (a2 : Int) (a3 : Int)  (I : jx_I) : Prop :=
  (X.2.1 a0 = some (12, 0)) ∧ (
  ((I a0 0).toInt = 0 → (
    Q (some (jy 0)) I
  )) ∧ (¬ (I a0 0).toInt = 0 → (
    Q (some (jy 1)) I
  )))
/-- GCModel.bad -/
def wz_202 (V : jx_V) (X : jx_X) (R : jx_R) (Q : Option Value → jx_I → Prop) (QE : String → jx_I → Prop) (J26 : jx_I → Prop) (a0 : Nat) (a1 : Int) (a2 : Int) (a3 : Int) (I : jx_I) : Prop :=
  (a1 = 0 → (
    (X.2.1 a0 = some (12, 0)) ∧ (
    ((I a0 0).toInt = 0 → (
      Q (some (jy 0)) I
    )) ∧ (¬ (I a0 0).toInt = 0 → (
      Q (some (jy 1)) I
    )))
  )) ∧ (¬ a1 = 0 → (
    (X.2.1 a0 = some (12, 0)) ∧ (
    ((I a0 0).toInt ≠ 0 → (
      ((I a0 0).toInt = 0 → (
        Q (some (jy 0)) I
      )) ∧ (¬ (I a0 0).toInt = 0 → (
        Q (some (jy 1)) I
      ))
    )) ∧ ((I a0 0).toInt = 0 → (
      ∀ I3 : jx_I, I3 = jx_u I a0 0 (Int32.ofInt a2) → (
      ∃ q4 : Nat, (
      (R a0 9 = some q4) ∧ (
      ∃ n6 : Nat, (
      (X.2.1 q4 = some (100, n6) ∧ n6 < 2147483648) ∧ (
      (0 ≤ a3 ∧ a3 < n6) ∧ (
      (0 ≤ a3 ∧ a3 < n6) ∧ (
      ∀ I10 : jx_I, I10 = jx_u I3 q4 a3.toNat (Int32.ofInt ((I3 q4 a3.toNat).toInt + 1)) → (
      J26 I10))))))))
    )))
  ))
set_option maxRecDepth 20000 in
theorem wm_202 {V : jx_V} (hV : V.1.stackTraces = false) {X : jx_X} {R : jx_R} {I : jx_I} {Q : Option Value → jx_I → Prop} {QE : String → jx_I → Prop} {a0 : Nat} {a1 : Int} {a2 : Int} {a3 : Int} (r_a1 : -2147483648 ≤ a1 ∧ a1 < 2147483648) (r_a2 : -2147483648 ≤ a2 ∧ a2 < 2147483648) (r_a3 : -2147483648 ≤ a3 ∧ a3 < 2147483648) 
    (h : ∀ (J26 : jx_I → Prop), ((∀  I, wz_202_26 V X R Q QE J26 a0 a1 a2 a3  I → J26  I)) → wz_202 V X R Q QE J26 a0 a1 a2 a3 I) : jc V 1 202 (0, 0) [.ref a0, jy a1, jy a2, jy a3] X I R Q QE := by
  refine jy_met hV (by decide) (n := 4) (rt := some .boolean) (hh := []) (ini := false) (C := jx_c202) (L := [some (.ref a0), some (jy a1), some (jy a2), some (jy a3)]) jt_202 (Nat.le_of_ble_eq_true rfl) rfl ?_
  intro J hS
  have h := h (fun  I => J 26 [] [some (.ref a0), none, none, none] (0, 0) X I R) ?_
  · unfold wz_202 at h
    refine jy_iload_n hS rfl rfl ?_
    refine jy_if_eq hS rfl r_a1 (fun hq => ?_) (fun hq => ?_)
    · have h := h.1 hq
      refine jy_aload_n hS rfl rfl ?_
      obtain ⟨g1, h⟩ := h
      refine jy_getI hS rfl (by decide) g1 ?_
      refine jy_if_eq hS rfl (jy_rng _) (fun hq => ?_) (fun hq => ?_)
      · have h := h.1 hq
        refine jy_iconst hS rfl ?_
        exact jy_iret hS rfl rfl ⟨rfl, rfl, h⟩
      · have h := h.2 hq
        refine jy_iconst hS rfl ?_
        refine jy_goto hS rfl ?_
        exact jy_iret hS rfl rfl ⟨rfl, rfl, h⟩
    · have h := h.2 hq
      refine jy_aload_n hS rfl rfl ?_
      obtain ⟨g2, h⟩ := h
      refine jy_getI hS rfl (by decide) g2 ?_
      refine jy_if_ne hS rfl (jy_rng _) (fun hq => ?_) (fun hq => ?_)
      · have h := h.1 hq
        refine jy_aload_n hS rfl rfl ?_
        refine jy_getI hS rfl (by decide) g2 ?_
        refine jy_if_eq hS rfl (jy_rng _) (fun hq => ?_) (fun hq => ?_)
        · have h := h.1 hq
          refine jy_iconst hS rfl ?_
          exact jy_iret hS rfl rfl ⟨rfl, rfl, h⟩
        · have h := h.2 hq
          refine jy_iconst hS rfl ?_
          refine jy_goto hS rfl ?_
          exact jy_iret hS rfl rfl ⟨rfl, rfl, h⟩
      · have h := h.2 hq
        refine jy_aload_n hS rfl rfl ?_
        refine jy_iload_n hS rfl rfl ?_
        refine jy_putI hS rfl (by decide) g2 ?_
        intro I3 e9
        have h := h I3 e9
        clear e9
        refine jy_aload_n hS rfl rfl ?_
        obtain ⟨q4, h⟩ := h
        obtain ⟨g5, h⟩ := h
        refine jy_getR hS rfl (by decide) g2 g5 ?_
        refine jy_iload_n hS rfl rfl ?_
        refine jy_dup2 hS rfl rfl rfl ?_
        obtain ⟨n6, h⟩ := h
        obtain ⟨g7, h⟩ := h
        obtain ⟨g8, h⟩ := h
        refine jy_iald hS rfl g7.1 (Nat.le_of_lt g7.2) g8 ?_
        refine jy_iconst hS rfl ?_
        refine jy_iadd hS rfl ?_
        obtain ⟨g9, h⟩ := h
        refine jy_iast hS rfl g7.1 (Nat.le_of_lt g7.2) g9 ?_
        intro I10 e9
        have h := h I10 e9
        clear e9
        exact jy_join hS h rfl (jy_sub_s (jy_sub_n (jy_sub_n (jy_sub_n jy_sub_0))))
  · intro  I h
    unfold wz_202_26 at h
    refine jy_aload_n hS rfl rfl ?_
    obtain ⟨g11, h⟩ := h
    refine jy_getI hS rfl (by decide) g11 ?_
    refine jy_if_eq hS rfl (jy_rng _) (fun hq => ?_) (fun hq => ?_)
    · have h := h.1 hq
      refine jy_iconst hS rfl ?_
      exact jy_iret hS rfl rfl ⟨rfl, rfl, h⟩
    · have h := h.2 hq
      refine jy_iconst hS rfl ?_
      refine jy_goto hS rfl ?_
      exact jy_iret hS rfl rfl ⟨rfl, rfl, h⟩
theorem jt_203 : jx_ml 203 = 3 ∧ jx_rt 203 = some .boolean ∧ jx_hz 203 = [] ∧ decide ((jx_nm 203).name = "<init>") = false ∧ jx_code 203 = jx_c203 := by decide +kernel
/-- GCModel.in -/
def wz_203 (V : jx_V) (X : jx_X) (R : jx_R) (Q : Option Value → jx_I → Prop) (QE : String → jx_I → Prop)  (a0 : Int) (a1 : Int) (a2 : Int) (I : jx_I) : Prop :=
  (a0 < a1 → (
    Q (some (jy 0)) I
  )) ∧ (¬ a0 < a1 → (
    (a2 < a0 → (
      Q (some (jy 0)) I
    )) ∧ (¬ a2 < a0 → (
      Q (some (jy 1)) I
    ))
  ))
set_option maxRecDepth 20000 in
theorem wm_203 {V : jx_V} (hV : V.1.stackTraces = false) {X : jx_X} {R : jx_R} {I : jx_I} {Q : Option Value → jx_I → Prop} {QE : String → jx_I → Prop} {a0 : Int} {a1 : Int} {a2 : Int} (r_a0 : -2147483648 ≤ a0 ∧ a0 < 2147483648) (r_a1 : -2147483648 ≤ a1 ∧ a1 < 2147483648) (r_a2 : -2147483648 ≤ a2 ∧ a2 < 2147483648) 
    (h : wz_203 V X R Q QE  a0 a1 a2 I) : jc V 1 203 (0, 0) [jy a0, jy a1, jy a2] X I R Q QE := by
  refine jy_met hV (by decide) (n := 3) (rt := some .boolean) (hh := []) (ini := false) (C := jx_c203) (L := [some (jy a0), some (jy a1), some (jy a2)]) jt_203 (Nat.le_of_ble_eq_true rfl) rfl ?_
  intro J hS
  unfold wz_203 at h
  refine jy_iload_n hS rfl rfl ?_
  refine jy_iload_n hS rfl rfl ?_
  refine jy_icmp_lt hS rfl ⟨r_a0, r_a1⟩ (fun hq => ?_) (fun hq => ?_)
  · have h := h.1 hq
    refine jy_iconst hS rfl ?_
    exact jy_iret hS rfl rfl ⟨rfl, rfl, h⟩
  · have h := h.2 hq
    refine jy_iload_n hS rfl rfl ?_
    refine jy_iload_n hS rfl rfl ?_
    refine jy_icmp_gt hS rfl ⟨r_a0, r_a2⟩ (fun hq => ?_) (fun hq => ?_)
    · have h := h.1 hq
      refine jy_iconst hS rfl ?_
      exact jy_iret hS rfl rfl ⟨rfl, rfl, h⟩
    · have h := h.2 hq
      refine jy_iconst hS rfl ?_
      refine jy_goto hS rfl ?_
      exact jy_iret hS rfl rfl ⟨rfl, rfl, h⟩
theorem jt_204 : jx_ml 204 = 2 ∧ jx_rt 204 = some .int ∧ jx_hz 204 = [] ∧ decide ((jx_nm 204).name = "<init>") = false ∧ jx_code 204 = jx_c204 := by decide +kernel
/-- GCModel.less -/
def wz_204 (V : jx_V) (X : jx_X) (R : jx_R) (Q : Option Value → jx_I → Prop) (QE : String → jx_I → Prop)  (a0 : Int) (a1 : Int) (I : jx_I) : Prop :=
  (a1 ≤ a0 → (
    Q (some (jy a1)) I
  )) ∧ (¬ a1 ≤ a0 → (
    Q (some (jy a0)) I
  ))
set_option maxRecDepth 20000 in
theorem wm_204 {V : jx_V} (hV : V.1.stackTraces = false) {X : jx_X} {R : jx_R} {I : jx_I} {Q : Option Value → jx_I → Prop} {QE : String → jx_I → Prop} {a0 : Int} {a1 : Int} (r_a0 : -2147483648 ≤ a0 ∧ a0 < 2147483648) (r_a1 : -2147483648 ≤ a1 ∧ a1 < 2147483648) 
    (h : wz_204 V X R Q QE  a0 a1 I) : jc V 1 204 (0, 0) [jy a0, jy a1] X I R Q QE := by
  refine jy_met hV (by decide) (n := 2) (rt := some .int) (hh := []) (ini := false) (C := jx_c204) (L := [some (jy a0), some (jy a1)]) jt_204 (Nat.le_of_ble_eq_true rfl) rfl ?_
  intro J hS
  unfold wz_204 at h
  refine jy_iload_n hS rfl rfl ?_
  refine jy_iload_n hS rfl rfl ?_
  refine jy_icmp_ge hS rfl ⟨r_a0, r_a1⟩ (fun hq => ?_) (fun hq => ?_)
  · have h := h.1 hq
    refine jy_iload_n hS rfl rfl ?_
    exact jy_iret hS rfl rfl ⟨rfl, rfl, h⟩
  · have h := h.2 hq
    refine jy_iload_n hS rfl rfl ?_
    refine jy_goto hS rfl ?_
    exact jy_iret hS rfl rfl ⟨rfl, rfl, h⟩
theorem jt_205 : jx_ml 205 = 8 ∧ jx_rt 205 = some .int ∧ jx_hz 205 = [] ∧ decide ((jx_nm 205).name = "<init>") = false ∧ jx_code 205 = jx_c205 := by decide +kernel
/-- GCModel.feed, from 23 -/
def wz_205_23 (V : jx_V) (X : jx_X) (R : jx_R) (Q : Option Value → jx_I → Prop) (QE : String → jx_I → Prop) (J23 : Int → jx_I → Prop) (J76 : Int → Int → jx_I → Prop) (a0 : Nat) (a1 : Int) (a2 : Int) (a3 : Int) (a4 : Int) (a5 : Int) (l6 : Int) (I : jx_I) : Prop :=
  (-2147483648 ≤ l6 ∧ l6 < 2147483648) ∧ (
  (20 ≤ l6 → (
    (X.2.1 a0 = some (12, 0)) ∧ (
    Q (some (jy ((I a0 1).toInt))) I)
  )) ∧ (¬ 20 ≤ l6 → (
    (4 ≤ l6 → (
      (8 ≤ l6 → (
        (12 ≤ l6 → (
          (16 ≤ l6 → (
            J76 a5 l6 I
          )) ∧ (¬ 16 ≤ l6 → (
            J76 a4 l6 I
          ))
        )) ∧ (¬ 12 ≤ l6 → (
          J76 a3 l6 I
        ))
      )) ∧ (¬ 8 ≤ l6 → (
        J76 a2 l6 I
      ))
    )) ∧ (¬ 4 ≤ l6 → (
      J76 a1 l6 I
    ))
  )))
/-- GCModel.feed, from 76 -/
def wz_205_76 (V : jx_V) (X : jx_X) (R : jx_R) (Q : Option Value → jx_I → Prop) (QE : String → jx_I → Prop) (J23 : Int → jx_I → Prop) (J76 : Int → Int → jx_I → Prop) (a0 : Nat) (a1 : Int) (a2 : Int) (a3 : Int) (a4 : Int) (a5 : Int) (s0 : Int) (l6 : Int) (I : jx_I) : Prop :=
  (X.2.1 a0 = some (12, 0)) ∧ (
  ∃ q7 : Nat, (
  (R a0 8 = some q7) ∧ (
  ∃ n9 : Nat, (
  (X.2.1 q7 = some (100, n9) ∧ n9 < 2147483648) ∧ (
  (0 ≤ (I a0 1).toInt ∧ (I a0 1).toInt < n9) ∧ (
  ∀ I12 : jx_I, I12 = jx_u I q7 ((I a0 1).toInt).toNat (Int32.ofInt ((Int32.ofInt ((Int32.ofInt s0 >>> (Int32.ofInt (24 - (8 * (Int32.ofInt l6 - Int32.ofInt l6 / Int32.ofInt 4 * Int32.ofInt 4).toInt)) &&& 31)).toInt) &&& Int32.ofInt 255).toInt)) → (
  ∀ I13 : jx_I, I13 = jx_u I12 a0 1 (Int32.ofInt ((I12 a0 1).toInt + 1)) → (
  J23 (l6 + 1) I13))))))))
/-- GCModel.feed -/
def wz_205 (V : jx_V) (X : jx_X) (R : jx_R) (Q : Option Value → jx_I → Prop) (QE : String → jx_I → Prop) (J23 : Int → jx_I → Prop) (J76 : Int → Int → jx_I → Prop) (a0 : Nat) (a1 : Int) (a2 : Int) (a3 : Int) (a4 : Int) (a5 : Int) (I : jx_I) : Prop :=
  (X.2.1 a0 = some (12, 0)) ∧ (
  ∀ I2 : jx_I, I2 = jx_u I a0 0 (Int32.ofInt 0) → (
  (-2147483648 ≤ ((I2 a0 1).toInt + 20) ∧ ((I2 a0 1).toInt + 20) < 2147483648) ∧ (
  (((I2 a0 1).toInt + 20) ≤ 600 → (
    J23 0 I2
  )) ∧ (¬ ((I2 a0 1).toInt + 20) ≤ 600 → (
    Q (some (jy (-1))) I2
  )))))
set_option maxRecDepth 20000 in
theorem wm_205 {V : jx_V} (hV : V.1.stackTraces = false) {X : jx_X} {R : jx_R} {I : jx_I} {Q : Option Value → jx_I → Prop} {QE : String → jx_I → Prop} {a0 : Nat} {a1 : Int} {a2 : Int} {a3 : Int} {a4 : Int} {a5 : Int} (r_a1 : -2147483648 ≤ a1 ∧ a1 < 2147483648) (r_a2 : -2147483648 ≤ a2 ∧ a2 < 2147483648) (r_a3 : -2147483648 ≤ a3 ∧ a3 < 2147483648) (r_a4 : -2147483648 ≤ a4 ∧ a4 < 2147483648) (r_a5 : -2147483648 ≤ a5 ∧ a5 < 2147483648) 
    (h : ∀ (J23 : Int → jx_I → Prop) (J76 : Int → Int → jx_I → Prop), ((∀ (l6 : Int) I, wz_205_23 V X R Q QE J23 J76 a0 a1 a2 a3 a4 a5 l6 I → J23 l6 I) ∧ (∀ (s0 : Int) (l6 : Int) I, wz_205_76 V X R Q QE J23 J76 a0 a1 a2 a3 a4 a5 s0 l6 I → J76 s0 l6 I)) → wz_205 V X R Q QE J23 J76 a0 a1 a2 a3 a4 a5 I) : jc V 1 205 (0, 0) [.ref a0, jy a1, jy a2, jy a3, jy a4, jy a5] X I R Q QE := by
  refine jy_met hV (by decide) (n := 8) (rt := some .int) (hh := []) (ini := false) (C := jx_c205) (L := [some (.ref a0), some (jy a1), some (jy a2), some (jy a3), some (jy a4), some (jy a5), none, none]) jt_205 (Nat.le_of_ble_eq_true rfl) rfl ?_
  intro J hS
  have h := h (fun l6 I => J 23 [] [some (.ref a0), some (jy a1), some (jy a2), some (jy a3), some (jy a4), some (jy a5), some (jy l6), none] (0, 0) X I R) (fun s0 l6 I => J 76 [jy s0] [some (.ref a0), some (jy a1), some (jy a2), some (jy a3), some (jy a4), some (jy a5), some (jy l6), none] (0, 0) X I R) ?_
  · unfold wz_205 at h
    refine jy_aload_n hS rfl rfl ?_
    refine jy_iconst hS rfl ?_
    obtain ⟨g1, h⟩ := h
    refine jy_putI hS rfl (by decide) g1 ?_
    intro I2 e9
    have h := h I2 e9
    clear e9
    refine jy_aload_n hS rfl rfl ?_
    refine jy_getI hS rfl (by decide) g1 ?_
    refine jy_bipush hS rfl (by decide) ?_
    refine jy_iadd hS rfl ?_
    refine jy_sipush hS rfl (by decide) ?_
    obtain ⟨g3, h⟩ := h
    refine jy_icmp_le hS rfl ⟨g3, ⟨by decide, by decide⟩⟩ (fun hq => ?_) (fun hq => ?_)
    · have h := h.1 hq
      refine jy_iconst hS rfl ?_
      refine jy_istore hS rfl (Nat.le_of_ble_eq_true rfl) (L' := [some (.ref a0), some (jy a1), some (jy a2), some (jy a3), some (jy a4), some (jy a5), some (jy 0), none]) rfl ?_
      exact jy_join hS h rfl (jy_sub_s (jy_sub_s (jy_sub_s (jy_sub_s (jy_sub_s (jy_sub_s (jy_sub_s (jy_sub_n jy_sub_0))))))))
    · have h := h.2 hq
      refine jy_iconst hS rfl ?_
      exact jy_iret hS rfl rfl ⟨rfl, rfl, h⟩
  refine ⟨?_, ?_⟩
  · intro l6 I h
    unfold wz_205_23 at h
    refine jy_iload hS rfl rfl ?_
    refine jy_bipush hS rfl (by decide) ?_
    obtain ⟨g4, h⟩ := h
    refine jy_icmp_ge hS rfl ⟨g4, ⟨by decide, by decide⟩⟩ (fun hq => ?_) (fun hq => ?_)
    · have h := h.1 hq
      refine jy_aload_n hS rfl rfl ?_
      obtain ⟨g5, h⟩ := h
      refine jy_getI hS rfl (by decide) g5 ?_
      exact jy_iret hS rfl rfl ⟨rfl, rfl, h⟩
    · have h := h.2 hq
      refine jy_iload hS rfl rfl ?_
      refine jy_iconst hS rfl ?_
      refine jy_icmp_ge hS rfl ⟨g4, ⟨by decide, by decide⟩⟩ (fun hq => ?_) (fun hq => ?_)
      · have h := h.1 hq
        refine jy_iload hS rfl rfl ?_
        refine jy_bipush hS rfl (by decide) ?_
        refine jy_icmp_ge hS rfl ⟨g4, ⟨by decide, by decide⟩⟩ (fun hq => ?_) (fun hq => ?_)
        · have h := h.1 hq
          refine jy_iload hS rfl rfl ?_
          refine jy_bipush hS rfl (by decide) ?_
          refine jy_icmp_ge hS rfl ⟨g4, ⟨by decide, by decide⟩⟩ (fun hq => ?_) (fun hq => ?_)
          · have h := h.1 hq
            refine jy_iload hS rfl rfl ?_
            refine jy_bipush hS rfl (by decide) ?_
            refine jy_icmp_ge hS rfl ⟨g4, ⟨by decide, by decide⟩⟩ (fun hq => ?_) (fun hq => ?_)
            · have h := h.1 hq
              refine jy_iload hS rfl rfl ?_
              exact jy_join hS h rfl (jy_sub_s (jy_sub_s (jy_sub_s (jy_sub_s (jy_sub_s (jy_sub_s (jy_sub_s (jy_sub_n jy_sub_0))))))))
            · have h := h.2 hq
              refine jy_iload hS rfl rfl ?_
              refine jy_goto hS rfl ?_
              exact jy_join hS h rfl (jy_sub_s (jy_sub_s (jy_sub_s (jy_sub_s (jy_sub_s (jy_sub_s (jy_sub_s (jy_sub_n jy_sub_0))))))))
          · have h := h.2 hq
            refine jy_iload_n hS rfl rfl ?_
            refine jy_goto hS rfl ?_
            exact jy_join hS h rfl (jy_sub_s (jy_sub_s (jy_sub_s (jy_sub_s (jy_sub_s (jy_sub_s (jy_sub_s (jy_sub_n jy_sub_0))))))))
        · have h := h.2 hq
          refine jy_iload_n hS rfl rfl ?_
          refine jy_goto hS rfl ?_
          exact jy_join hS h rfl (jy_sub_s (jy_sub_s (jy_sub_s (jy_sub_s (jy_sub_s (jy_sub_s (jy_sub_s (jy_sub_n jy_sub_0))))))))
      · have h := h.2 hq
        refine jy_iload_n hS rfl rfl ?_
        refine jy_goto hS rfl ?_
        exact jy_join hS h rfl (jy_sub_s (jy_sub_s (jy_sub_s (jy_sub_s (jy_sub_s (jy_sub_s (jy_sub_s (jy_sub_n jy_sub_0))))))))
  · intro s0 l6 I h
    unfold wz_205_76 at h
    refine jy_istore hS rfl (Nat.le_of_ble_eq_true rfl) (L' := [some (.ref a0), some (jy a1), some (jy a2), some (jy a3), some (jy a4), some (jy a5), some (jy l6), some (jy s0)]) rfl ?_
    refine jy_aload_n hS rfl rfl ?_
    obtain ⟨g6, h⟩ := h
    obtain ⟨q7, h⟩ := h
    obtain ⟨g8, h⟩ := h
    refine jy_getR hS rfl (by decide) g6 g8 ?_
    refine jy_aload_n hS rfl rfl ?_
    refine jy_getI hS rfl (by decide) g6 ?_
    refine jy_iload hS rfl rfl ?_
    refine jy_bipush hS rfl (by decide) ?_
    refine jy_bipush hS rfl (by decide) ?_
    refine jy_iload hS rfl rfl ?_
    refine jy_iconst hS rfl ?_
    refine jy_iremX hS rfl ⟨⟨by decide, by decide⟩, by decide⟩ rfl ?_
    refine jy_imul hS rfl ?_
    refine jy_isub hS rfl ?_
    refine jy_ishrX hS rfl rfl ?_
    refine jy_sipush hS rfl (by decide) ?_
    refine jy_iandX hS rfl rfl ?_
    obtain ⟨n9, h⟩ := h
    obtain ⟨g10, h⟩ := h
    obtain ⟨g11, h⟩ := h
    refine jy_iast hS rfl g10.1 (Nat.le_of_lt g10.2) g11 ?_
    intro I12 e9
    have h := h I12 e9
    clear e9
    refine jy_aload_n hS rfl rfl ?_
    refine jy_dup hS rfl rfl ?_
    refine jy_getI hS rfl (by decide) g6 ?_
    refine jy_iconst hS rfl ?_
    refine jy_iadd hS rfl ?_
    refine jy_putI hS rfl (by decide) g6 ?_
    intro I13 e9
    have h := h I13 e9
    clear e9
    refine jy_iinc hS rfl rfl (L' := [some (.ref a0), some (jy a1), some (jy a2), some (jy a3), some (jy a4), some (jy a5), some (jy (l6 + 1)), some (jy s0)]) rfl ?_
    refine jy_goto hS rfl ?_
    exact jy_join hS h rfl (jy_sub_s (jy_sub_s (jy_sub_s (jy_sub_s (jy_sub_s (jy_sub_s (jy_sub_s (jy_sub_n jy_sub_0))))))))
theorem jt_206 : jx_ml 206 = 2 ∧ jx_rt 206 = some .int ∧ jx_hz 206 = [] ∧ decide ((jx_nm 206).name = "<init>") = false ∧ jx_code 206 = jx_c206 := by decide +kernel
/-- GCModel.byteAt -/
def wz_206 (V : jx_V) (X : jx_X) (R : jx_R) (Q : Option Value → jx_I → Prop) (QE : String → jx_I → Prop)  (a0 : Nat) (a1 : Int) (I : jx_I) : Prop :=
  (X.2.1 a0 = some (12, 0)) ∧ (
  (a1 < (I a0 2).toInt → (
    ∃ q2 : Nat, (
    (R a0 8 = some q2) ∧ (
    ∃ n4 : Nat, (
    (X.2.1 q2 = some (100, n4) ∧ n4 < 2147483648) ∧ (
    (0 ≤ a1 ∧ a1 < n4) ∧ (
    Q (some (jy ((I q2 a1.toNat).toInt))) I)))))
  )) ∧ (¬ a1 < (I a0 2).toInt → (
    Q (some (jy (-1))) I
  )))
set_option maxRecDepth 20000 in
theorem wm_206 {V : jx_V} (hV : V.1.stackTraces = false) {X : jx_X} {R : jx_R} {I : jx_I} {Q : Option Value → jx_I → Prop} {QE : String → jx_I → Prop} {a0 : Nat} {a1 : Int} (r_a1 : -2147483648 ≤ a1 ∧ a1 < 2147483648) 
    (h : wz_206 V X R Q QE  a0 a1 I) : jc V 1 206 (0, 0) [.ref a0, jy a1] X I R Q QE := by
  refine jy_met hV (by decide) (n := 2) (rt := some .int) (hh := []) (ini := false) (C := jx_c206) (L := [some (.ref a0), some (jy a1)]) jt_206 (Nat.le_of_ble_eq_true rfl) rfl ?_
  intro J hS
  unfold wz_206 at h
  refine jy_iload_n hS rfl rfl ?_
  refine jy_aload_n hS rfl rfl ?_
  obtain ⟨g1, h⟩ := h
  refine jy_getI hS rfl (by decide) g1 ?_
  refine jy_icmp_lt hS rfl ⟨r_a1, (jy_rng _)⟩ (fun hq => ?_) (fun hq => ?_)
  · have h := h.1 hq
    refine jy_aload_n hS rfl rfl ?_
    obtain ⟨q2, h⟩ := h
    obtain ⟨g3, h⟩ := h
    refine jy_getR hS rfl (by decide) g1 g3 ?_
    refine jy_iload_n hS rfl rfl ?_
    obtain ⟨n4, h⟩ := h
    obtain ⟨g5, h⟩ := h
    obtain ⟨g6, h⟩ := h
    refine jy_iald hS rfl g5.1 (Nat.le_of_lt g5.2) g6 ?_
    exact jy_iret hS rfl rfl ⟨rfl, rfl, h⟩
  · have h := h.2 hq
    refine jy_iconst hS rfl ?_
    refine jy_goto hS rfl ?_
    exact jy_iret hS rfl rfl ⟨rfl, rfl, h⟩
theorem jt_207 : jx_ml 207 = 1 ∧ jx_rt 207 = none ∧ jx_hz 207 = [] ∧ decide ((jx_nm 207).name = "<init>") = false ∧ jx_code 207 = jx_c207 := by decide +kernel
/-- GCModel.blanks, from 0 -/
def wz_207_0 (V : jx_V) (X : jx_X) (R : jx_R) (Q : Option Value → jx_I → Prop) (QE : String → jx_I → Prop) (J0 : jx_I → Prop) (a0 : Nat)  (I : jx_I) : Prop :=
  (X.2.1 a0 = some (12, 0)) ∧ (
  ∃ Q2 : Option Value → jx_I → Prop, (
  (jc V 1 206 (0, 0) [.ref a0, jy ((I a0 4).toInt)] X I R Q2 (fun _ _ => False)) ∧ (
  ∀ rv I4, Q2 rv I4 → ∃ r5 : Int, rv = some (jy r5) ∧ (
  (-2147483648 ≤ r5 ∧ r5 < 2147483648) ∧ (
  (r5 ≠ 32 → (
    Q none I4
  )) ∧ (r5 = 32 → (
    ∀ I7 : jx_I, I7 = jx_u I4 a0 4 (Int32.ofInt ((I4 a0 4).toInt + 1)) → (
    J0 I7)
  )))))))
/-- GCModel.blanks -/
def wz_207 (V : jx_V) (X : jx_X) (R : jx_R) (Q : Option Value → jx_I → Prop) (QE : String → jx_I → Prop) (J0 : jx_I → Prop) (a0 : Nat) (I : jx_I) : Prop :=
  J0 I
set_option maxRecDepth 20000 in
theorem wm_207 {V : jx_V} (hV : V.1.stackTraces = false) {X : jx_X} {R : jx_R} {I : jx_I} {Q : Option Value → jx_I → Prop} {QE : String → jx_I → Prop} {a0 : Nat}  
    (h : ∀ (J0 : jx_I → Prop), ((∀  I, wz_207_0 V X R Q QE J0 a0  I → J0  I)) → wz_207 V X R Q QE J0 a0 I) : jc V 2 207 (0, 0) [.ref a0] X I R Q QE := by
  refine jy_met hV (by decide) (n := 1) (rt := none) (hh := []) (ini := false) (C := jx_c207) (L := [some (.ref a0)]) jt_207 (Nat.le_of_ble_eq_true rfl) rfl ?_
  intro J hS
  have h := h (fun  I => J 0 [] [some (.ref a0)] (0, 0) X I R) ?_
  · unfold wz_207 at h
    exact jy_join hS h rfl (jy_sub_s jy_sub_0)
  · intro  I h
    unfold wz_207_0 at h
    refine jy_aload_n hS rfl rfl ?_
    refine jy_aload_n hS rfl rfl ?_
    obtain ⟨g1, h⟩ := h
    refine jy_getI hS rfl (by decide) g1 ?_
    obtain ⟨Q2, h⟩ := h
    obtain ⟨g3, h⟩ := h
    refine jy_callV hS rfl rfl rfl (Nat.le_of_ble_eq_true rfl) (Or.inl g1) g3 (by decide) ⟨by decide, by decide⟩ (Nat.le_of_ble_eq_true rfl) ?_ ?_
    rotate_left
    · exact fun Ex Xx Ix Rx hp => hp.2.2.2.elim
    intro rv Xx I4 Rx hp
    obtain ⟨e1, e2, hp⟩ := hp
    rw [e1, e2]
    clear e1 e2
    obtain ⟨r5, e1, h⟩ := h rv I4 hp
    rw [e1]
    clear e1
    change J 8 [jy r5] _ (0, 0) _ _ _
    refine jy_bipush hS rfl (by decide) ?_
    obtain ⟨g6, h⟩ := h
    refine jy_icmp_ne hS rfl ⟨g6, ⟨by decide, by decide⟩⟩ (fun hq => ?_) (fun hq => ?_)
    · have h := h.1 hq
      exact jy_ret hS rfl rfl ⟨rfl, rfl, h⟩
    · have h := h.2 hq
      refine jy_aload_n hS rfl rfl ?_
      refine jy_dup hS rfl rfl ?_
      refine jy_getI hS rfl (by decide) g1 ?_
      refine jy_iconst hS rfl ?_
      refine jy_iadd hS rfl ?_
      refine jy_putI hS rfl (by decide) g1 ?_
      intro I7 e9
      have h := h I7 e9
      clear e9
      refine jy_goto hS rfl ?_
      exact jy_join hS h rfl (jy_sub_s jy_sub_0)
theorem jt_208 : jx_ml 208 = 3 ∧ jx_rt 208 = none ∧ jx_hz 208 = [] ∧ decide ((jx_nm 208).name = "<init>") = false ∧ jx_code 208 = jx_c208 := by decide +kernel
/-- GCModel.wrong -/
def wz_208 (V : jx_V) (X : jx_X) (R : jx_R) (Q : Option Value → jx_I → Prop) (QE : String → jx_I → Prop)  (a0 : Nat) (a1 : Int) (a2 : Int) (I : jx_I) : Prop :=
  (X.2.1 a0 = some (12, 0)) ∧ (
  ((I a0 5).toInt ≠ 0 → (
    Q none I
  )) ∧ ((I a0 5).toInt = 0 → (
    ∀ I2 : jx_I, I2 = jx_u I a0 5 (Int32.ofInt a1) → (
    ∀ I3 : jx_I, I3 = jx_u I2 a0 6 (Int32.ofInt a2) → (
    Q none I3))
  )))
set_option maxRecDepth 20000 in
theorem wm_208 {V : jx_V} (hV : V.1.stackTraces = false) {X : jx_X} {R : jx_R} {I : jx_I} {Q : Option Value → jx_I → Prop} {QE : String → jx_I → Prop} {a0 : Nat} {a1 : Int} {a2 : Int} (r_a1 : -2147483648 ≤ a1 ∧ a1 < 2147483648) (r_a2 : -2147483648 ≤ a2 ∧ a2 < 2147483648) 
    (h : wz_208 V X R Q QE  a0 a1 a2 I) : jc V 1 208 (0, 0) [.ref a0, jy a1, jy a2] X I R Q QE := by
  refine jy_met hV (by decide) (n := 3) (rt := none) (hh := []) (ini := false) (C := jx_c208) (L := [some (.ref a0), some (jy a1), some (jy a2)]) jt_208 (Nat.le_of_ble_eq_true rfl) rfl ?_
  intro J hS
  unfold wz_208 at h
  refine jy_aload_n hS rfl rfl ?_
  obtain ⟨g1, h⟩ := h
  refine jy_getI hS rfl (by decide) g1 ?_
  refine jy_if_ne hS rfl (jy_rng _) (fun hq => ?_) (fun hq => ?_)
  · have h := h.1 hq
    exact jy_ret hS rfl rfl ⟨rfl, rfl, h⟩
  · have h := h.2 hq
    refine jy_aload_n hS rfl rfl ?_
    refine jy_iload_n hS rfl rfl ?_
    refine jy_putI hS rfl (by decide) g1 ?_
    intro I2 e9
    have h := h I2 e9
    clear e9
    refine jy_aload_n hS rfl rfl ?_
    refine jy_iload_n hS rfl rfl ?_
    refine jy_putI hS rfl (by decide) g1 ?_
    intro I3 e9
    have h := h I3 e9
    clear e9
    exact jy_ret hS rfl rfl ⟨rfl, rfl, h⟩
theorem jt_209 : jx_ml 209 = 1 ∧ jx_rt 209 = some .boolean ∧ jx_hz 209 = [] ∧ decide ((jx_nm 209).name = "<init>") = false ∧ jx_code 209 = jx_c209 := by decide +kernel
/-- GCModel.isDigit -/
def wz_209 (V : jx_V) (X : jx_X) (R : jx_R) (Q : Option Value → jx_I → Prop) (QE : String → jx_I → Prop)  (a0 : Int) (I : jx_I) : Prop :=
  (a0 < 48 → (
    Q (some (jy 0)) I
  )) ∧ (¬ a0 < 48 → (
    (57 < a0 → (
      Q (some (jy 0)) I
    )) ∧ (¬ 57 < a0 → (
      Q (some (jy 1)) I
    ))
  ))
set_option maxRecDepth 20000 in
theorem wm_209 {V : jx_V} (hV : V.1.stackTraces = false) {X : jx_X} {R : jx_R} {I : jx_I} {Q : Option Value → jx_I → Prop} {QE : String → jx_I → Prop} {a0 : Int} (r_a0 : -2147483648 ≤ a0 ∧ a0 < 2147483648) 
    (h : wz_209 V X R Q QE  a0 I) : jc V 1 209 (0, 0) [jy a0] X I R Q QE := by
  refine jy_met hV (by decide) (n := 1) (rt := some .boolean) (hh := []) (ini := false) (C := jx_c209) (L := [some (jy a0)]) jt_209 (Nat.le_of_ble_eq_true rfl) rfl ?_
  intro J hS
  unfold wz_209 at h
  refine jy_iload_n hS rfl rfl ?_
  refine jy_bipush hS rfl (by decide) ?_
  refine jy_icmp_lt hS rfl ⟨r_a0, ⟨by decide, by decide⟩⟩ (fun hq => ?_) (fun hq => ?_)
  · have h := h.1 hq
    refine jy_iconst hS rfl ?_
    exact jy_iret hS rfl rfl ⟨rfl, rfl, h⟩
  · have h := h.2 hq
    refine jy_iload_n hS rfl rfl ?_
    refine jy_bipush hS rfl (by decide) ?_
    refine jy_icmp_gt hS rfl ⟨r_a0, ⟨by decide, by decide⟩⟩ (fun hq => ?_) (fun hq => ?_)
    · have h := h.1 hq
      refine jy_iconst hS rfl ?_
      exact jy_iret hS rfl rfl ⟨rfl, rfl, h⟩
    · have h := h.2 hq
      refine jy_iconst hS rfl ?_
      refine jy_goto hS rfl ?_
      exact jy_iret hS rfl rfl ⟨rfl, rfl, h⟩
theorem jt_210 : jx_ml 210 = 5 ∧ jx_rt 210 = some .int ∧ jx_hz 210 = [] ∧ decide ((jx_nm 210).name = "<init>") = false ∧ jx_code 210 = jx_c210 := by decide +kernel
/-- GCModel.number, from 44 -/
def wz_210_44 (V : jx_V) (X : jx_X) (R : jx_R) (Q : Option Value → jx_I → Prop) (QE : String → jx_I → Prop) (J44 : Int → Int → jx_I → Prop) (J91 : Int → Int → jx_I → Prop) (J122 : Int → jx_I → Prop) (a0 : Nat) (a1 : Int) (a2 : Int) (l3 : Int) (l4 : Int) (I : jx_I) : Prop :=
  (X.2.1 a0 = some (12, 0)) ∧ (
  ∃ Q43 : Option Value → jx_I → Prop, (
  (jc V 1 206 (0, 0) [.ref a0, jy ((I a0 4).toInt)] X I R Q43 (fun _ _ => False)) ∧ (
  ∀ rv I45, Q43 rv I45 → ∃ r46 : Int, rv = some (jy r46) ∧ (
  ∃ Q47 : Option Value → jx_I → Prop, (
  (jc V 1 209 (0, 0) [jy r46] X I45 R Q47 (fun _ _ => False)) ∧ (
  ∀ rv I49, Q47 rv I49 → ∃ r50 : Int, rv = some (jy r50) ∧ (
  (-2147483648 ≤ r50 ∧ r50 < 2147483648) ∧ (
  (r50 = 0 → (
    ∃ Q52 : Option Value → jx_I → Prop, (
    (jc V 1 203 (0, 0) [jy l4, jy a1, jy a2] X I49 R Q52 (fun _ _ => False)) ∧ (
    ∀ rv I54, Q52 rv I54 → ∃ r55 : Int, rv = some (jy r55) ∧ (
    (-2147483648 ≤ r55 ∧ r55 < 2147483648) ∧ (
    (r55 ≠ 0 → (
      ((I54 a0 5).toInt ≠ 0 → (
        Q (some (jy 0)) I54
      )) ∧ ((I54 a0 5).toInt = 0 → (
        Q (some (jy l4)) I54
      ))
    )) ∧ (r55 = 0 → (
      ∃ Q57 : Option Value → jx_I → Prop, (
      (jc V 1 208 (0, 0) [.ref a0, jy 2, jy l3] X I54 R Q57 (fun _ _ => False)) ∧ (
      ∀ rv I59, Q57 rv I59 → rv = none ∧ (
      J122 l4 I59)))
    ))))))
  )) ∧ (¬ r50 = 0 → (
    ∃ Q61 : Option Value → jx_I → Prop, (
    (jc V 1 206 (0, 0) [.ref a0, jy ((I49 a0 4).toInt)] X I49 R Q61 (fun _ _ => False)) ∧ (
    ∀ rv I63, Q61 rv I63 → ∃ r64 : Int, rv = some (jy r64) ∧ (
    (-2147483648 ≤ (((10 * l4) + r64) - 48) ∧ (((10 * l4) + r64) - 48) < 2147483648) ∧ (
    ((((10 * l4) + r64) - 48) ≤ 100000 → (
      J91 (((10 * l4) + r64) - 48) l3 I63
    )) ∧ (¬ (((10 * l4) + r64) - 48) ≤ 100000 → (
      J91 100000 l3 I63
    ))))))
  ))))))))))
/-- GCModel.number, from 91 -/
def wz_210_91 (V : jx_V) (X : jx_X) (R : jx_R) (Q : Option Value → jx_I → Prop) (QE : String → jx_I → Prop) (J44 : Int → Int → jx_I → Prop) (J91 : Int → Int → jx_I → Prop) (J122 : Int → jx_I → Prop) (a0 : Nat) (a1 : Int) (a2 : Int) (s0 : Int) (l3 : Int) (I : jx_I) : Prop :=
  (X.2.1 a0 = some (12, 0)) ∧ (
  ∀ I67 : jx_I, I67 = jx_u I a0 4 (Int32.ofInt ((I a0 4).toInt + 1)) → (
  J44 l3 s0 I67))
/-- GCModel.number, from 122 -/
def wz_210_122 (V : jx_V) (X : jx_X) (R : jx_R) (Q : Option Value → jx_I → Prop) (QE : String → jx_I → Prop) (J44 : Int → Int → jx_I → Prop) (J91 : Int → Int → jx_I → Prop) (J122 : Int → jx_I → Prop) (a0 : Nat) (a1 : Int) (a2 : Int) (l4 : Int) (I : jx_I) : Prop :=
  (X.2.1 a0 = some (12, 0)) ∧ (
  ((I a0 5).toInt ≠ 0 → (
    Q (some (jy 0)) I
  )) ∧ ((I a0 5).toInt = 0 → (
    Q (some (jy l4)) I
  )))
/-- GCModel.number -/
def wz_210 (V : jx_V) (X : jx_X) (R : jx_R) (Q : Option Value → jx_I → Prop) (QE : String → jx_I → Prop) (J44 : Int → Int → jx_I → Prop) (J91 : Int → Int → jx_I → Prop) (J122 : Int → jx_I → Prop) (a0 : Nat) (a1 : Int) (a2 : Int) (I : jx_I) : Prop :=
  (X.2.1 a0 = some (12, 0)) ∧ (
  ((I a0 5).toInt = 0 → (
    ∃ Q2 : Option Value → jx_I → Prop, (
    (jc V 2 207 (0, 0) [.ref a0] X I R Q2 (fun _ _ => False)) ∧ (
    ∀ rv I4, Q2 rv I4 → rv = none ∧ (
    ∃ Q6 : Option Value → jx_I → Prop, (
    (jc V 1 206 (0, 0) [.ref a0, jy ((I4 a0 4).toInt)] X I4 R Q6 (fun _ _ => False)) ∧ (
    ∀ rv I8, Q6 rv I8 → ∃ r9 : Int, rv = some (jy r9) ∧ (
    ∃ Q10 : Option Value → jx_I → Prop, (
    (jc V 1 209 (0, 0) [jy r9] X I8 R Q10 (fun _ _ => False)) ∧ (
    ∀ rv I12, Q10 rv I12 → ∃ r13 : Int, rv = some (jy r13) ∧ (
    (-2147483648 ≤ r13 ∧ r13 < 2147483648) ∧ (
    (r13 ≠ 0 → (
      ∃ Q15 : Option Value → jx_I → Prop, (
      (jc V 1 206 (0, 0) [.ref a0, jy ((I12 a0 4).toInt)] X I12 R Q15 (fun _ _ => False)) ∧ (
      ∀ rv I17, Q15 rv I17 → ∃ r18 : Int, rv = some (jy r18) ∧ (
      ∃ Q19 : Option Value → jx_I → Prop, (
      (jc V 1 209 (0, 0) [jy r18] X I17 R Q19 (fun _ _ => False)) ∧ (
      ∀ rv I21, Q19 rv I21 → ∃ r22 : Int, rv = some (jy r22) ∧ (
      (-2147483648 ≤ r22 ∧ r22 < 2147483648) ∧ (
      (r22 = 0 → (
        ∃ Q24 : Option Value → jx_I → Prop, (
        (jc V 1 203 (0, 0) [jy 0, jy a1, jy a2] X I21 R Q24 (fun _ _ => False)) ∧ (
        ∀ rv I26, Q24 rv I26 → ∃ r27 : Int, rv = some (jy r27) ∧ (
        (-2147483648 ≤ r27 ∧ r27 < 2147483648) ∧ (
        (r27 ≠ 0 → (
          ((I26 a0 5).toInt ≠ 0 → (
            Q (some (jy 0)) I26
          )) ∧ ((I26 a0 5).toInt = 0 → (
            Q (some (jy 0)) I26
          ))
        )) ∧ (r27 = 0 → (
          ∃ Q29 : Option Value → jx_I → Prop, (
          (jc V 1 208 (0, 0) [.ref a0, jy 2, jy ((I4 a0 4).toInt)] X I26 R Q29 (fun _ _ => False)) ∧ (
          ∀ rv I31, Q29 rv I31 → rv = none ∧ (
          J122 0 I31)))
        ))))))
      )) ∧ (¬ r22 = 0 → (
        ∃ Q33 : Option Value → jx_I → Prop, (
        (jc V 1 206 (0, 0) [.ref a0, jy ((I21 a0 4).toInt)] X I21 R Q33 (fun _ _ => False)) ∧ (
        ∀ rv I35, Q33 rv I35 → ∃ r36 : Int, rv = some (jy r36) ∧ (
        (-2147483648 ≤ (((10 * 0) + r36) - 48) ∧ (((10 * 0) + r36) - 48) < 2147483648) ∧ (
        ((((10 * 0) + r36) - 48) ≤ 100000 → (
          J91 (((10 * 0) + r36) - 48) ((I4 a0 4).toInt) I35
        )) ∧ (¬ (((10 * 0) + r36) - 48) ≤ 100000 → (
          J91 100000 ((I4 a0 4).toInt) I35
        ))))))
      )))))))))
    )) ∧ (r13 = 0 → (
      ∃ Q38 : Option Value → jx_I → Prop, (
      (jc V 1 208 (0, 0) [.ref a0, jy 1, jy ((I12 a0 4).toInt)] X I12 R Q38 (fun _ _ => False)) ∧ (
      ∀ rv I40, Q38 rv I40 → rv = none ∧ (
      J44 ((I4 a0 4).toInt) 0 I40)))
    ))))))))))))
  )) ∧ (¬ (I a0 5).toInt = 0 → (
    Q (some (jy 0)) I
  )))
set_option maxRecDepth 20000 in
theorem wm_210 {V : jx_V} (hV : V.1.stackTraces = false) {X : jx_X} {R : jx_R} {I : jx_I} {Q : Option Value → jx_I → Prop} {QE : String → jx_I → Prop} {a0 : Nat} {a1 : Int} {a2 : Int} (r_a1 : -2147483648 ≤ a1 ∧ a1 < 2147483648) (r_a2 : -2147483648 ≤ a2 ∧ a2 < 2147483648) 
    (h : ∀ (J44 : Int → Int → jx_I → Prop) (J91 : Int → Int → jx_I → Prop) (J122 : Int → jx_I → Prop), ((∀ (l3 : Int) (l4 : Int) I, wz_210_44 V X R Q QE J44 J91 J122 a0 a1 a2 l3 l4 I → J44 l3 l4 I) ∧ (∀ (s0 : Int) (l3 : Int) I, wz_210_91 V X R Q QE J44 J91 J122 a0 a1 a2 s0 l3 I → J91 s0 l3 I) ∧ (∀ (l4 : Int) I, wz_210_122 V X R Q QE J44 J91 J122 a0 a1 a2 l4 I → J122 l4 I)) → wz_210 V X R Q QE J44 J91 J122 a0 a1 a2 I) : jc V 3 210 (0, 0) [.ref a0, jy a1, jy a2] X I R Q QE := by
  refine jy_met hV (by decide) (n := 5) (rt := some .int) (hh := []) (ini := false) (C := jx_c210) (L := [some (.ref a0), some (jy a1), some (jy a2), none, none]) jt_210 (Nat.le_of_ble_eq_true rfl) rfl ?_
  intro J hS
  have h := h (fun l3 l4 I => J 44 [] [some (.ref a0), some (jy a1), some (jy a2), some (jy l3), some (jy l4)] (0, 0) X I R) (fun s0 l3 I => J 91 [jy s0] [some (.ref a0), some (jy a1), some (jy a2), some (jy l3), none] (0, 0) X I R) (fun l4 I => J 122 [] [some (.ref a0), none, none, none, some (jy l4)] (0, 0) X I R) ?_
  · unfold wz_210 at h
    refine jy_aload_n hS rfl rfl ?_
    obtain ⟨g1, h⟩ := h
    refine jy_getI hS rfl (by decide) g1 ?_
    refine jy_if_eq hS rfl (jy_rng _) (fun hq => ?_) (fun hq => ?_)
    · have h := h.1 hq
      refine jy_aload_n hS rfl rfl ?_
      obtain ⟨Q2, h⟩ := h
      obtain ⟨g3, h⟩ := h
      refine jy_callV hS rfl rfl rfl (Nat.le_of_ble_eq_true rfl) (Or.inl g1) g3 (by decide) ⟨by decide, by decide⟩ (Nat.le_of_ble_eq_true rfl) ?_ ?_
      rotate_left
      · exact fun Ex Xx Ix Rx hp => hp.2.2.2.elim
      intro rv Xx I4 Rx hp
      obtain ⟨e1, e2, hp⟩ := hp
      rw [e1, e2]
      clear e1 e2
      obtain ⟨e1, h⟩ := h rv I4 hp
      rw [e1]
      clear e1
      change J 13 [] _ (0, 0) _ _ _
      refine jy_aload_n hS rfl rfl ?_
      refine jy_getI hS rfl (by decide) g1 ?_
      refine jy_istore_n hS rfl (Nat.le_of_ble_eq_true rfl) (L' := [some (.ref a0), some (jy a1), some (jy a2), some (jy ((I4 a0 4).toInt)), none]) rfl ?_
      refine jy_iconst hS rfl ?_
      refine jy_istore hS rfl (Nat.le_of_ble_eq_true rfl) (L' := [some (.ref a0), some (jy a1), some (jy a2), some (jy ((I4 a0 4).toInt)), some (jy 0)]) rfl ?_
      refine jy_aload_n hS rfl rfl ?_
      refine jy_aload_n hS rfl rfl ?_
      refine jy_getI hS rfl (by decide) g1 ?_
      obtain ⟨Q6, h⟩ := h
      obtain ⟨g7, h⟩ := h
      refine jy_callV hS rfl rfl rfl (Nat.le_of_ble_eq_true rfl) (Or.inl g1) g7 (by decide) ⟨by decide, by decide⟩ (Nat.le_of_ble_eq_true rfl) ?_ ?_
      rotate_left
      · exact fun Ex Xx Ix Rx hp => hp.2.2.2.elim
      intro rv Xx I8 Rx hp
      obtain ⟨e1, e2, hp⟩ := hp
      rw [e1, e2]
      clear e1 e2
      obtain ⟨r9, e1, h⟩ := h rv I8 hp
      rw [e1]
      clear e1
      change J 29 [jy r9] _ (0, 0) _ _ _
      obtain ⟨Q10, h⟩ := h
      obtain ⟨g11, h⟩ := h
      refine jy_callS hS rfl rfl rfl (Nat.le_of_ble_eq_true rfl) g11 (by decide) ⟨by decide, by decide⟩ (Nat.le_of_ble_eq_true rfl) ?_ ?_
      rotate_left
      · exact fun Ex Xx Ix Rx hp => hp.2.2.2.elim
      intro rv Xx I12 Rx hp
      obtain ⟨e1, e2, hp⟩ := hp
      rw [e1, e2]
      clear e1 e2
      obtain ⟨r13, e1, h⟩ := h rv I12 hp
      rw [e1]
      clear e1
      change J 32 [jy r13] _ (0, 0) _ _ _
      obtain ⟨g14, h⟩ := h
      refine jy_if_ne hS rfl g14 (fun hq => ?_) (fun hq => ?_)
      · have h := h.1 hq
        refine jy_aload_n hS rfl rfl ?_
        refine jy_aload_n hS rfl rfl ?_
        refine jy_getI hS rfl (by decide) g1 ?_
        obtain ⟨Q15, h⟩ := h
        obtain ⟨g16, h⟩ := h
        refine jy_callV hS rfl rfl rfl (Nat.le_of_ble_eq_true rfl) (Or.inl g1) g16 (by decide) ⟨by decide, by decide⟩ (Nat.le_of_ble_eq_true rfl) ?_ ?_
        rotate_left
        · exact fun Ex Xx Ix Rx hp => hp.2.2.2.elim
        intro rv Xx I17 Rx hp
        obtain ⟨e1, e2, hp⟩ := hp
        rw [e1, e2]
        clear e1 e2
        obtain ⟨r18, e1, h⟩ := h rv I17 hp
        rw [e1]
        clear e1
        change J 52 [jy r18] _ (0, 0) _ _ _
        obtain ⟨Q19, h⟩ := h
        obtain ⟨g20, h⟩ := h
        refine jy_callS hS rfl rfl rfl (Nat.le_of_ble_eq_true rfl) g20 (by decide) ⟨by decide, by decide⟩ (Nat.le_of_ble_eq_true rfl) ?_ ?_
        rotate_left
        · exact fun Ex Xx Ix Rx hp => hp.2.2.2.elim
        intro rv Xx I21 Rx hp
        obtain ⟨e1, e2, hp⟩ := hp
        rw [e1, e2]
        clear e1 e2
        obtain ⟨r22, e1, h⟩ := h rv I21 hp
        rw [e1]
        clear e1
        change J 55 [jy r22] _ (0, 0) _ _ _
        obtain ⟨g23, h⟩ := h
        refine jy_if_eq hS rfl g23 (fun hq => ?_) (fun hq => ?_)
        · have h := h.1 hq
          refine jy_iload hS rfl rfl ?_
          refine jy_iload_n hS rfl rfl ?_
          refine jy_iload_n hS rfl rfl ?_
          obtain ⟨Q24, h⟩ := h
          obtain ⟨g25, h⟩ := h
          refine jy_callS hS rfl rfl rfl (Nat.le_of_ble_eq_true rfl) g25 (by decide) ⟨by decide, by decide⟩ (Nat.le_of_ble_eq_true rfl) ?_ ?_
          rotate_left
          · exact fun Ex Xx Ix Rx hp => hp.2.2.2.elim
          intro rv Xx I26 Rx hp
          obtain ⟨e1, e2, hp⟩ := hp
          rw [e1, e2]
          clear e1 e2
          obtain ⟨r27, e1, h⟩ := h rv I26 hp
          rw [e1]
          clear e1
          change J 113 [jy r27] _ (0, 0) _ _ _
          obtain ⟨g28, h⟩ := h
          refine jy_if_ne hS rfl g28 (fun hq => ?_) (fun hq => ?_)
          · have h := h.1 hq
            refine jy_aload_n hS rfl rfl ?_
            refine jy_getI hS rfl (by decide) g1 ?_
            refine jy_if_ne hS rfl (jy_rng _) (fun hq => ?_) (fun hq => ?_)
            · have h := h.1 hq
              refine jy_iconst hS rfl ?_
              exact jy_iret hS rfl rfl ⟨rfl, rfl, h⟩
            · have h := h.2 hq
              refine jy_iload hS rfl rfl ?_
              refine jy_goto hS rfl ?_
              exact jy_iret hS rfl rfl ⟨rfl, rfl, h⟩
          · have h := h.2 hq
            refine jy_aload_n hS rfl rfl ?_
            refine jy_iconst hS rfl ?_
            refine jy_iload_n hS rfl rfl ?_
            obtain ⟨Q29, h⟩ := h
            obtain ⟨g30, h⟩ := h
            refine jy_callV hS rfl rfl rfl (Nat.le_of_ble_eq_true rfl) (Or.inl g1) g30 (by decide) ⟨by decide, by decide⟩ (Nat.le_of_ble_eq_true rfl) ?_ ?_
            rotate_left
            · exact fun Ex Xx Ix Rx hp => hp.2.2.2.elim
            intro rv Xx I31 Rx hp
            obtain ⟨e1, e2, hp⟩ := hp
            rw [e1, e2]
            clear e1 e2
            obtain ⟨e1, h⟩ := h rv I31 hp
            rw [e1]
            clear e1
            change J 122 [] _ (0, 0) _ _ _
            exact jy_join hS h rfl (jy_sub_s (jy_sub_n (jy_sub_n (jy_sub_n (jy_sub_s jy_sub_0)))))
        · have h := h.2 hq
          refine jy_bipush hS rfl (by decide) ?_
          refine jy_iload hS rfl rfl ?_
          refine jy_imul hS rfl ?_
          refine jy_aload_n hS rfl rfl ?_
          refine jy_aload_n hS rfl rfl ?_
          refine jy_getI hS rfl (by decide) g1 ?_
          obtain ⟨Q33, h⟩ := h
          obtain ⟨g34, h⟩ := h
          refine jy_callV hS rfl rfl rfl (Nat.le_of_ble_eq_true rfl) (Or.inl g1) g34 (by decide) ⟨by decide, by decide⟩ (Nat.le_of_ble_eq_true rfl) ?_ ?_
          rotate_left
          · exact fun Ex Xx Ix Rx hp => hp.2.2.2.elim
          intro rv Xx I35 Rx hp
          obtain ⟨e1, e2, hp⟩ := hp
          rw [e1, e2]
          clear e1 e2
          obtain ⟨r36, e1, h⟩ := h rv I35 hp
          rw [e1]
          clear e1
          change J 71 [jy r36, jy (10 * 0)] _ (0, 0) _ _ _
          refine jy_iadd hS rfl ?_
          refine jy_bipush hS rfl (by decide) ?_
          refine jy_isub hS rfl ?_
          refine jy_istore hS rfl (Nat.le_of_ble_eq_true rfl) (L' := [some (.ref a0), some (jy a1), some (jy a2), some (jy ((I4 a0 4).toInt)), some (jy (((10 * 0) + r36) - 48))]) rfl ?_
          refine jy_iload hS rfl rfl ?_
          refine jy_ldcI hS rfl (n := 100000) (by decide) ?_
          obtain ⟨g37, h⟩ := h
          refine jy_icmp_le hS rfl ⟨g37, ⟨by decide, by decide⟩⟩ (fun hq => ?_) (fun hq => ?_)
          · have h := h.1 hq
            refine jy_iload hS rfl rfl ?_
            exact jy_join hS h rfl (jy_sub_s (jy_sub_s (jy_sub_s (jy_sub_s (jy_sub_n jy_sub_0)))))
          · have h := h.2 hq
            refine jy_ldcI hS rfl (n := 100000) (by decide) ?_
            refine jy_goto hS rfl ?_
            exact jy_join hS h rfl (jy_sub_s (jy_sub_s (jy_sub_s (jy_sub_s (jy_sub_n jy_sub_0)))))
      · have h := h.2 hq
        refine jy_aload_n hS rfl rfl ?_
        refine jy_iconst hS rfl ?_
        refine jy_aload_n hS rfl rfl ?_
        refine jy_getI hS rfl (by decide) g1 ?_
        obtain ⟨Q38, h⟩ := h
        obtain ⟨g39, h⟩ := h
        refine jy_callV hS rfl rfl rfl (Nat.le_of_ble_eq_true rfl) (Or.inl g1) g39 (by decide) ⟨by decide, by decide⟩ (Nat.le_of_ble_eq_true rfl) ?_ ?_
        rotate_left
        · exact fun Ex Xx Ix Rx hp => hp.2.2.2.elim
        intro rv Xx I40 Rx hp
        obtain ⟨e1, e2, hp⟩ := hp
        rw [e1, e2]
        clear e1 e2
        obtain ⟨e1, h⟩ := h rv I40 hp
        rw [e1]
        clear e1
        change J 44 [] _ (0, 0) _ _ _
        exact jy_join hS h rfl (jy_sub_s (jy_sub_s (jy_sub_s (jy_sub_s (jy_sub_s jy_sub_0)))))
    · have h := h.2 hq
      refine jy_iconst hS rfl ?_
      exact jy_iret hS rfl rfl ⟨rfl, rfl, h⟩
  refine ⟨?_, ?_, ?_⟩
  · intro l3 l4 I h
    unfold wz_210_44 at h
    refine jy_aload_n hS rfl rfl ?_
    refine jy_aload_n hS rfl rfl ?_
    obtain ⟨g42, h⟩ := h
    refine jy_getI hS rfl (by decide) g42 ?_
    obtain ⟨Q43, h⟩ := h
    obtain ⟨g44, h⟩ := h
    refine jy_callV hS rfl rfl rfl (Nat.le_of_ble_eq_true rfl) (Or.inl g42) g44 (by decide) ⟨by decide, by decide⟩ (Nat.le_of_ble_eq_true rfl) ?_ ?_
    rotate_left
    · exact fun Ex Xx Ix Rx hp => hp.2.2.2.elim
    intro rv Xx I45 Rx hp
    obtain ⟨e1, e2, hp⟩ := hp
    rw [e1, e2]
    clear e1 e2
    obtain ⟨r46, e1, h⟩ := h rv I45 hp
    rw [e1]
    clear e1
    change J 52 [jy r46] _ (0, 0) _ _ _
    obtain ⟨Q47, h⟩ := h
    obtain ⟨g48, h⟩ := h
    refine jy_callS hS rfl rfl rfl (Nat.le_of_ble_eq_true rfl) g48 (by decide) ⟨by decide, by decide⟩ (Nat.le_of_ble_eq_true rfl) ?_ ?_
    rotate_left
    · exact fun Ex Xx Ix Rx hp => hp.2.2.2.elim
    intro rv Xx I49 Rx hp
    obtain ⟨e1, e2, hp⟩ := hp
    rw [e1, e2]
    clear e1 e2
    obtain ⟨r50, e1, h⟩ := h rv I49 hp
    rw [e1]
    clear e1
    change J 55 [jy r50] _ (0, 0) _ _ _
    obtain ⟨g51, h⟩ := h
    refine jy_if_eq hS rfl g51 (fun hq => ?_) (fun hq => ?_)
    · have h := h.1 hq
      refine jy_iload hS rfl rfl ?_
      refine jy_iload_n hS rfl rfl ?_
      refine jy_iload_n hS rfl rfl ?_
      obtain ⟨Q52, h⟩ := h
      obtain ⟨g53, h⟩ := h
      refine jy_callS hS rfl rfl rfl (Nat.le_of_ble_eq_true rfl) g53 (by decide) ⟨by decide, by decide⟩ (Nat.le_of_ble_eq_true rfl) ?_ ?_
      rotate_left
      · exact fun Ex Xx Ix Rx hp => hp.2.2.2.elim
      intro rv Xx I54 Rx hp
      obtain ⟨e1, e2, hp⟩ := hp
      rw [e1, e2]
      clear e1 e2
      obtain ⟨r55, e1, h⟩ := h rv I54 hp
      rw [e1]
      clear e1
      change J 113 [jy r55] _ (0, 0) _ _ _
      obtain ⟨g56, h⟩ := h
      refine jy_if_ne hS rfl g56 (fun hq => ?_) (fun hq => ?_)
      · have h := h.1 hq
        refine jy_aload_n hS rfl rfl ?_
        refine jy_getI hS rfl (by decide) g42 ?_
        refine jy_if_ne hS rfl (jy_rng _) (fun hq => ?_) (fun hq => ?_)
        · have h := h.1 hq
          refine jy_iconst hS rfl ?_
          exact jy_iret hS rfl rfl ⟨rfl, rfl, h⟩
        · have h := h.2 hq
          refine jy_iload hS rfl rfl ?_
          refine jy_goto hS rfl ?_
          exact jy_iret hS rfl rfl ⟨rfl, rfl, h⟩
      · have h := h.2 hq
        refine jy_aload_n hS rfl rfl ?_
        refine jy_iconst hS rfl ?_
        refine jy_iload_n hS rfl rfl ?_
        obtain ⟨Q57, h⟩ := h
        obtain ⟨g58, h⟩ := h
        refine jy_callV hS rfl rfl rfl (Nat.le_of_ble_eq_true rfl) (Or.inl g42) g58 (by decide) ⟨by decide, by decide⟩ (Nat.le_of_ble_eq_true rfl) ?_ ?_
        rotate_left
        · exact fun Ex Xx Ix Rx hp => hp.2.2.2.elim
        intro rv Xx I59 Rx hp
        obtain ⟨e1, e2, hp⟩ := hp
        rw [e1, e2]
        clear e1 e2
        obtain ⟨e1, h⟩ := h rv I59 hp
        rw [e1]
        clear e1
        change J 122 [] _ (0, 0) _ _ _
        exact jy_join hS h rfl (jy_sub_s (jy_sub_n (jy_sub_n (jy_sub_n (jy_sub_s jy_sub_0)))))
    · have h := h.2 hq
      refine jy_bipush hS rfl (by decide) ?_
      refine jy_iload hS rfl rfl ?_
      refine jy_imul hS rfl ?_
      refine jy_aload_n hS rfl rfl ?_
      refine jy_aload_n hS rfl rfl ?_
      refine jy_getI hS rfl (by decide) g42 ?_
      obtain ⟨Q61, h⟩ := h
      obtain ⟨g62, h⟩ := h
      refine jy_callV hS rfl rfl rfl (Nat.le_of_ble_eq_true rfl) (Or.inl g42) g62 (by decide) ⟨by decide, by decide⟩ (Nat.le_of_ble_eq_true rfl) ?_ ?_
      rotate_left
      · exact fun Ex Xx Ix Rx hp => hp.2.2.2.elim
      intro rv Xx I63 Rx hp
      obtain ⟨e1, e2, hp⟩ := hp
      rw [e1, e2]
      clear e1 e2
      obtain ⟨r64, e1, h⟩ := h rv I63 hp
      rw [e1]
      clear e1
      change J 71 [jy r64, jy (10 * l4)] _ (0, 0) _ _ _
      refine jy_iadd hS rfl ?_
      refine jy_bipush hS rfl (by decide) ?_
      refine jy_isub hS rfl ?_
      refine jy_istore hS rfl (Nat.le_of_ble_eq_true rfl) (L' := [some (.ref a0), some (jy a1), some (jy a2), some (jy l3), some (jy (((10 * l4) + r64) - 48))]) rfl ?_
      refine jy_iload hS rfl rfl ?_
      refine jy_ldcI hS rfl (n := 100000) (by decide) ?_
      obtain ⟨g65, h⟩ := h
      refine jy_icmp_le hS rfl ⟨g65, ⟨by decide, by decide⟩⟩ (fun hq => ?_) (fun hq => ?_)
      · have h := h.1 hq
        refine jy_iload hS rfl rfl ?_
        exact jy_join hS h rfl (jy_sub_s (jy_sub_s (jy_sub_s (jy_sub_s (jy_sub_n jy_sub_0)))))
      · have h := h.2 hq
        refine jy_ldcI hS rfl (n := 100000) (by decide) ?_
        refine jy_goto hS rfl ?_
        exact jy_join hS h rfl (jy_sub_s (jy_sub_s (jy_sub_s (jy_sub_s (jy_sub_n jy_sub_0)))))
  · intro s0 l3 I h
    unfold wz_210_91 at h
    refine jy_istore hS rfl (Nat.le_of_ble_eq_true rfl) (L' := [some (.ref a0), some (jy a1), some (jy a2), some (jy l3), some (jy s0)]) rfl ?_
    refine jy_aload_n hS rfl rfl ?_
    refine jy_dup hS rfl rfl ?_
    obtain ⟨g66, h⟩ := h
    refine jy_getI hS rfl (by decide) g66 ?_
    refine jy_iconst hS rfl ?_
    refine jy_iadd hS rfl ?_
    refine jy_putI hS rfl (by decide) g66 ?_
    intro I67 e9
    have h := h I67 e9
    clear e9
    refine jy_goto hS rfl ?_
    exact jy_join hS h rfl (jy_sub_s (jy_sub_s (jy_sub_s (jy_sub_s (jy_sub_s jy_sub_0)))))
  · intro l4 I h
    unfold wz_210_122 at h
    refine jy_aload_n hS rfl rfl ?_
    obtain ⟨g68, h⟩ := h
    refine jy_getI hS rfl (by decide) g68 ?_
    refine jy_if_ne hS rfl (jy_rng _) (fun hq => ?_) (fun hq => ?_)
    · have h := h.1 hq
      refine jy_iconst hS rfl ?_
      exact jy_iret hS rfl rfl ⟨rfl, rfl, h⟩
    · have h := h.2 hq
      refine jy_iload hS rfl rfl ?_
      refine jy_goto hS rfl ?_
      exact jy_iret hS rfl rfl ⟨rfl, rfl, h⟩
theorem jt_211 : jx_ml 211 = 5 ∧ jx_rt 211 = some .int ∧ jx_hz 211 = [] ∧ decide ((jx_nm 211).name = "<init>") = false ∧ jx_code 211 = jx_c211 := by decide +kernel
/-- GCModel.otherNumber -/
def wz_211 (V : jx_V) (X : jx_X) (R : jx_R) (Q : Option Value → jx_I → Prop) (QE : String → jx_I → Prop)  (a0 : Nat) (a1 : Int) (a2 : Int) (I : jx_I) : Prop :=
  (X.2.1 a0 = some (12, 0)) ∧ (
  ((I a0 5).toInt = 0 → (
    ∃ Q2 : Option Value → jx_I → Prop, (
    (jc V 2 207 (0, 0) [.ref a0] X I R Q2 (fun _ _ => False)) ∧ (
    ∀ rv I4, Q2 rv I4 → rv = none ∧ (
    ∃ Q6 : Option Value → jx_I → Prop, (
    (jc V 3 210 (0, 0) [.ref a0, jy 0, jy a1] X I4 R Q6 (fun _ _ => False)) ∧ (
    ∀ rv I8, Q6 rv I8 → ∃ r9 : Int, rv = some (jy r9) ∧ (
    ((I8 a0 5).toInt ≠ 0 → (
      Q (some (jy r9)) I8
    )) ∧ ((I8 a0 5).toInt = 0 → (
      (-2147483648 ≤ r9 ∧ r9 < 2147483648) ∧ (
      (r9 ≠ a2 → (
        Q (some (jy r9)) I8
      )) ∧ (r9 = a2 → (
        ∃ Q11 : Option Value → jx_I → Prop, (
        (jc V 1 208 (0, 0) [.ref a0, jy 2, jy ((I4 a0 4).toInt)] X I8 R Q11 (fun _ _ => False)) ∧ (
        ∀ rv I13, Q11 rv I13 → rv = none ∧ (
        Q (some (jy r9)) I13)))
      )))
    ))))))))
  )) ∧ (¬ (I a0 5).toInt = 0 → (
    Q (some (jy 0)) I
  )))
set_option maxRecDepth 20000 in
theorem wm_211 {V : jx_V} (hV : V.1.stackTraces = false) {X : jx_X} {R : jx_R} {I : jx_I} {Q : Option Value → jx_I → Prop} {QE : String → jx_I → Prop} {a0 : Nat} {a1 : Int} {a2 : Int} (r_a1 : -2147483648 ≤ a1 ∧ a1 < 2147483648) (r_a2 : -2147483648 ≤ a2 ∧ a2 < 2147483648) 
    (h : wz_211 V X R Q QE  a0 a1 a2 I) : jc V 4 211 (0, 0) [.ref a0, jy a1, jy a2] X I R Q QE := by
  refine jy_met hV (by decide) (n := 5) (rt := some .int) (hh := []) (ini := false) (C := jx_c211) (L := [some (.ref a0), some (jy a1), some (jy a2), none, none]) jt_211 (Nat.le_of_ble_eq_true rfl) rfl ?_
  intro J hS
  unfold wz_211 at h
  refine jy_aload_n hS rfl rfl ?_
  obtain ⟨g1, h⟩ := h
  refine jy_getI hS rfl (by decide) g1 ?_
  refine jy_if_eq hS rfl (jy_rng _) (fun hq => ?_) (fun hq => ?_)
  · have h := h.1 hq
    refine jy_aload_n hS rfl rfl ?_
    obtain ⟨Q2, h⟩ := h
    obtain ⟨g3, h⟩ := h
    refine jy_callV hS rfl rfl rfl (Nat.le_of_ble_eq_true rfl) (Or.inl g1) g3 (by decide) ⟨by decide, by decide⟩ (Nat.le_of_ble_eq_true rfl) ?_ ?_
    rotate_left
    · exact fun Ex Xx Ix Rx hp => hp.2.2.2.elim
    intro rv Xx I4 Rx hp
    obtain ⟨e1, e2, hp⟩ := hp
    rw [e1, e2]
    clear e1 e2
    obtain ⟨e1, h⟩ := h rv I4 hp
    rw [e1]
    clear e1
    change J 13 [] _ (0, 0) _ _ _
    refine jy_aload_n hS rfl rfl ?_
    refine jy_getI hS rfl (by decide) g1 ?_
    refine jy_istore_n hS rfl (Nat.le_of_ble_eq_true rfl) (L' := [some (.ref a0), some (jy a1), some (jy a2), some (jy ((I4 a0 4).toInt)), none]) rfl ?_
    refine jy_aload_n hS rfl rfl ?_
    refine jy_iconst hS rfl ?_
    refine jy_iload_n hS rfl rfl ?_
    obtain ⟨Q6, h⟩ := h
    obtain ⟨g7, h⟩ := h
    refine jy_callV hS rfl rfl rfl (Nat.le_of_ble_eq_true rfl) (Or.inl g1) g7 (by decide) ⟨by decide, by decide⟩ (Nat.le_of_ble_eq_true rfl) ?_ ?_
    rotate_left
    · exact fun Ex Xx Ix Rx hp => hp.2.2.2.elim
    intro rv Xx I8 Rx hp
    obtain ⟨e1, e2, hp⟩ := hp
    rw [e1, e2]
    clear e1 e2
    obtain ⟨r9, e1, h⟩ := h rv I8 hp
    rw [e1]
    clear e1
    change J 24 [jy r9] _ (0, 0) _ _ _
    refine jy_istore hS rfl (Nat.le_of_ble_eq_true rfl) (L' := [some (.ref a0), some (jy a1), some (jy a2), some (jy ((I4 a0 4).toInt)), some (jy r9)]) rfl ?_
    refine jy_aload_n hS rfl rfl ?_
    refine jy_getI hS rfl (by decide) g1 ?_
    refine jy_if_ne hS rfl (jy_rng _) (fun hq => ?_) (fun hq => ?_)
    · have h := h.1 hq
      refine jy_iload hS rfl rfl ?_
      exact jy_iret hS rfl rfl ⟨rfl, rfl, h⟩
    · have h := h.2 hq
      refine jy_iload hS rfl rfl ?_
      refine jy_iload_n hS rfl rfl ?_
      obtain ⟨g10, h⟩ := h
      refine jy_icmp_ne hS rfl ⟨g10, r_a2⟩ (fun hq => ?_) (fun hq => ?_)
      · have h := h.1 hq
        refine jy_iload hS rfl rfl ?_
        exact jy_iret hS rfl rfl ⟨rfl, rfl, h⟩
      · have h := h.2 hq
        refine jy_aload_n hS rfl rfl ?_
        refine jy_iconst hS rfl ?_
        refine jy_iload_n hS rfl rfl ?_
        obtain ⟨Q11, h⟩ := h
        obtain ⟨g12, h⟩ := h
        refine jy_callV hS rfl rfl rfl (Nat.le_of_ble_eq_true rfl) (Or.inl g1) g12 (by decide) ⟨by decide, by decide⟩ (Nat.le_of_ble_eq_true rfl) ?_ ?_
        rotate_left
        · exact fun Ex Xx Ix Rx hp => hp.2.2.2.elim
        intro rv Xx I13 Rx hp
        obtain ⟨e1, e2, hp⟩ := hp
        rw [e1, e2]
        clear e1 e2
        obtain ⟨e1, h⟩ := h rv I13 hp
        rw [e1]
        clear e1
        change J 45 [] _ (0, 0) _ _ _
        refine jy_iload hS rfl rfl ?_
        exact jy_iret hS rfl rfl ⟨rfl, rfl, h⟩
  · have h := h.2 hq
    refine jy_iconst hS rfl ?_
    exact jy_iret hS rfl rfl ⟨rfl, rfl, h⟩
theorem jt_212 : jx_ml 212 = 4 ∧ jx_rt 212 = some .long ∧ jx_hz 212 = [] ∧ decide ((jx_nm 212).name = "<init>") = false ∧ jx_code 212 = jx_c212 := by decide +kernel
/-- GCModel.wordHere, from 8 -/
def wz_212_8 (V : jx_V) (X : jx_X) (R : jx_R) (Q : Option Value → jx_I → Prop) (QE : String → jx_I → Prop) (J8 : Int64 → Int → jx_I → Prop) (J71 : Int64 → Int → jx_I → Prop) (a0 : Nat) (l1 : Int64) (l3 : Int) (I : jx_I) : Prop :=
  (X.2.1 a0 = some (12, 0)) ∧ (
  ∃ Q7 : Option Value → jx_I → Prop, (
  (jc V 1 206 (0, 0) [.ref a0, jy ((I a0 4).toInt + l3)] X I R Q7 (fun _ _ => False)) ∧ (
  ∀ rv I9, Q7 rv I9 → ∃ r10 : Int, rv = some (jy r10) ∧ (
  (-2147483648 ≤ r10 ∧ r10 < 2147483648) ∧ (
  (r10 < 97 → (
    (-2147483648 ≤ l3 ∧ l3 < 2147483648) ∧ (
    (l3 ≤ 7 → (
      Q (some (.long l1)) I9
    )) ∧ (¬ l3 ≤ 7 → (
      Q (some (.long (-1 : Int64))) I9
    )))
  )) ∧ (¬ r10 < 97 → (
    ∃ Q13 : Option Value → jx_I → Prop, (
    (jc V 1 206 (0, 0) [.ref a0, jy ((I9 a0 4).toInt + l3)] X I9 R Q13 (fun _ _ => False)) ∧ (
    ∀ rv I15, Q13 rv I15 → ∃ r16 : Int, rv = some (jy r16) ∧ (
    (-2147483648 ≤ r16 ∧ r16 < 2147483648) ∧ (
    (122 < r16 → (
      (-2147483648 ≤ l3 ∧ l3 < 2147483648) ∧ (
      (l3 ≤ 7 → (
        Q (some (.long l1)) I15
      )) ∧ (¬ l3 ≤ 7 → (
        Q (some (.long (-1 : Int64))) I15
      )))
    )) ∧ (¬ 122 < r16 → (
      (-2147483648 ≤ l3 ∧ l3 < 2147483648) ∧ (
      (8 ≤ l3 → (
        J71 l1 l3 I15
      )) ∧ (¬ 8 ≤ l3 → (
        ∃ Q20 : Option Value → jx_I → Prop, (
        (jc V 1 206 (0, 0) [.ref a0, jy ((I15 a0 4).toInt + l3)] X I15 R Q20 (fun _ _ => False)) ∧ (
        ∀ rv I22, Q20 rv I22 → ∃ r23 : Int, rv = some (jy r23) ∧ (
        J71 (((((27 : Int64) * l1) + (Int32.ofInt r23).toInt64) - (97 : Int64)) + (1 : Int64)) l3 I22)))
      )))
    ))))))
  )))))))
/-- GCModel.wordHere, from 71 -/
def wz_212_71 (V : jx_V) (X : jx_X) (R : jx_R) (Q : Option Value → jx_I → Prop) (QE : String → jx_I → Prop) (J8 : Int64 → Int → jx_I → Prop) (J71 : Int64 → Int → jx_I → Prop) (a0 : Nat) (s0 : Int64) (l3 : Int) (I : jx_I) : Prop :=
  J8 s0 (l3 + 1) I
/-- GCModel.wordHere -/
def wz_212 (V : jx_V) (X : jx_X) (R : jx_R) (Q : Option Value → jx_I → Prop) (QE : String → jx_I → Prop) (J8 : Int64 → Int → jx_I → Prop) (J71 : Int64 → Int → jx_I → Prop) (a0 : Nat) (I : jx_I) : Prop :=
  (X.2.1 a0 = some (12, 0)) ∧ (
  ∃ Q2 : Option Value → jx_I → Prop, (
  (jc V 2 207 (0, 0) [.ref a0] X I R Q2 (fun _ _ => False)) ∧ (
  ∀ rv I4, Q2 rv I4 → rv = none ∧ (
  J8 (0 : Int64) 0 I4))))
set_option maxRecDepth 20000 in
theorem wm_212 {V : jx_V} (hV : V.1.stackTraces = false) {X : jx_X} {R : jx_R} {I : jx_I} {Q : Option Value → jx_I → Prop} {QE : String → jx_I → Prop} {a0 : Nat}  
    (h : ∀ (J8 : Int64 → Int → jx_I → Prop) (J71 : Int64 → Int → jx_I → Prop), ((∀ (l1 : Int64) (l3 : Int) I, wz_212_8 V X R Q QE J8 J71 a0 l1 l3 I → J8 l1 l3 I) ∧ (∀ (s0 : Int64) (l3 : Int) I, wz_212_71 V X R Q QE J8 J71 a0 s0 l3 I → J71 s0 l3 I)) → wz_212 V X R Q QE J8 J71 a0 I) : jc V 3 212 (0, 0) [.ref a0] X I R Q QE := by
  refine jy_met hV (by decide) (n := 4) (rt := some .long) (hh := []) (ini := false) (C := jx_c212) (L := [some (.ref a0), none, none, none]) jt_212 (Nat.le_of_ble_eq_true rfl) rfl ?_
  intro J hS
  have h := h (fun l1 l3 I => J 8 [] [some (.ref a0), some (.long l1), none, some (jy l3)] (0, 0) X I R) (fun s0 l3 I => J 71 [.long s0] [some (.ref a0), none, none, some (jy l3)] (0, 0) X I R) ?_
  · unfold wz_212 at h
    refine jy_aload_n hS rfl rfl ?_
    obtain ⟨g1, h⟩ := h
    obtain ⟨Q2, h⟩ := h
    obtain ⟨g3, h⟩ := h
    refine jy_callV hS rfl rfl rfl (Nat.le_of_ble_eq_true rfl) (Or.inl g1) g3 (by decide) ⟨by decide, by decide⟩ (Nat.le_of_ble_eq_true rfl) ?_ ?_
    rotate_left
    · exact fun Ex Xx Ix Rx hp => hp.2.2.2.elim
    intro rv Xx I4 Rx hp
    obtain ⟨e1, e2, hp⟩ := hp
    rw [e1, e2]
    clear e1 e2
    obtain ⟨e1, h⟩ := h rv I4 hp
    rw [e1]
    clear e1
    change J 4 [] _ (0, 0) _ _ _
    refine jy_lconst hS rfl ?_
    refine jy_lstore_n hS rfl (Nat.le_of_ble_eq_true rfl) (L' := [some (.ref a0), some (.long (0 : Int64)), none, none]) rfl ?_
    refine jy_iconst hS rfl ?_
    refine jy_istore_n hS rfl (Nat.le_of_ble_eq_true rfl) (L' := [some (.ref a0), some (.long (0 : Int64)), none, some (jy 0)]) rfl ?_
    exact jy_join hS h rfl (jy_sub_s (jy_sub_s (jy_sub_n (jy_sub_s jy_sub_0))))
  refine ⟨?_, ?_⟩
  · intro l1 l3 I h
    unfold wz_212_8 at h
    refine jy_aload_n hS rfl rfl ?_
    refine jy_aload_n hS rfl rfl ?_
    obtain ⟨g6, h⟩ := h
    refine jy_getI hS rfl (by decide) g6 ?_
    refine jy_iload_n hS rfl rfl ?_
    refine jy_iadd hS rfl ?_
    obtain ⟨Q7, h⟩ := h
    obtain ⟨g8, h⟩ := h
    refine jy_callV hS rfl rfl rfl (Nat.le_of_ble_eq_true rfl) (Or.inl g6) g8 (by decide) ⟨by decide, by decide⟩ (Nat.le_of_ble_eq_true rfl) ?_ ?_
    rotate_left
    · exact fun Ex Xx Ix Rx hp => hp.2.2.2.elim
    intro rv Xx I9 Rx hp
    obtain ⟨e1, e2, hp⟩ := hp
    rw [e1, e2]
    clear e1 e2
    obtain ⟨r10, e1, h⟩ := h rv I9 hp
    rw [e1]
    clear e1
    change J 18 [jy r10] _ (0, 0) _ _ _
    refine jy_bipush hS rfl (by decide) ?_
    obtain ⟨g11, h⟩ := h
    refine jy_icmp_lt hS rfl ⟨g11, ⟨by decide, by decide⟩⟩ (fun hq => ?_) (fun hq => ?_)
    · have h := h.1 hq
      refine jy_iload_n hS rfl rfl ?_
      refine jy_bipush hS rfl (by decide) ?_
      obtain ⟨g12, h⟩ := h
      refine jy_icmp_le hS rfl ⟨g12, ⟨by decide, by decide⟩⟩ (fun hq => ?_) (fun hq => ?_)
      · have h := h.1 hq
        refine jy_lload_n hS rfl rfl ?_
        exact jy_lret hS rfl rfl ⟨rfl, rfl, h⟩
      · have h := h.2 hq
        refine jy_ldc2 hS rfl (n := -1) (by decide) ?_
        refine jy_goto hS rfl ?_
        exact jy_lret hS rfl rfl ⟨rfl, rfl, h⟩
    · have h := h.2 hq
      refine jy_aload_n hS rfl rfl ?_
      refine jy_aload_n hS rfl rfl ?_
      refine jy_getI hS rfl (by decide) g6 ?_
      refine jy_iload_n hS rfl rfl ?_
      refine jy_iadd hS rfl ?_
      obtain ⟨Q13, h⟩ := h
      obtain ⟨g14, h⟩ := h
      refine jy_callV hS rfl rfl rfl (Nat.le_of_ble_eq_true rfl) (Or.inl g6) g14 (by decide) ⟨by decide, by decide⟩ (Nat.le_of_ble_eq_true rfl) ?_ ?_
      rotate_left
      · exact fun Ex Xx Ix Rx hp => hp.2.2.2.elim
      intro rv Xx I15 Rx hp
      obtain ⟨e1, e2, hp⟩ := hp
      rw [e1, e2]
      clear e1 e2
      obtain ⟨r16, e1, h⟩ := h rv I15 hp
      rw [e1]
      clear e1
      change J 33 [jy r16] _ (0, 0) _ _ _
      refine jy_bipush hS rfl (by decide) ?_
      obtain ⟨g17, h⟩ := h
      refine jy_icmp_gt hS rfl ⟨g17, ⟨by decide, by decide⟩⟩ (fun hq => ?_) (fun hq => ?_)
      · have h := h.1 hq
        refine jy_iload_n hS rfl rfl ?_
        refine jy_bipush hS rfl (by decide) ?_
        obtain ⟨g18, h⟩ := h
        refine jy_icmp_le hS rfl ⟨g18, ⟨by decide, by decide⟩⟩ (fun hq => ?_) (fun hq => ?_)
        · have h := h.1 hq
          refine jy_lload_n hS rfl rfl ?_
          exact jy_lret hS rfl rfl ⟨rfl, rfl, h⟩
        · have h := h.2 hq
          refine jy_ldc2 hS rfl (n := -1) (by decide) ?_
          refine jy_goto hS rfl ?_
          exact jy_lret hS rfl rfl ⟨rfl, rfl, h⟩
      · have h := h.2 hq
        refine jy_iload_n hS rfl rfl ?_
        refine jy_bipush hS rfl (by decide) ?_
        obtain ⟨g19, h⟩ := h
        refine jy_icmp_ge hS rfl ⟨g19, ⟨by decide, by decide⟩⟩ (fun hq => ?_) (fun hq => ?_)
        · have h := h.1 hq
          refine jy_lload_n hS rfl rfl ?_
          exact jy_join hS h rfl (jy_sub_s (jy_sub_n (jy_sub_n (jy_sub_s jy_sub_0))))
        · have h := h.2 hq
          refine jy_ldc2 hS rfl (n := 27) (by decide) ?_
          refine jy_lload_n hS rfl rfl ?_
          refine jy_lmul hS rfl rfl ?_
          refine jy_aload_n hS rfl rfl ?_
          refine jy_aload_n hS rfl rfl ?_
          refine jy_getI hS rfl (by decide) g6 ?_
          refine jy_iload_n hS rfl rfl ?_
          refine jy_iadd hS rfl ?_
          obtain ⟨Q20, h⟩ := h
          obtain ⟨g21, h⟩ := h
          refine jy_callV hS rfl rfl rfl (Nat.le_of_ble_eq_true rfl) (Or.inl g6) g21 (by decide) ⟨by decide, by decide⟩ (Nat.le_of_ble_eq_true rfl) ?_ ?_
          rotate_left
          · exact fun Ex Xx Ix Rx hp => hp.2.2.2.elim
          intro rv Xx I22 Rx hp
          obtain ⟨e1, e2, hp⟩ := hp
          rw [e1, e2]
          clear e1 e2
          obtain ⟨r23, e1, h⟩ := h rv I22 hp
          rw [e1]
          clear e1
          change J 59 [jy r23, .long ((27 : Int64) * l1)] _ (0, 0) _ _ _
          refine jy_i2l hS rfl rfl ?_
          refine jy_ladd hS rfl rfl ?_
          refine jy_ldc2 hS rfl (n := 97) (by decide) ?_
          refine jy_lsub hS rfl rfl ?_
          refine jy_lconst hS rfl ?_
          refine jy_ladd hS rfl rfl ?_
          refine jy_goto hS rfl ?_
          exact jy_join hS h rfl (jy_sub_s (jy_sub_n (jy_sub_n (jy_sub_s jy_sub_0))))
  · intro s0 l3 I h
    unfold wz_212_71 at h
    refine jy_lstore_n hS rfl (Nat.le_of_ble_eq_true rfl) (L' := [some (.ref a0), some (.long s0), none, some (jy l3)]) rfl ?_
    refine jy_iinc hS rfl rfl (L' := [some (.ref a0), some (.long s0), none, some (jy (l3 + 1))]) rfl ?_
    refine jy_goto hS rfl ?_
    exact jy_join hS h rfl (jy_sub_s (jy_sub_s (jy_sub_n (jy_sub_s jy_sub_0))))
theorem jt_213 : jx_ml 213 = 9 ∧ jx_rt 213 = some .long ∧ jx_hz 213 = [] ∧ decide ((jx_nm 213).name = "<init>") = false ∧ jx_code 213 = jx_c213 := by decide +kernel
/-- GCModel.seven, from 29 -/
def wz_213_29 (V : jx_V) (X : jx_X) (R : jx_R) (Q : Option Value → jx_I → Prop) (QE : String → jx_I → Prop) (J29 : Int64 → jx_I → Prop) (J49 : Int64 → jx_I → Prop) (J71 : Int64 → jx_I → Prop) (J93 : Int64 → jx_I → Prop) (a0 : Int) (a1 : Int) (a2 : Int) (a3 : Int) (a4 : Int) (a5 : Int) (a6 : Int) (s0 : Int64) (I : jx_I) : Prop :=
  (a3 ≠ 0 → (
    J49 (((27 : Int64) * s0) + (Int32.ofInt a3).toInt64) I
  )) ∧ (a3 = 0 → (
    J49 s0 I
  ))
/-- GCModel.seven, from 49 -/
def wz_213_49 (V : jx_V) (X : jx_X) (R : jx_R) (Q : Option Value → jx_I → Prop) (QE : String → jx_I → Prop) (J29 : Int64 → jx_I → Prop) (J49 : Int64 → jx_I → Prop) (J71 : Int64 → jx_I → Prop) (J93 : Int64 → jx_I → Prop) (a0 : Int) (a1 : Int) (a2 : Int) (a3 : Int) (a4 : Int) (a5 : Int) (a6 : Int) (s0 : Int64) (I : jx_I) : Prop :=
  (a4 ≠ 0 → (
    J71 (((27 : Int64) * s0) + (Int32.ofInt a4).toInt64) I
  )) ∧ (a4 = 0 → (
    J71 s0 I
  ))
/-- GCModel.seven, from 71 -/
def wz_213_71 (V : jx_V) (X : jx_X) (R : jx_R) (Q : Option Value → jx_I → Prop) (QE : String → jx_I → Prop) (J29 : Int64 → jx_I → Prop) (J49 : Int64 → jx_I → Prop) (J71 : Int64 → jx_I → Prop) (J93 : Int64 → jx_I → Prop) (a0 : Int) (a1 : Int) (a2 : Int) (a3 : Int) (a4 : Int) (a5 : Int) (a6 : Int) (s0 : Int64) (I : jx_I) : Prop :=
  (a5 ≠ 0 → (
    J93 (((27 : Int64) * s0) + (Int32.ofInt a5).toInt64) I
  )) ∧ (a5 = 0 → (
    J93 s0 I
  ))
/-- GCModel.seven, from 93 -/
def wz_213_93 (V : jx_V) (X : jx_X) (R : jx_R) (Q : Option Value → jx_I → Prop) (QE : String → jx_I → Prop) (J29 : Int64 → jx_I → Prop) (J49 : Int64 → jx_I → Prop) (J71 : Int64 → jx_I → Prop) (J93 : Int64 → jx_I → Prop) (a0 : Int) (a1 : Int) (a2 : Int) (a3 : Int) (a4 : Int) (a5 : Int) (a6 : Int) (s0 : Int64) (I : jx_I) : Prop :=
  (a6 ≠ 0 → (
    Q (some (.long (((27 : Int64) * s0) + (Int32.ofInt a6).toInt64))) I
  )) ∧ (a6 = 0 → (
    Q (some (.long s0)) I
  ))
/-- GCModel.seven -/
def wz_213 (V : jx_V) (X : jx_X) (R : jx_R) (Q : Option Value → jx_I → Prop) (QE : String → jx_I → Prop) (J29 : Int64 → jx_I → Prop) (J49 : Int64 → jx_I → Prop) (J71 : Int64 → jx_I → Prop) (J93 : Int64 → jx_I → Prop) (a0 : Int) (a1 : Int) (a2 : Int) (a3 : Int) (a4 : Int) (a5 : Int) (a6 : Int) (I : jx_I) : Prop :=
  (a2 ≠ 0 → (
    J29 (((27 : Int64) * (((27 : Int64) * (Int32.ofInt a0).toInt64) + (Int32.ofInt a1).toInt64)) + (Int32.ofInt a2).toInt64) I
  )) ∧ (a2 = 0 → (
    J29 (((27 : Int64) * (Int32.ofInt a0).toInt64) + (Int32.ofInt a1).toInt64) I
  ))
set_option maxRecDepth 20000 in
theorem wm_213 {V : jx_V} (hV : V.1.stackTraces = false) {X : jx_X} {R : jx_R} {I : jx_I} {Q : Option Value → jx_I → Prop} {QE : String → jx_I → Prop} {a0 : Int} {a1 : Int} {a2 : Int} {a3 : Int} {a4 : Int} {a5 : Int} {a6 : Int} (r_a0 : -2147483648 ≤ a0 ∧ a0 < 2147483648) (r_a1 : -2147483648 ≤ a1 ∧ a1 < 2147483648) (r_a2 : -2147483648 ≤ a2 ∧ a2 < 2147483648) (r_a3 : -2147483648 ≤ a3 ∧ a3 < 2147483648) (r_a4 : -2147483648 ≤ a4 ∧ a4 < 2147483648) (r_a5 : -2147483648 ≤ a5 ∧ a5 < 2147483648) (r_a6 : -2147483648 ≤ a6 ∧ a6 < 2147483648) 
    (h : ∀ (J29 : Int64 → jx_I → Prop) (J49 : Int64 → jx_I → Prop) (J71 : Int64 → jx_I → Prop) (J93 : Int64 → jx_I → Prop), ((∀ (s0 : Int64) I, wz_213_29 V X R Q QE J29 J49 J71 J93 a0 a1 a2 a3 a4 a5 a6 s0 I → J29 s0 I) ∧ (∀ (s0 : Int64) I, wz_213_49 V X R Q QE J29 J49 J71 J93 a0 a1 a2 a3 a4 a5 a6 s0 I → J49 s0 I) ∧ (∀ (s0 : Int64) I, wz_213_71 V X R Q QE J29 J49 J71 J93 a0 a1 a2 a3 a4 a5 a6 s0 I → J71 s0 I) ∧ (∀ (s0 : Int64) I, wz_213_93 V X R Q QE J29 J49 J71 J93 a0 a1 a2 a3 a4 a5 a6 s0 I → J93 s0 I)) → wz_213 V X R Q QE J29 J49 J71 J93 a0 a1 a2 a3 a4 a5 a6 I) : jc V 1 213 (0, 0) [jy a0, jy a1, jy a2, jy a3, jy a4, jy a5, jy a6] X I R Q QE := by
  refine jy_met hV (by decide) (n := 9) (rt := some .long) (hh := []) (ini := false) (C := jx_c213) (L := [some (jy a0), some (jy a1), some (jy a2), some (jy a3), some (jy a4), some (jy a5), some (jy a6), none, none]) jt_213 (Nat.le_of_ble_eq_true rfl) rfl ?_
  intro J hS
  have h := h (fun s0 I => J 29 [.long s0] [none, none, none, some (jy a3), some (jy a4), some (jy a5), some (jy a6), none, none] (0, 0) X I R) (fun s0 I => J 49 [.long s0] [none, none, none, none, some (jy a4), some (jy a5), some (jy a6), none, none] (0, 0) X I R) (fun s0 I => J 71 [.long s0] [none, none, none, none, none, some (jy a5), some (jy a6), none, none] (0, 0) X I R) (fun s0 I => J 93 [.long s0] [none, none, none, none, none, none, some (jy a6), none, none] (0, 0) X I R) ?_
  · unfold wz_213 at h
    refine jy_ldc2 hS rfl (n := 27) (by decide) ?_
    refine jy_iload_n hS rfl rfl ?_
    refine jy_i2l hS rfl rfl ?_
    refine jy_lmul hS rfl rfl ?_
    refine jy_iload_n hS rfl rfl ?_
    refine jy_i2l hS rfl rfl ?_
    refine jy_ladd hS rfl rfl ?_
    refine jy_lstore hS rfl (Nat.le_of_ble_eq_true rfl) (L' := [some (jy a0), some (jy a1), some (jy a2), some (jy a3), some (jy a4), some (jy a5), some (jy a6), some (.long (((27 : Int64) * (Int32.ofInt a0).toInt64) + (Int32.ofInt a1).toInt64)), none]) rfl ?_
    refine jy_iload_n hS rfl rfl ?_
    refine jy_if_ne hS rfl r_a2 (fun hq => ?_) (fun hq => ?_)
    · have h := h.1 hq
      refine jy_ldc2 hS rfl (n := 27) (by decide) ?_
      refine jy_lload hS rfl rfl ?_
      refine jy_lmul hS rfl rfl ?_
      refine jy_iload_n hS rfl rfl ?_
      refine jy_i2l hS rfl rfl ?_
      refine jy_ladd hS rfl rfl ?_
      exact jy_join hS h rfl (jy_sub_n (jy_sub_n (jy_sub_n (jy_sub_s (jy_sub_s (jy_sub_s (jy_sub_s (jy_sub_n (jy_sub_n jy_sub_0)))))))))
    · have h := h.2 hq
      refine jy_lload hS rfl rfl ?_
      refine jy_goto hS rfl ?_
      exact jy_join hS h rfl (jy_sub_n (jy_sub_n (jy_sub_n (jy_sub_s (jy_sub_s (jy_sub_s (jy_sub_s (jy_sub_n (jy_sub_n jy_sub_0)))))))))
  refine ⟨?_, ?_, ?_, ?_⟩
  · intro s0 I h
    unfold wz_213_29 at h
    refine jy_lstore hS rfl (Nat.le_of_ble_eq_true rfl) (L' := [none, none, none, some (jy a3), some (jy a4), some (jy a5), some (jy a6), some (.long s0), none]) rfl ?_
    refine jy_iload_n hS rfl rfl ?_
    refine jy_if_ne hS rfl r_a3 (fun hq => ?_) (fun hq => ?_)
    · have h := h.1 hq
      refine jy_ldc2 hS rfl (n := 27) (by decide) ?_
      refine jy_lload hS rfl rfl ?_
      refine jy_lmul hS rfl rfl ?_
      refine jy_iload_n hS rfl rfl ?_
      refine jy_i2l hS rfl rfl ?_
      refine jy_ladd hS rfl rfl ?_
      exact jy_join hS h rfl (jy_sub_n (jy_sub_n (jy_sub_n (jy_sub_n (jy_sub_s (jy_sub_s (jy_sub_s (jy_sub_n (jy_sub_n jy_sub_0)))))))))
    · have h := h.2 hq
      refine jy_lload hS rfl rfl ?_
      refine jy_goto hS rfl ?_
      exact jy_join hS h rfl (jy_sub_n (jy_sub_n (jy_sub_n (jy_sub_n (jy_sub_s (jy_sub_s (jy_sub_s (jy_sub_n (jy_sub_n jy_sub_0)))))))))
  · intro s0 I h
    unfold wz_213_49 at h
    refine jy_lstore hS rfl (Nat.le_of_ble_eq_true rfl) (L' := [none, none, none, none, some (jy a4), some (jy a5), some (jy a6), some (.long s0), none]) rfl ?_
    refine jy_iload hS rfl rfl ?_
    refine jy_if_ne hS rfl r_a4 (fun hq => ?_) (fun hq => ?_)
    · have h := h.1 hq
      refine jy_ldc2 hS rfl (n := 27) (by decide) ?_
      refine jy_lload hS rfl rfl ?_
      refine jy_lmul hS rfl rfl ?_
      refine jy_iload hS rfl rfl ?_
      refine jy_i2l hS rfl rfl ?_
      refine jy_ladd hS rfl rfl ?_
      exact jy_join hS h rfl (jy_sub_n (jy_sub_n (jy_sub_n (jy_sub_n (jy_sub_n (jy_sub_s (jy_sub_s (jy_sub_n (jy_sub_n jy_sub_0)))))))))
    · have h := h.2 hq
      refine jy_lload hS rfl rfl ?_
      refine jy_goto hS rfl ?_
      exact jy_join hS h rfl (jy_sub_n (jy_sub_n (jy_sub_n (jy_sub_n (jy_sub_n (jy_sub_s (jy_sub_s (jy_sub_n (jy_sub_n jy_sub_0)))))))))
  · intro s0 I h
    unfold wz_213_71 at h
    refine jy_lstore hS rfl (Nat.le_of_ble_eq_true rfl) (L' := [none, none, none, none, none, some (jy a5), some (jy a6), some (.long s0), none]) rfl ?_
    refine jy_iload hS rfl rfl ?_
    refine jy_if_ne hS rfl r_a5 (fun hq => ?_) (fun hq => ?_)
    · have h := h.1 hq
      refine jy_ldc2 hS rfl (n := 27) (by decide) ?_
      refine jy_lload hS rfl rfl ?_
      refine jy_lmul hS rfl rfl ?_
      refine jy_iload hS rfl rfl ?_
      refine jy_i2l hS rfl rfl ?_
      refine jy_ladd hS rfl rfl ?_
      exact jy_join hS h rfl (jy_sub_n (jy_sub_n (jy_sub_n (jy_sub_n (jy_sub_n (jy_sub_n (jy_sub_s (jy_sub_n (jy_sub_n jy_sub_0)))))))))
    · have h := h.2 hq
      refine jy_lload hS rfl rfl ?_
      refine jy_goto hS rfl ?_
      exact jy_join hS h rfl (jy_sub_n (jy_sub_n (jy_sub_n (jy_sub_n (jy_sub_n (jy_sub_n (jy_sub_s (jy_sub_n (jy_sub_n jy_sub_0)))))))))
  · intro s0 I h
    unfold wz_213_93 at h
    refine jy_lstore hS rfl (Nat.le_of_ble_eq_true rfl) (L' := [none, none, none, none, none, none, some (jy a6), some (.long s0), none]) rfl ?_
    refine jy_iload hS rfl rfl ?_
    refine jy_if_ne hS rfl r_a6 (fun hq => ?_) (fun hq => ?_)
    · have h := h.1 hq
      refine jy_ldc2 hS rfl (n := 27) (by decide) ?_
      refine jy_lload hS rfl rfl ?_
      refine jy_lmul hS rfl rfl ?_
      refine jy_iload hS rfl rfl ?_
      refine jy_i2l hS rfl rfl ?_
      refine jy_ladd hS rfl rfl ?_
      exact jy_lret hS rfl rfl ⟨rfl, rfl, h⟩
    · have h := h.2 hq
      refine jy_lload hS rfl rfl ?_
      refine jy_goto hS rfl ?_
      exact jy_lret hS rfl rfl ⟨rfl, rfl, h⟩
theorem jt_214 : jx_ml 214 = 8 ∧ jx_rt 214 = some .boolean ∧ jx_hz 214 = [] ∧ decide ((jx_nm 214).name = "<init>") = false ∧ jx_code 214 = jx_c214 := by decide +kernel
/-- GCModel.isWord -/
def wz_214 (V : jx_V) (X : jx_X) (R : jx_R) (Q : Option Value → jx_I → Prop) (QE : String → jx_I → Prop)  (a0 : Nat) (a1 : Int) (a2 : Int) (a3 : Int) (a4 : Int) (a5 : Int) (a6 : Int) (a7 : Int) (I : jx_I) : Prop :=
  (X.2.1 a0 = some (12, 0)) ∧ (
  ((I a0 5).toInt ≠ 0 → (
    Q (some (jy 0)) I
  )) ∧ ((I a0 5).toInt = 0 → (
    ∃ Q2 : Option Value → jx_I → Prop, (
    (jc V 3 212 (0, 0) [.ref a0] X I R Q2 (fun _ _ => False)) ∧ (
    ∀ rv I4, Q2 rv I4 → ∃ r5 : Int64, rv = some (.long r5) ∧ (
    ∃ Q6 : Option Value → jx_I → Prop, (
    (jc V 1 213 (0, 0) [jy a1, jy a2, jy a3, jy a4, jy a5, jy a6, jy a7] X I4 R Q6 (fun _ _ => False)) ∧ (
    ∀ rv I8, Q6 rv I8 → ∃ r9 : Int64, rv = some (.long r9) ∧ (
    ((lg_cmp r5 r9).toInt ≠ 0 → (
      Q (some (jy 0)) I8
    )) ∧ ((lg_cmp r5 r9).toInt = 0 → (
      Q (some (jy 1)) I8
    ))))))))
  )))
set_option maxRecDepth 20000 in
theorem wm_214 {V : jx_V} (hV : V.1.stackTraces = false) {X : jx_X} {R : jx_R} {I : jx_I} {Q : Option Value → jx_I → Prop} {QE : String → jx_I → Prop} {a0 : Nat} {a1 : Int} {a2 : Int} {a3 : Int} {a4 : Int} {a5 : Int} {a6 : Int} {a7 : Int} (r_a1 : -2147483648 ≤ a1 ∧ a1 < 2147483648) (r_a2 : -2147483648 ≤ a2 ∧ a2 < 2147483648) (r_a3 : -2147483648 ≤ a3 ∧ a3 < 2147483648) (r_a4 : -2147483648 ≤ a4 ∧ a4 < 2147483648) (r_a5 : -2147483648 ≤ a5 ∧ a5 < 2147483648) (r_a6 : -2147483648 ≤ a6 ∧ a6 < 2147483648) (r_a7 : -2147483648 ≤ a7 ∧ a7 < 2147483648) 
    (h : wz_214 V X R Q QE  a0 a1 a2 a3 a4 a5 a6 a7 I) : jc V 4 214 (0, 0) [.ref a0, jy a1, jy a2, jy a3, jy a4, jy a5, jy a6, jy a7] X I R Q QE := by
  refine jy_met hV (by decide) (n := 8) (rt := some .boolean) (hh := []) (ini := false) (C := jx_c214) (L := [some (.ref a0), some (jy a1), some (jy a2), some (jy a3), some (jy a4), some (jy a5), some (jy a6), some (jy a7)]) jt_214 (Nat.le_of_ble_eq_true rfl) rfl ?_
  intro J hS
  unfold wz_214 at h
  refine jy_aload_n hS rfl rfl ?_
  obtain ⟨g1, h⟩ := h
  refine jy_getI hS rfl (by decide) g1 ?_
  refine jy_if_ne hS rfl (jy_rng _) (fun hq => ?_) (fun hq => ?_)
  · have h := h.1 hq
    refine jy_iconst hS rfl ?_
    exact jy_iret hS rfl rfl ⟨rfl, rfl, h⟩
  · have h := h.2 hq
    refine jy_aload_n hS rfl rfl ?_
    obtain ⟨Q2, h⟩ := h
    obtain ⟨g3, h⟩ := h
    refine jy_callV hS rfl rfl rfl (Nat.le_of_ble_eq_true rfl) (Or.inl g1) g3 (by decide) ⟨by decide, by decide⟩ (Nat.le_of_ble_eq_true rfl) ?_ ?_
    rotate_left
    · exact fun Ex Xx Ix Rx hp => hp.2.2.2.elim
    intro rv Xx I4 Rx hp
    obtain ⟨e1, e2, hp⟩ := hp
    rw [e1, e2]
    clear e1 e2
    obtain ⟨r5, e1, h⟩ := h rv I4 hp
    rw [e1]
    clear e1
    change J 11 [.long r5] _ (0, 0) _ _ _
    refine jy_iload_n hS rfl rfl ?_
    refine jy_iload_n hS rfl rfl ?_
    refine jy_iload_n hS rfl rfl ?_
    refine jy_iload hS rfl rfl ?_
    refine jy_iload hS rfl rfl ?_
    refine jy_iload hS rfl rfl ?_
    refine jy_iload hS rfl rfl ?_
    obtain ⟨Q6, h⟩ := h
    obtain ⟨g7, h⟩ := h
    refine jy_callS hS rfl rfl rfl (Nat.le_of_ble_eq_true rfl) g7 (by decide) ⟨by decide, by decide⟩ (Nat.le_of_ble_eq_true rfl) ?_ ?_
    rotate_left
    · exact fun Ex Xx Ix Rx hp => hp.2.2.2.elim
    intro rv Xx I8 Rx hp
    obtain ⟨e1, e2, hp⟩ := hp
    rw [e1, e2]
    clear e1 e2
    obtain ⟨r9, e1, h⟩ := h rv I8 hp
    rw [e1]
    clear e1
    change J 25 [.long r9, .long r5] _ (0, 0) _ _ _
    refine jy_lcmp hS rfl ?_
    refine jy_if_ne hS rfl (jy_rng _) (fun hq => ?_) (fun hq => ?_)
    · have h := h.1 hq
      refine jy_iconst hS rfl ?_
      exact jy_iret hS rfl rfl ⟨rfl, rfl, h⟩
    · have h := h.2 hq
      refine jy_iconst hS rfl ?_
      refine jy_goto hS rfl ?_
      exact jy_iret hS rfl rfl ⟨rfl, rfl, h⟩
theorem jt_215 : jx_ml 215 = 1 ∧ jx_rt 215 = none ∧ jx_hz 215 = [] ∧ decide ((jx_nm 215).name = "<init>") = false ∧ jx_code 215 = jx_c215 := by decide +kernel
/-- GCModel.skipWord, from 0 -/
def wz_215_0 (V : jx_V) (X : jx_X) (R : jx_R) (Q : Option Value → jx_I → Prop) (QE : String → jx_I → Prop) (J0 : jx_I → Prop) (a0 : Nat)  (I : jx_I) : Prop :=
  (X.2.1 a0 = some (12, 0)) ∧ (
  ∃ Q2 : Option Value → jx_I → Prop, (
  (jc V 1 206 (0, 0) [.ref a0, jy ((I a0 4).toInt)] X I R Q2 (fun _ _ => False)) ∧ (
  ∀ rv I4, Q2 rv I4 → ∃ r5 : Int, rv = some (jy r5) ∧ (
  (-2147483648 ≤ r5 ∧ r5 < 2147483648) ∧ (
  (r5 < 97 → (
    Q none I4
  )) ∧ (¬ r5 < 97 → (
    ∃ Q7 : Option Value → jx_I → Prop, (
    (jc V 1 206 (0, 0) [.ref a0, jy ((I4 a0 4).toInt)] X I4 R Q7 (fun _ _ => False)) ∧ (
    ∀ rv I9, Q7 rv I9 → ∃ r10 : Int, rv = some (jy r10) ∧ (
    (-2147483648 ≤ r10 ∧ r10 < 2147483648) ∧ (
    (122 < r10 → (
      Q none I9
    )) ∧ (¬ 122 < r10 → (
      ∀ I12 : jx_I, I12 = jx_u I9 a0 4 (Int32.ofInt ((I9 a0 4).toInt + 1)) → (
      J0 I12)
    ))))))
  )))))))
/-- GCModel.skipWord -/
def wz_215 (V : jx_V) (X : jx_X) (R : jx_R) (Q : Option Value → jx_I → Prop) (QE : String → jx_I → Prop) (J0 : jx_I → Prop) (a0 : Nat) (I : jx_I) : Prop :=
  J0 I
set_option maxRecDepth 20000 in
theorem wm_215 {V : jx_V} (hV : V.1.stackTraces = false) {X : jx_X} {R : jx_R} {I : jx_I} {Q : Option Value → jx_I → Prop} {QE : String → jx_I → Prop} {a0 : Nat}  
    (h : ∀ (J0 : jx_I → Prop), ((∀  I, wz_215_0 V X R Q QE J0 a0  I → J0  I)) → wz_215 V X R Q QE J0 a0 I) : jc V 2 215 (0, 0) [.ref a0] X I R Q QE := by
  refine jy_met hV (by decide) (n := 1) (rt := none) (hh := []) (ini := false) (C := jx_c215) (L := [some (.ref a0)]) jt_215 (Nat.le_of_ble_eq_true rfl) rfl ?_
  intro J hS
  have h := h (fun  I => J 0 [] [some (.ref a0)] (0, 0) X I R) ?_
  · unfold wz_215 at h
    exact jy_join hS h rfl (jy_sub_s jy_sub_0)
  · intro  I h
    unfold wz_215_0 at h
    refine jy_aload_n hS rfl rfl ?_
    refine jy_aload_n hS rfl rfl ?_
    obtain ⟨g1, h⟩ := h
    refine jy_getI hS rfl (by decide) g1 ?_
    obtain ⟨Q2, h⟩ := h
    obtain ⟨g3, h⟩ := h
    refine jy_callV hS rfl rfl rfl (Nat.le_of_ble_eq_true rfl) (Or.inl g1) g3 (by decide) ⟨by decide, by decide⟩ (Nat.le_of_ble_eq_true rfl) ?_ ?_
    rotate_left
    · exact fun Ex Xx Ix Rx hp => hp.2.2.2.elim
    intro rv Xx I4 Rx hp
    obtain ⟨e1, e2, hp⟩ := hp
    rw [e1, e2]
    clear e1 e2
    obtain ⟨r5, e1, h⟩ := h rv I4 hp
    rw [e1]
    clear e1
    change J 8 [jy r5] _ (0, 0) _ _ _
    refine jy_bipush hS rfl (by decide) ?_
    obtain ⟨g6, h⟩ := h
    refine jy_icmp_lt hS rfl ⟨g6, ⟨by decide, by decide⟩⟩ (fun hq => ?_) (fun hq => ?_)
    · have h := h.1 hq
      exact jy_ret hS rfl rfl ⟨rfl, rfl, h⟩
    · have h := h.2 hq
      refine jy_aload_n hS rfl rfl ?_
      refine jy_aload_n hS rfl rfl ?_
      refine jy_getI hS rfl (by decide) g1 ?_
      obtain ⟨Q7, h⟩ := h
      obtain ⟨g8, h⟩ := h
      refine jy_callV hS rfl rfl rfl (Nat.le_of_ble_eq_true rfl) (Or.inl g1) g8 (by decide) ⟨by decide, by decide⟩ (Nat.le_of_ble_eq_true rfl) ?_ ?_
      rotate_left
      · exact fun Ex Xx Ix Rx hp => hp.2.2.2.elim
      intro rv Xx I9 Rx hp
      obtain ⟨e1, e2, hp⟩ := hp
      rw [e1, e2]
      clear e1 e2
      obtain ⟨r10, e1, h⟩ := h rv I9 hp
      rw [e1]
      clear e1
      change J 21 [jy r10] _ (0, 0) _ _ _
      refine jy_bipush hS rfl (by decide) ?_
      obtain ⟨g11, h⟩ := h
      refine jy_icmp_gt hS rfl ⟨g11, ⟨by decide, by decide⟩⟩ (fun hq => ?_) (fun hq => ?_)
      · have h := h.1 hq
        exact jy_ret hS rfl rfl ⟨rfl, rfl, h⟩
      · have h := h.2 hq
        refine jy_aload_n hS rfl rfl ?_
        refine jy_dup hS rfl rfl ?_
        refine jy_getI hS rfl (by decide) g1 ?_
        refine jy_iconst hS rfl ?_
        refine jy_iadd hS rfl ?_
        refine jy_putI hS rfl (by decide) g1 ?_
        intro I12 e9
        have h := h I12 e9
        clear e9
        refine jy_goto hS rfl ?_
        exact jy_join hS h rfl (jy_sub_s jy_sub_0)
theorem jt_216 : jx_ml 216 = 9 ∧ jx_rt 216 = some .boolean ∧ jx_hz 216 = [] ∧ decide ((jx_nm 216).name = "<init>") = false ∧ jx_code 216 = jx_c216 := by decide +kernel
/-- GCModel.takes -/
def wz_216 (V : jx_V) (X : jx_X) (R : jx_R) (Q : Option Value → jx_I → Prop) (QE : String → jx_I → Prop)  (a0 : Nat) (a1 : Int) (a2 : Int) (a3 : Int) (a4 : Int) (a5 : Int) (a6 : Int) (a7 : Int) (I : jx_I) : Prop :=
  (X.2.1 a0 = some (12, 0)) ∧ (
  ∃ Q2 : Option Value → jx_I → Prop, (
  (jc V 4 214 (0, 0) [.ref a0, jy a1, jy a2, jy a3, jy a4, jy a5, jy a6, jy a7] X I R Q2 (fun _ _ => False)) ∧ (
  ∀ rv I4, Q2 rv I4 → ∃ r5 : Int, rv = some (jy r5) ∧ (
  (-2147483648 ≤ r5 ∧ r5 < 2147483648) ∧ (
  (r5 = 0 → (
    (r5 = 0 ∨ r5 = 1) ∧ (
    Q (some (jy r5)) I4)
  )) ∧ (¬ r5 = 0 → (
    ∃ Q8 : Option Value → jx_I → Prop, (
    (jc V 2 215 (0, 0) [.ref a0] X I4 R Q8 (fun _ _ => False)) ∧ (
    ∀ rv I10, Q8 rv I10 → rv = none ∧ (
    (r5 = 0 ∨ r5 = 1) ∧ (
    Q (some (jy r5)) I10))))
  )))))))
set_option maxRecDepth 20000 in
theorem wm_216 {V : jx_V} (hV : V.1.stackTraces = false) {X : jx_X} {R : jx_R} {I : jx_I} {Q : Option Value → jx_I → Prop} {QE : String → jx_I → Prop} {a0 : Nat} {a1 : Int} {a2 : Int} {a3 : Int} {a4 : Int} {a5 : Int} {a6 : Int} {a7 : Int} (r_a1 : -2147483648 ≤ a1 ∧ a1 < 2147483648) (r_a2 : -2147483648 ≤ a2 ∧ a2 < 2147483648) (r_a3 : -2147483648 ≤ a3 ∧ a3 < 2147483648) (r_a4 : -2147483648 ≤ a4 ∧ a4 < 2147483648) (r_a5 : -2147483648 ≤ a5 ∧ a5 < 2147483648) (r_a6 : -2147483648 ≤ a6 ∧ a6 < 2147483648) (r_a7 : -2147483648 ≤ a7 ∧ a7 < 2147483648) 
    (h : wz_216 V X R Q QE  a0 a1 a2 a3 a4 a5 a6 a7 I) : jc V 5 216 (0, 0) [.ref a0, jy a1, jy a2, jy a3, jy a4, jy a5, jy a6, jy a7] X I R Q QE := by
  refine jy_met hV (by decide) (n := 9) (rt := some .boolean) (hh := []) (ini := false) (C := jx_c216) (L := [some (.ref a0), some (jy a1), some (jy a2), some (jy a3), some (jy a4), some (jy a5), some (jy a6), some (jy a7), none]) jt_216 (Nat.le_of_ble_eq_true rfl) rfl ?_
  intro J hS
  unfold wz_216 at h
  refine jy_aload_n hS rfl rfl ?_
  refine jy_iload_n hS rfl rfl ?_
  refine jy_iload_n hS rfl rfl ?_
  refine jy_iload_n hS rfl rfl ?_
  refine jy_iload hS rfl rfl ?_
  refine jy_iload hS rfl rfl ?_
  refine jy_iload hS rfl rfl ?_
  refine jy_iload hS rfl rfl ?_
  obtain ⟨g1, h⟩ := h
  obtain ⟨Q2, h⟩ := h
  obtain ⟨g3, h⟩ := h
  refine jy_callV hS rfl rfl rfl (Nat.le_of_ble_eq_true rfl) (Or.inl g1) g3 (by decide) ⟨by decide, by decide⟩ (Nat.le_of_ble_eq_true rfl) ?_ ?_
  rotate_left
  · exact fun Ex Xx Ix Rx hp => hp.2.2.2.elim
  intro rv Xx I4 Rx hp
  obtain ⟨e1, e2, hp⟩ := hp
  rw [e1, e2]
  clear e1 e2
  obtain ⟨r5, e1, h⟩ := h rv I4 hp
  rw [e1]
  clear e1
  change J 15 [jy r5] _ (0, 0) _ _ _
  refine jy_istore hS rfl (Nat.le_of_ble_eq_true rfl) (L' := [some (.ref a0), some (jy a1), some (jy a2), some (jy a3), some (jy a4), some (jy a5), some (jy a6), some (jy a7), some (jy r5)]) rfl ?_
  refine jy_iload hS rfl rfl ?_
  obtain ⟨g6, h⟩ := h
  refine jy_if_eq hS rfl g6 (fun hq => ?_) (fun hq => ?_)
  · have h := h.1 hq
    refine jy_iload hS rfl rfl ?_
    obtain ⟨g7, h⟩ := h
    exact jy_iret hS rfl (by rcases g7 with q | q <;> rw [q] <;> rfl) ⟨rfl, rfl, h⟩
  · have h := h.2 hq
    refine jy_aload_n hS rfl rfl ?_
    obtain ⟨Q8, h⟩ := h
    obtain ⟨g9, h⟩ := h
    refine jy_callV hS rfl rfl rfl (Nat.le_of_ble_eq_true rfl) (Or.inl g1) g9 (by decide) ⟨by decide, by decide⟩ (Nat.le_of_ble_eq_true rfl) ?_ ?_
    rotate_left
    · exact fun Ex Xx Ix Rx hp => hp.2.2.2.elim
    intro rv Xx I10 Rx hp
    obtain ⟨e1, e2, hp⟩ := hp
    rw [e1, e2]
    clear e1 e2
    obtain ⟨e1, h⟩ := h rv I10 hp
    rw [e1]
    clear e1
    change J 26 [] _ (0, 0) _ _ _
    refine jy_iload hS rfl rfl ?_
    obtain ⟨g12, h⟩ := h
    exact jy_iret hS rfl (by rcases g12 with q | q <;> rw [q] <;> rfl) ⟨rfl, rfl, h⟩
theorem jt_217 : jx_ml 217 = 2 ∧ jx_rt 217 = none ∧ jx_hz 217 = [] ∧ decide ((jx_nm 217).name = "<init>") = false ∧ jx_code 217 = jx_c217 := by decide +kernel
/-- GCModel.sign -/
def wz_217 (V : jx_V) (X : jx_X) (R : jx_R) (Q : Option Value → jx_I → Prop) (QE : String → jx_I → Prop)  (a0 : Nat) (a1 : Int) (I : jx_I) : Prop :=
  (X.2.1 a0 = some (12, 0)) ∧ (
  ((I a0 5).toInt = 0 → (
    ∃ Q2 : Option Value → jx_I → Prop, (
    (jc V 2 207 (0, 0) [.ref a0] X I R Q2 (fun _ _ => False)) ∧ (
    ∀ rv I4, Q2 rv I4 → rv = none ∧ (
    ∃ Q6 : Option Value → jx_I → Prop, (
    (jc V 1 206 (0, 0) [.ref a0, jy ((I4 a0 4).toInt)] X I4 R Q6 (fun _ _ => False)) ∧ (
    ∀ rv I8, Q6 rv I8 → ∃ r9 : Int, rv = some (jy r9) ∧ (
    (-2147483648 ≤ r9 ∧ r9 < 2147483648) ∧ (
    (r9 ≠ a1 → (
      ∃ Q11 : Option Value → jx_I → Prop, (
      (jc V 1 208 (0, 0) [.ref a0, jy 1, jy ((I8 a0 4).toInt)] X I8 R Q11 (fun _ _ => False)) ∧ (
      ∀ rv I13, Q11 rv I13 → rv = none ∧ (
      Q none I13)))
    )) ∧ (r9 = a1 → (
      ∀ I15 : jx_I, I15 = jx_u I8 a0 4 (Int32.ofInt ((I8 a0 4).toInt + 1)) → (
      Q none I15)
    )))))))))
  )) ∧ (¬ (I a0 5).toInt = 0 → (
    Q none I
  )))
set_option maxRecDepth 20000 in
theorem wm_217 {V : jx_V} (hV : V.1.stackTraces = false) {X : jx_X} {R : jx_R} {I : jx_I} {Q : Option Value → jx_I → Prop} {QE : String → jx_I → Prop} {a0 : Nat} {a1 : Int} (r_a1 : -2147483648 ≤ a1 ∧ a1 < 2147483648) 
    (h : wz_217 V X R Q QE  a0 a1 I) : jc V 3 217 (0, 0) [.ref a0, jy a1] X I R Q QE := by
  refine jy_met hV (by decide) (n := 2) (rt := none) (hh := []) (ini := false) (C := jx_c217) (L := [some (.ref a0), some (jy a1)]) jt_217 (Nat.le_of_ble_eq_true rfl) rfl ?_
  intro J hS
  unfold wz_217 at h
  refine jy_aload_n hS rfl rfl ?_
  obtain ⟨g1, h⟩ := h
  refine jy_getI hS rfl (by decide) g1 ?_
  refine jy_if_eq hS rfl (jy_rng _) (fun hq => ?_) (fun hq => ?_)
  · have h := h.1 hq
    refine jy_aload_n hS rfl rfl ?_
    obtain ⟨Q2, h⟩ := h
    obtain ⟨g3, h⟩ := h
    refine jy_callV hS rfl rfl rfl (Nat.le_of_ble_eq_true rfl) (Or.inl g1) g3 (by decide) ⟨by decide, by decide⟩ (Nat.le_of_ble_eq_true rfl) ?_ ?_
    rotate_left
    · exact fun Ex Xx Ix Rx hp => hp.2.2.2.elim
    intro rv Xx I4 Rx hp
    obtain ⟨e1, e2, hp⟩ := hp
    rw [e1, e2]
    clear e1 e2
    obtain ⟨e1, h⟩ := h rv I4 hp
    rw [e1]
    clear e1
    change J 12 [] _ (0, 0) _ _ _
    refine jy_aload_n hS rfl rfl ?_
    refine jy_aload_n hS rfl rfl ?_
    refine jy_getI hS rfl (by decide) g1 ?_
    obtain ⟨Q6, h⟩ := h
    obtain ⟨g7, h⟩ := h
    refine jy_callV hS rfl rfl rfl (Nat.le_of_ble_eq_true rfl) (Or.inl g1) g7 (by decide) ⟨by decide, by decide⟩ (Nat.le_of_ble_eq_true rfl) ?_ ?_
    rotate_left
    · exact fun Ex Xx Ix Rx hp => hp.2.2.2.elim
    intro rv Xx I8 Rx hp
    obtain ⟨e1, e2, hp⟩ := hp
    rw [e1, e2]
    clear e1 e2
    obtain ⟨r9, e1, h⟩ := h rv I8 hp
    rw [e1]
    clear e1
    change J 20 [jy r9] _ (0, 0) _ _ _
    refine jy_iload_n hS rfl rfl ?_
    obtain ⟨g10, h⟩ := h
    refine jy_icmp_ne hS rfl ⟨g10, r_a1⟩ (fun hq => ?_) (fun hq => ?_)
    · have h := h.1 hq
      refine jy_aload_n hS rfl rfl ?_
      refine jy_iconst hS rfl ?_
      refine jy_aload_n hS rfl rfl ?_
      refine jy_getI hS rfl (by decide) g1 ?_
      obtain ⟨Q11, h⟩ := h
      obtain ⟨g12, h⟩ := h
      refine jy_callV hS rfl rfl rfl (Nat.le_of_ble_eq_true rfl) (Or.inl g1) g12 (by decide) ⟨by decide, by decide⟩ (Nat.le_of_ble_eq_true rfl) ?_ ?_
      rotate_left
      · exact fun Ex Xx Ix Rx hp => hp.2.2.2.elim
      intro rv Xx I13 Rx hp
      obtain ⟨e1, e2, hp⟩ := hp
      rw [e1, e2]
      clear e1 e2
      obtain ⟨e1, h⟩ := h rv I13 hp
      rw [e1]
      clear e1
      change J 46 [] _ (0, 0) _ _ _
      exact jy_ret hS rfl rfl ⟨rfl, rfl, h⟩
    · have h := h.2 hq
      refine jy_aload_n hS rfl rfl ?_
      refine jy_dup hS rfl rfl ?_
      refine jy_getI hS rfl (by decide) g1 ?_
      refine jy_iconst hS rfl ?_
      refine jy_iadd hS rfl ?_
      refine jy_putI hS rfl (by decide) g1 ?_
      intro I15 e9
      have h := h I15 e9
      clear e9
      refine jy_goto hS rfl ?_
      exact jy_ret hS rfl rfl ⟨rfl, rfl, h⟩
  · have h := h.2 hq
    exact jy_ret hS rfl rfl ⟨rfl, rfl, h⟩
theorem jt_218 : jx_ml 218 = 3 ∧ jx_rt 218 = some .boolean ∧ jx_hz 218 = [] ∧ decide ((jx_nm 218).name = "<init>") = false ∧ jx_code 218 = jx_c218 := by decide +kernel
/-- GCModel.takesSign, from 30 -/
def wz_218_30 (V : jx_V) (X : jx_X) (R : jx_R) (Q : Option Value → jx_I → Prop) (QE : String → jx_I → Prop) (J30 : Int → jx_I → Prop) (a0 : Nat) (a1 : Int) (s0 : Int) (I : jx_I) : Prop :=
  (-2147483648 ≤ s0 ∧ s0 < 2147483648) ∧ (
  (s0 = 0 → (
    (s0 = 0 ∨ s0 = 1) ∧ (
    Q (some (jy s0)) I)
  )) ∧ (¬ s0 = 0 → (
    (X.2.1 a0 = some (12, 0)) ∧ (
    ∀ I14 : jx_I, I14 = jx_u I a0 4 (Int32.ofInt ((I a0 4).toInt + 1)) → (
    (s0 = 0 ∨ s0 = 1) ∧ (
    Q (some (jy s0)) I14)))
  )))
/-- GCModel.takesSign -/
def wz_218 (V : jx_V) (X : jx_X) (R : jx_R) (Q : Option Value → jx_I → Prop) (QE : String → jx_I → Prop) (J30 : Int → jx_I → Prop) (a0 : Nat) (a1 : Int) (I : jx_I) : Prop :=
  (X.2.1 a0 = some (12, 0)) ∧ (
  ((I a0 5).toInt = 0 → (
    ∃ Q2 : Option Value → jx_I → Prop, (
    (jc V 2 207 (0, 0) [.ref a0] X I R Q2 (fun _ _ => False)) ∧ (
    ∀ rv I4, Q2 rv I4 → rv = none ∧ (
    ∃ Q6 : Option Value → jx_I → Prop, (
    (jc V 1 206 (0, 0) [.ref a0, jy ((I4 a0 4).toInt)] X I4 R Q6 (fun _ _ => False)) ∧ (
    ∀ rv I8, Q6 rv I8 → ∃ r9 : Int, rv = some (jy r9) ∧ (
    (-2147483648 ≤ r9 ∧ r9 < 2147483648) ∧ (
    (r9 ≠ a1 → (
      J30 0 I8
    )) ∧ (r9 = a1 → (
      J30 1 I8
    )))))))))
  )) ∧ (¬ (I a0 5).toInt = 0 → (
    Q (some (jy 0)) I
  )))
set_option maxRecDepth 20000 in
theorem wm_218 {V : jx_V} (hV : V.1.stackTraces = false) {X : jx_X} {R : jx_R} {I : jx_I} {Q : Option Value → jx_I → Prop} {QE : String → jx_I → Prop} {a0 : Nat} {a1 : Int} (r_a1 : -2147483648 ≤ a1 ∧ a1 < 2147483648) 
    (h : ∀ (J30 : Int → jx_I → Prop), ((∀ (s0 : Int) I, wz_218_30 V X R Q QE J30 a0 a1 s0 I → J30 s0 I)) → wz_218 V X R Q QE J30 a0 a1 I) : jc V 3 218 (0, 0) [.ref a0, jy a1] X I R Q QE := by
  refine jy_met hV (by decide) (n := 3) (rt := some .boolean) (hh := []) (ini := false) (C := jx_c218) (L := [some (.ref a0), some (jy a1), none]) jt_218 (Nat.le_of_ble_eq_true rfl) rfl ?_
  intro J hS
  have h := h (fun s0 I => J 30 [jy s0] [some (.ref a0), none, none] (0, 0) X I R) ?_
  · unfold wz_218 at h
    refine jy_aload_n hS rfl rfl ?_
    obtain ⟨g1, h⟩ := h
    refine jy_getI hS rfl (by decide) g1 ?_
    refine jy_if_eq hS rfl (jy_rng _) (fun hq => ?_) (fun hq => ?_)
    · have h := h.1 hq
      refine jy_aload_n hS rfl rfl ?_
      obtain ⟨Q2, h⟩ := h
      obtain ⟨g3, h⟩ := h
      refine jy_callV hS rfl rfl rfl (Nat.le_of_ble_eq_true rfl) (Or.inl g1) g3 (by decide) ⟨by decide, by decide⟩ (Nat.le_of_ble_eq_true rfl) ?_ ?_
      rotate_left
      · exact fun Ex Xx Ix Rx hp => hp.2.2.2.elim
      intro rv Xx I4 Rx hp
      obtain ⟨e1, e2, hp⟩ := hp
      rw [e1, e2]
      clear e1 e2
      obtain ⟨e1, h⟩ := h rv I4 hp
      rw [e1]
      clear e1
      change J 13 [] _ (0, 0) _ _ _
      refine jy_aload_n hS rfl rfl ?_
      refine jy_aload_n hS rfl rfl ?_
      refine jy_getI hS rfl (by decide) g1 ?_
      obtain ⟨Q6, h⟩ := h
      obtain ⟨g7, h⟩ := h
      refine jy_callV hS rfl rfl rfl (Nat.le_of_ble_eq_true rfl) (Or.inl g1) g7 (by decide) ⟨by decide, by decide⟩ (Nat.le_of_ble_eq_true rfl) ?_ ?_
      rotate_left
      · exact fun Ex Xx Ix Rx hp => hp.2.2.2.elim
      intro rv Xx I8 Rx hp
      obtain ⟨e1, e2, hp⟩ := hp
      rw [e1, e2]
      clear e1 e2
      obtain ⟨r9, e1, h⟩ := h rv I8 hp
      rw [e1]
      clear e1
      change J 21 [jy r9] _ (0, 0) _ _ _
      refine jy_iload_n hS rfl rfl ?_
      obtain ⟨g10, h⟩ := h
      refine jy_icmp_ne hS rfl ⟨g10, r_a1⟩ (fun hq => ?_) (fun hq => ?_)
      · have h := h.1 hq
        refine jy_iconst hS rfl ?_
        exact jy_join hS h rfl (jy_sub_s (jy_sub_n (jy_sub_n jy_sub_0)))
      · have h := h.2 hq
        refine jy_iconst hS rfl ?_
        refine jy_goto hS rfl ?_
        exact jy_join hS h rfl (jy_sub_s (jy_sub_n (jy_sub_n jy_sub_0)))
    · have h := h.2 hq
      refine jy_iconst hS rfl ?_
      exact jy_iret hS rfl rfl ⟨rfl, rfl, h⟩
  · intro s0 I h
    unfold wz_218_30 at h
    refine jy_istore_n hS rfl (Nat.le_of_ble_eq_true rfl) (L' := [some (.ref a0), none, some (jy s0)]) rfl ?_
    refine jy_iload_n hS rfl rfl ?_
    obtain ⟨g11, h⟩ := h
    refine jy_if_eq hS rfl g11 (fun hq => ?_) (fun hq => ?_)
    · have h := h.1 hq
      refine jy_iload_n hS rfl rfl ?_
      obtain ⟨g12, h⟩ := h
      exact jy_iret hS rfl (by rcases g12 with q | q <;> rw [q] <;> rfl) ⟨rfl, rfl, h⟩
    · have h := h.2 hq
      refine jy_aload_n hS rfl rfl ?_
      refine jy_dup hS rfl rfl ?_
      obtain ⟨g13, h⟩ := h
      refine jy_getI hS rfl (by decide) g13 ?_
      refine jy_iconst hS rfl ?_
      refine jy_iadd hS rfl ?_
      refine jy_putI hS rfl (by decide) g13 ?_
      intro I14 e9
      have h := h I14 e9
      clear e9
      refine jy_iload_n hS rfl rfl ?_
      obtain ⟨g15, h⟩ := h
      exact jy_iret hS rfl (by rcases g15 with q | q <;> rw [q] <;> rfl) ⟨rfl, rfl, h⟩
theorem jt_219 : jx_ml 219 = 2 ∧ jx_rt 219 = none ∧ jx_hz 219 = [] ∧ decide ((jx_nm 219).name = "<init>") = false ∧ jx_code 219 = jx_c219 := by decide +kernel
/-- GCModel.starts -/
def wz_219 (V : jx_V) (X : jx_X) (R : jx_R) (Q : Option Value → jx_I → Prop) (QE : String → jx_I → Prop)  (a0 : Nat) (a1 : Int) (I : jx_I) : Prop :=
  (X.2.1 a0 = some (12, 0)) ∧ (
  ∀ I2 : jx_I, I2 = jx_u I a0 1 (Int32.ofInt 0) → (
  ∀ I3 : jx_I, I3 = jx_u I2 a0 2 (Int32.ofInt a1) → (
  ∀ I4 : jx_I, I4 = jx_u I3 a0 4 (Int32.ofInt 0) → (
  ∀ I5 : jx_I, I5 = jx_u I4 a0 5 (Int32.ofInt 0) → (
  ∀ I6 : jx_I, I6 = jx_u I5 a0 6 (Int32.ofInt (-1)) → (
  ∀ I7 : jx_I, I7 = jx_u I6 a0 7 (Int32.ofInt 0) → (
  ∀ I8 : jx_I, I8 = jx_u I7 a0 25 (Int32.ofInt 0) → (
  ∃ Q9 : Option Value → jx_I → Prop, (
  (jc V 2 207 (0, 0) [.ref a0] X I8 R Q9 (fun _ _ => False)) ∧ (
  ∀ rv I11, Q9 rv I11 → rv = none ∧ (
  Q none I11)))))))))))
set_option maxRecDepth 20000 in
theorem wm_219 {V : jx_V} (hV : V.1.stackTraces = false) {X : jx_X} {R : jx_R} {I : jx_I} {Q : Option Value → jx_I → Prop} {QE : String → jx_I → Prop} {a0 : Nat} {a1 : Int} (r_a1 : -2147483648 ≤ a1 ∧ a1 < 2147483648) 
    (h : wz_219 V X R Q QE  a0 a1 I) : jc V 3 219 (0, 0) [.ref a0, jy a1] X I R Q QE := by
  refine jy_met hV (by decide) (n := 2) (rt := none) (hh := []) (ini := false) (C := jx_c219) (L := [some (.ref a0), some (jy a1)]) jt_219 (Nat.le_of_ble_eq_true rfl) rfl ?_
  intro J hS
  unfold wz_219 at h
  refine jy_aload_n hS rfl rfl ?_
  refine jy_iconst hS rfl ?_
  obtain ⟨g1, h⟩ := h
  refine jy_putI hS rfl (by decide) g1 ?_
  intro I2 e9
  have h := h I2 e9
  clear e9
  refine jy_aload_n hS rfl rfl ?_
  refine jy_iload_n hS rfl rfl ?_
  refine jy_putI hS rfl (by decide) g1 ?_
  intro I3 e9
  have h := h I3 e9
  clear e9
  refine jy_aload_n hS rfl rfl ?_
  refine jy_iconst hS rfl ?_
  refine jy_putI hS rfl (by decide) g1 ?_
  intro I4 e9
  have h := h I4 e9
  clear e9
  refine jy_aload_n hS rfl rfl ?_
  refine jy_iconst hS rfl ?_
  refine jy_putI hS rfl (by decide) g1 ?_
  intro I5 e9
  have h := h I5 e9
  clear e9
  refine jy_aload_n hS rfl rfl ?_
  refine jy_iconst hS rfl ?_
  refine jy_putI hS rfl (by decide) g1 ?_
  intro I6 e9
  have h := h I6 e9
  clear e9
  refine jy_aload_n hS rfl rfl ?_
  refine jy_iconst hS rfl ?_
  refine jy_putI hS rfl (by decide) g1 ?_
  intro I7 e9
  have h := h I7 e9
  clear e9
  refine jy_aload_n hS rfl rfl ?_
  refine jy_iconst hS rfl ?_
  refine jy_putI hS rfl (by decide) g1 ?_
  intro I8 e9
  have h := h I8 e9
  clear e9
  refine jy_aload_n hS rfl rfl ?_
  obtain ⟨Q9, h⟩ := h
  obtain ⟨g10, h⟩ := h
  refine jy_callV hS rfl rfl rfl (Nat.le_of_ble_eq_true rfl) (Or.inl g1) g10 (by decide) ⟨by decide, by decide⟩ (Nat.le_of_ble_eq_true rfl) ?_ ?_
  rotate_left
  · exact fun Ex Xx Ix Rx hp => hp.2.2.2.elim
  intro rv Xx I11 Rx hp
  obtain ⟨e1, e2, hp⟩ := hp
  rw [e1, e2]
  clear e1 e2
  obtain ⟨e1, h⟩ := h rv I11 hp
  rw [e1]
  clear e1
  change J 39 [] _ (0, 0) _ _ _
  exact jy_ret hS rfl rfl ⟨rfl, rfl, h⟩
theorem jt_220 : jx_ml 220 = 1 ∧ jx_rt 220 = some .int ∧ jx_hz 220 = [] ∧ decide ((jx_nm 220).name = "<init>") = false ∧ jx_code 220 = jx_c220 := by decide +kernel
/-- GCModel.kindHere -/
def wz_220 (V : jx_V) (X : jx_X) (R : jx_R) (Q : Option Value → jx_I → Prop) (QE : String → jx_I → Prop)  (a0 : Nat) (I : jx_I) : Prop :=
  (X.2.1 a0 = some (12, 0)) ∧ (
  ∃ Q2 : Option Value → jx_I → Prop, (
  (jc V 4 214 (0, 0) [.ref a0, jy 16, jy 12, jy 1, jy 3, jy 5, jy 0, jy 0] X I R Q2 (fun _ _ => False)) ∧ (
  ∀ rv I4, Q2 rv I4 → ∃ r5 : Int, rv = some (jy r5) ∧ (
  (-2147483648 ≤ r5 ∧ r5 < 2147483648) ∧ (
  (r5 = 0 → (
    ∃ Q7 : Option Value → jx_I → Prop, (
    (jc V 4 214 (0, 0) [.ref a0, jy 3, jy 1, jy 13, jy 5, jy 12, jy 0, jy 0] X I4 R Q7 (fun _ _ => False)) ∧ (
    ∀ rv I9, Q7 rv I9 → ∃ r10 : Int, rv = some (jy r10) ∧ (
    (-2147483648 ≤ r10 ∧ r10 < 2147483648) ∧ (
    (r10 = 0 → (
      ∃ Q12 : Option Value → jx_I → Prop, (
      (jc V 4 214 (0, 0) [.ref a0, jy 18, jy 15, jy 1, jy 4, jy 0, jy 0, jy 0] X I9 R Q12 (fun _ _ => False)) ∧ (
      ∀ rv I14, Q12 rv I14 → ∃ r15 : Int, rv = some (jy r15) ∧ (
      (-2147483648 ≤ r15 ∧ r15 < 2147483648) ∧ (
      (r15 = 0 → (
        ∃ Q17 : Option Value → jx_I → Prop, (
        (jc V 4 214 (0, 0) [.ref a0, jy 8, jy 21, jy 18, jy 20, jy 0, jy 0, jy 0] X I14 R Q17 (fun _ _ => False)) ∧ (
        ∀ rv I19, Q17 rv I19 → ∃ r20 : Int, rv = some (jy r20) ∧ (
        (-2147483648 ≤ r20 ∧ r20 < 2147483648) ∧ (
        (r20 = 0 → (
          ∃ Q22 : Option Value → jx_I → Prop, (
          (jc V 4 214 (0, 0) [.ref a0, jy 3, jy 1, jy 12, jy 6, jy 0, jy 0, jy 0] X I19 R Q22 (fun _ _ => False)) ∧ (
          ∀ rv I24, Q22 rv I24 → ∃ r25 : Int, rv = some (jy r25) ∧ (
          (-2147483648 ≤ r25 ∧ r25 < 2147483648) ∧ (
          (r25 = 0 → (
            ∃ Q27 : Option Value → jx_I → Prop, (
            (jc V 4 214 (0, 0) [.ref a0, jy 17, jy 21, jy 1, jy 18, jy 18, jy 5, jy 12] X I24 R Q27 (fun _ _ => False)) ∧ (
            ∀ rv I29, Q27 rv I29 → ∃ r30 : Int, rv = some (jy r30) ∧ (
            (-2147483648 ≤ r30 ∧ r30 < 2147483648) ∧ (
            (r30 = 0 → (
              ∃ Q32 : Option Value → jx_I → Prop, (
              (jc V 4 214 (0, 0) [.ref a0, jy 12, jy 1, jy 23, jy 0, jy 0, jy 0, jy 0] X I29 R Q32 (fun _ _ => False)) ∧ (
              ∀ rv I34, Q32 rv I34 → ∃ r35 : Int, rv = some (jy r35) ∧ (
              (-2147483648 ≤ r35 ∧ r35 < 2147483648) ∧ (
              (r35 = 0 → (
                Q (some (jy (-1))) I34
              )) ∧ (¬ r35 = 0 → (
                Q (some (jy 6)) I34
              ))))))
            )) ∧ (¬ r30 = 0 → (
              Q (some (jy 5)) I29
            ))))))
          )) ∧ (¬ r25 = 0 → (
            Q (some (jy 4)) I24
          ))))))
        )) ∧ (¬ r20 = 0 → (
          Q (some (jy 3)) I19
        ))))))
      )) ∧ (¬ r15 = 0 → (
        Q (some (jy 2)) I14
      ))))))
    )) ∧ (¬ r10 = 0 → (
      Q (some (jy 1)) I9
    ))))))
  )) ∧ (¬ r5 = 0 → (
    Q (some (jy 0)) I4
  )))))))
set_option maxRecDepth 20000 in
theorem wm_220 {V : jx_V} (hV : V.1.stackTraces = false) {X : jx_X} {R : jx_R} {I : jx_I} {Q : Option Value → jx_I → Prop} {QE : String → jx_I → Prop} {a0 : Nat}  
    (h : wz_220 V X R Q QE  a0 I) : jc V 5 220 (0, 0) [.ref a0] X I R Q QE := by
  refine jy_met hV (by decide) (n := 1) (rt := some .int) (hh := []) (ini := false) (C := jx_c220) (L := [some (.ref a0)]) jt_220 (Nat.le_of_ble_eq_true rfl) rfl ?_
  intro J hS
  unfold wz_220 at h
  refine jy_aload_n hS rfl rfl ?_
  refine jy_bipush hS rfl (by decide) ?_
  refine jy_bipush hS rfl (by decide) ?_
  refine jy_iconst hS rfl ?_
  refine jy_iconst hS rfl ?_
  refine jy_iconst hS rfl ?_
  refine jy_iconst hS rfl ?_
  refine jy_iconst hS rfl ?_
  obtain ⟨g1, h⟩ := h
  obtain ⟨Q2, h⟩ := h
  obtain ⟨g3, h⟩ := h
  refine jy_callV hS rfl rfl rfl (Nat.le_of_ble_eq_true rfl) (Or.inl g1) g3 (by decide) ⟨by decide, by decide⟩ (Nat.le_of_ble_eq_true rfl) ?_ ?_
  rotate_left
  · exact fun Ex Xx Ix Rx hp => hp.2.2.2.elim
  intro rv Xx I4 Rx hp
  obtain ⟨e1, e2, hp⟩ := hp
  rw [e1, e2]
  clear e1 e2
  obtain ⟨r5, e1, h⟩ := h rv I4 hp
  rw [e1]
  clear e1
  change J 13 [jy r5] _ (0, 0) _ _ _
  obtain ⟨g6, h⟩ := h
  refine jy_if_eq hS rfl g6 (fun hq => ?_) (fun hq => ?_)
  · have h := h.1 hq
    refine jy_aload_n hS rfl rfl ?_
    refine jy_iconst hS rfl ?_
    refine jy_iconst hS rfl ?_
    refine jy_bipush hS rfl (by decide) ?_
    refine jy_iconst hS rfl ?_
    refine jy_bipush hS rfl (by decide) ?_
    refine jy_iconst hS rfl ?_
    refine jy_iconst hS rfl ?_
    obtain ⟨Q7, h⟩ := h
    obtain ⟨g8, h⟩ := h
    refine jy_callV hS rfl rfl rfl (Nat.le_of_ble_eq_true rfl) (Or.inl g1) g8 (by decide) ⟨by decide, by decide⟩ (Nat.le_of_ble_eq_true rfl) ?_ ?_
    rotate_left
    · exact fun Ex Xx Ix Rx hp => hp.2.2.2.elim
    intro rv Xx I9 Rx hp
    obtain ⟨e1, e2, hp⟩ := hp
    rw [e1, e2]
    clear e1 e2
    obtain ⟨r10, e1, h⟩ := h rv I9 hp
    rw [e1]
    clear e1
    change J 31 [jy r10] _ (0, 0) _ _ _
    obtain ⟨g11, h⟩ := h
    refine jy_if_eq hS rfl g11 (fun hq => ?_) (fun hq => ?_)
    · have h := h.1 hq
      refine jy_aload_n hS rfl rfl ?_
      refine jy_bipush hS rfl (by decide) ?_
      refine jy_bipush hS rfl (by decide) ?_
      refine jy_iconst hS rfl ?_
      refine jy_iconst hS rfl ?_
      refine jy_iconst hS rfl ?_
      refine jy_iconst hS rfl ?_
      refine jy_iconst hS rfl ?_
      obtain ⟨Q12, h⟩ := h
      obtain ⟨g13, h⟩ := h
      refine jy_callV hS rfl rfl rfl (Nat.le_of_ble_eq_true rfl) (Or.inl g1) g13 (by decide) ⟨by decide, by decide⟩ (Nat.le_of_ble_eq_true rfl) ?_ ?_
      rotate_left
      · exact fun Ex Xx Ix Rx hp => hp.2.2.2.elim
      intro rv Xx I14 Rx hp
      obtain ⟨e1, e2, hp⟩ := hp
      rw [e1, e2]
      clear e1 e2
      obtain ⟨r15, e1, h⟩ := h rv I14 hp
      rw [e1]
      clear e1
      change J 49 [jy r15] _ (0, 0) _ _ _
      obtain ⟨g16, h⟩ := h
      refine jy_if_eq hS rfl g16 (fun hq => ?_) (fun hq => ?_)
      · have h := h.1 hq
        refine jy_aload_n hS rfl rfl ?_
        refine jy_bipush hS rfl (by decide) ?_
        refine jy_bipush hS rfl (by decide) ?_
        refine jy_bipush hS rfl (by decide) ?_
        refine jy_bipush hS rfl (by decide) ?_
        refine jy_iconst hS rfl ?_
        refine jy_iconst hS rfl ?_
        refine jy_iconst hS rfl ?_
        obtain ⟨Q17, h⟩ := h
        obtain ⟨g18, h⟩ := h
        refine jy_callV hS rfl rfl rfl (Nat.le_of_ble_eq_true rfl) (Or.inl g1) g18 (by decide) ⟨by decide, by decide⟩ (Nat.le_of_ble_eq_true rfl) ?_ ?_
        rotate_left
        · exact fun Ex Xx Ix Rx hp => hp.2.2.2.elim
        intro rv Xx I19 Rx hp
        obtain ⟨e1, e2, hp⟩ := hp
        rw [e1, e2]
        clear e1 e2
        obtain ⟨r20, e1, h⟩ := h rv I19 hp
        rw [e1]
        clear e1
        change J 69 [jy r20] _ (0, 0) _ _ _
        obtain ⟨g21, h⟩ := h
        refine jy_if_eq hS rfl g21 (fun hq => ?_) (fun hq => ?_)
        · have h := h.1 hq
          refine jy_aload_n hS rfl rfl ?_
          refine jy_iconst hS rfl ?_
          refine jy_iconst hS rfl ?_
          refine jy_bipush hS rfl (by decide) ?_
          refine jy_bipush hS rfl (by decide) ?_
          refine jy_iconst hS rfl ?_
          refine jy_iconst hS rfl ?_
          refine jy_iconst hS rfl ?_
          obtain ⟨Q22, h⟩ := h
          obtain ⟨g23, h⟩ := h
          refine jy_callV hS rfl rfl rfl (Nat.le_of_ble_eq_true rfl) (Or.inl g1) g23 (by decide) ⟨by decide, by decide⟩ (Nat.le_of_ble_eq_true rfl) ?_ ?_
          rotate_left
          · exact fun Ex Xx Ix Rx hp => hp.2.2.2.elim
          intro rv Xx I24 Rx hp
          obtain ⟨e1, e2, hp⟩ := hp
          rw [e1, e2]
          clear e1 e2
          obtain ⟨r25, e1, h⟩ := h rv I24 hp
          rw [e1]
          clear e1
          change J 87 [jy r25] _ (0, 0) _ _ _
          obtain ⟨g26, h⟩ := h
          refine jy_if_eq hS rfl g26 (fun hq => ?_) (fun hq => ?_)
          · have h := h.1 hq
            refine jy_aload_n hS rfl rfl ?_
            refine jy_bipush hS rfl (by decide) ?_
            refine jy_bipush hS rfl (by decide) ?_
            refine jy_iconst hS rfl ?_
            refine jy_bipush hS rfl (by decide) ?_
            refine jy_bipush hS rfl (by decide) ?_
            refine jy_iconst hS rfl ?_
            refine jy_bipush hS rfl (by decide) ?_
            obtain ⟨Q27, h⟩ := h
            obtain ⟨g28, h⟩ := h
            refine jy_callV hS rfl rfl rfl (Nat.le_of_ble_eq_true rfl) (Or.inl g1) g28 (by decide) ⟨by decide, by decide⟩ (Nat.le_of_ble_eq_true rfl) ?_ ?_
            rotate_left
            · exact fun Ex Xx Ix Rx hp => hp.2.2.2.elim
            intro rv Xx I29 Rx hp
            obtain ⟨e1, e2, hp⟩ := hp
            rw [e1, e2]
            clear e1 e2
            obtain ⟨r30, e1, h⟩ := h rv I29 hp
            rw [e1]
            clear e1
            change J 108 [jy r30] _ (0, 0) _ _ _
            obtain ⟨g31, h⟩ := h
            refine jy_if_eq hS rfl g31 (fun hq => ?_) (fun hq => ?_)
            · have h := h.1 hq
              refine jy_aload_n hS rfl rfl ?_
              refine jy_bipush hS rfl (by decide) ?_
              refine jy_iconst hS rfl ?_
              refine jy_bipush hS rfl (by decide) ?_
              refine jy_iconst hS rfl ?_
              refine jy_iconst hS rfl ?_
              refine jy_iconst hS rfl ?_
              refine jy_iconst hS rfl ?_
              obtain ⟨Q32, h⟩ := h
              obtain ⟨g33, h⟩ := h
              refine jy_callV hS rfl rfl rfl (Nat.le_of_ble_eq_true rfl) (Or.inl g1) g33 (by decide) ⟨by decide, by decide⟩ (Nat.le_of_ble_eq_true rfl) ?_ ?_
              rotate_left
              · exact fun Ex Xx Ix Rx hp => hp.2.2.2.elim
              intro rv Xx I34 Rx hp
              obtain ⟨e1, e2, hp⟩ := hp
              rw [e1, e2]
              clear e1 e2
              obtain ⟨r35, e1, h⟩ := h rv I34 hp
              rw [e1]
              clear e1
              change J 126 [jy r35] _ (0, 0) _ _ _
              obtain ⟨g36, h⟩ := h
              refine jy_if_eq hS rfl g36 (fun hq => ?_) (fun hq => ?_)
              · have h := h.1 hq
                refine jy_iconst hS rfl ?_
                exact jy_iret hS rfl rfl ⟨rfl, rfl, h⟩
              · have h := h.2 hq
                refine jy_bipush hS rfl (by decide) ?_
                refine jy_goto hS rfl ?_
                exact jy_iret hS rfl rfl ⟨rfl, rfl, h⟩
            · have h := h.2 hq
              refine jy_iconst hS rfl ?_
              exact jy_iret hS rfl rfl ⟨rfl, rfl, h⟩
          · have h := h.2 hq
            refine jy_iconst hS rfl ?_
            exact jy_iret hS rfl rfl ⟨rfl, rfl, h⟩
        · have h := h.2 hq
          refine jy_iconst hS rfl ?_
          exact jy_iret hS rfl rfl ⟨rfl, rfl, h⟩
      · have h := h.2 hq
        refine jy_iconst hS rfl ?_
        exact jy_iret hS rfl rfl ⟨rfl, rfl, h⟩
    · have h := h.2 hq
      refine jy_iconst hS rfl ?_
      exact jy_iret hS rfl rfl ⟨rfl, rfl, h⟩
  · have h := h.2 hq
    refine jy_iconst hS rfl ?_
    exact jy_iret hS rfl rfl ⟨rfl, rfl, h⟩
theorem jt_221 : jx_ml 221 = 1 ∧ jx_rt 221 = some .int ∧ jx_hz 221 = [] ∧ decide ((jx_nm 221).name = "<init>") = false ∧ jx_code 221 = jx_c221 := by decide +kernel
/-- GCModel.camelHere -/
def wz_221 (V : jx_V) (X : jx_X) (R : jx_R) (Q : Option Value → jx_I → Prop) (QE : String → jx_I → Prop)  (a0 : Nat) (I : jx_I) : Prop :=
  (X.2.1 a0 = some (12, 0)) ∧ (
  ∃ q2 : Nat, (
  (R a0 10 = some q2) ∧ (
  ∃ n4 : Nat, (
  (X.2.1 q2 = some (100, n4) ∧ n4 < 2147483648) ∧ (
  (0 ≤ (1 : Int) ∧ (1 : Int) < n4) ∧ (
  ∃ Q7 : Option Value → jx_I → Prop, (
  (jc V 3 210 (0, 0) [.ref a0, jy 0, jy ((I q2 (1 : Int).toNat).toInt - 1)] X I R Q7 (fun _ _ => False)) ∧ (
  ∀ rv I9, Q7 rv I9 → ∃ r10 : Int, rv = some (jy r10) ∧ (
  Q (some (jy r10)) I9)))))))))
set_option maxRecDepth 20000 in
theorem wm_221 {V : jx_V} (hV : V.1.stackTraces = false) {X : jx_X} {R : jx_R} {I : jx_I} {Q : Option Value → jx_I → Prop} {QE : String → jx_I → Prop} {a0 : Nat}  
    (h : wz_221 V X R Q QE  a0 I) : jc V 4 221 (0, 0) [.ref a0] X I R Q QE := by
  refine jy_met hV (by decide) (n := 1) (rt := some .int) (hh := []) (ini := false) (C := jx_c221) (L := [some (.ref a0)]) jt_221 (Nat.le_of_ble_eq_true rfl) rfl ?_
  intro J hS
  unfold wz_221 at h
  refine jy_aload_n hS rfl rfl ?_
  refine jy_iconst hS rfl ?_
  refine jy_aload_n hS rfl rfl ?_
  obtain ⟨g1, h⟩ := h
  obtain ⟨q2, h⟩ := h
  obtain ⟨g3, h⟩ := h
  refine jy_getR hS rfl (by decide) g1 g3 ?_
  refine jy_iconst hS rfl ?_
  obtain ⟨n4, h⟩ := h
  obtain ⟨g5, h⟩ := h
  obtain ⟨g6, h⟩ := h
  refine jy_iald hS rfl g5.1 (Nat.le_of_lt g5.2) g6 ?_
  refine jy_iconst hS rfl ?_
  refine jy_isub hS rfl ?_
  obtain ⟨Q7, h⟩ := h
  obtain ⟨g8, h⟩ := h
  refine jy_callV hS rfl rfl rfl (Nat.le_of_ble_eq_true rfl) (Or.inl g1) g8 (by decide) ⟨by decide, by decide⟩ (Nat.le_of_ble_eq_true rfl) ?_ ?_
  rotate_left
  · exact fun Ex Xx Ix Rx hp => hp.2.2.2.elim
  intro rv Xx I9 Rx hp
  obtain ⟨e1, e2, hp⟩ := hp
  rw [e1, e2]
  clear e1 e2
  obtain ⟨r10, e1, h⟩ := h rv I9 hp
  rw [e1]
  clear e1
  change J 13 [jy r10] _ (0, 0) _ _ _
  exact jy_iret hS rfl rfl ⟨rfl, rfl, h⟩
