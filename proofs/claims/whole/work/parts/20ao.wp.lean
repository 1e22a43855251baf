theorem jt_266 : jx_ml 266 = 4 ∧ jx_rt 266 = some .int ∧ jx_hz 266 = [] ∧ decide ((jx_nm 266).name = "<init>") = false ∧ jx_code 266 = jx_c266 := by decide +kernel
/-- GCModel.go, from 59 -/
def wz_266_59 (V : jx_V) (X : jx_X) (R : jx_R) (Q : Option Value → jx_I → Prop) (QE : String → jx_I → Prop) (J59 : Int → Int → jx_I → Prop) (J71 : Int → Int → Int → jx_I → Prop) (a0 : Nat) (l1 : Int) (l2 : Int) (I : jx_I) : Prop :=
  (X.2.1 a0 = some (12, 0)) ∧ (
  ∃ q29 : Nat, (
  (R a0 11 = some q29) ∧ (
  ∃ n31 : Nat, (
  (X.2.1 q29 = some (100, n31) ∧ n31 < 2147483648) ∧ (
  (0 ≤ (1 : Int) ∧ (1 : Int) < n31) ∧ (
  (-2147483648 ≤ l2 ∧ l2 < 2147483648) ∧ (
  ((I q29 (1 : Int).toNat).toInt ≤ l2 → (
    Q (some (jy l1)) I
  )) ∧ (¬ (I q29 (1 : Int).toNat).toInt ≤ l2 → (
    J71 l1 l2 0 I
  )))))))))
/-- GCModel.go, from 71 -/
def wz_266_71 (V : jx_V) (X : jx_X) (R : jx_R) (Q : Option Value → jx_I → Prop) (QE : String → jx_I → Prop) (J59 : Int → Int → jx_I → Prop) (J71 : Int → Int → Int → jx_I → Prop) (a0 : Nat) (l1 : Int) (l2 : Int) (l3 : Int) (I : jx_I) : Prop :=
  (X.2.1 a0 = some (12, 0)) ∧ (
  ∃ q36 : Nat, (
  (R a0 11 = some q36) ∧ (
  ∃ n38 : Nat, (
  (X.2.1 q36 = some (100, n38) ∧ n38 < 2147483648) ∧ (
  (0 ≤ (0 : Int) ∧ (0 : Int) < n38) ∧ (
  (-2147483648 ≤ l3 ∧ l3 < 2147483648) ∧ (
  ((I q36 (0 : Int).toNat).toInt ≤ l3 → (
    J59 l1 (l2 + 1) I
  )) ∧ (¬ (I q36 (0 : Int).toNat).toInt ≤ l3 → (
    ∃ q42 : Nat, (
    (R a0 29 = some q42) ∧ (
    ∃ n44 : Nat, (
    (X.2.1 q42 = some (104, n44) ∧ n44 < 2147483648) ∧ (
    (0 ≤ l2 ∧ l2 < n44) ∧ (
    ∃ q47 : Nat, (
    (R q42 l2.toNat = some q47) ∧ (
    ∃ q49 : Nat, (
    (R a0 42 = some q49) ∧ (
    ∃ n51 : Nat, (
    (X.2.1 q49 = some (104, n51) ∧ n51 < 2147483648) ∧ (
    (0 ≤ l2 ∧ l2 < n51) ∧ (
    ∃ q54 : Nat, (
    (R q49 l2.toNat = some q54) ∧ (
    ∃ n56 : Nat, (
    (X.2.1 q54 = some (100, n56) ∧ n56 < 2147483648) ∧ (
    (0 ≤ l3 ∧ l3 < n56) ∧ (
    ∃ n59 : Nat, (
    (X.2.1 q47 = some (100, n59) ∧ n59 < 2147483648) ∧ (
    (0 ≤ l3 ∧ l3 < n59) ∧ (
    ∀ I62 : jx_I, I62 = jx_u I q47 l3.toNat (Int32.ofInt ((I q54 l3.toNat).toInt)) → (
    ∃ q63 : Nat, (
    (R a0 30 = some q63) ∧ (
    ∃ n65 : Nat, (
    (X.2.1 q63 = some (104, n65) ∧ n65 < 2147483648) ∧ (
    (0 ≤ l2 ∧ l2 < n65) ∧ (
    ∃ q68 : Nat, (
    (R q63 l2.toNat = some q68) ∧ (
    ∃ q70 : Nat, (
    (R a0 43 = some q70) ∧ (
    ∃ n72 : Nat, (
    (X.2.1 q70 = some (104, n72) ∧ n72 < 2147483648) ∧ (
    (0 ≤ l2 ∧ l2 < n72) ∧ (
    ∃ q75 : Nat, (
    (R q70 l2.toNat = some q75) ∧ (
    ∃ n77 : Nat, (
    (X.2.1 q75 = some (100, n77) ∧ n77 < 2147483648) ∧ (
    (0 ≤ l3 ∧ l3 < n77) ∧ (
    ∃ n80 : Nat, (
    (X.2.1 q68 = some (100, n80) ∧ n80 < 2147483648) ∧ (
    (0 ≤ l3 ∧ l3 < n80) ∧ (
    ∀ I83 : jx_I, I83 = jx_u I62 q68 l3.toNat (Int32.ofInt ((I62 q75 l3.toNat).toInt)) → (
    J71 l1 l2 (l3 + 1) I83))))))))))))))))))))))))))))))))))))))))))
  )))))))))
/-- GCModel.go -/
def wz_266 (V : jx_V) (X : jx_X) (R : jx_R) (Q : Option Value → jx_I → Prop) (QE : String → jx_I → Prop) (J59 : Int → Int → jx_I → Prop) (J71 : Int → Int → Int → jx_I → Prop) (a0 : Nat) (I : jx_I) : Prop :=
  (X.2.1 a0 = some (12, 0)) ∧ (
  ∀ I2 : jx_I, I2 = jx_u I a0 0 (Int32.ofInt 0) → (
  ∃ Q3 : Option Value → jx_I → Prop, (
  (jc V 2 259 (0, 0) [.ref a0] X I2 R Q3 (fun _ _ => False)) ∧ (
  ∀ rv I5, Q3 rv I5 → ∃ r6 : Int, rv = some (jy r6) ∧ (
  (-2147483648 ≤ r6 ∧ r6 < 2147483648) ∧ (
  (r6 = 0 → (
    ((I5 a0 39).toInt ≠ 24 → (
      ∃ q8 : Nat, (
      (R a0 32 = some q8) ∧ (
      ∃ n10 : Nat, (
      (X.2.1 q8 = some (104, n10) ∧ n10 < 2147483648) ∧ (
      (0 ≤ (I5 a0 39).toInt ∧ (I5 a0 39).toInt < n10) ∧ (
      ∃ q13 : Nat, (
      (R q8 ((I5 a0 39).toInt).toNat = some q13) ∧ (
      ∃ Q15 : Option Value → jx_I → Prop, (
      (jc V 1 265 (0, 0) [.ref a0, .ref q13] X I5 R Q15 (fun _ _ => False)) ∧ (
      ∀ rv I17, Q15 rv I17 → rv = none ∧ (
      ∀ I19 : jx_I, I19 = jx_u I17 a0 39 (Int32.ofInt ((I17 a0 39).toInt + 1)) → (
      ∃ Q20 : Option Value → jx_I → Prop, (
      (jc V 1 243 (0, 0) [.ref a0] X I19 R Q20 (fun _ _ => False)) ∧ (
      ∀ rv I22, Q20 rv I22 → rv = none ∧ (
      ∃ Q24 : Option Value → jx_I → Prop, (
      (jc V 5 258 (0, 0) [.ref a0] X I22 R Q24 (fun _ _ => False)) ∧ (
      ∀ rv I26, Q24 rv I26 → ∃ r27 : Int, rv = some (jy r27) ∧ (
      J59 r27 0 I26)))))))))))))))))
    )) ∧ ((I5 a0 39).toInt = 24 → (
      Q (some (jy (-1))) I5
    ))
  )) ∧ (¬ r6 = 0 → (
    Q (some (jy 0)) I5
  ))))))))
set_option maxRecDepth 20000 in
theorem wm_266 {V : jx_V} (hV : V.1.stackTraces = false) {X : jx_X} {R : jx_R} {I : jx_I} {Q : Option Value → jx_I → Prop} {QE : String → jx_I → Prop} {a0 : Nat}  
    (h : ∀ (J59 : Int → Int → jx_I → Prop) (J71 : Int → Int → Int → jx_I → Prop), ((∀ (l1 : Int) (l2 : Int) I, wz_266_59 V X R Q QE J59 J71 a0 l1 l2 I → J59 l1 l2 I) ∧ (∀ (l1 : Int) (l2 : Int) (l3 : Int) I, wz_266_71 V X R Q QE J59 J71 a0 l1 l2 l3 I → J71 l1 l2 l3 I)) → wz_266 V X R Q QE J59 J71 a0 I) : jc V 6 266 (0, 0) [.ref a0] X I R Q QE := by
  refine jy_met hV (by decide) (n := 4) (rt := some .int) (hh := []) (ini := false) (C := jx_c266) (L := [some (.ref a0), none, none, none]) jt_266 (Nat.le_of_ble_eq_true rfl) rfl ?_
  intro J hS
  have h := h (fun l1 l2 I => J 59 [] [some (.ref a0), some (jy l1), some (jy l2), none] (0, 0) X I R) (fun l1 l2 l3 I => J 71 [] [some (.ref a0), some (jy l1), some (jy l2), some (jy l3)] (0, 0) X I R) ?_
  · unfold wz_266 at h
    refine jy_aload_n hS rfl rfl ?_
    refine jy_iconst hS rfl ?_
    obtain ⟨g1, h⟩ := h
    refine jy_putI hS rfl (by decide) g1 ?_
    intro I2 e9
    have h := h I2 e9
    clear e9
    refine jy_aload_n hS rfl rfl ?_
    obtain ⟨Q3, h⟩ := h
    obtain ⟨g4, h⟩ := h
    refine jy_callV hS rfl rfl rfl (Nat.le_of_ble_eq_true rfl) (Or.inl g1) g4 (by decide) ⟨by decide, by decide⟩ (Nat.le_of_ble_eq_true rfl) ?_ ?_
    rotate_left
    · exact fun Ex Xx Ix Rx hp => hp.2.2.2.elim
    intro rv Xx I5 Rx hp
    obtain ⟨e1, e2, hp⟩ := hp
    rw [e1, e2]
    clear e1 e2
    obtain ⟨r6, e1, h⟩ := h rv I5 hp
    rw [e1]
    clear e1
    change J 9 [jy r6] _ (0, 0) _ _ _
    obtain ⟨g7, h⟩ := h
    refine jy_if_eq hS rfl g7 (fun hq => ?_) (fun hq => ?_)
    · have h := h.1 hq
      refine jy_aload_n hS rfl rfl ?_
      refine jy_getI hS rfl (by decide) g1 ?_
      refine jy_bipush hS rfl (by decide) ?_
      refine jy_icmp_ne hS rfl ⟨(jy_rng _), ⟨by decide, by decide⟩⟩ (fun hq => ?_) (fun hq => ?_)
      · have h := h.1 hq
        refine jy_aload_n hS rfl rfl ?_
        refine jy_aload_n hS rfl rfl ?_
        obtain ⟨q8, h⟩ := h
        obtain ⟨g9, h⟩ := h
        refine jy_getR hS rfl (by decide) g1 g9 ?_
        refine jy_aload_n hS rfl rfl ?_
        refine jy_getI hS rfl (by decide) g1 ?_
        obtain ⟨n10, h⟩ := h
        obtain ⟨g11, h⟩ := h
        obtain ⟨g12, h⟩ := h
        obtain ⟨q13, h⟩ := h
        obtain ⟨g14, h⟩ := h
        refine jy_aald hS rfl g11.1 (by decide) (Nat.le_of_lt g11.2) g12 g14 ?_
        obtain ⟨Q15, h⟩ := h
        obtain ⟨g16, h⟩ := h
        refine jy_callV hS rfl rfl rfl (Nat.le_of_ble_eq_true rfl) (Or.inl g1) g16 (by decide) ⟨by decide, by decide⟩ (Nat.le_of_ble_eq_true rfl) ?_ ?_
        rotate_left
        · exact fun Ex Xx Ix Rx hp => hp.2.2.2.elim
        intro rv Xx I17 Rx hp
        obtain ⟨e1, e2, hp⟩ := hp
        rw [e1, e2]
        clear e1 e2
        obtain ⟨e1, h⟩ := h rv I17 hp
        rw [e1]
        clear e1
        change J 38 [] _ (0, 0) _ _ _
        refine jy_aload_n hS rfl rfl ?_
        refine jy_dup hS rfl rfl ?_
        refine jy_getI hS rfl (by decide) g1 ?_
        refine jy_iconst hS rfl ?_
        refine jy_iadd hS rfl ?_
        refine jy_putI hS rfl (by decide) g1 ?_
        intro I19 e9
        have h := h I19 e9
        clear e9
        refine jy_aload_n hS rfl rfl ?_
        obtain ⟨Q20, h⟩ := h
        obtain ⟨g21, h⟩ := h
        refine jy_callV hS rfl rfl rfl (Nat.le_of_ble_eq_true rfl) (Or.inl g1) g21 (by decide) ⟨by decide, by decide⟩ (Nat.le_of_ble_eq_true rfl) ?_ ?_
        rotate_left
        · exact fun Ex Xx Ix Rx hp => hp.2.2.2.elim
        intro rv Xx I22 Rx hp
        obtain ⟨e1, e2, hp⟩ := hp
        rw [e1, e2]
        clear e1 e2
        obtain ⟨e1, h⟩ := h rv I22 hp
        rw [e1]
        clear e1
        change J 52 [] _ (0, 0) _ _ _
        refine jy_aload_n hS rfl rfl ?_
        obtain ⟨Q24, h⟩ := h
        obtain ⟨g25, h⟩ := h
        refine jy_callV hS rfl rfl rfl (Nat.le_of_ble_eq_true rfl) (Or.inl g1) g25 (by decide) ⟨by decide, by decide⟩ (Nat.le_of_ble_eq_true rfl) ?_ ?_
        rotate_left
        · exact fun Ex Xx Ix Rx hp => hp.2.2.2.elim
        intro rv Xx I26 Rx hp
        obtain ⟨e1, e2, hp⟩ := hp
        rw [e1, e2]
        clear e1 e2
        obtain ⟨r27, e1, h⟩ := h rv I26 hp
        rw [e1]
        clear e1
        change J 56 [jy r27] _ (0, 0) _ _ _
        refine jy_istore_n hS rfl (Nat.le_of_ble_eq_true rfl) (L' := [some (.ref a0), some (jy r27), none, none]) rfl ?_
        refine jy_iconst hS rfl ?_
        refine jy_istore_n hS rfl (Nat.le_of_ble_eq_true rfl) (L' := [some (.ref a0), some (jy r27), some (jy 0), none]) rfl ?_
        exact jy_join hS h rfl (jy_sub_s (jy_sub_s (jy_sub_s (jy_sub_n jy_sub_0))))
      · have h := h.2 hq
        refine jy_iconst hS rfl ?_
        exact jy_iret hS rfl rfl ⟨rfl, rfl, h⟩
    · have h := h.2 hq
      refine jy_iconst hS rfl ?_
      exact jy_iret hS rfl rfl ⟨rfl, rfl, h⟩
  refine ⟨?_, ?_⟩
  · intro l1 l2 I h
    unfold wz_266_59 at h
    refine jy_iload_n hS rfl rfl ?_
    refine jy_aload_n hS rfl rfl ?_
    obtain ⟨g28, h⟩ := h
    obtain ⟨q29, h⟩ := h
    obtain ⟨g30, h⟩ := h
    refine jy_getR hS rfl (by decide) g28 g30 ?_
    refine jy_iconst hS rfl ?_
    obtain ⟨n31, h⟩ := h
    obtain ⟨g32, h⟩ := h
    obtain ⟨g33, h⟩ := h
    refine jy_iald hS rfl g32.1 (Nat.le_of_lt g32.2) g33 ?_
    obtain ⟨g34, h⟩ := h
    refine jy_icmp_ge hS rfl ⟨g34, (jy_rng _)⟩ (fun hq => ?_) (fun hq => ?_)
    · have h := h.1 hq
      refine jy_iload_n hS rfl rfl ?_
      exact jy_iret hS rfl rfl ⟨rfl, rfl, h⟩
    · have h := h.2 hq
      refine jy_iconst hS rfl ?_
      refine jy_istore_n hS rfl (Nat.le_of_ble_eq_true rfl) (L' := [some (.ref a0), some (jy l1), some (jy l2), some (jy 0)]) rfl ?_
      exact jy_join hS h rfl (jy_sub_s (jy_sub_s (jy_sub_s (jy_sub_s jy_sub_0))))
  · intro l1 l2 l3 I h
    unfold wz_266_71 at h
    refine jy_iload_n hS rfl rfl ?_
    refine jy_aload_n hS rfl rfl ?_
    obtain ⟨g35, h⟩ := h
    obtain ⟨q36, h⟩ := h
    obtain ⟨g37, h⟩ := h
    refine jy_getR hS rfl (by decide) g35 g37 ?_
    refine jy_iconst hS rfl ?_
    obtain ⟨n38, h⟩ := h
    obtain ⟨g39, h⟩ := h
    obtain ⟨g40, h⟩ := h
    refine jy_iald hS rfl g39.1 (Nat.le_of_lt g39.2) g40 ?_
    obtain ⟨g41, h⟩ := h
    refine jy_icmp_ge hS rfl ⟨g41, (jy_rng _)⟩ (fun hq => ?_) (fun hq => ?_)
    · have h := h.1 hq
      refine jy_iinc hS rfl rfl (L' := [some (.ref a0), some (jy l1), some (jy (l2 + 1)), some (jy l3)]) rfl ?_
      refine jy_goto hS rfl ?_
      exact jy_join hS h rfl (jy_sub_s (jy_sub_s (jy_sub_s (jy_sub_n jy_sub_0))))
    · have h := h.2 hq
      refine jy_aload_n hS rfl rfl ?_
      obtain ⟨q42, h⟩ := h
      obtain ⟨g43, h⟩ := h
      refine jy_getR hS rfl (by decide) g35 g43 ?_
      refine jy_iload_n hS rfl rfl ?_
      obtain ⟨n44, h⟩ := h
      obtain ⟨g45, h⟩ := h
      obtain ⟨g46, h⟩ := h
      obtain ⟨q47, h⟩ := h
      obtain ⟨g48, h⟩ := h
      refine jy_aald hS rfl g45.1 (by decide) (Nat.le_of_lt g45.2) g46 g48 ?_
      refine jy_iload_n hS rfl rfl ?_
      refine jy_aload_n hS rfl rfl ?_
      obtain ⟨q49, h⟩ := h
      obtain ⟨g50, h⟩ := h
      refine jy_getR hS rfl (by decide) g35 g50 ?_
      refine jy_iload_n hS rfl rfl ?_
      obtain ⟨n51, h⟩ := h
      obtain ⟨g52, h⟩ := h
      obtain ⟨g53, h⟩ := h
      obtain ⟨q54, h⟩ := h
      obtain ⟨g55, h⟩ := h
      refine jy_aald hS rfl g52.1 (by decide) (Nat.le_of_lt g52.2) g53 g55 ?_
      refine jy_iload_n hS rfl rfl ?_
      obtain ⟨n56, h⟩ := h
      obtain ⟨g57, h⟩ := h
      obtain ⟨g58, h⟩ := h
      refine jy_iald hS rfl g57.1 (Nat.le_of_lt g57.2) g58 ?_
      obtain ⟨n59, h⟩ := h
      obtain ⟨g60, h⟩ := h
      obtain ⟨g61, h⟩ := h
      refine jy_iast hS rfl g60.1 (Nat.le_of_lt g60.2) g61 ?_
      intro I62 e9
      have h := h I62 e9
      clear e9
      refine jy_aload_n hS rfl rfl ?_
      obtain ⟨q63, h⟩ := h
      obtain ⟨g64, h⟩ := h
      refine jy_getR hS rfl (by decide) g35 g64 ?_
      refine jy_iload_n hS rfl rfl ?_
      obtain ⟨n65, h⟩ := h
      obtain ⟨g66, h⟩ := h
      obtain ⟨g67, h⟩ := h
      obtain ⟨q68, h⟩ := h
      obtain ⟨g69, h⟩ := h
      refine jy_aald hS rfl g66.1 (by decide) (Nat.le_of_lt g66.2) g67 g69 ?_
      refine jy_iload_n hS rfl rfl ?_
      refine jy_aload_n hS rfl rfl ?_
      obtain ⟨q70, h⟩ := h
      obtain ⟨g71, h⟩ := h
      refine jy_getR hS rfl (by decide) g35 g71 ?_
      refine jy_iload_n hS rfl rfl ?_
      obtain ⟨n72, h⟩ := h
      obtain ⟨g73, h⟩ := h
      obtain ⟨g74, h⟩ := h
      obtain ⟨q75, h⟩ := h
      obtain ⟨g76, h⟩ := h
      refine jy_aald hS rfl g73.1 (by decide) (Nat.le_of_lt g73.2) g74 g76 ?_
      refine jy_iload_n hS rfl rfl ?_
      obtain ⟨n77, h⟩ := h
      obtain ⟨g78, h⟩ := h
      obtain ⟨g79, h⟩ := h
      refine jy_iald hS rfl g78.1 (Nat.le_of_lt g78.2) g79 ?_
      obtain ⟨n80, h⟩ := h
      obtain ⟨g81, h⟩ := h
      obtain ⟨g82, h⟩ := h
      refine jy_iast hS rfl g81.1 (Nat.le_of_lt g81.2) g82 ?_
      intro I83 e9
      have h := h I83 e9
      clear e9
      refine jy_iinc hS rfl rfl (L' := [some (.ref a0), some (jy l1), some (jy l2), some (jy (l3 + 1))]) rfl ?_
      refine jy_goto hS rfl ?_
      exact jy_join hS h rfl (jy_sub_s (jy_sub_s (jy_sub_s (jy_sub_s jy_sub_0))))
theorem jt_267 : jx_ml 267 = 3 ∧ jx_rt 267 = some .int ∧ jx_hz 267 = [] ∧ decide ((jx_nm 267).name = "<init>") = false ∧ jx_code 267 = jx_c267 := by decide +kernel
/-- GCModel.undo, from 26 -/
def wz_267_26 (V : jx_V) (X : jx_X) (R : jx_R) (Q : Option Value → jx_I → Prop) (QE : String → jx_I → Prop) (J26 : Int → jx_I → Prop) (J34 : Int → Int → jx_I → Prop) (a0 : Nat) (l1 : Int) (I : jx_I) : Prop :=
  (-2147483648 ≤ l1 ∧ l1 < 2147483648) ∧ (
  (8 ≤ l1 → (
    (X.2.1 a0 = some (12, 0)) ∧ (
    Q (some (jy ((I a0 39).toInt))) I)
  )) ∧ (¬ 8 ≤ l1 → (
    J34 l1 0 I
  )))
/-- GCModel.undo, from 34 -/
def wz_267_34 (V : jx_V) (X : jx_X) (R : jx_R) (Q : Option Value → jx_I → Prop) (QE : String → jx_I → Prop) (J26 : Int → jx_I → Prop) (J34 : Int → Int → jx_I → Prop) (a0 : Nat) (l1 : Int) (l2 : Int) (I : jx_I) : Prop :=
  (-2147483648 ≤ l2 ∧ l2 < 2147483648) ∧ (
  (10 ≤ l2 → (
    J26 (l1 + 1) I
  )) ∧ (¬ 10 ≤ l2 → (
    (X.2.1 a0 = some (12, 0)) ∧ (
    ∃ q8 : Nat, (
    (R a0 29 = some q8) ∧ (
    ∃ n10 : Nat, (
    (X.2.1 q8 = some (104, n10) ∧ n10 < 2147483648) ∧ (
    (0 ≤ l1 ∧ l1 < n10) ∧ (
    ∃ q13 : Nat, (
    (R q8 l1.toNat = some q13) ∧ (
    ∃ q15 : Nat, (
    (R a0 32 = some q15) ∧ (
    ∃ n17 : Nat, (
    (X.2.1 q15 = some (104, n17) ∧ n17 < 2147483648) ∧ (
    (0 ≤ (I a0 39).toInt ∧ (I a0 39).toInt < n17) ∧ (
    ∃ q20 : Nat, (
    (R q15 ((I a0 39).toInt).toNat = some q20) ∧ (
    ∃ n22 : Nat, (
    (X.2.1 q20 = some (100, n22) ∧ n22 < 2147483648) ∧ (
    (0 ≤ ((l1 * 10) + l2) ∧ ((l1 * 10) + l2) < n22) ∧ (
    ∃ n25 : Nat, (
    (X.2.1 q13 = some (100, n25) ∧ n25 < 2147483648) ∧ (
    (0 ≤ l2 ∧ l2 < n25) ∧ (
    ∀ I28 : jx_I, I28 = jx_u I q13 l2.toNat (Int32.ofInt ((I q20 ((l1 * 10) + l2).toNat).toInt)) → (
    ∃ q29 : Nat, (
    (R a0 30 = some q29) ∧ (
    ∃ n31 : Nat, (
    (X.2.1 q29 = some (104, n31) ∧ n31 < 2147483648) ∧ (
    (0 ≤ l1 ∧ l1 < n31) ∧ (
    ∃ q34 : Nat, (
    (R q29 l1.toNat = some q34) ∧ (
    (0 ≤ (I28 a0 39).toInt ∧ (I28 a0 39).toInt < n17) ∧ (
    ∃ q37 : Nat, (
    (R q15 ((I28 a0 39).toInt).toNat = some q37) ∧ (
    ∃ n39 : Nat, (
    (X.2.1 q37 = some (100, n39) ∧ n39 < 2147483648) ∧ (
    (0 ≤ ((80 + (l1 * 10)) + l2) ∧ ((80 + (l1 * 10)) + l2) < n39) ∧ (
    ∃ n42 : Nat, (
    (X.2.1 q34 = some (100, n42) ∧ n42 < 2147483648) ∧ (
    (0 ≤ l2 ∧ l2 < n42) ∧ (
    ∀ I45 : jx_I, I45 = jx_u I28 q34 l2.toNat (Int32.ofInt ((I28 q37 ((80 + (l1 * 10)) + l2).toNat).toInt)) → (
    J34 l1 (l2 + 1) I45)))))))))))))))))))))))))))))))))))))))
  )))
/-- GCModel.undo -/
def wz_267 (V : jx_V) (X : jx_X) (R : jx_R) (Q : Option Value → jx_I → Prop) (QE : String → jx_I → Prop) (J26 : Int → jx_I → Prop) (J34 : Int → Int → jx_I → Prop) (a0 : Nat) (I : jx_I) : Prop :=
  (X.2.1 a0 = some (12, 0)) ∧ (
  ∀ I2 : jx_I, I2 = jx_u I a0 0 (Int32.ofInt 0) → (
  ((I2 a0 39).toInt ≠ 0 → (
    ∀ I3 : jx_I, I3 = jx_u I2 a0 39 (Int32.ofInt ((I2 a0 39).toInt - 1)) → (
    J26 0 I3)
  )) ∧ ((I2 a0 39).toInt = 0 → (
    Q (some (jy (-1))) I2
  ))))
set_option maxRecDepth 20000 in
theorem wm_267 {V : jx_V} (hV : V.1.stackTraces = false) {X : jx_X} {R : jx_R} {I : jx_I} {Q : Option Value → jx_I → Prop} {QE : String → jx_I → Prop} {a0 : Nat}  
    (h : ∀ (J26 : Int → jx_I → Prop) (J34 : Int → Int → jx_I → Prop), ((∀ (l1 : Int) I, wz_267_26 V X R Q QE J26 J34 a0 l1 I → J26 l1 I) ∧ (∀ (l1 : Int) (l2 : Int) I, wz_267_34 V X R Q QE J26 J34 a0 l1 l2 I → J34 l1 l2 I)) → wz_267 V X R Q QE J26 J34 a0 I) : jc V 1 267 (0, 0) [.ref a0] X I R Q QE := by
  refine jy_met hV (by decide) (n := 3) (rt := some .int) (hh := []) (ini := false) (C := jx_c267) (L := [some (.ref a0), none, none]) jt_267 (Nat.le_of_ble_eq_true rfl) rfl ?_
  intro J hS
  have h := h (fun l1 I => J 26 [] [some (.ref a0), some (jy l1), none] (0, 0) X I R) (fun l1 l2 I => J 34 [] [some (.ref a0), some (jy l1), some (jy l2)] (0, 0) X I R) ?_
  · unfold wz_267 at h
    refine jy_aload_n hS rfl rfl ?_
    refine jy_iconst hS rfl ?_
    obtain ⟨g1, h⟩ := h
    refine jy_putI hS rfl (by decide) g1 ?_
    intro I2 e9
    have h := h I2 e9
    clear e9
    refine jy_aload_n hS rfl rfl ?_
    refine jy_getI hS rfl (by decide) g1 ?_
    refine jy_if_ne hS rfl (jy_rng _) (fun hq => ?_) (fun hq => ?_)
    · have h := h.1 hq
      refine jy_aload_n hS rfl rfl ?_
      refine jy_dup hS rfl rfl ?_
      refine jy_getI hS rfl (by decide) g1 ?_
      refine jy_iconst hS rfl ?_
      refine jy_isub hS rfl ?_
      refine jy_putI hS rfl (by decide) g1 ?_
      intro I3 e9
      have h := h I3 e9
      clear e9
      refine jy_iconst hS rfl ?_
      refine jy_istore_n hS rfl (Nat.le_of_ble_eq_true rfl) (L' := [some (.ref a0), some (jy 0), none]) rfl ?_
      exact jy_join hS h rfl (jy_sub_s (jy_sub_s (jy_sub_n jy_sub_0)))
    · have h := h.2 hq
      refine jy_iconst hS rfl ?_
      exact jy_iret hS rfl rfl ⟨rfl, rfl, h⟩
  refine ⟨?_, ?_⟩
  · intro l1 I h
    unfold wz_267_26 at h
    refine jy_iload_n hS rfl rfl ?_
    refine jy_bipush hS rfl (by decide) ?_
    obtain ⟨g4, h⟩ := h
    refine jy_icmp_ge hS rfl ⟨g4, ⟨by decide, by decide⟩⟩ (fun hq => ?_) (fun hq => ?_)
    · have h := h.1 hq
      refine jy_aload_n hS rfl rfl ?_
      obtain ⟨g5, h⟩ := h
      refine jy_getI hS rfl (by decide) g5 ?_
      exact jy_iret hS rfl rfl ⟨rfl, rfl, h⟩
    · have h := h.2 hq
      refine jy_iconst hS rfl ?_
      refine jy_istore_n hS rfl (Nat.le_of_ble_eq_true rfl) (L' := [some (.ref a0), some (jy l1), some (jy 0)]) rfl ?_
      exact jy_join hS h rfl (jy_sub_s (jy_sub_s (jy_sub_s jy_sub_0)))
  · intro l1 l2 I h
    unfold wz_267_34 at h
    refine jy_iload_n hS rfl rfl ?_
    refine jy_bipush hS rfl (by decide) ?_
    obtain ⟨g6, h⟩ := h
    refine jy_icmp_ge hS rfl ⟨g6, ⟨by decide, by decide⟩⟩ (fun hq => ?_) (fun hq => ?_)
    · have h := h.1 hq
      refine jy_iinc hS rfl rfl (L' := [some (.ref a0), some (jy (l1 + 1)), some (jy l2)]) rfl ?_
      refine jy_goto hS rfl ?_
      exact jy_join hS h rfl (jy_sub_s (jy_sub_s (jy_sub_n jy_sub_0)))
    · have h := h.2 hq
      refine jy_aload_n hS rfl rfl ?_
      obtain ⟨g7, h⟩ := h
      obtain ⟨q8, h⟩ := h
      obtain ⟨g9, h⟩ := h
      refine jy_getR hS rfl (by decide) g7 g9 ?_
      refine jy_iload_n hS rfl rfl ?_
      obtain ⟨n10, h⟩ := h
      obtain ⟨g11, h⟩ := h
      obtain ⟨g12, h⟩ := h
      obtain ⟨q13, h⟩ := h
      obtain ⟨g14, h⟩ := h
      refine jy_aald hS rfl g11.1 (by decide) (Nat.le_of_lt g11.2) g12 g14 ?_
      refine jy_iload_n hS rfl rfl ?_
      refine jy_aload_n hS rfl rfl ?_
      obtain ⟨q15, h⟩ := h
      obtain ⟨g16, h⟩ := h
      refine jy_getR hS rfl (by decide) g7 g16 ?_
      refine jy_aload_n hS rfl rfl ?_
      refine jy_getI hS rfl (by decide) g7 ?_
      obtain ⟨n17, h⟩ := h
      obtain ⟨g18, h⟩ := h
      obtain ⟨g19, h⟩ := h
      obtain ⟨q20, h⟩ := h
      obtain ⟨g21, h⟩ := h
      refine jy_aald hS rfl g18.1 (by decide) (Nat.le_of_lt g18.2) g19 g21 ?_
      refine jy_iload_n hS rfl rfl ?_
      refine jy_bipush hS rfl (by decide) ?_
      refine jy_imul hS rfl ?_
      refine jy_iload_n hS rfl rfl ?_
      refine jy_iadd hS rfl ?_
      obtain ⟨n22, h⟩ := h
      obtain ⟨g23, h⟩ := h
      obtain ⟨g24, h⟩ := h
      refine jy_iald hS rfl g23.1 (Nat.le_of_lt g23.2) g24 ?_
      obtain ⟨n25, h⟩ := h
      obtain ⟨g26, h⟩ := h
      obtain ⟨g27, h⟩ := h
      refine jy_iast hS rfl g26.1 (Nat.le_of_lt g26.2) g27 ?_
      intro I28 e9
      have h := h I28 e9
      clear e9
      refine jy_aload_n hS rfl rfl ?_
      obtain ⟨q29, h⟩ := h
      obtain ⟨g30, h⟩ := h
      refine jy_getR hS rfl (by decide) g7 g30 ?_
      refine jy_iload_n hS rfl rfl ?_
      obtain ⟨n31, h⟩ := h
      obtain ⟨g32, h⟩ := h
      obtain ⟨g33, h⟩ := h
      obtain ⟨q34, h⟩ := h
      obtain ⟨g35, h⟩ := h
      refine jy_aald hS rfl g32.1 (by decide) (Nat.le_of_lt g32.2) g33 g35 ?_
      refine jy_iload_n hS rfl rfl ?_
      refine jy_aload_n hS rfl rfl ?_
      refine jy_getR hS rfl (by decide) g7 g16 ?_
      refine jy_aload_n hS rfl rfl ?_
      refine jy_getI hS rfl (by decide) g7 ?_
      obtain ⟨g36, h⟩ := h
      obtain ⟨q37, h⟩ := h
      obtain ⟨g38, h⟩ := h
      refine jy_aald hS rfl g18.1 (by decide) (Nat.le_of_lt g18.2) g36 g38 ?_
      refine jy_bipush hS rfl (by decide) ?_
      refine jy_iload_n hS rfl rfl ?_
      refine jy_bipush hS rfl (by decide) ?_
      refine jy_imul hS rfl ?_
      refine jy_iadd hS rfl ?_
      refine jy_iload_n hS rfl rfl ?_
      refine jy_iadd hS rfl ?_
      obtain ⟨n39, h⟩ := h
      obtain ⟨g40, h⟩ := h
      obtain ⟨g41, h⟩ := h
      refine jy_iald hS rfl g40.1 (Nat.le_of_lt g40.2) g41 ?_
      obtain ⟨n42, h⟩ := h
      obtain ⟨g43, h⟩ := h
      obtain ⟨g44, h⟩ := h
      refine jy_iast hS rfl g43.1 (Nat.le_of_lt g43.2) g44 ?_
      intro I45 e9
      have h := h I45 e9
      clear e9
      refine jy_iinc hS rfl rfl (L' := [some (.ref a0), some (jy l1), some (jy (l2 + 1))]) rfl ?_
      refine jy_goto hS rfl ?_
      exact jy_join hS h rfl (jy_sub_s (jy_sub_s (jy_sub_s jy_sub_0)))
theorem jt_268 : jx_ml 268 = 6 ∧ jx_rt 268 = none ∧ jx_hz 268 = [] ∧ decide ((jx_nm 268).name = "<init>") = false ∧ jx_code 268 = jx_c268 := by decide +kernel
/-- GCModel.laysLeft, from 2 -/
def wz_268_2 (V : jx_V) (X : jx_X) (R : jx_R) (Q : Option Value → jx_I → Prop) (QE : String → jx_I → Prop) (J2 : Int → jx_I → Prop) (J23 : Nat → Int → Int → Int → jx_I → Prop) (J32 : Int → jx_I → Prop) (J44 : Int → Int → jx_I → Prop) (J57 : Int → Int → Int → jx_I → Prop) (J157 : Nat → Int → Int → Int → Int → Int → jx_I → Prop) (J158 : Int → Int → Int → jx_I → Prop) (a0 : Nat) (a1 : Int) (l2 : Int) (I : jx_I) : Prop :=
  (-2147483648 ≤ l2 ∧ l2 < 2147483648) ∧ (
  (10 ≤ l2 → (
    J32 0 I
  )) ∧ (¬ 10 ≤ l2 → (
    (X.2.1 a0 = some (12, 0)) ∧ (
    ∃ q3 : Nat, (
    (R a0 50 = some q3) ∧ (
    (l2 ≠ a1 → (
      J23 q3 l2 (-1) l2 I
    )) ∧ (l2 = a1 → (
      J23 q3 l2 0 l2 I
    )))))
  )))
/-- GCModel.laysLeft, from 23 -/
def wz_268_23 (V : jx_V) (X : jx_X) (R : jx_R) (Q : Option Value → jx_I → Prop) (QE : String → jx_I → Prop) (J2 : Int → jx_I → Prop) (J23 : Nat → Int → Int → Int → jx_I → Prop) (J32 : Int → jx_I → Prop) (J44 : Int → Int → jx_I → Prop) (J57 : Int → Int → Int → jx_I → Prop) (J157 : Nat → Int → Int → Int → Int → Int → jx_I → Prop) (J158 : Int → Int → Int → jx_I → Prop) (a0 : Nat) (a1 : Int) (s0 : Nat) (s1 : Int) (s2 : Int) (l2 : Int) (I : jx_I) : Prop :=
  ∃ n5 : Nat, (
  (X.2.1 s0 = some (100, n5) ∧ n5 < 2147483648) ∧ (
  (0 ≤ s1 ∧ s1 < n5) ∧ (
  ∀ I8 : jx_I, I8 = jx_u I s0 s1.toNat (Int32.ofInt s2) → (
  J2 (l2 + 1) I8))))
/-- GCModel.laysLeft, from 32 -/
def wz_268_32 (V : jx_V) (X : jx_X) (R : jx_R) (Q : Option Value → jx_I → Prop) (QE : String → jx_I → Prop) (J2 : Int → jx_I → Prop) (J23 : Nat → Int → Int → Int → jx_I → Prop) (J32 : Int → jx_I → Prop) (J44 : Int → Int → jx_I → Prop) (J57 : Int → Int → Int → jx_I → Prop) (J157 : Nat → Int → Int → Int → Int → Int → jx_I → Prop) (J158 : Int → Int → Int → jx_I → Prop) (a0 : Nat) (a1 : Int) (l2 : Int) (I : jx_I) : Prop :=
  (X.2.1 a0 = some (12, 0)) ∧ (
  ∃ q10 : Nat, (
  (R a0 11 = some q10) ∧ (
  ∃ n12 : Nat, (
  (X.2.1 q10 = some (100, n12) ∧ n12 < 2147483648) ∧ (
  (0 ≤ (0 : Int) ∧ (0 : Int) < n12) ∧ (
  (-2147483648 ≤ l2 ∧ l2 < 2147483648) ∧ (
  ((I q10 (0 : Int).toNat).toInt ≤ l2 → (
    Q none I
  )) ∧ (¬ (I q10 (0 : Int).toNat).toInt ≤ l2 → (
    J44 l2 0 I
  )))))))))
/-- GCModel.laysLeft, from 44 -/
def wz_268_44 (V : jx_V) (X : jx_X) (R : jx_R) (Q : Option Value → jx_I → Prop) (QE : String → jx_I → Prop) (J2 : Int → jx_I → Prop) (J23 : Nat → Int → Int → Int → jx_I → Prop) (J32 : Int → jx_I → Prop) (J44 : Int → Int → jx_I → Prop) (J57 : Int → Int → Int → jx_I → Prop) (J157 : Nat → Int → Int → Int → Int → Int → jx_I → Prop) (J158 : Int → Int → Int → jx_I → Prop) (a0 : Nat) (a1 : Int) (l2 : Int) (l3 : Int) (I : jx_I) : Prop :=
  (X.2.1 a0 = some (12, 0)) ∧ (
  ∃ q17 : Nat, (
  (R a0 11 = some q17) ∧ (
  ∃ n19 : Nat, (
  (X.2.1 q17 = some (100, n19) ∧ n19 < 2147483648) ∧ (
  (0 ≤ (0 : Int) ∧ (0 : Int) < n19) ∧ (
  (-2147483648 ≤ l3 ∧ l3 < 2147483648) ∧ (
  ((I q17 (0 : Int).toNat).toInt ≤ l3 → (
    J32 (l2 + 1) I
  )) ∧ (¬ (I q17 (0 : Int).toNat).toInt ≤ l3 → (
    J57 l2 l3 0 I
  )))))))))
/-- GCModel.laysLeft, from 57 -/
def wz_268_57 (V : jx_V) (X : jx_X) (R : jx_R) (Q : Option Value → jx_I → Prop) (QE : String → jx_I → Prop) (J2 : Int → jx_I → Prop) (J23 : Nat → Int → Int → Int → jx_I → Prop) (J32 : Int → jx_I → Prop) (J44 : Int → Int → jx_I → Prop) (J57 : Int → Int → Int → jx_I → Prop) (J157 : Nat → Int → Int → Int → Int → Int → jx_I → Prop) (J158 : Int → Int → Int → jx_I → Prop) (a0 : Nat) (a1 : Int) (l2 : Int) (l3 : Int) (l4 : Int) (I : jx_I) : Prop :=
  (X.2.1 a0 = some (12, 0)) ∧ (
  ∃ q24 : Nat, (
  (R a0 11 = some q24) ∧ (
  ∃ n26 : Nat, (
  (X.2.1 q24 = some (100, n26) ∧ n26 < 2147483648) ∧ (
  (0 ≤ (0 : Int) ∧ (0 : Int) < n26) ∧ (
  (-2147483648 ≤ l4 ∧ l4 < 2147483648) ∧ (
  ((I q24 (0 : Int).toNat).toInt ≤ l4 → (
    J44 l2 (l3 + 1) I
  )) ∧ (¬ (I q24 (0 : Int).toNat).toInt ≤ l4 → (
    ∃ q30 : Nat, (
    (R a0 21 = some q30) ∧ (
    ∃ n32 : Nat, (
    (X.2.1 q30 = some (104, n32) ∧ n32 < 2147483648) ∧ (
    (0 ≤ l3 ∧ l3 < n32) ∧ (
    ∃ q35 : Nat, (
    (R q30 l3.toNat = some q35) ∧ (
    ∃ n37 : Nat, (
    (X.2.1 q35 = some (100, n37) ∧ n37 < 2147483648) ∧ (
    (0 ≤ l4 ∧ l4 < n37) ∧ (
    ((I q35 l4.toNat).toInt = 0 → (
      J57 l2 l3 (l4 + 1) I
    )) ∧ (¬ (I q35 l4.toNat).toInt = 0 → (
      ∃ q40 : Nat, (
      (R a0 50 = some q40) ∧ (
      ∃ n42 : Nat, (
      (X.2.1 q40 = some (100, n42) ∧ n42 < 2147483648) ∧ (
      (0 ≤ l4 ∧ l4 < n42) ∧ (
      ((I q40 l4.toNat).toInt ≠ (-1) → (
        (0 ≤ l3 ∧ l3 < n32) ∧ (
        ∃ q46 : Nat, (
        (R q30 l3.toNat = some q46) ∧ (
        ∃ n48 : Nat, (
        (X.2.1 q46 = some (100, n48) ∧ n48 < 2147483648) ∧ (
        (0 ≤ l4 ∧ l4 < n48) ∧ (
        ∃ Q51 : Option Value → jx_I → Prop, (
        (jc V 3 246 (0, 0) [.ref a0, jy l4] X I R Q51 (fun _ _ => False)) ∧ (
        ∀ rv I53, Q51 rv I53 → ∃ r54 : Int, rv = some (jy r54) ∧ (
        (0 ≤ l4 ∧ l4 < n42) ∧ (
        (0 ≤ l3 ∧ l3 < n42) ∧ (
        ((I53 q40 l3.toNat).toInt = (-1) → (
          J157 q40 l3 (((I q46 l4.toNat).toInt + r54) + (I53 q40 l4.toNat).toInt) l2 l3 l4 I53
        )) ∧ (¬ (I53 q40 l3.toNat).toInt = (-1) → (
          (0 ≤ l3 ∧ l3 < n42) ∧ (
          (-2147483648 ≤ (((I q46 l4.toNat).toInt + r54) + (I53 q40 l4.toNat).toInt) ∧ (((I q46 l4.toNat).toInt + r54) + (I53 q40 l4.toNat).toInt) < 2147483648) ∧ (
          ((I53 q40 l3.toNat).toInt ≤ (((I q46 l4.toNat).toInt + r54) + (I53 q40 l4.toNat).toInt) → (
            (0 ≤ l3 ∧ l3 < n42) ∧ (
            J157 q40 l3 ((I53 q40 l3.toNat).toInt) l2 l3 l4 I53)
          )) ∧ (¬ (I53 q40 l3.toNat).toInt ≤ (((I q46 l4.toNat).toInt + r54) + (I53 q40 l4.toNat).toInt) → (
            J157 q40 l3 (((I q46 l4.toNat).toInt + r54) + (I53 q40 l4.toNat).toInt) l2 l3 l4 I53
          ))))
        )))))))))))))
      )) ∧ ((I q40 l4.toNat).toInt = (-1) → (
        J158 l2 l3 l4 I
      )))))))
    ))))))))))))
  )))))))))
/-- GCModel.laysLeft, from 157 -/
def wz_268_157 (V : jx_V) (X : jx_X) (R : jx_R) (Q : Option Value → jx_I → Prop) (QE : String → jx_I → Prop) (J2 : Int → jx_I → Prop) (J23 : Nat → Int → Int → Int → jx_I → Prop) (J32 : Int → jx_I → Prop) (J44 : Int → Int → jx_I → Prop) (J57 : Int → Int → Int → jx_I → Prop) (J157 : Nat → Int → Int → Int → Int → Int → jx_I → Prop) (J158 : Int → Int → Int → jx_I → Prop) (a0 : Nat) (a1 : Int) (s0 : Nat) (s1 : Int) (s2 : Int) (l2 : Int) (l3 : Int) (l4 : Int) (I : jx_I) : Prop :=
  ∃ n60 : Nat, (
  (X.2.1 s0 = some (100, n60) ∧ n60 < 2147483648) ∧ (
  (0 ≤ s1 ∧ s1 < n60) ∧ (
  ∀ I63 : jx_I, I63 = jx_u I s0 s1.toNat (Int32.ofInt s2) → (
  J158 l2 l3 l4 I63))))
/-- GCModel.laysLeft, from 158 -/
def wz_268_158 (V : jx_V) (X : jx_X) (R : jx_R) (Q : Option Value → jx_I → Prop) (QE : String → jx_I → Prop) (J2 : Int → jx_I → Prop) (J23 : Nat → Int → Int → Int → jx_I → Prop) (J32 : Int → jx_I → Prop) (J44 : Int → Int → jx_I → Prop) (J57 : Int → Int → Int → jx_I → Prop) (J157 : Nat → Int → Int → Int → Int → Int → jx_I → Prop) (J158 : Int → Int → Int → jx_I → Prop) (a0 : Nat) (a1 : Int) (l2 : Int) (l3 : Int) (l4 : Int) (I : jx_I) : Prop :=
  J57 l2 l3 (l4 + 1) I
/-- GCModel.laysLeft -/
def wz_268 (V : jx_V) (X : jx_X) (R : jx_R) (Q : Option Value → jx_I → Prop) (QE : String → jx_I → Prop) (J2 : Int → jx_I → Prop) (J23 : Nat → Int → Int → Int → jx_I → Prop) (J32 : Int → jx_I → Prop) (J44 : Int → Int → jx_I → Prop) (J57 : Int → Int → Int → jx_I → Prop) (J157 : Nat → Int → Int → Int → Int → Int → jx_I → Prop) (J158 : Int → Int → Int → jx_I → Prop) (a0 : Nat) (a1 : Int) (I : jx_I) : Prop :=
  J2 0 I
set_option maxRecDepth 20000 in
theorem wm_268 {V : jx_V} (hV : V.1.stackTraces = false) {X : jx_X} {R : jx_R} {I : jx_I} {Q : Option Value → jx_I → Prop} {QE : String → jx_I → Prop} {a0 : Nat} {a1 : Int} (r_a1 : -2147483648 ≤ a1 ∧ a1 < 2147483648) 
    (h : ∀ (J2 : Int → jx_I → Prop) (J23 : Nat → Int → Int → Int → jx_I → Prop) (J32 : Int → jx_I → Prop) (J44 : Int → Int → jx_I → Prop) (J57 : Int → Int → Int → jx_I → Prop) (J157 : Nat → Int → Int → Int → Int → Int → jx_I → Prop) (J158 : Int → Int → Int → jx_I → Prop), ((∀ (l2 : Int) I, wz_268_2 V X R Q QE J2 J23 J32 J44 J57 J157 J158 a0 a1 l2 I → J2 l2 I) ∧ (∀ (s0 : Nat) (s1 : Int) (s2 : Int) (l2 : Int) I, wz_268_23 V X R Q QE J2 J23 J32 J44 J57 J157 J158 a0 a1 s0 s1 s2 l2 I → J23 s0 s1 s2 l2 I) ∧ (∀ (l2 : Int) I, wz_268_32 V X R Q QE J2 J23 J32 J44 J57 J157 J158 a0 a1 l2 I → J32 l2 I) ∧ (∀ (l2 : Int) (l3 : Int) I, wz_268_44 V X R Q QE J2 J23 J32 J44 J57 J157 J158 a0 a1 l2 l3 I → J44 l2 l3 I) ∧ (∀ (l2 : Int) (l3 : Int) (l4 : Int) I, wz_268_57 V X R Q QE J2 J23 J32 J44 J57 J157 J158 a0 a1 l2 l3 l4 I → J57 l2 l3 l4 I) ∧ (∀ (s0 : Nat) (s1 : Int) (s2 : Int) (l2 : Int) (l3 : Int) (l4 : Int) I, wz_268_157 V X R Q QE J2 J23 J32 J44 J57 J157 J158 a0 a1 s0 s1 s2 l2 l3 l4 I → J157 s0 s1 s2 l2 l3 l4 I) ∧ (∀ (l2 : Int) (l3 : Int) (l4 : Int) I, wz_268_158 V X R Q QE J2 J23 J32 J44 J57 J157 J158 a0 a1 l2 l3 l4 I → J158 l2 l3 l4 I)) → wz_268 V X R Q QE J2 J23 J32 J44 J57 J157 J158 a0 a1 I) : jc V 4 268 (0, 0) [.ref a0, jy a1] X I R Q QE := by
  refine jy_met hV (by decide) (n := 6) (rt := none) (hh := []) (ini := false) (C := jx_c268) (L := [some (.ref a0), some (jy a1), none, none, none, none]) jt_268 (Nat.le_of_ble_eq_true rfl) rfl ?_
  intro J hS
  have h := h (fun l2 I => J 2 [] [some (.ref a0), some (jy a1), some (jy l2), none, none, none] (0, 0) X I R) (fun s0 s1 s2 l2 I => J 23 [jy s2, jy s1, .ref s0] [some (.ref a0), some (jy a1), some (jy l2), none, none, none] (0, 0) X I R) (fun l2 I => J 32 [] [some (.ref a0), none, some (jy l2), none, none, none] (0, 0) X I R) (fun l2 l3 I => J 44 [] [some (.ref a0), none, some (jy l2), some (jy l3), none, none] (0, 0) X I R) (fun l2 l3 l4 I => J 57 [] [some (.ref a0), none, some (jy l2), some (jy l3), some (jy l4), none] (0, 0) X I R) (fun s0 s1 s2 l2 l3 l4 I => J 157 [jy s2, jy s1, .ref s0] [some (.ref a0), none, some (jy l2), some (jy l3), some (jy l4), none] (0, 0) X I R) (fun l2 l3 l4 I => J 158 [] [some (.ref a0), none, some (jy l2), some (jy l3), some (jy l4), none] (0, 0) X I R) ?_
  · unfold wz_268 at h
    refine jy_iconst hS rfl ?_
    refine jy_istore_n hS rfl (Nat.le_of_ble_eq_true rfl) (L' := [some (.ref a0), some (jy a1), some (jy 0), none, none, none]) rfl ?_
    exact jy_join hS h rfl (jy_sub_s (jy_sub_s (jy_sub_s (jy_sub_n (jy_sub_n (jy_sub_n jy_sub_0))))))
  refine ⟨?_, ?_, ?_, ?_, ?_, ?_, ?_⟩
  · intro l2 I h
    unfold wz_268_2 at h
    refine jy_iload_n hS rfl rfl ?_
    refine jy_bipush hS rfl (by decide) ?_
    obtain ⟨g1, h⟩ := h
    refine jy_icmp_ge hS rfl ⟨g1, ⟨by decide, by decide⟩⟩ (fun hq => ?_) (fun hq => ?_)
    · have h := h.1 hq
      refine jy_iconst hS rfl ?_
      refine jy_istore_n hS rfl (Nat.le_of_ble_eq_true rfl) (L' := [some (.ref a0), some (jy a1), some (jy 0), none, none, none]) rfl ?_
      exact jy_join hS h rfl (jy_sub_s (jy_sub_n (jy_sub_s (jy_sub_n (jy_sub_n (jy_sub_n jy_sub_0))))))
    · have h := h.2 hq
      refine jy_aload_n hS rfl rfl ?_
      obtain ⟨g2, h⟩ := h
      obtain ⟨q3, h⟩ := h
      obtain ⟨g4, h⟩ := h
      refine jy_getR hS rfl (by decide) g2 g4 ?_
      refine jy_iload_n hS rfl rfl ?_
      refine jy_iload_n hS rfl rfl ?_
      refine jy_iload_n hS rfl rfl ?_
      refine jy_icmp_ne hS rfl ⟨g1, r_a1⟩ (fun hq => ?_) (fun hq => ?_)
      · have h := h.1 hq
        refine jy_iconst hS rfl ?_
        exact jy_join hS h rfl (jy_sub_s (jy_sub_s (jy_sub_s (jy_sub_n (jy_sub_n (jy_sub_n jy_sub_0))))))
      · have h := h.2 hq
        refine jy_iconst hS rfl ?_
        refine jy_goto hS rfl ?_
        exact jy_join hS h rfl (jy_sub_s (jy_sub_s (jy_sub_s (jy_sub_n (jy_sub_n (jy_sub_n jy_sub_0))))))
  · intro s0 s1 s2 l2 I h
    unfold wz_268_23 at h
    obtain ⟨n5, h⟩ := h
    obtain ⟨g6, h⟩ := h
    obtain ⟨g7, h⟩ := h
    refine jy_iast hS rfl g6.1 (Nat.le_of_lt g6.2) g7 ?_
    intro I8 e9
    have h := h I8 e9
    clear e9
    refine jy_iinc hS rfl rfl (L' := [some (.ref a0), some (jy a1), some (jy (l2 + 1)), none, none, none]) rfl ?_
    refine jy_goto hS rfl ?_
    exact jy_join hS h rfl (jy_sub_s (jy_sub_s (jy_sub_s (jy_sub_n (jy_sub_n (jy_sub_n jy_sub_0))))))
  · intro l2 I h
    unfold wz_268_32 at h
    refine jy_iload_n hS rfl rfl ?_
    refine jy_aload_n hS rfl rfl ?_
    obtain ⟨g9, h⟩ := h
    obtain ⟨q10, h⟩ := h
    obtain ⟨g11, h⟩ := h
    refine jy_getR hS rfl (by decide) g9 g11 ?_
    refine jy_iconst hS rfl ?_
    obtain ⟨n12, h⟩ := h
    obtain ⟨g13, h⟩ := h
    obtain ⟨g14, h⟩ := h
    refine jy_iald hS rfl g13.1 (Nat.le_of_lt g13.2) g14 ?_
    obtain ⟨g15, h⟩ := h
    refine jy_icmp_ge hS rfl ⟨g15, (jy_rng _)⟩ (fun hq => ?_) (fun hq => ?_)
    · have h := h.1 hq
      exact jy_ret hS rfl rfl ⟨rfl, rfl, h⟩
    · have h := h.2 hq
      refine jy_iconst hS rfl ?_
      refine jy_istore_n hS rfl (Nat.le_of_ble_eq_true rfl) (L' := [some (.ref a0), none, some (jy l2), some (jy 0), none, none]) rfl ?_
      exact jy_join hS h rfl (jy_sub_s (jy_sub_n (jy_sub_s (jy_sub_s (jy_sub_n (jy_sub_n jy_sub_0))))))
  · intro l2 l3 I h
    unfold wz_268_44 at h
    refine jy_iload_n hS rfl rfl ?_
    refine jy_aload_n hS rfl rfl ?_
    obtain ⟨g16, h⟩ := h
    obtain ⟨q17, h⟩ := h
    obtain ⟨g18, h⟩ := h
    refine jy_getR hS rfl (by decide) g16 g18 ?_
    refine jy_iconst hS rfl ?_
    obtain ⟨n19, h⟩ := h
    obtain ⟨g20, h⟩ := h
    obtain ⟨g21, h⟩ := h
    refine jy_iald hS rfl g20.1 (Nat.le_of_lt g20.2) g21 ?_
    obtain ⟨g22, h⟩ := h
    refine jy_icmp_ge hS rfl ⟨g22, (jy_rng _)⟩ (fun hq => ?_) (fun hq => ?_)
    · have h := h.1 hq
      refine jy_iinc hS rfl rfl (L' := [some (.ref a0), none, some (jy (l2 + 1)), some (jy l3), none, none]) rfl ?_
      refine jy_goto hS rfl ?_
      exact jy_join hS h rfl (jy_sub_s (jy_sub_n (jy_sub_s (jy_sub_n (jy_sub_n (jy_sub_n jy_sub_0))))))
    · have h := h.2 hq
      refine jy_iconst hS rfl ?_
      refine jy_istore hS rfl (Nat.le_of_ble_eq_true rfl) (L' := [some (.ref a0), none, some (jy l2), some (jy l3), some (jy 0), none]) rfl ?_
      exact jy_join hS h rfl (jy_sub_s (jy_sub_n (jy_sub_s (jy_sub_s (jy_sub_s (jy_sub_n jy_sub_0))))))
  · intro l2 l3 l4 I h
    unfold wz_268_57 at h
    refine jy_iload hS rfl rfl ?_
    refine jy_aload_n hS rfl rfl ?_
    obtain ⟨g23, h⟩ := h
    obtain ⟨q24, h⟩ := h
    obtain ⟨g25, h⟩ := h
    refine jy_getR hS rfl (by decide) g23 g25 ?_
    refine jy_iconst hS rfl ?_
    obtain ⟨n26, h⟩ := h
    obtain ⟨g27, h⟩ := h
    obtain ⟨g28, h⟩ := h
    refine jy_iald hS rfl g27.1 (Nat.le_of_lt g27.2) g28 ?_
    obtain ⟨g29, h⟩ := h
    refine jy_icmp_ge hS rfl ⟨g29, (jy_rng _)⟩ (fun hq => ?_) (fun hq => ?_)
    · have h := h.1 hq
      refine jy_iinc hS rfl rfl (L' := [some (.ref a0), none, some (jy l2), some (jy (l3 + 1)), some (jy l4), none]) rfl ?_
      refine jy_goto hS rfl ?_
      exact jy_join hS h rfl (jy_sub_s (jy_sub_n (jy_sub_s (jy_sub_s (jy_sub_n (jy_sub_n jy_sub_0))))))
    · have h := h.2 hq
      refine jy_aload_n hS rfl rfl ?_
      obtain ⟨q30, h⟩ := h
      obtain ⟨g31, h⟩ := h
      refine jy_getR hS rfl (by decide) g23 g31 ?_
      refine jy_iload_n hS rfl rfl ?_
      obtain ⟨n32, h⟩ := h
      obtain ⟨g33, h⟩ := h
      obtain ⟨g34, h⟩ := h
      obtain ⟨q35, h⟩ := h
      obtain ⟨g36, h⟩ := h
      refine jy_aald hS rfl g33.1 (by decide) (Nat.le_of_lt g33.2) g34 g36 ?_
      refine jy_iload hS rfl rfl ?_
      obtain ⟨n37, h⟩ := h
      obtain ⟨g38, h⟩ := h
      obtain ⟨g39, h⟩ := h
      refine jy_iald hS rfl g38.1 (Nat.le_of_lt g38.2) g39 ?_
      refine jy_if_eq hS rfl (jy_rng _) (fun hq => ?_) (fun hq => ?_)
      · have h := h.1 hq
        refine jy_iinc hS rfl rfl (L' := [some (.ref a0), none, some (jy l2), some (jy l3), some (jy (l4 + 1)), none]) rfl ?_
        refine jy_goto hS rfl ?_
        exact jy_join hS h rfl (jy_sub_s (jy_sub_n (jy_sub_s (jy_sub_s (jy_sub_s (jy_sub_n jy_sub_0))))))
      · have h := h.2 hq
        refine jy_aload_n hS rfl rfl ?_
        obtain ⟨q40, h⟩ := h
        obtain ⟨g41, h⟩ := h
        refine jy_getR hS rfl (by decide) g23 g41 ?_
        refine jy_iload hS rfl rfl ?_
        obtain ⟨n42, h⟩ := h
        obtain ⟨g43, h⟩ := h
        obtain ⟨g44, h⟩ := h
        refine jy_iald hS rfl g43.1 (Nat.le_of_lt g43.2) g44 ?_
        refine jy_iconst hS rfl ?_
        refine jy_icmp_ne hS rfl ⟨(jy_rng _), ⟨by decide, by decide⟩⟩ (fun hq => ?_) (fun hq => ?_)
        · have h := h.1 hq
          refine jy_aload_n hS rfl rfl ?_
          refine jy_getR hS rfl (by decide) g23 g31 ?_
          refine jy_iload_n hS rfl rfl ?_
          obtain ⟨g45, h⟩ := h
          obtain ⟨q46, h⟩ := h
          obtain ⟨g47, h⟩ := h
          refine jy_aald hS rfl g33.1 (by decide) (Nat.le_of_lt g33.2) g45 g47 ?_
          refine jy_iload hS rfl rfl ?_
          obtain ⟨n48, h⟩ := h
          obtain ⟨g49, h⟩ := h
          obtain ⟨g50, h⟩ := h
          refine jy_iald hS rfl g49.1 (Nat.le_of_lt g49.2) g50 ?_
          refine jy_aload_n hS rfl rfl ?_
          refine jy_iload hS rfl rfl ?_
          obtain ⟨Q51, h⟩ := h
          obtain ⟨g52, h⟩ := h
          refine jy_callV hS rfl rfl rfl (Nat.le_of_ble_eq_true rfl) (Or.inl g23) g52 (by decide) ⟨by decide, by decide⟩ (Nat.le_of_ble_eq_true rfl) ?_ ?_
          rotate_left
          · exact fun Ex Xx Ix Rx hp => hp.2.2.2.elim
          intro rv Xx I53 Rx hp
          obtain ⟨e1, e2, hp⟩ := hp
          rw [e1, e2]
          clear e1 e2
          obtain ⟨r54, e1, h⟩ := h rv I53 hp
          rw [e1]
          clear e1
          change J 109 [jy r54, jy ((I q46 l4.toNat).toInt)] _ (0, 0) _ _ _
          refine jy_iadd hS rfl ?_
          refine jy_aload_n hS rfl rfl ?_
          refine jy_getR hS rfl (by decide) g23 g41 ?_
          refine jy_iload hS rfl rfl ?_
          obtain ⟨g55, h⟩ := h
          refine jy_iald hS rfl g43.1 (Nat.le_of_lt g43.2) g55 ?_
          refine jy_iadd hS rfl ?_
          refine jy_istore hS rfl (Nat.le_of_ble_eq_true rfl) (L' := [some (.ref a0), none, some (jy l2), some (jy l3), some (jy l4), some (jy (((I q46 l4.toNat).toInt + r54) + (I53 q40 l4.toNat).toInt))]) rfl ?_
          refine jy_aload_n hS rfl rfl ?_
          refine jy_getR hS rfl (by decide) g23 g41 ?_
          refine jy_iload_n hS rfl rfl ?_
          refine jy_aload_n hS rfl rfl ?_
          refine jy_getR hS rfl (by decide) g23 g41 ?_
          refine jy_iload_n hS rfl rfl ?_
          obtain ⟨g56, h⟩ := h
          refine jy_iald hS rfl g43.1 (Nat.le_of_lt g43.2) g56 ?_
          refine jy_iconst hS rfl ?_
          refine jy_icmp_eq hS rfl ⟨(jy_rng _), ⟨by decide, by decide⟩⟩ (fun hq => ?_) (fun hq => ?_)
          · have h := h.1 hq
            refine jy_iload hS rfl rfl ?_
            refine jy_goto hS rfl ?_
            exact jy_join hS h rfl (jy_sub_s (jy_sub_n (jy_sub_s (jy_sub_s (jy_sub_s (jy_sub_n jy_sub_0))))))
          · have h := h.2 hq
            refine jy_iload hS rfl rfl ?_
            refine jy_aload_n hS rfl rfl ?_
            refine jy_getR hS rfl (by decide) g23 g41 ?_
            refine jy_iload_n hS rfl rfl ?_
            obtain ⟨g57, h⟩ := h
            refine jy_iald hS rfl g43.1 (Nat.le_of_lt g43.2) g57 ?_
            obtain ⟨g58, h⟩ := h
            refine jy_icmp_ge hS rfl ⟨g58, (jy_rng _)⟩ (fun hq => ?_) (fun hq => ?_)
            · have h := h.1 hq
              refine jy_aload_n hS rfl rfl ?_
              refine jy_getR hS rfl (by decide) g23 g41 ?_
              refine jy_iload_n hS rfl rfl ?_
              obtain ⟨g59, h⟩ := h
              refine jy_iald hS rfl g43.1 (Nat.le_of_lt g43.2) g59 ?_
              exact jy_join hS h rfl (jy_sub_s (jy_sub_n (jy_sub_s (jy_sub_s (jy_sub_s (jy_sub_n jy_sub_0))))))
            · have h := h.2 hq
              refine jy_iload hS rfl rfl ?_
              refine jy_goto hS rfl ?_
              exact jy_join hS h rfl (jy_sub_s (jy_sub_n (jy_sub_s (jy_sub_s (jy_sub_s (jy_sub_n jy_sub_0))))))
        · have h := h.2 hq
          refine jy_goto hS rfl ?_
          exact jy_join hS h rfl (jy_sub_s (jy_sub_n (jy_sub_s (jy_sub_s (jy_sub_s (jy_sub_n jy_sub_0))))))
  · intro s0 s1 s2 l2 l3 l4 I h
    unfold wz_268_157 at h
    obtain ⟨n60, h⟩ := h
    obtain ⟨g61, h⟩ := h
    obtain ⟨g62, h⟩ := h
    refine jy_iast hS rfl g61.1 (Nat.le_of_lt g61.2) g62 ?_
    intro I63 e9
    have h := h I63 e9
    clear e9
    exact jy_join hS h rfl (jy_sub_s (jy_sub_n (jy_sub_s (jy_sub_s (jy_sub_s (jy_sub_n jy_sub_0))))))
  · intro l2 l3 l4 I h
    unfold wz_268_158 at h
    refine jy_iinc hS rfl rfl (L' := [some (.ref a0), none, some (jy l2), some (jy l3), some (jy (l4 + 1)), none]) rfl ?_
    refine jy_goto hS rfl ?_
    exact jy_join hS h rfl (jy_sub_s (jy_sub_n (jy_sub_s (jy_sub_s (jy_sub_s (jy_sub_n jy_sub_0))))))
theorem jt_269 : jx_ml 269 = 9 ∧ jx_rt 269 = some .long ∧ jx_hz 269 = [] ∧ decide ((jx_nm 269).name = "<init>") = false ∧ jx_code 269 = jx_c269 := by decide +kernel
/-- GCModel.least, from 27 -/
def wz_269_27 (V : jx_V) (X : jx_X) (R : jx_R) (Q : Option Value → jx_I → Prop) (QE : String → jx_I → Prop) (J27 : Nat → Int → jx_I → Prop) (J50 : Nat → Int → jx_I → Prop) (J93 : Int64 → Int → Int → jx_I → Prop) (J102 : Int64 → Int → Int → Int → jx_I → Prop) (a0 : Nat) (a1 : Int) (a2 : Int) (a3 : Int) (s0 : Nat) (s1 : Int) (I : jx_I) : Prop :=
  (X.2.1 s0 = some (12, 0)) ∧ (
  ∃ Q14 : Option Value → jx_I → Prop, (
  (jc V 1 202 (0, 0) [.ref s0, jy s1, jy 1, jy 0] X I R Q14 (fun _ _ => False)) ∧ (
  ∀ rv I16, Q14 rv I16 → ∃ r17 : Int, rv = some (jy r17) ∧ (
  (-2147483648 ≤ r17 ∧ r17 < 2147483648) ∧ (
  (r17 ≠ 0 → (
    Q (some (.long (0 : Int64))) I16
  )) ∧ (r17 = 0 → (
    ∃ Q19 : Option Value → jx_I → Prop, (
    (jc V 1 203 (0, 0) [jy a3, jy 0, jy 2] X I16 R Q19 (fun _ _ => False)) ∧ (
    ∀ rv I21, Q19 rv I21 → ∃ r22 : Int, rv = some (jy r22) ∧ (
    (-2147483648 ≤ r22 ∧ r22 < 2147483648) ∧ (
    (r22 ≠ 0 → (
      J50 a0 0 I21
    )) ∧ (r22 = 0 → (
      J50 a0 1 I21
    ))))))
  )))))))
/-- GCModel.least, from 50 -/
def wz_269_50 (V : jx_V) (X : jx_X) (R : jx_R) (Q : Option Value → jx_I → Prop) (QE : String → jx_I → Prop) (J27 : Nat → Int → jx_I → Prop) (J50 : Nat → Int → jx_I → Prop) (J93 : Int64 → Int → Int → jx_I → Prop) (J102 : Int64 → Int → Int → Int → jx_I → Prop) (a0 : Nat) (a1 : Int) (a2 : Int) (a3 : Int) (s0 : Nat) (s1 : Int) (I : jx_I) : Prop :=
  (X.2.1 s0 = some (12, 0)) ∧ (
  ∃ Q25 : Option Value → jx_I → Prop, (
  (jc V 1 202 (0, 0) [.ref s0, jy s1, jy 2, jy 2] X I R Q25 (fun _ _ => False)) ∧ (
  ∀ rv I27, Q25 rv I27 → ∃ r28 : Int, rv = some (jy r28) ∧ (
  (-2147483648 ≤ r28 ∧ r28 < 2147483648) ∧ (
  (r28 = 0 → (
    (X.2.1 a0 = some (12, 0)) ∧ (
    ∃ Q31 : Option Value → jx_I → Prop, (
    (jc V 1 243 (0, 0) [.ref a0] X I27 R Q31 (fun _ _ => False)) ∧ (
    ∀ rv I33, Q31 rv I33 → rv = none ∧ (
    ∃ Q35 : Option Value → jx_I → Prop, (
    (jc V 4 268 (0, 0) [.ref a0, jy a2] X I33 R Q35 (fun _ _ => False)) ∧ (
    ∀ rv I37, Q35 rv I37 → rv = none ∧ (
    ∃ q39 : Nat, (
    (R a0 50 = some q39) ∧ (
    ∃ n41 : Nat, (
    (X.2.1 q39 = some (100, n41) ∧ n41 < 2147483648) ∧ (
    (0 ≤ a1 ∧ a1 < n41) ∧ (
    ((I37 q39 a1.toNat).toInt ≠ (-1) → (
      J93 ((Int32.ofInt a1).toInt64) a1 1 I37
    )) ∧ ((I37 q39 a1.toNat).toInt = (-1) → (
      Q (some (.long (-1 : Int64))) I37
    ))))))))))))))
  )) ∧ (¬ r28 = 0 → (
    Q (some (.long (0 : Int64))) I27
  )))))))
/-- GCModel.least, from 93 -/
def wz_269_93 (V : jx_V) (X : jx_X) (R : jx_R) (Q : Option Value → jx_I → Prop) (QE : String → jx_I → Prop) (J27 : Nat → Int → jx_I → Prop) (J50 : Nat → Int → jx_I → Prop) (J93 : Int64 → Int → Int → jx_I → Prop) (J102 : Int64 → Int → Int → Int → jx_I → Prop) (a0 : Nat) (a1 : Int) (a2 : Int) (a3 : Int) (l4 : Int64) (l6 : Int) (l7 : Int) (I : jx_I) : Prop :=
  (-2147483648 ≤ l6 ∧ l6 < 2147483648) ∧ (
  (l6 = a2 → (
    (a3 ≠ 0 → (
      (a3 ≠ 1 → (
        Q (some (.long l4)) I
      )) ∧ (a3 = 1 → (
        Q (some (.long ((Int32.ofInt l7).toInt64))) I
      ))
    )) ∧ (a3 = 0 → (
      (X.2.1 a0 = some (12, 0)) ∧ (
      ∃ q46 : Nat, (
      (R a0 50 = some q46) ∧ (
      ∃ n48 : Nat, (
      (X.2.1 q46 = some (100, n48) ∧ n48 < 2147483648) ∧ (
      (0 ≤ a1 ∧ a1 < n48) ∧ (
      Q (some (.long ((Int32.ofInt ((I q46 a1.toNat).toInt)).toInt64))) I))))))
    ))
  )) ∧ (¬ l6 = a2 → (
    J102 l4 l6 l7 0 I
  )))
/-- GCModel.least, from 102 -/
def wz_269_102 (V : jx_V) (X : jx_X) (R : jx_R) (Q : Option Value → jx_I → Prop) (QE : String → jx_I → Prop) (J27 : Nat → Int → jx_I → Prop) (J50 : Nat → Int → jx_I → Prop) (J93 : Int64 → Int → Int → jx_I → Prop) (J102 : Int64 → Int → Int → Int → jx_I → Prop) (a0 : Nat) (a1 : Int) (a2 : Int) (a3 : Int) (l4 : Int64) (l6 : Int) (l7 : Int) (l8 : Int) (I : jx_I) : Prop :=
  (X.2.1 a0 = some (12, 0)) ∧ (
  ∃ q52 : Nat, (
  (R a0 21 = some q52) ∧ (
  ∃ n54 : Nat, (
  (X.2.1 q52 = some (104, n54) ∧ n54 < 2147483648) ∧ (
  (0 ≤ l6 ∧ l6 < n54) ∧ (
  ∃ q57 : Nat, (
  (R q52 l6.toNat = some q57) ∧ (
  ∃ n59 : Nat, (
  (X.2.1 q57 = some (100, n59) ∧ n59 < 2147483648) ∧ (
  (0 ≤ l8 ∧ l8 < n59) ∧ (
  ((I q57 l8.toNat).toInt = 0 → (
    J102 l4 l6 l7 (l8 + 1) I
  )) ∧ (¬ (I q57 l8.toNat).toInt = 0 → (
    ∃ q62 : Nat, (
    (R a0 50 = some q62) ∧ (
    ∃ n64 : Nat, (
    (X.2.1 q62 = some (100, n64) ∧ n64 < 2147483648) ∧ (
    (0 ≤ l8 ∧ l8 < n64) ∧ (
    ((I q62 l8.toNat).toInt = (-1) → (
      J102 l4 l6 l7 (l8 + 1) I
    )) ∧ (¬ (I q62 l8.toNat).toInt = (-1) → (
      (0 ≤ l6 ∧ l6 < n54) ∧ (
      ∃ q68 : Nat, (
      (R q52 l6.toNat = some q68) ∧ (
      ∃ n70 : Nat, (
      (X.2.1 q68 = some (100, n70) ∧ n70 < 2147483648) ∧ (
      (0 ≤ l8 ∧ l8 < n70) ∧ (
      ∃ Q73 : Option Value → jx_I → Prop, (
      (jc V 3 246 (0, 0) [.ref a0, jy l8] X I R Q73 (fun _ _ => False)) ∧ (
      ∀ rv I75, Q73 rv I75 → ∃ r76 : Int, rv = some (jy r76) ∧ (
      (0 ≤ l8 ∧ l8 < n64) ∧ (
      (0 ≤ l6 ∧ l6 < n64) ∧ (
      (-2147483648 ≤ (((I q68 l8.toNat).toInt + r76) + (I75 q62 l8.toNat).toInt) ∧ (((I q68 l8.toNat).toInt + r76) + (I75 q62 l8.toNat).toInt) < 2147483648) ∧ (
      ((((I q68 l8.toNat).toInt + r76) + (I75 q62 l8.toNat).toInt) = (I75 q62 l6.toNat).toInt → (
        J93 (((10 : Int64) * l4) + (Int32.ofInt l8).toInt64) l8 (l7 + 1) I75
      )) ∧ (¬ (((I q68 l8.toNat).toInt + r76) + (I75 q62 l8.toNat).toInt) = (I75 q62 l6.toNat).toInt → (
        J102 l4 l6 l7 (l8 + 1) I75
      ))))))))))))))
    )))))))
  )))))))))))))
/-- GCModel.least -/
def wz_269 (V : jx_V) (X : jx_X) (R : jx_R) (Q : Option Value → jx_I → Prop) (QE : String → jx_I → Prop) (J27 : Nat → Int → jx_I → Prop) (J50 : Nat → Int → jx_I → Prop) (J93 : Int64 → Int → Int → jx_I → Prop) (J102 : Int64 → Int → Int → Int → jx_I → Prop) (a0 : Nat) (a1 : Int) (a2 : Int) (a3 : Int) (I : jx_I) : Prop :=
  (X.2.1 a0 = some (12, 0)) ∧ (
  ∀ I2 : jx_I, I2 = jx_u I a0 0 (Int32.ofInt 0) → (
  ∃ Q3 : Option Value → jx_I → Prop, (
  (jc V 2 232 (0, 0) [.ref a0, jy a1] X I2 R Q3 (fun _ _ => False)) ∧ (
  ∀ rv I5, Q3 rv I5 → ∃ r6 : Int, rv = some (jy r6) ∧ (
  (-2147483648 ≤ r6 ∧ r6 < 2147483648) ∧ (
  (r6 = 0 → (
    J27 a0 1 I5
  )) ∧ (¬ r6 = 0 → (
    ∃ Q8 : Option Value → jx_I → Prop, (
    (jc V 2 232 (0, 0) [.ref a0, jy a2] X I5 R Q8 (fun _ _ => False)) ∧ (
    ∀ rv I10, Q8 rv I10 → ∃ r11 : Int, rv = some (jy r11) ∧ (
    (-2147483648 ≤ r11 ∧ r11 < 2147483648) ∧ (
    (r11 ≠ 0 → (
      J27 a0 0 I10
    )) ∧ (r11 = 0 → (
      J27 a0 1 I10
    ))))))
  ))))))))
set_option maxRecDepth 20000 in
theorem wm_269 {V : jx_V} (hV : V.1.stackTraces = false) {X : jx_X} {R : jx_R} {I : jx_I} {Q : Option Value → jx_I → Prop} {QE : String → jx_I → Prop} {a0 : Nat} {a1 : Int} {a2 : Int} {a3 : Int} (r_a1 : -2147483648 ≤ a1 ∧ a1 < 2147483648) (r_a2 : -2147483648 ≤ a2 ∧ a2 < 2147483648) (r_a3 : -2147483648 ≤ a3 ∧ a3 < 2147483648) 
    (h : ∀ (J27 : Nat → Int → jx_I → Prop) (J50 : Nat → Int → jx_I → Prop) (J93 : Int64 → Int → Int → jx_I → Prop) (J102 : Int64 → Int → Int → Int → jx_I → Prop), ((∀ (s0 : Nat) (s1 : Int) I, wz_269_27 V X R Q QE J27 J50 J93 J102 a0 a1 a2 a3 s0 s1 I → J27 s0 s1 I) ∧ (∀ (s0 : Nat) (s1 : Int) I, wz_269_50 V X R Q QE J27 J50 J93 J102 a0 a1 a2 a3 s0 s1 I → J50 s0 s1 I) ∧ (∀ (l4 : Int64) (l6 : Int) (l7 : Int) I, wz_269_93 V X R Q QE J27 J50 J93 J102 a0 a1 a2 a3 l4 l6 l7 I → J93 l4 l6 l7 I) ∧ (∀ (l4 : Int64) (l6 : Int) (l7 : Int) (l8 : Int) I, wz_269_102 V X R Q QE J27 J50 J93 J102 a0 a1 a2 a3 l4 l6 l7 l8 I → J102 l4 l6 l7 l8 I)) → wz_269 V X R Q QE J27 J50 J93 J102 a0 a1 a2 a3 I) : jc V 5 269 (0, 0) [.ref a0, jy a1, jy a2, jy a3] X I R Q QE := by
  refine jy_met hV (by decide) (n := 9) (rt := some .long) (hh := []) (ini := false) (C := jx_c269) (L := [some (.ref a0), some (jy a1), some (jy a2), some (jy a3), none, none, none, none, none]) jt_269 (Nat.le_of_ble_eq_true rfl) rfl ?_
  intro J hS
  have h := h (fun s0 s1 I => J 27 [jy s1, .ref s0] [some (.ref a0), some (jy a1), some (jy a2), some (jy a3), none, none, none, none, none] (0, 0) X I R) (fun s0 s1 I => J 50 [jy s1, .ref s0] [some (.ref a0), some (jy a1), some (jy a2), some (jy a3), none, none, none, none, none] (0, 0) X I R) (fun l4 l6 l7 I => J 93 [] [some (.ref a0), some (jy a1), some (jy a2), some (jy a3), some (.long l4), none, some (jy l6), some (jy l7), none] (0, 0) X I R) (fun l4 l6 l7 l8 I => J 102 [] [some (.ref a0), some (jy a1), some (jy a2), some (jy a3), some (.long l4), none, some (jy l6), some (jy l7), some (jy l8)] (0, 0) X I R) ?_
  · unfold wz_269 at h
    refine jy_aload_n hS rfl rfl ?_
    refine jy_iconst hS rfl ?_
    obtain ⟨g1, h⟩ := h
    refine jy_putI hS rfl (by decide) g1 ?_
    intro I2 e9
    have h := h I2 e9
    clear e9
    refine jy_aload_n hS rfl rfl ?_
    refine jy_aload_n hS rfl rfl ?_
    refine jy_iload_n hS rfl rfl ?_
    obtain ⟨Q3, h⟩ := h
    obtain ⟨g4, h⟩ := h
    refine jy_callV hS rfl rfl rfl (Nat.le_of_ble_eq_true rfl) (Or.inl g1) g4 (by decide) ⟨by decide, by decide⟩ (Nat.le_of_ble_eq_true rfl) ?_ ?_
    rotate_left
    · exact fun Ex Xx Ix Rx hp => hp.2.2.2.elim
    intro rv Xx I5 Rx hp
    obtain ⟨e1, e2, hp⟩ := hp
    rw [e1, e2]
    clear e1 e2
    obtain ⟨r6, e1, h⟩ := h rv I5 hp
    rw [e1]
    clear e1
    change J 11 [jy r6, .ref a0] _ (0, 0) _ _ _
    obtain ⟨g7, h⟩ := h
    refine jy_if_eq hS rfl g7 (fun hq => ?_) (fun hq => ?_)
    · have h := h.1 hq
      refine jy_iconst hS rfl ?_
      refine jy_goto hS rfl ?_
      exact jy_join hS h rfl (jy_sub_s (jy_sub_s (jy_sub_s (jy_sub_s (jy_sub_n (jy_sub_n (jy_sub_n (jy_sub_n (jy_sub_n jy_sub_0)))))))))
    · have h := h.2 hq
      refine jy_aload_n hS rfl rfl ?_
      refine jy_iload_n hS rfl rfl ?_
      obtain ⟨Q8, h⟩ := h
      obtain ⟨g9, h⟩ := h
      refine jy_callV hS rfl rfl rfl (Nat.le_of_ble_eq_true rfl) (Or.inl g1) g9 (by decide) ⟨by decide, by decide⟩ (Nat.le_of_ble_eq_true rfl) ?_ ?_
      rotate_left
      · exact fun Ex Xx Ix Rx hp => hp.2.2.2.elim
      intro rv Xx I10 Rx hp
      obtain ⟨e1, e2, hp⟩ := hp
      rw [e1, e2]
      clear e1 e2
      obtain ⟨r11, e1, h⟩ := h rv I10 hp
      rw [e1]
      clear e1
      change J 19 [jy r11, .ref a0] _ (0, 0) _ _ _
      obtain ⟨g12, h⟩ := h
      refine jy_if_ne hS rfl g12 (fun hq => ?_) (fun hq => ?_)
      · have h := h.1 hq
        refine jy_iconst hS rfl ?_
        exact jy_join hS h rfl (jy_sub_s (jy_sub_s (jy_sub_s (jy_sub_s (jy_sub_n (jy_sub_n (jy_sub_n (jy_sub_n (jy_sub_n jy_sub_0)))))))))
      · have h := h.2 hq
        refine jy_iconst hS rfl ?_
        refine jy_goto hS rfl ?_
        exact jy_join hS h rfl (jy_sub_s (jy_sub_s (jy_sub_s (jy_sub_s (jy_sub_n (jy_sub_n (jy_sub_n (jy_sub_n (jy_sub_n jy_sub_0)))))))))
  refine ⟨?_, ?_, ?_, ?_⟩
  · intro s0 s1 I h
    unfold wz_269_27 at h
    refine jy_iconst hS rfl ?_
    refine jy_iconst hS rfl ?_
    obtain ⟨g13, h⟩ := h
    obtain ⟨Q14, h⟩ := h
    obtain ⟨g15, h⟩ := h
    refine jy_callV hS rfl rfl rfl (Nat.le_of_ble_eq_true rfl) (Or.inl g13) g15 (by decide) ⟨by decide, by decide⟩ (Nat.le_of_ble_eq_true rfl) ?_ ?_
    rotate_left
    · exact fun Ex Xx Ix Rx hp => hp.2.2.2.elim
    intro rv Xx I16 Rx hp
    obtain ⟨e1, e2, hp⟩ := hp
    rw [e1, e2]
    clear e1 e2
    obtain ⟨r17, e1, h⟩ := h rv I16 hp
    rw [e1]
    clear e1
    change J 32 [jy r17] _ (0, 0) _ _ _
    obtain ⟨g18, h⟩ := h
    refine jy_if_ne hS rfl g18 (fun hq => ?_) (fun hq => ?_)
    · have h := h.1 hq
      refine jy_lconst hS rfl ?_
      exact jy_lret hS rfl rfl ⟨rfl, rfl, h⟩
    · have h := h.2 hq
      refine jy_aload_n hS rfl rfl ?_
      refine jy_iload_n hS rfl rfl ?_
      refine jy_iconst hS rfl ?_
      refine jy_iconst hS rfl ?_
      obtain ⟨Q19, h⟩ := h
      obtain ⟨g20, h⟩ := h
      refine jy_callS hS rfl rfl rfl (Nat.le_of_ble_eq_true rfl) g20 (by decide) ⟨by decide, by decide⟩ (Nat.le_of_ble_eq_true rfl) ?_ ?_
      rotate_left
      · exact fun Ex Xx Ix Rx hp => hp.2.2.2.elim
      intro rv Xx I21 Rx hp
      obtain ⟨e1, e2, hp⟩ := hp
      rw [e1, e2]
      clear e1 e2
      obtain ⟨r22, e1, h⟩ := h rv I21 hp
      rw [e1]
      clear e1
      change J 42 [jy r22, .ref a0] _ (0, 0) _ _ _
      obtain ⟨g23, h⟩ := h
      refine jy_if_ne hS rfl g23 (fun hq => ?_) (fun hq => ?_)
      · have h := h.1 hq
        refine jy_iconst hS rfl ?_
        exact jy_join hS h rfl (jy_sub_s (jy_sub_s (jy_sub_s (jy_sub_s (jy_sub_n (jy_sub_n (jy_sub_n (jy_sub_n (jy_sub_n jy_sub_0)))))))))
      · have h := h.2 hq
        refine jy_iconst hS rfl ?_
        refine jy_goto hS rfl ?_
        exact jy_join hS h rfl (jy_sub_s (jy_sub_s (jy_sub_s (jy_sub_s (jy_sub_n (jy_sub_n (jy_sub_n (jy_sub_n (jy_sub_n jy_sub_0)))))))))
  · intro s0 s1 I h
    unfold wz_269_50 at h
    refine jy_iconst hS rfl ?_
    refine jy_iconst hS rfl ?_
    obtain ⟨g24, h⟩ := h
    obtain ⟨Q25, h⟩ := h
    obtain ⟨g26, h⟩ := h
    refine jy_callV hS rfl rfl rfl (Nat.le_of_ble_eq_true rfl) (Or.inl g24) g26 (by decide) ⟨by decide, by decide⟩ (Nat.le_of_ble_eq_true rfl) ?_ ?_
    rotate_left
    · exact fun Ex Xx Ix Rx hp => hp.2.2.2.elim
    intro rv Xx I27 Rx hp
    obtain ⟨e1, e2, hp⟩ := hp
    rw [e1, e2]
    clear e1 e2
    obtain ⟨r28, e1, h⟩ := h rv I27 hp
    rw [e1]
    clear e1
    change J 55 [jy r28] _ (0, 0) _ _ _
    obtain ⟨g29, h⟩ := h
    refine jy_if_eq hS rfl g29 (fun hq => ?_) (fun hq => ?_)
    · have h := h.1 hq
      refine jy_aload_n hS rfl rfl ?_
      obtain ⟨g30, h⟩ := h
      obtain ⟨Q31, h⟩ := h
      obtain ⟨g32, h⟩ := h
      refine jy_callV hS rfl rfl rfl (Nat.le_of_ble_eq_true rfl) (Or.inl g30) g32 (by decide) ⟨by decide, by decide⟩ (Nat.le_of_ble_eq_true rfl) ?_ ?_
      rotate_left
      · exact fun Ex Xx Ix Rx hp => hp.2.2.2.elim
      intro rv Xx I33 Rx hp
      obtain ⟨e1, e2, hp⟩ := hp
      rw [e1, e2]
      clear e1 e2
      obtain ⟨e1, h⟩ := h rv I33 hp
      rw [e1]
      clear e1
      change J 64 [] _ (0, 0) _ _ _
      refine jy_aload_n hS rfl rfl ?_
      refine jy_iload_n hS rfl rfl ?_
      obtain ⟨Q35, h⟩ := h
      obtain ⟨g36, h⟩ := h
      refine jy_callV hS rfl rfl rfl (Nat.le_of_ble_eq_true rfl) (Or.inl g30) g36 (by decide) ⟨by decide, by decide⟩ (Nat.le_of_ble_eq_true rfl) ?_ ?_
      rotate_left
      · exact fun Ex Xx Ix Rx hp => hp.2.2.2.elim
      intro rv Xx I37 Rx hp
      obtain ⟨e1, e2, hp⟩ := hp
      rw [e1, e2]
      clear e1 e2
      obtain ⟨e1, h⟩ := h rv I37 hp
      rw [e1]
      clear e1
      change J 69 [] _ (0, 0) _ _ _
      refine jy_aload_n hS rfl rfl ?_
      obtain ⟨q39, h⟩ := h
      obtain ⟨g40, h⟩ := h
      refine jy_getR hS rfl (by decide) g30 g40 ?_
      refine jy_iload_n hS rfl rfl ?_
      obtain ⟨n41, h⟩ := h
      obtain ⟨g42, h⟩ := h
      obtain ⟨g43, h⟩ := h
      refine jy_iald hS rfl g42.1 (Nat.le_of_lt g42.2) g43 ?_
      refine jy_iconst hS rfl ?_
      refine jy_icmp_ne hS rfl ⟨(jy_rng _), ⟨by decide, by decide⟩⟩ (fun hq => ?_) (fun hq => ?_)
      · have h := h.1 hq
        refine jy_iload_n hS rfl rfl ?_
        refine jy_i2l hS rfl rfl ?_
        refine jy_lstore hS rfl (Nat.le_of_ble_eq_true rfl) (L' := [some (.ref a0), some (jy a1), some (jy a2), some (jy a3), some (.long ((Int32.ofInt a1).toInt64)), none, none, none, none]) rfl ?_
        refine jy_iload_n hS rfl rfl ?_
        refine jy_istore hS rfl (Nat.le_of_ble_eq_true rfl) (L' := [some (.ref a0), some (jy a1), some (jy a2), some (jy a3), some (.long ((Int32.ofInt a1).toInt64)), none, some (jy a1), none, none]) rfl ?_
        refine jy_iconst hS rfl ?_
        refine jy_istore hS rfl (Nat.le_of_ble_eq_true rfl) (L' := [some (.ref a0), some (jy a1), some (jy a2), some (jy a3), some (.long ((Int32.ofInt a1).toInt64)), none, some (jy a1), some (jy 1), none]) rfl ?_
        exact jy_join hS h rfl (jy_sub_s (jy_sub_s (jy_sub_s (jy_sub_s (jy_sub_s (jy_sub_n (jy_sub_s (jy_sub_s (jy_sub_n jy_sub_0)))))))))
      · have h := h.2 hq
        refine jy_ldc2 hS rfl (n := -1) (by decide) ?_
        exact jy_lret hS rfl rfl ⟨rfl, rfl, h⟩
    · have h := h.2 hq
      refine jy_lconst hS rfl ?_
      exact jy_lret hS rfl rfl ⟨rfl, rfl, h⟩
  · intro l4 l6 l7 I h
    unfold wz_269_93 at h
    refine jy_iload hS rfl rfl ?_
    refine jy_iload_n hS rfl rfl ?_
    obtain ⟨g44, h⟩ := h
    refine jy_icmp_eq hS rfl ⟨g44, r_a2⟩ (fun hq => ?_) (fun hq => ?_)
    · have h := h.1 hq
      refine jy_iload_n hS rfl rfl ?_
      refine jy_if_ne hS rfl r_a3 (fun hq => ?_) (fun hq => ?_)
      · have h := h.1 hq
        refine jy_iload_n hS rfl rfl ?_
        refine jy_iconst hS rfl ?_
        refine jy_icmp_ne hS rfl ⟨r_a3, ⟨by decide, by decide⟩⟩ (fun hq => ?_) (fun hq => ?_)
        · have h := h.1 hq
          refine jy_lload hS rfl rfl ?_
          exact jy_lret hS rfl rfl ⟨rfl, rfl, h⟩
        · have h := h.2 hq
          refine jy_iload hS rfl rfl ?_
          refine jy_i2l hS rfl rfl ?_
          refine jy_goto hS rfl ?_
          exact jy_lret hS rfl rfl ⟨rfl, rfl, h⟩
      · have h := h.2 hq
        refine jy_aload_n hS rfl rfl ?_
        obtain ⟨g45, h⟩ := h
        obtain ⟨q46, h⟩ := h
        obtain ⟨g47, h⟩ := h
        refine jy_getR hS rfl (by decide) g45 g47 ?_
        refine jy_iload_n hS rfl rfl ?_
        obtain ⟨n48, h⟩ := h
        obtain ⟨g49, h⟩ := h
        obtain ⟨g50, h⟩ := h
        refine jy_iald hS rfl g49.1 (Nat.le_of_lt g49.2) g50 ?_
        refine jy_i2l hS rfl rfl ?_
        refine jy_goto hS rfl ?_
        exact jy_lret hS rfl rfl ⟨rfl, rfl, h⟩
    · have h := h.2 hq
      refine jy_iconst hS rfl ?_
      refine jy_istore hS rfl (Nat.le_of_ble_eq_true rfl) (L' := [some (.ref a0), some (jy a1), some (jy a2), some (jy a3), some (.long l4), none, some (jy l6), some (jy l7), some (jy 0)]) rfl ?_
      exact jy_join hS h rfl (jy_sub_s (jy_sub_s (jy_sub_s (jy_sub_s (jy_sub_s (jy_sub_n (jy_sub_s (jy_sub_s (jy_sub_s jy_sub_0)))))))))
  · intro l4 l6 l7 l8 I h
    unfold wz_269_102 at h
    refine jy_aload_n hS rfl rfl ?_
    obtain ⟨g51, h⟩ := h
    obtain ⟨q52, h⟩ := h
    obtain ⟨g53, h⟩ := h
    refine jy_getR hS rfl (by decide) g51 g53 ?_
    refine jy_iload hS rfl rfl ?_
    obtain ⟨n54, h⟩ := h
    obtain ⟨g55, h⟩ := h
    obtain ⟨g56, h⟩ := h
    obtain ⟨q57, h⟩ := h
    obtain ⟨g58, h⟩ := h
    refine jy_aald hS rfl g55.1 (by decide) (Nat.le_of_lt g55.2) g56 g58 ?_
    refine jy_iload hS rfl rfl ?_
    obtain ⟨n59, h⟩ := h
    obtain ⟨g60, h⟩ := h
    obtain ⟨g61, h⟩ := h
    refine jy_iald hS rfl g60.1 (Nat.le_of_lt g60.2) g61 ?_
    refine jy_if_eq hS rfl (jy_rng _) (fun hq => ?_) (fun hq => ?_)
    · have h := h.1 hq
      refine jy_iinc hS rfl rfl (L' := [some (.ref a0), some (jy a1), some (jy a2), some (jy a3), some (.long l4), none, some (jy l6), some (jy l7), some (jy (l8 + 1))]) rfl ?_
      refine jy_goto hS rfl ?_
      exact jy_join hS h rfl (jy_sub_s (jy_sub_s (jy_sub_s (jy_sub_s (jy_sub_s (jy_sub_n (jy_sub_s (jy_sub_s (jy_sub_s jy_sub_0)))))))))
    · have h := h.2 hq
      refine jy_aload_n hS rfl rfl ?_
      obtain ⟨q62, h⟩ := h
      obtain ⟨g63, h⟩ := h
      refine jy_getR hS rfl (by decide) g51 g63 ?_
      refine jy_iload hS rfl rfl ?_
      obtain ⟨n64, h⟩ := h
      obtain ⟨g65, h⟩ := h
      obtain ⟨g66, h⟩ := h
      refine jy_iald hS rfl g65.1 (Nat.le_of_lt g65.2) g66 ?_
      refine jy_iconst hS rfl ?_
      refine jy_icmp_eq hS rfl ⟨(jy_rng _), ⟨by decide, by decide⟩⟩ (fun hq => ?_) (fun hq => ?_)
      · have h := h.1 hq
        refine jy_iinc hS rfl rfl (L' := [some (.ref a0), some (jy a1), some (jy a2), some (jy a3), some (.long l4), none, some (jy l6), some (jy l7), some (jy (l8 + 1))]) rfl ?_
        refine jy_goto hS rfl ?_
        exact jy_join hS h rfl (jy_sub_s (jy_sub_s (jy_sub_s (jy_sub_s (jy_sub_s (jy_sub_n (jy_sub_s (jy_sub_s (jy_sub_s jy_sub_0)))))))))
      · have h := h.2 hq
        refine jy_aload_n hS rfl rfl ?_
        refine jy_getR hS rfl (by decide) g51 g53 ?_
        refine jy_iload hS rfl rfl ?_
        obtain ⟨g67, h⟩ := h
        obtain ⟨q68, h⟩ := h
        obtain ⟨g69, h⟩ := h
        refine jy_aald hS rfl g55.1 (by decide) (Nat.le_of_lt g55.2) g67 g69 ?_
        refine jy_iload hS rfl rfl ?_
        obtain ⟨n70, h⟩ := h
        obtain ⟨g71, h⟩ := h
        obtain ⟨g72, h⟩ := h
        refine jy_iald hS rfl g71.1 (Nat.le_of_lt g71.2) g72 ?_
        refine jy_aload_n hS rfl rfl ?_
        refine jy_iload hS rfl rfl ?_
        obtain ⟨Q73, h⟩ := h
        obtain ⟨g74, h⟩ := h
        refine jy_callV hS rfl rfl rfl (Nat.le_of_ble_eq_true rfl) (Or.inl g51) g74 (by decide) ⟨by decide, by decide⟩ (Nat.le_of_ble_eq_true rfl) ?_ ?_
        rotate_left
        · exact fun Ex Xx Ix Rx hp => hp.2.2.2.elim
        intro rv Xx I75 Rx hp
        obtain ⟨e1, e2, hp⟩ := hp
        rw [e1, e2]
        clear e1 e2
        obtain ⟨r76, e1, h⟩ := h rv I75 hp
        rw [e1]
        clear e1
        change J 142 [jy r76, jy ((I q68 l8.toNat).toInt)] _ (0, 0) _ _ _
        refine jy_iadd hS rfl ?_
        refine jy_aload_n hS rfl rfl ?_
        refine jy_getR hS rfl (by decide) g51 g63 ?_
        refine jy_iload hS rfl rfl ?_
        obtain ⟨g77, h⟩ := h
        refine jy_iald hS rfl g65.1 (Nat.le_of_lt g65.2) g77 ?_
        refine jy_iadd hS rfl ?_
        refine jy_aload_n hS rfl rfl ?_
        refine jy_getR hS rfl (by decide) g51 g63 ?_
        refine jy_iload hS rfl rfl ?_
        obtain ⟨g78, h⟩ := h
        refine jy_iald hS rfl g65.1 (Nat.le_of_lt g65.2) g78 ?_
        obtain ⟨g79, h⟩ := h
        refine jy_icmp_eq hS rfl ⟨g79, (jy_rng _)⟩ (fun hq => ?_) (fun hq => ?_)
        · have h := h.1 hq
          refine jy_iload hS rfl rfl ?_
          refine jy_istore hS rfl (Nat.le_of_ble_eq_true rfl) (L' := [some (.ref a0), some (jy a1), some (jy a2), some (jy a3), some (.long l4), none, some (jy l8), some (jy l7), some (jy l8)]) rfl ?_
          refine jy_ldc2 hS rfl (n := 10) (by decide) ?_
          refine jy_lload hS rfl rfl ?_
          refine jy_lmul hS rfl rfl ?_
          refine jy_iload hS rfl rfl ?_
          refine jy_i2l hS rfl rfl ?_
          refine jy_ladd hS rfl rfl ?_
          refine jy_lstore hS rfl (Nat.le_of_ble_eq_true rfl) (L' := [some (.ref a0), some (jy a1), some (jy a2), some (jy a3), some (.long (((10 : Int64) * l4) + (Int32.ofInt l8).toInt64)), none, some (jy l8), some (jy l7), some (jy l8)]) rfl ?_
          refine jy_iinc hS rfl rfl (L' := [some (.ref a0), some (jy a1), some (jy a2), some (jy a3), some (.long (((10 : Int64) * l4) + (Int32.ofInt l8).toInt64)), none, some (jy l8), some (jy (l7 + 1)), some (jy l8)]) rfl ?_
          refine jy_goto hS rfl ?_
          exact jy_join hS h rfl (jy_sub_s (jy_sub_s (jy_sub_s (jy_sub_s (jy_sub_s (jy_sub_n (jy_sub_s (jy_sub_s (jy_sub_n jy_sub_0)))))))))
        · have h := h.2 hq
          refine jy_iinc hS rfl rfl (L' := [some (.ref a0), some (jy a1), some (jy a2), some (jy a3), some (.long l4), none, some (jy l6), some (jy l7), some (jy (l8 + 1))]) rfl ?_
          refine jy_goto hS rfl ?_
          exact jy_join hS h rfl (jy_sub_s (jy_sub_s (jy_sub_s (jy_sub_s (jy_sub_s (jy_sub_n (jy_sub_s (jy_sub_s (jy_sub_s jy_sub_0)))))))))
theorem jt_270 : jx_ml 270 = 6 ∧ jx_rt 270 = some .int ∧ jx_hz 270 = [] ∧ decide ((jx_nm 270).name = "<init>") = false ∧ jx_code 270 = jx_c270 := by decide +kernel
/-- GCModel.widest, from 20 -/
def wz_270_20 (V : jx_V) (X : jx_X) (R : jx_R) (Q : Option Value → jx_I → Prop) (QE : String → jx_I → Prop) (J20 : Nat → Int → jx_I → Prop) (J41 : Int → Int → Int → jx_I → Prop) (J55 : Int → Int → Int → Int → jx_I → Prop) (J113 : Int → Int → Int → Int → jx_I → Prop) (a0 : Nat) (a1 : Int) (s0 : Nat) (s1 : Int) (I : jx_I) : Prop :=
  (X.2.1 s0 = some (12, 0)) ∧ (
  ∃ Q9 : Option Value → jx_I → Prop, (
  (jc V 1 202 (0, 0) [.ref s0, jy s1, jy 1, jy 2] X I R Q9 (fun _ _ => False)) ∧ (
  ∀ rv I11, Q9 rv I11 → ∃ r12 : Int, rv = some (jy r12) ∧ (
  (-2147483648 ≤ r12 ∧ r12 < 2147483648) ∧ (
  (r12 = 0 → (
    (X.2.1 a0 = some (12, 0)) ∧ (
    ∃ Q15 : Option Value → jx_I → Prop, (
    (jc V 1 243 (0, 0) [.ref a0] X I11 R Q15 (fun _ _ => False)) ∧ (
    ∀ rv I17, Q15 rv I17 → rv = none ∧ (
    J41 (-1) (-1) 0 I17))))
  )) ∧ (¬ r12 = 0 → (
    Q (some (jy 0)) I11
  )))))))
/-- GCModel.widest, from 41 -/
def wz_270_41 (V : jx_V) (X : jx_X) (R : jx_R) (Q : Option Value → jx_I → Prop) (QE : String → jx_I → Prop) (J20 : Nat → Int → jx_I → Prop) (J41 : Int → Int → Int → jx_I → Prop) (J55 : Int → Int → Int → Int → jx_I → Prop) (J113 : Int → Int → Int → Int → jx_I → Prop) (a0 : Nat) (a1 : Int) (l2 : Int) (l3 : Int) (l4 : Int) (I : jx_I) : Prop :=
  (X.2.1 a0 = some (12, 0)) ∧ (
  ∃ q20 : Nat, (
  (R a0 11 = some q20) ∧ (
  ∃ n22 : Nat, (
  (X.2.1 q20 = some (100, n22) ∧ n22 < 2147483648) ∧ (
  (0 ≤ (0 : Int) ∧ (0 : Int) < n22) ∧ (
  (-2147483648 ≤ l4 ∧ l4 < 2147483648) ∧ (
  ((I q20 (0 : Int).toNat).toInt ≤ l4 → (
    (a1 ≠ 0 → (
      Q (some (jy l2)) I
    )) ∧ (a1 = 0 → (
      Q (some (jy l3)) I
    ))
  )) ∧ (¬ (I q20 (0 : Int).toNat).toInt ≤ l4 → (
    J55 l2 l3 l4 0 I
  )))))))))
/-- GCModel.widest, from 55 -/
def wz_270_55 (V : jx_V) (X : jx_X) (R : jx_R) (Q : Option Value → jx_I → Prop) (QE : String → jx_I → Prop) (J20 : Nat → Int → jx_I → Prop) (J41 : Int → Int → Int → jx_I → Prop) (J55 : Int → Int → Int → Int → jx_I → Prop) (J113 : Int → Int → Int → Int → jx_I → Prop) (a0 : Nat) (a1 : Int) (l2 : Int) (l3 : Int) (l4 : Int) (l5 : Int) (I : jx_I) : Prop :=
  (X.2.1 a0 = some (12, 0)) ∧ (
  ∃ q27 : Nat, (
  (R a0 11 = some q27) ∧ (
  ∃ n29 : Nat, (
  (X.2.1 q27 = some (100, n29) ∧ n29 < 2147483648) ∧ (
  (0 ≤ (0 : Int) ∧ (0 : Int) < n29) ∧ (
  (-2147483648 ≤ l5 ∧ l5 < 2147483648) ∧ (
  ((I q27 (0 : Int).toNat).toInt ≤ l5 → (
    J41 l2 l3 (l4 + 1) I
  )) ∧ (¬ (I q27 (0 : Int).toNat).toInt ≤ l5 → (
    (-2147483648 ≤ l4 ∧ l4 < 2147483648) ∧ (
    (l4 ≠ l5 → (
      ∃ Q34 : Option Value → jx_I → Prop, (
      (jc V 4 268 (0, 0) [.ref a0, jy l5] X I R Q34 (fun _ _ => False)) ∧ (
      ∀ rv I36, Q34 rv I36 → rv = none ∧ (
      ∃ q38 : Nat, (
      (R a0 50 = some q38) ∧ (
      ∃ n40 : Nat, (
      (X.2.1 q38 = some (100, n40) ∧ n40 < 2147483648) ∧ (
      (0 ≤ l4 ∧ l4 < n40) ∧ (
      (-2147483648 ≤ l3 ∧ l3 < 2147483648) ∧ (
      (l3 < (I36 q38 l4.toNat).toInt → (
        (0 ≤ l4 ∧ l4 < n40) ∧ (
        J113 ((10 * l4) + l5) ((I36 q38 l4.toNat).toInt) l4 l5 I36)
      )) ∧ (¬ l3 < (I36 q38 l4.toNat).toInt → (
        J113 l2 l3 l4 l5 I36
      )))))))))))
    )) ∧ (l4 = l5 → (
      J113 l2 l3 l4 l5 I
    )))
  )))))))))
/-- GCModel.widest, from 113 -/
def wz_270_113 (V : jx_V) (X : jx_X) (R : jx_R) (Q : Option Value → jx_I → Prop) (QE : String → jx_I → Prop) (J20 : Nat → Int → jx_I → Prop) (J41 : Int → Int → Int → jx_I → Prop) (J55 : Int → Int → Int → Int → jx_I → Prop) (J113 : Int → Int → Int → Int → jx_I → Prop) (a0 : Nat) (a1 : Int) (l2 : Int) (l3 : Int) (l4 : Int) (l5 : Int) (I : jx_I) : Prop :=
  J55 l2 l3 l4 (l5 + 1) I
/-- GCModel.widest -/
def wz_270 (V : jx_V) (X : jx_X) (R : jx_R) (Q : Option Value → jx_I → Prop) (QE : String → jx_I → Prop) (J20 : Nat → Int → jx_I → Prop) (J41 : Int → Int → Int → jx_I → Prop) (J55 : Int → Int → Int → Int → jx_I → Prop) (J113 : Int → Int → Int → Int → jx_I → Prop) (a0 : Nat) (a1 : Int) (I : jx_I) : Prop :=
  (X.2.1 a0 = some (12, 0)) ∧ (
  ∀ I2 : jx_I, I2 = jx_u I a0 0 (Int32.ofInt 0) → (
  ∃ Q3 : Option Value → jx_I → Prop, (
  (jc V 1 203 (0, 0) [jy a1, jy 0, jy 1] X I2 R Q3 (fun _ _ => False)) ∧ (
  ∀ rv I5, Q3 rv I5 → ∃ r6 : Int, rv = some (jy r6) ∧ (
  (-2147483648 ≤ r6 ∧ r6 < 2147483648) ∧ (
  (r6 ≠ 0 → (
    J20 a0 0 I5
  )) ∧ (r6 = 0 → (
    J20 a0 1 I5
  ))))))))
set_option maxRecDepth 20000 in
theorem wm_270 {V : jx_V} (hV : V.1.stackTraces = false) {X : jx_X} {R : jx_R} {I : jx_I} {Q : Option Value → jx_I → Prop} {QE : String → jx_I → Prop} {a0 : Nat} {a1 : Int} (r_a1 : -2147483648 ≤ a1 ∧ a1 < 2147483648) 
    (h : ∀ (J20 : Nat → Int → jx_I → Prop) (J41 : Int → Int → Int → jx_I → Prop) (J55 : Int → Int → Int → Int → jx_I → Prop) (J113 : Int → Int → Int → Int → jx_I → Prop), ((∀ (s0 : Nat) (s1 : Int) I, wz_270_20 V X R Q QE J20 J41 J55 J113 a0 a1 s0 s1 I → J20 s0 s1 I) ∧ (∀ (l2 : Int) (l3 : Int) (l4 : Int) I, wz_270_41 V X R Q QE J20 J41 J55 J113 a0 a1 l2 l3 l4 I → J41 l2 l3 l4 I) ∧ (∀ (l2 : Int) (l3 : Int) (l4 : Int) (l5 : Int) I, wz_270_55 V X R Q QE J20 J41 J55 J113 a0 a1 l2 l3 l4 l5 I → J55 l2 l3 l4 l5 I) ∧ (∀ (l2 : Int) (l3 : Int) (l4 : Int) (l5 : Int) I, wz_270_113 V X R Q QE J20 J41 J55 J113 a0 a1 l2 l3 l4 l5 I → J113 l2 l3 l4 l5 I)) → wz_270 V X R Q QE J20 J41 J55 J113 a0 a1 I) : jc V 5 270 (0, 0) [.ref a0, jy a1] X I R Q QE := by
  refine jy_met hV (by decide) (n := 6) (rt := some .int) (hh := []) (ini := false) (C := jx_c270) (L := [some (.ref a0), some (jy a1), none, none, none, none]) jt_270 (Nat.le_of_ble_eq_true rfl) rfl ?_
  intro J hS
  have h := h (fun s0 s1 I => J 20 [jy s1, .ref s0] [some (.ref a0), some (jy a1), none, none, none, none] (0, 0) X I R) (fun l2 l3 l4 I => J 41 [] [some (.ref a0), some (jy a1), some (jy l2), some (jy l3), some (jy l4), none] (0, 0) X I R) (fun l2 l3 l4 l5 I => J 55 [] [some (.ref a0), some (jy a1), some (jy l2), some (jy l3), some (jy l4), some (jy l5)] (0, 0) X I R) (fun l2 l3 l4 l5 I => J 113 [] [some (.ref a0), some (jy a1), some (jy l2), some (jy l3), some (jy l4), some (jy l5)] (0, 0) X I R) ?_
  · unfold wz_270 at h
    refine jy_aload_n hS rfl rfl ?_
    refine jy_iconst hS rfl ?_
    obtain ⟨g1, h⟩ := h
    refine jy_putI hS rfl (by decide) g1 ?_
    intro I2 e9
    have h := h I2 e9
    clear e9
    refine jy_aload_n hS rfl rfl ?_
    refine jy_iload_n hS rfl rfl ?_
    refine jy_iconst hS rfl ?_
    refine jy_iconst hS rfl ?_
    obtain ⟨Q3, h⟩ := h
    obtain ⟨g4, h⟩ := h
    refine jy_callS hS rfl rfl rfl (Nat.le_of_ble_eq_true rfl) g4 (by decide) ⟨by decide, by decide⟩ (Nat.le_of_ble_eq_true rfl) ?_ ?_
    rotate_left
    · exact fun Ex Xx Ix Rx hp => hp.2.2.2.elim
    intro rv Xx I5 Rx hp
    obtain ⟨e1, e2, hp⟩ := hp
    rw [e1, e2]
    clear e1 e2
    obtain ⟨r6, e1, h⟩ := h rv I5 hp
    rw [e1]
    clear e1
    change J 12 [jy r6, .ref a0] _ (0, 0) _ _ _
    obtain ⟨g7, h⟩ := h
    refine jy_if_ne hS rfl g7 (fun hq => ?_) (fun hq => ?_)
    · have h := h.1 hq
      refine jy_iconst hS rfl ?_
      exact jy_join hS h rfl (jy_sub_s (jy_sub_s (jy_sub_n (jy_sub_n (jy_sub_n (jy_sub_n jy_sub_0))))))
    · have h := h.2 hq
      refine jy_iconst hS rfl ?_
      refine jy_goto hS rfl ?_
      exact jy_join hS h rfl (jy_sub_s (jy_sub_s (jy_sub_n (jy_sub_n (jy_sub_n (jy_sub_n jy_sub_0))))))
  refine ⟨?_, ?_, ?_, ?_⟩
  · intro s0 s1 I h
    unfold wz_270_20 at h
    refine jy_iconst hS rfl ?_
    refine jy_iconst hS rfl ?_
    obtain ⟨g8, h⟩ := h
    obtain ⟨Q9, h⟩ := h
    obtain ⟨g10, h⟩ := h
    refine jy_callV hS rfl rfl rfl (Nat.le_of_ble_eq_true rfl) (Or.inl g8) g10 (by decide) ⟨by decide, by decide⟩ (Nat.le_of_ble_eq_true rfl) ?_ ?_
    rotate_left
    · exact fun Ex Xx Ix Rx hp => hp.2.2.2.elim
    intro rv Xx I11 Rx hp
    obtain ⟨e1, e2, hp⟩ := hp
    rw [e1, e2]
    clear e1 e2
    obtain ⟨r12, e1, h⟩ := h rv I11 hp
    rw [e1]
    clear e1
    change J 25 [jy r12] _ (0, 0) _ _ _
    obtain ⟨g13, h⟩ := h
    refine jy_if_eq hS rfl g13 (fun hq => ?_) (fun hq => ?_)
    · have h := h.1 hq
      refine jy_iconst hS rfl ?_
      refine jy_istore_n hS rfl (Nat.le_of_ble_eq_true rfl) (L' := [some (.ref a0), some (jy a1), some (jy (-1)), none, none, none]) rfl ?_
      refine jy_iconst hS rfl ?_
      refine jy_istore_n hS rfl (Nat.le_of_ble_eq_true rfl) (L' := [some (.ref a0), some (jy a1), some (jy (-1)), some (jy (-1)), none, none]) rfl ?_
      refine jy_aload_n hS rfl rfl ?_
      obtain ⟨g14, h⟩ := h
      obtain ⟨Q15, h⟩ := h
      obtain ⟨g16, h⟩ := h
      refine jy_callV hS rfl rfl rfl (Nat.le_of_ble_eq_true rfl) (Or.inl g14) g16 (by decide) ⟨by decide, by decide⟩ (Nat.le_of_ble_eq_true rfl) ?_ ?_
      rotate_left
      · exact fun Ex Xx Ix Rx hp => hp.2.2.2.elim
      intro rv Xx I17 Rx hp
      obtain ⟨e1, e2, hp⟩ := hp
      rw [e1, e2]
      clear e1 e2
      obtain ⟨e1, h⟩ := h rv I17 hp
      rw [e1]
      clear e1
      change J 38 [] _ (0, 0) _ _ _
      refine jy_iconst hS rfl ?_
      refine jy_istore hS rfl (Nat.le_of_ble_eq_true rfl) (L' := [some (.ref a0), some (jy a1), some (jy (-1)), some (jy (-1)), some (jy 0), none]) rfl ?_
      exact jy_join hS h rfl (jy_sub_s (jy_sub_s (jy_sub_s (jy_sub_s (jy_sub_s (jy_sub_n jy_sub_0))))))
    · have h := h.2 hq
      refine jy_iconst hS rfl ?_
      exact jy_iret hS rfl rfl ⟨rfl, rfl, h⟩
  · intro l2 l3 l4 I h
    unfold wz_270_41 at h
    refine jy_iload hS rfl rfl ?_
    refine jy_aload_n hS rfl rfl ?_
    obtain ⟨g19, h⟩ := h
    obtain ⟨q20, h⟩ := h
    obtain ⟨g21, h⟩ := h
    refine jy_getR hS rfl (by decide) g19 g21 ?_
    refine jy_iconst hS rfl ?_
    obtain ⟨n22, h⟩ := h
    obtain ⟨g23, h⟩ := h
    obtain ⟨g24, h⟩ := h
    refine jy_iald hS rfl g23.1 (Nat.le_of_lt g23.2) g24 ?_
    obtain ⟨g25, h⟩ := h
    refine jy_icmp_ge hS rfl ⟨g25, (jy_rng _)⟩ (fun hq => ?_) (fun hq => ?_)
    · have h := h.1 hq
      refine jy_iload_n hS rfl rfl ?_
      refine jy_if_ne hS rfl r_a1 (fun hq => ?_) (fun hq => ?_)
      · have h := h.1 hq
        refine jy_iload_n hS rfl rfl ?_
        exact jy_iret hS rfl rfl ⟨rfl, rfl, h⟩
      · have h := h.2 hq
        refine jy_iload_n hS rfl rfl ?_
        refine jy_goto hS rfl ?_
        exact jy_iret hS rfl rfl ⟨rfl, rfl, h⟩
    · have h := h.2 hq
      refine jy_iconst hS rfl ?_
      refine jy_istore hS rfl (Nat.le_of_ble_eq_true rfl) (L' := [some (.ref a0), some (jy a1), some (jy l2), some (jy l3), some (jy l4), some (jy 0)]) rfl ?_
      exact jy_join hS h rfl (jy_sub_s (jy_sub_s (jy_sub_s (jy_sub_s (jy_sub_s (jy_sub_s jy_sub_0))))))
  · intro l2 l3 l4 l5 I h
    unfold wz_270_55 at h
    refine jy_iload hS rfl rfl ?_
    refine jy_aload_n hS rfl rfl ?_
    obtain ⟨g26, h⟩ := h
    obtain ⟨q27, h⟩ := h
    obtain ⟨g28, h⟩ := h
    refine jy_getR hS rfl (by decide) g26 g28 ?_
    refine jy_iconst hS rfl ?_
    obtain ⟨n29, h⟩ := h
    obtain ⟨g30, h⟩ := h
    obtain ⟨g31, h⟩ := h
    refine jy_iald hS rfl g30.1 (Nat.le_of_lt g30.2) g31 ?_
    obtain ⟨g32, h⟩ := h
    refine jy_icmp_ge hS rfl ⟨g32, (jy_rng _)⟩ (fun hq => ?_) (fun hq => ?_)
    · have h := h.1 hq
      refine jy_iinc hS rfl rfl (L' := [some (.ref a0), some (jy a1), some (jy l2), some (jy l3), some (jy (l4 + 1)), some (jy l5)]) rfl ?_
      refine jy_goto hS rfl ?_
      exact jy_join hS h rfl (jy_sub_s (jy_sub_s (jy_sub_s (jy_sub_s (jy_sub_s (jy_sub_n jy_sub_0))))))
    · have h := h.2 hq
      refine jy_iload hS rfl rfl ?_
      refine jy_iload hS rfl rfl ?_
      obtain ⟨g33, h⟩ := h
      refine jy_icmp_ne hS rfl ⟨g33, g32⟩ (fun hq => ?_) (fun hq => ?_)
      · have h := h.1 hq
        refine jy_aload_n hS rfl rfl ?_
        refine jy_iload hS rfl rfl ?_
        obtain ⟨Q34, h⟩ := h
        obtain ⟨g35, h⟩ := h
        refine jy_callV hS rfl rfl rfl (Nat.le_of_ble_eq_true rfl) (Or.inl g26) g35 (by decide) ⟨by decide, by decide⟩ (Nat.le_of_ble_eq_true rfl) ?_ ?_
        rotate_left
        · exact fun Ex Xx Ix Rx hp => hp.2.2.2.elim
        intro rv Xx I36 Rx hp
        obtain ⟨e1, e2, hp⟩ := hp
        rw [e1, e2]
        clear e1 e2
        obtain ⟨e1, h⟩ := h rv I36 hp
        rw [e1]
        clear e1
        change J 82 [] _ (0, 0) _ _ _
        refine jy_aload_n hS rfl rfl ?_
        obtain ⟨q38, h⟩ := h
        obtain ⟨g39, h⟩ := h
        refine jy_getR hS rfl (by decide) g26 g39 ?_
        refine jy_iload hS rfl rfl ?_
        obtain ⟨n40, h⟩ := h
        obtain ⟨g41, h⟩ := h
        obtain ⟨g42, h⟩ := h
        refine jy_iald hS rfl g41.1 (Nat.le_of_lt g41.2) g42 ?_
        refine jy_iload_n hS rfl rfl ?_
        obtain ⟨g43, h⟩ := h
        refine jy_icmp_gt hS rfl ⟨(jy_rng _), g43⟩ (fun hq => ?_) (fun hq => ?_)
        · have h := h.1 hq
          refine jy_bipush hS rfl (by decide) ?_
          refine jy_iload hS rfl rfl ?_
          refine jy_imul hS rfl ?_
          refine jy_iload hS rfl rfl ?_
          refine jy_iadd hS rfl ?_
          refine jy_istore_n hS rfl (Nat.le_of_ble_eq_true rfl) (L' := [some (.ref a0), some (jy a1), some (jy ((10 * l4) + l5)), some (jy l3), some (jy l4), some (jy l5)]) rfl ?_
          refine jy_aload_n hS rfl rfl ?_
          refine jy_getR hS rfl (by decide) g26 g39 ?_
          refine jy_iload hS rfl rfl ?_
          obtain ⟨g44, h⟩ := h
          refine jy_iald hS rfl g41.1 (Nat.le_of_lt g41.2) g44 ?_
          refine jy_istore_n hS rfl (Nat.le_of_ble_eq_true rfl) (L' := [some (.ref a0), some (jy a1), some (jy ((10 * l4) + l5)), some (jy ((I36 q38 l4.toNat).toInt)), some (jy l4), some (jy l5)]) rfl ?_
          exact jy_join hS h rfl (jy_sub_s (jy_sub_s (jy_sub_s (jy_sub_s (jy_sub_s (jy_sub_s jy_sub_0))))))
        · have h := h.2 hq
          refine jy_goto hS rfl ?_
          exact jy_join hS h rfl (jy_sub_s (jy_sub_s (jy_sub_s (jy_sub_s (jy_sub_s (jy_sub_s jy_sub_0))))))
      · have h := h.2 hq
        refine jy_goto hS rfl ?_
        exact jy_join hS h rfl (jy_sub_s (jy_sub_s (jy_sub_s (jy_sub_s (jy_sub_s (jy_sub_s jy_sub_0))))))
  · intro l2 l3 l4 l5 I h
    unfold wz_270_113 at h
    refine jy_iinc hS rfl rfl (L' := [some (.ref a0), some (jy a1), some (jy l2), some (jy l3), some (jy l4), some (jy (l5 + 1))]) rfl ?_
    refine jy_goto hS rfl ?_
    exact jy_join hS h rfl (jy_sub_s (jy_sub_s (jy_sub_s (jy_sub_s (jy_sub_s (jy_sub_s jy_sub_0))))))
theorem jt_271 : jx_ml 271 = 4 ∧ jx_rt 271 = some .boolean ∧ jx_hz 271 = [] ∧ decide ((jx_nm 271).name = "<init>") = false ∧ jx_code 271 = jx_c271 := by decide +kernel
/-- GCModel.comesSooner -/
def wz_271 (V : jx_V) (X : jx_X) (R : jx_R) (Q : Option Value → jx_I → Prop) (QE : String → jx_I → Prop)  (a0 : Nat) (a1 : Int) (a2 : Int) (a3 : Int) (I : jx_I) : Prop :=
  (a3 < a2 → (
    Q (some (jy 0)) I
  )) ∧ (¬ a3 < a2 → (
    (X.2.1 a0 = some (12, 0)) ∧ (
    ∃ q2 : Nat, (
    (R a0 51 = some q2) ∧ (
    ∃ n4 : Nat, (
    (X.2.1 q2 = some (100, n4) ∧ n4 < 2147483648) ∧ (
    (0 ≤ a1 ∧ a1 < n4) ∧ (
    ((I q2 a1.toNat).toInt = (-1) → (
      (0 ≤ a1 ∧ a1 < n4) ∧ (
      ∀ I8 : jx_I, I8 = jx_u I q2 a1.toNat (Int32.ofInt a2) → (
      Q (some (jy 1)) I8))
    )) ∧ (¬ (I q2 a1.toNat).toInt = (-1) → (
      (0 ≤ a1 ∧ a1 < n4) ∧ (
      (a2 < (I q2 a1.toNat).toInt → (
        (0 ≤ a1 ∧ a1 < n4) ∧ (
        ∀ I11 : jx_I, I11 = jx_u I q2 a1.toNat (Int32.ofInt a2) → (
        Q (some (jy 1)) I11))
      )) ∧ (¬ a2 < (I q2 a1.toNat).toInt → (
        Q (some (jy 0)) I
      )))
    ))))))))
  ))
set_option maxRecDepth 20000 in
theorem wm_271 {V : jx_V} (hV : V.1.stackTraces = false) {X : jx_X} {R : jx_R} {I : jx_I} {Q : Option Value → jx_I → Prop} {QE : String → jx_I → Prop} {a0 : Nat} {a1 : Int} {a2 : Int} {a3 : Int} (r_a1 : -2147483648 ≤ a1 ∧ a1 < 2147483648) (r_a2 : -2147483648 ≤ a2 ∧ a2 < 2147483648) (r_a3 : -2147483648 ≤ a3 ∧ a3 < 2147483648) 
    (h : wz_271 V X R Q QE  a0 a1 a2 a3 I) : jc V 1 271 (0, 0) [.ref a0, jy a1, jy a2, jy a3] X I R Q QE := by
  refine jy_met hV (by decide) (n := 4) (rt := some .boolean) (hh := []) (ini := false) (C := jx_c271) (L := [some (.ref a0), some (jy a1), some (jy a2), some (jy a3)]) jt_271 (Nat.le_of_ble_eq_true rfl) rfl ?_
  intro J hS
  unfold wz_271 at h
  refine jy_iload_n hS rfl rfl ?_
  refine jy_iload_n hS rfl rfl ?_
  refine jy_icmp_gt hS rfl ⟨r_a2, r_a3⟩ (fun hq => ?_) (fun hq => ?_)
  · have h := h.1 hq
    refine jy_iconst hS rfl ?_
    exact jy_iret hS rfl rfl ⟨rfl, rfl, h⟩
  · have h := h.2 hq
    refine jy_aload_n hS rfl rfl ?_
    obtain ⟨g1, h⟩ := h
    obtain ⟨q2, h⟩ := h
    obtain ⟨g3, h⟩ := h
    refine jy_getR hS rfl (by decide) g1 g3 ?_
    refine jy_iload_n hS rfl rfl ?_
    obtain ⟨n4, h⟩ := h
    obtain ⟨g5, h⟩ := h
    obtain ⟨g6, h⟩ := h
    refine jy_iald hS rfl g5.1 (Nat.le_of_lt g5.2) g6 ?_
    refine jy_iconst hS rfl ?_
    refine jy_icmp_eq hS rfl ⟨(jy_rng _), ⟨by decide, by decide⟩⟩ (fun hq => ?_) (fun hq => ?_)
    · have h := h.1 hq
      refine jy_aload_n hS rfl rfl ?_
      refine jy_getR hS rfl (by decide) g1 g3 ?_
      refine jy_iload_n hS rfl rfl ?_
      refine jy_iload_n hS rfl rfl ?_
      obtain ⟨g7, h⟩ := h
      refine jy_iast hS rfl g5.1 (Nat.le_of_lt g5.2) g7 ?_
      intro I8 e9
      have h := h I8 e9
      clear e9
      refine jy_iconst hS rfl ?_
      exact jy_iret hS rfl rfl ⟨rfl, rfl, h⟩
    · have h := h.2 hq
      refine jy_aload_n hS rfl rfl ?_
      refine jy_getR hS rfl (by decide) g1 g3 ?_
      refine jy_iload_n hS rfl rfl ?_
      obtain ⟨g9, h⟩ := h
      refine jy_iald hS rfl g5.1 (Nat.le_of_lt g5.2) g9 ?_
      refine jy_iload_n hS rfl rfl ?_
      refine jy_icmp_gt hS rfl ⟨(jy_rng _), r_a2⟩ (fun hq => ?_) (fun hq => ?_)
      · have h := h.1 hq
        refine jy_aload_n hS rfl rfl ?_
        refine jy_getR hS rfl (by decide) g1 g3 ?_
        refine jy_iload_n hS rfl rfl ?_
        refine jy_iload_n hS rfl rfl ?_
        obtain ⟨g10, h⟩ := h
        refine jy_iast hS rfl g5.1 (Nat.le_of_lt g5.2) g10 ?_
        intro I11 e9
        have h := h I11 e9
        clear e9
        refine jy_iconst hS rfl ?_
        exact jy_iret hS rfl rfl ⟨rfl, rfl, h⟩
      · have h := h.2 hq
        refine jy_iconst hS rfl ?_
        exact jy_iret hS rfl rfl ⟨rfl, rfl, h⟩
theorem jt_272 : jx_ml 272 = 3 ∧ jx_rt 272 = some .int ∧ jx_hz 272 = [] ∧ decide ((jx_nm 272).name = "<init>") = false ∧ jx_code 272 = jx_c272 := by decide +kernel
/-- GCModel.ones, from 4 -/
def wz_272_4 (V : jx_V) (X : jx_X) (R : jx_R) (Q : Option Value → jx_I → Prop) (QE : String → jx_I → Prop) (J4 : Int → Int → jx_I → Prop) (a0 : Int) (l1 : Int) (l2 : Int) (I : jx_I) : Prop :=
  (-2147483648 ≤ l2 ∧ l2 < 2147483648) ∧ (
  (10 ≤ l2 → (
    Q (some (jy l1)) I
  )) ∧ (¬ 10 ≤ l2 → (
    J4 (l1 + (Int32.ofInt ((Int32.ofInt a0 >>> (Int32.ofInt l2 &&& 31)).toInt) &&& Int32.ofInt 1).toInt) (l2 + 1) I
  )))
/-- GCModel.ones -/
def wz_272 (V : jx_V) (X : jx_X) (R : jx_R) (Q : Option Value → jx_I → Prop) (QE : String → jx_I → Prop) (J4 : Int → Int → jx_I → Prop) (a0 : Int) (I : jx_I) : Prop :=
  J4 0 0 I
set_option maxRecDepth 20000 in
theorem wm_272 {V : jx_V} (hV : V.1.stackTraces = false) {X : jx_X} {R : jx_R} {I : jx_I} {Q : Option Value → jx_I → Prop} {QE : String → jx_I → Prop} {a0 : Int} (r_a0 : -2147483648 ≤ a0 ∧ a0 < 2147483648) 
    (h : ∀ (J4 : Int → Int → jx_I → Prop), ((∀ (l1 : Int) (l2 : Int) I, wz_272_4 V X R Q QE J4 a0 l1 l2 I → J4 l1 l2 I)) → wz_272 V X R Q QE J4 a0 I) : jc V 1 272 (0, 0) [jy a0] X I R Q QE := by
  refine jy_met hV (by decide) (n := 3) (rt := some .int) (hh := []) (ini := false) (C := jx_c272) (L := [some (jy a0), none, none]) jt_272 (Nat.le_of_ble_eq_true rfl) rfl ?_
  intro J hS
  have h := h (fun l1 l2 I => J 4 [] [some (jy a0), some (jy l1), some (jy l2)] (0, 0) X I R) ?_
  · unfold wz_272 at h
    refine jy_iconst hS rfl ?_
    refine jy_istore_n hS rfl (Nat.le_of_ble_eq_true rfl) (L' := [some (jy a0), some (jy 0), none]) rfl ?_
    refine jy_iconst hS rfl ?_
    refine jy_istore_n hS rfl (Nat.le_of_ble_eq_true rfl) (L' := [some (jy a0), some (jy 0), some (jy 0)]) rfl ?_
    exact jy_join hS h rfl (jy_sub_s (jy_sub_s (jy_sub_s jy_sub_0)))
  · intro l1 l2 I h
    unfold wz_272_4 at h
    refine jy_iload_n hS rfl rfl ?_
    refine jy_bipush hS rfl (by decide) ?_
    obtain ⟨g1, h⟩ := h
    refine jy_icmp_ge hS rfl ⟨g1, ⟨by decide, by decide⟩⟩ (fun hq => ?_) (fun hq => ?_)
    · have h := h.1 hq
      refine jy_iload_n hS rfl rfl ?_
      exact jy_iret hS rfl rfl ⟨rfl, rfl, h⟩
    · have h := h.2 hq
      refine jy_iload_n hS rfl rfl ?_
      refine jy_iload_n hS rfl rfl ?_
      refine jy_iload_n hS rfl rfl ?_
      refine jy_ishrX hS rfl rfl ?_
      refine jy_iconst hS rfl ?_
      refine jy_iandX hS rfl rfl ?_
      refine jy_iadd hS rfl ?_
      refine jy_istore_n hS rfl (Nat.le_of_ble_eq_true rfl) (L' := [some (jy a0), some (jy (l1 + (Int32.ofInt ((Int32.ofInt a0 >>> (Int32.ofInt l2 &&& 31)).toInt) &&& Int32.ofInt 1).toInt)), some (jy l2)]) rfl ?_
      refine jy_iinc hS rfl rfl (L' := [some (jy a0), some (jy (l1 + (Int32.ofInt ((Int32.ofInt a0 >>> (Int32.ofInt l2 &&& 31)).toInt) &&& Int32.ofInt 1).toInt)), some (jy (l2 + 1))]) rfl ?_
      refine jy_goto hS rfl ?_
      exact jy_join hS h rfl (jy_sub_s (jy_sub_s (jy_sub_s jy_sub_0)))
