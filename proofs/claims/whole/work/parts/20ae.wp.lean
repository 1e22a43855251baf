theorem jt_87 : jx_ml 87 = 4 ∧ jx_rt 87 = none ∧ jx_hz 87 = [] ∧ decide ((jx_nm 87).name = "<init>") = false ∧ jx_code 87 = jx_c87 := by decide +kernel
/-- GC$Runner.runStep, from 83 -/
def wz_87_83 (d : Nat) (V : jx_V) (X : jx_X) (R : jx_R) (Q : Option Value → jx_I → Prop) (QE : String → jx_I → Prop) (J83 : Nat → Int → jx_I → Prop) (a0 : Nat) (a1 : Int) (a2 : Int) (s0 : Nat) (s1 : Int) (I : jx_I) : Prop :=
  (X.2.1 s0 = some (6, 0)) ∧ (
  ∃ d66 : Nat, d66 < d ∧ (
  ∃ Q65 : Option Value → jx_I → Prop, (
  (jc V d66 86 (0, 0) [.ref s0, jy s1, jy (a2 + 1)] X I R Q65 (fun _ _ => False)) ∧ (
  ∀ rv I69, Q65 rv I69 → rv = none ∧ (
  Q none I69)))))
/-- GC$Runner.runStep -/
def wz_87 (d : Nat) (V : jx_V) (X : jx_X) (R : jx_R) (Q : Option Value → jx_I → Prop) (QE : String → jx_I → Prop) (J83 : Nat → Int → jx_I → Prop) (a0 : Nat) (a1 : Int) (a2 : Int) (I : jx_I) : Prop :=
  (X.2.1 a0 = some (6, 0)) ∧ (
  ∃ q2 : Nat, (
  (R a0 3 = some q2) ∧ (
  (X.2.1 q2 = some (4, 0)) ∧ (
  ∃ q5 : Nat, (
  (R q2 0 = some q5) ∧ (
  ∃ n7 : Nat, (
  (X.2.1 q5 = some (100, n7) ∧ n7 < 2147483648) ∧ (
  (0 ≤ a1 ∧ a1 < n7) ∧ (
  ((I q5 a1.toNat).toInt ≠ 8 → (
    (1 < d) ∧ (
    ∃ Q10 : Option Value → jx_I → Prop, (
    (jc V 1 88 (0, 0) [.ref a0] X I R Q10 (fun _ _ => False)) ∧ (
    ∀ rv I13, Q10 rv I13 → ∃ r14 : Int, rv = some (jy r14) ∧ (
    (-2147483648 ≤ r14 ∧ r14 < 2147483648) ∧ (
    (r14 = 0 → (
      Q none I13
    )) ∧ (¬ r14 = 0 → (
      ((I q5 a1.toNat).toInt ≠ 7 → (
        ((I q5 a1.toNat).toInt ≠ 9 → (
          ((I q5 a1.toNat).toInt ≠ 0 → (
            ∃ q16 : Nat, (
            (R q2 1 = some q16) ∧ (
            ∃ n18 : Nat, (
            (X.2.1 q16 = some (100, n18) ∧ n18 < 2147483648) ∧ (
            (0 ≤ a1 ∧ a1 < n18) ∧ (
            (3 < d) ∧ (
            ∃ Q21 : Option Value → jx_I → Prop, (
            (jc V 3 91 (0, 0) [.ref a0, jy ((I q5 a1.toNat).toInt), jy ((I13 q16 a1.toNat).toInt)] X I13 R Q21 (fun _ _ => False)) ∧ (
            ∀ rv I24, Q21 rv I24 → rv = none ∧ (
            Q none I24)))))))))
          )) ∧ ((I q5 a1.toNat).toInt = 0 → (
            ∃ q26 : Nat, (
            (R q2 1 = some q26) ∧ (
            ∃ n28 : Nat, (
            (X.2.1 q26 = some (100, n28) ∧ n28 < 2147483648) ∧ (
            (0 ≤ a1 ∧ a1 < n28) ∧ (
            (4 < d) ∧ (
            ∃ Q31 : Option Value → jx_I → Prop, (
            (jc V 4 92 (0, 0) [.ref a0, jy ((I13 q26 a1.toNat).toInt)] X I13 R Q31 (fun _ _ => False)) ∧ (
            ∀ rv I34, Q31 rv I34 → rv = none ∧ (
            Q none I34)))))))))
          ))
        )) ∧ ((I q5 a1.toNat).toInt = 9 → (
          (5 < d) ∧ (
          ∃ Q36 : Option Value → jx_I → Prop, (
          (jc V 5 93 (0, 0) [.ref a0, jy a1] X I13 R Q36 (fun _ _ => False)) ∧ (
          ∀ rv I39, Q36 rv I39 → ∃ r40 : Int, rv = some (jy r40) ∧ (
          (-2147483648 ≤ r40 ∧ r40 < 2147483648) ∧ (
          (r40 = 0 → (
            ∃ q42 : Nat, (
            (R q2 4 = some q42) ∧ (
            ∃ n44 : Nat, (
            (X.2.1 q42 = some (100, n44) ∧ n44 < 2147483648) ∧ (
            (0 ≤ a1 ∧ a1 < n44) ∧ (
            J83 a0 ((I39 q42 a1.toNat).toInt) I39)))))
          )) ∧ (¬ r40 = 0 → (
            ∃ q47 : Nat, (
            (R q2 3 = some q47) ∧ (
            ∃ n49 : Nat, (
            (X.2.1 q47 = some (100, n49) ∧ n49 < 2147483648) ∧ (
            (0 ≤ a1 ∧ a1 < n49) ∧ (
            J83 a0 ((I39 q47 a1.toNat).toInt) I39)))))
          )))))))
        ))
      )) ∧ ((I q5 a1.toNat).toInt = 7 → (
        ∃ d53 : Nat, d53 < d ∧ (
        ∃ Q52 : Option Value → jx_I → Prop, (
        (jc V d53 89 (0, 0) [.ref a0, jy a1, jy a2] X I13 R Q52 (fun _ _ => False)) ∧ (
        ∀ rv I56, Q52 rv I56 → rv = none ∧ (
        Q none I56))))
      ))
    )))))))
  )) ∧ ((I q5 a1.toNat).toInt = 8 → (
    ∃ d59 : Nat, d59 < d ∧ (
    ∃ Q58 : Option Value → jx_I → Prop, (
    (jc V d59 90 (0, 0) [.ref a0, jy a1, jy a2] X I R Q58 (fun _ _ => False)) ∧ (
    ∀ rv I62, Q58 rv I62 → rv = none ∧ (
    Q none I62))))
  )))))))))))
set_option maxRecDepth 20000 in
theorem wm_87 {V : jx_V} (hV : V.1.stackTraces = false) {d : Nat} {X : jx_X} {R : jx_R} {I : jx_I} {Q : Option Value → jx_I → Prop} {QE : String → jx_I → Prop} {a0 : Nat} {a1 : Int} {a2 : Int} (r_a1 : -2147483648 ≤ a1 ∧ a1 < 2147483648) (r_a2 : -2147483648 ≤ a2 ∧ a2 < 2147483648) 
    (h : ∀ (J83 : Nat → Int → jx_I → Prop), ((∀ (s0 : Nat) (s1 : Int) I, wz_87_83 d V X R Q QE J83 a0 a1 a2 s0 s1 I → J83 s0 s1 I)) → wz_87 d V X R Q QE J83 a0 a1 a2 I) : jc V d 87 (0, 0) [.ref a0, jy a1, jy a2] X I R Q QE := by
  refine jy_met hV (by decide) (n := 4) (rt := none) (hh := []) (ini := false) (C := jx_c87) (L := [some (.ref a0), some (jy a1), some (jy a2), none]) jt_87 (Nat.le_of_ble_eq_true rfl) rfl ?_
  intro J hS
  have h := h (fun s0 s1 I => J 83 [jy s1, .ref s0] [none, none, some (jy a2), none] (0, 0) X I R) ?_
  · unfold wz_87 at h
    refine jy_aload_n hS rfl rfl ?_
    obtain ⟨g1, h⟩ := h
    obtain ⟨q2, h⟩ := h
    obtain ⟨g3, h⟩ := h
    refine jy_getR hS rfl (by decide) g1 g3 ?_
    obtain ⟨g4, h⟩ := h
    obtain ⟨q5, h⟩ := h
    obtain ⟨g6, h⟩ := h
    refine jy_getR hS rfl (by decide) g4 g6 ?_
    refine jy_iload_n hS rfl rfl ?_
    obtain ⟨n7, h⟩ := h
    obtain ⟨g8, h⟩ := h
    obtain ⟨g9, h⟩ := h
    refine jy_iald hS rfl g8.1 (Nat.le_of_lt g8.2) g9 ?_
    refine jy_istore_n hS rfl (Nat.le_of_ble_eq_true rfl) (L' := [some (.ref a0), some (jy a1), some (jy a2), some (jy ((I q5 a1.toNat).toInt))]) rfl ?_
    refine jy_iload_n hS rfl rfl ?_
    refine jy_bipush hS rfl (by decide) ?_
    refine jy_icmp_ne hS rfl ⟨(jy_rng _), ⟨by decide, by decide⟩⟩ (fun hq => ?_) (fun hq => ?_)
    · have h := h.1 hq
      refine jy_aload_n hS rfl rfl ?_
      obtain ⟨g11, h⟩ := h
      obtain ⟨Q10, h⟩ := h
      obtain ⟨g12, h⟩ := h
      refine jy_callV hS rfl rfl rfl (Nat.le_of_ble_eq_true rfl) (Or.inl g1) g12 g11 ⟨by decide, by decide⟩ (Nat.le_of_ble_eq_true rfl) ?_ ?_
      rotate_left
      · exact fun Ex Xx Ix Rx hp => hp.2.2.2.elim
      intro rv Xx I13 Rx hp
      obtain ⟨e1, e2, hp⟩ := hp
      rw [e1, e2]
      clear e1 e2
      obtain ⟨r14, e1, h⟩ := h rv I13 hp
      rw [e1]
      clear e1
      change J 29 [jy r14] _ (0, 0) _ _ _
      obtain ⟨g15, h⟩ := h
      refine jy_if_eq hS rfl g15 (fun hq => ?_) (fun hq => ?_)
      · have h := h.1 hq
        exact jy_ret hS rfl rfl ⟨rfl, rfl, h⟩
      · have h := h.2 hq
        refine jy_iload_n hS rfl rfl ?_
        refine jy_bipush hS rfl (by decide) ?_
        refine jy_icmp_ne hS rfl ⟨(jy_rng _), ⟨by decide, by decide⟩⟩ (fun hq => ?_) (fun hq => ?_)
        · have h := h.1 hq
          refine jy_iload_n hS rfl rfl ?_
          refine jy_bipush hS rfl (by decide) ?_
          refine jy_icmp_ne hS rfl ⟨(jy_rng _), ⟨by decide, by decide⟩⟩ (fun hq => ?_) (fun hq => ?_)
          · have h := h.1 hq
            refine jy_iload_n hS rfl rfl ?_
            refine jy_if_ne hS rfl (jy_rng _) (fun hq => ?_) (fun hq => ?_)
            · have h := h.1 hq
              refine jy_aload_n hS rfl rfl ?_
              refine jy_iload_n hS rfl rfl ?_
              refine jy_aload_n hS rfl rfl ?_
              refine jy_getR hS rfl (by decide) g1 g3 ?_
              obtain ⟨q16, h⟩ := h
              obtain ⟨g17, h⟩ := h
              refine jy_getR hS rfl (by decide) g4 g17 ?_
              refine jy_iload_n hS rfl rfl ?_
              obtain ⟨n18, h⟩ := h
              obtain ⟨g19, h⟩ := h
              obtain ⟨g20, h⟩ := h
              refine jy_iald hS rfl g19.1 (Nat.le_of_lt g19.2) g20 ?_
              obtain ⟨g22, h⟩ := h
              obtain ⟨Q21, h⟩ := h
              obtain ⟨g23, h⟩ := h
              refine jy_callV hS rfl rfl rfl (Nat.le_of_ble_eq_true rfl) (Or.inl g1) g23 g22 ⟨by decide, by decide⟩ (Nat.le_of_ble_eq_true rfl) ?_ ?_
              rotate_left
              · exact fun Ex Xx Ix Rx hp => hp.2.2.2.elim
              intro rv Xx I24 Rx hp
              obtain ⟨e1, e2, hp⟩ := hp
              rw [e1, e2]
              clear e1 e2
              obtain ⟨e1, h⟩ := h rv I24 hp
              rw [e1]
              clear e1
              change J 126 [] _ (0, 0) _ _ _
              exact jy_ret hS rfl rfl ⟨rfl, rfl, h⟩
            · have h := h.2 hq
              refine jy_aload_n hS rfl rfl ?_
              refine jy_aload_n hS rfl rfl ?_
              refine jy_getR hS rfl (by decide) g1 g3 ?_
              obtain ⟨q26, h⟩ := h
              obtain ⟨g27, h⟩ := h
              refine jy_getR hS rfl (by decide) g4 g27 ?_
              refine jy_iload_n hS rfl rfl ?_
              obtain ⟨n28, h⟩ := h
              obtain ⟨g29, h⟩ := h
              obtain ⟨g30, h⟩ := h
              refine jy_iald hS rfl g29.1 (Nat.le_of_lt g29.2) g30 ?_
              obtain ⟨g32, h⟩ := h
              obtain ⟨Q31, h⟩ := h
              obtain ⟨g33, h⟩ := h
              refine jy_callV hS rfl rfl rfl (Nat.le_of_ble_eq_true rfl) (Or.inl g1) g33 g32 ⟨by decide, by decide⟩ (Nat.le_of_ble_eq_true rfl) ?_ ?_
              rotate_left
              · exact fun Ex Xx Ix Rx hp => hp.2.2.2.elim
              intro rv Xx I34 Rx hp
              obtain ⟨e1, e2, hp⟩ := hp
              rw [e1, e2]
              clear e1 e2
              obtain ⟨e1, h⟩ := h rv I34 hp
              rw [e1]
              clear e1
              change J 109 [] _ (0, 0) _ _ _
              refine jy_goto hS rfl ?_
              exact jy_ret hS rfl rfl ⟨rfl, rfl, h⟩
          · have h := h.2 hq
            refine jy_aload_n hS rfl rfl ?_
            refine jy_aload_n hS rfl rfl ?_
            refine jy_iload_n hS rfl rfl ?_
            obtain ⟨g37, h⟩ := h
            obtain ⟨Q36, h⟩ := h
            obtain ⟨g38, h⟩ := h
            refine jy_callV hS rfl rfl rfl (Nat.le_of_ble_eq_true rfl) (Or.inl g1) g38 g37 ⟨by decide, by decide⟩ (Nat.le_of_ble_eq_true rfl) ?_ ?_
            rotate_left
            · exact fun Ex Xx Ix Rx hp => hp.2.2.2.elim
            intro rv Xx I39 Rx hp
            obtain ⟨e1, e2, hp⟩ := hp
            rw [e1, e2]
            clear e1 e2
            obtain ⟨r40, e1, h⟩ := h rv I39 hp
            rw [e1]
            clear e1
            change J 59 [jy r40, .ref a0] _ (0, 0) _ _ _
            obtain ⟨g41, h⟩ := h
            refine jy_if_eq hS rfl g41 (fun hq => ?_) (fun hq => ?_)
            · have h := h.1 hq
              refine jy_aload_n hS rfl rfl ?_
              refine jy_getR hS rfl (by decide) g1 g3 ?_
              obtain ⟨q42, h⟩ := h
              obtain ⟨g43, h⟩ := h
              refine jy_getR hS rfl (by decide) g4 g43 ?_
              refine jy_iload_n hS rfl rfl ?_
              obtain ⟨n44, h⟩ := h
              obtain ⟨g45, h⟩ := h
              obtain ⟨g46, h⟩ := h
              refine jy_iald hS rfl g45.1 (Nat.le_of_lt g45.2) g46 ?_
              exact jy_join hS h rfl (jy_sub_n (jy_sub_n (jy_sub_s (jy_sub_n jy_sub_0))))
            · have h := h.2 hq
              refine jy_aload_n hS rfl rfl ?_
              refine jy_getR hS rfl (by decide) g1 g3 ?_
              obtain ⟨q47, h⟩ := h
              obtain ⟨g48, h⟩ := h
              refine jy_getR hS rfl (by decide) g4 g48 ?_
              refine jy_iload_n hS rfl rfl ?_
              obtain ⟨n49, h⟩ := h
              obtain ⟨g50, h⟩ := h
              obtain ⟨g51, h⟩ := h
              refine jy_iald hS rfl g50.1 (Nat.le_of_lt g50.2) g51 ?_
              refine jy_goto hS rfl ?_
              exact jy_join hS h rfl (jy_sub_n (jy_sub_n (jy_sub_s (jy_sub_n jy_sub_0))))
        · have h := h.2 hq
          refine jy_aload_n hS rfl rfl ?_
          refine jy_iload_n hS rfl rfl ?_
          refine jy_iload_n hS rfl rfl ?_
          obtain ⟨d53, g54, h⟩ := h
          obtain ⟨Q52, h⟩ := h
          obtain ⟨g55, h⟩ := h
          refine jy_callV hS rfl rfl rfl (Nat.le_of_ble_eq_true rfl) (Or.inl g1) g55 g54 ⟨by decide, by decide⟩ (Nat.le_of_ble_eq_true rfl) ?_ ?_
          rotate_left
          · exact fun Ex Xx Ix Rx hp => hp.2.2.2.elim
          intro rv Xx I56 Rx hp
          obtain ⟨e1, e2, hp⟩ := hp
          rw [e1, e2]
          clear e1 e2
          obtain ⟨e1, h⟩ := h rv I56 hp
          rw [e1]
          clear e1
          change J 44 [] _ (0, 0) _ _ _
          refine jy_goto hS rfl ?_
          exact jy_ret hS rfl rfl ⟨rfl, rfl, h⟩
    · have h := h.2 hq
      refine jy_aload_n hS rfl rfl ?_
      refine jy_iload_n hS rfl rfl ?_
      refine jy_iload_n hS rfl rfl ?_
      obtain ⟨d59, g60, h⟩ := h
      obtain ⟨Q58, h⟩ := h
      obtain ⟨g61, h⟩ := h
      refine jy_callV hS rfl rfl rfl (Nat.le_of_ble_eq_true rfl) (Or.inl g1) g61 g60 ⟨by decide, by decide⟩ (Nat.le_of_ble_eq_true rfl) ?_ ?_
      rotate_left
      · exact fun Ex Xx Ix Rx hp => hp.2.2.2.elim
      intro rv Xx I62 Rx hp
      obtain ⟨e1, e2, hp⟩ := hp
      rw [e1, e2]
      clear e1 e2
      obtain ⟨e1, h⟩ := h rv I62 hp
      rw [e1]
      clear e1
      change J 22 [] _ (0, 0) _ _ _
      refine jy_goto hS rfl ?_
      exact jy_ret hS rfl rfl ⟨rfl, rfl, h⟩
  · intro s0 s1 I h
    unfold wz_87_83 at h
    refine jy_iload_n hS rfl rfl ?_
    refine jy_iconst hS rfl ?_
    refine jy_iadd hS rfl ?_
    obtain ⟨g64, h⟩ := h
    obtain ⟨d66, g67, h⟩ := h
    obtain ⟨Q65, h⟩ := h
    obtain ⟨g68, h⟩ := h
    refine jy_callV hS rfl rfl rfl (Nat.le_of_ble_eq_true rfl) (Or.inl g64) g68 g67 ⟨by decide, by decide⟩ (Nat.le_of_ble_eq_true rfl) ?_ ?_
    rotate_left
    · exact fun Ex Xx Ix Rx hp => hp.2.2.2.elim
    intro rv Xx I69 Rx hp
    obtain ⟨e1, e2, hp⟩ := hp
    rw [e1, e2]
    clear e1 e2
    obtain ⟨e1, h⟩ := h rv I69 hp
    rw [e1]
    clear e1
    change J 89 [] _ (0, 0) _ _ _
    refine jy_goto hS rfl ?_
    exact jy_ret hS rfl rfl ⟨rfl, rfl, h⟩
theorem jt_88 : jx_ml 88 = 1 ∧ jx_rt 88 = some .boolean ∧ jx_hz 88 = [] ∧ decide ((jx_nm 88).name = "<init>") = false ∧ jx_code 88 = jx_c88 := by decide +kernel
/-- GC$Runner.beginsStep -/
def wz_88 (V : jx_V) (X : jx_X) (R : jx_R) (Q : Option Value → jx_I → Prop) (QE : String → jx_I → Prop)  (a0 : Nat) (I : jx_I) : Prop :=
  (X.2.1 a0 = some (6, 0)) ∧ (
  ((I a0 7).toInt < 300 → (
    ∀ I2 : jx_I, I2 = jx_u I a0 7 (Int32.ofInt ((I a0 7).toInt + 1)) → (
    Q (some (jy 1)) I2)
  )) ∧ (¬ (I a0 7).toInt < 300 → (
    ∀ I3 : jx_I, I3 = jx_u I a0 8 (Int32.ofInt 1) → (
    Q (some (jy 0)) I3)
  )))
set_option maxRecDepth 20000 in
theorem wm_88 {V : jx_V} (hV : V.1.stackTraces = false) {X : jx_X} {R : jx_R} {I : jx_I} {Q : Option Value → jx_I → Prop} {QE : String → jx_I → Prop} {a0 : Nat}  
    (h : wz_88 V X R Q QE  a0 I) : jc V 1 88 (0, 0) [.ref a0] X I R Q QE := by
  refine jy_met hV (by decide) (n := 1) (rt := some .boolean) (hh := []) (ini := false) (C := jx_c88) (L := [some (.ref a0)]) jt_88 (Nat.le_of_ble_eq_true rfl) rfl ?_
  intro J hS
  unfold wz_88 at h
  refine jy_aload_n hS rfl rfl ?_
  obtain ⟨g1, h⟩ := h
  refine jy_getI hS rfl (by decide) g1 ?_
  refine jy_sipush hS rfl (by decide) ?_
  refine jy_icmp_lt hS rfl ⟨(jy_rng _), ⟨by decide, by decide⟩⟩ (fun hq => ?_) (fun hq => ?_)
  · have h := h.1 hq
    refine jy_aload_n hS rfl rfl ?_
    refine jy_dup hS rfl rfl ?_
    refine jy_getI hS rfl (by decide) g1 ?_
    refine jy_iconst hS rfl ?_
    refine jy_iadd hS rfl ?_
    refine jy_putI hS rfl (by decide) g1 ?_
    intro I2 e9
    have h := h I2 e9
    clear e9
    refine jy_iconst hS rfl ?_
    exact jy_iret hS rfl rfl ⟨rfl, rfl, h⟩
  · have h := h.2 hq
    refine jy_aload_n hS rfl rfl ?_
    refine jy_iconst hS rfl ?_
    refine jy_putB hS rfl (by decide) (Or.inr rfl) g1 ?_
    intro I3 e9
    have h := h I3 e9
    clear e9
    refine jy_iconst hS rfl ?_
    exact jy_iret hS rfl rfl ⟨rfl, rfl, h⟩
theorem jt_89 : jx_ml 89 = 4 ∧ jx_rt 89 = none ∧ jx_hz 89 = [] ∧ decide ((jx_nm 89).name = "<init>") = false ∧ jx_code 89 = jx_c89 := by decide +kernel
/-- GC$Runner.runAgain, from 2 -/
def wz_89_2 (d : Nat) (V : jx_V) (X : jx_X) (R : jx_R) (Q : Option Value → jx_I → Prop) (QE : String → jx_I → Prop) (J2 : Int → jx_I → Prop) (a0 : Nat) (a1 : Int) (a2 : Int) (l3 : Int) (I : jx_I) : Prop :=
  (X.2.1 a0 = some (6, 0)) ∧ (
  ∃ q2 : Nat, (
  (R a0 3 = some q2) ∧ (
  (X.2.1 q2 = some (4, 0)) ∧ (
  ∃ q5 : Nat, (
  (R q2 1 = some q5) ∧ (
  ∃ n7 : Nat, (
  (X.2.1 q5 = some (100, n7) ∧ n7 < 2147483648) ∧ (
  (0 ≤ a1 ∧ a1 < n7) ∧ (
  (-2147483648 ≤ l3 ∧ l3 < 2147483648) ∧ (
  ((I q5 a1.toNat).toInt ≤ l3 → (
    Q none I
  )) ∧ (¬ (I q5 a1.toNat).toInt ≤ l3 → (
    ((I a0 8).toInt ≠ 0 → (
      Q none I
    )) ∧ ((I a0 8).toInt = 0 → (
      ∃ q11 : Nat, (
      (R q2 3 = some q11) ∧ (
      ∃ n13 : Nat, (
      (X.2.1 q11 = some (100, n13) ∧ n13 < 2147483648) ∧ (
      (0 ≤ a1 ∧ a1 < n13) ∧ (
      ∃ d17 : Nat, d17 < d ∧ (
      ∃ Q16 : Option Value → jx_I → Prop, (
      (jc V d17 86 (0, 0) [.ref a0, jy ((I q11 a1.toNat).toInt), jy (a2 + 1)] X I R Q16 (fun _ _ => False)) ∧ (
      ∀ rv I20, Q16 rv I20 → rv = none ∧ (
      J2 (l3 + 1) I20)))))))))
    ))
  ))))))))))))
/-- GC$Runner.runAgain -/
def wz_89 (d : Nat) (V : jx_V) (X : jx_X) (R : jx_R) (Q : Option Value → jx_I → Prop) (QE : String → jx_I → Prop) (J2 : Int → jx_I → Prop) (a0 : Nat) (a1 : Int) (a2 : Int) (I : jx_I) : Prop :=
  J2 0 I
set_option maxRecDepth 20000 in
theorem wm_89 {V : jx_V} (hV : V.1.stackTraces = false) {d : Nat} {X : jx_X} {R : jx_R} {I : jx_I} {Q : Option Value → jx_I → Prop} {QE : String → jx_I → Prop} {a0 : Nat} {a1 : Int} {a2 : Int} (r_a1 : -2147483648 ≤ a1 ∧ a1 < 2147483648) (r_a2 : -2147483648 ≤ a2 ∧ a2 < 2147483648) 
    (h : ∀ (J2 : Int → jx_I → Prop), ((∀ (l3 : Int) I, wz_89_2 d V X R Q QE J2 a0 a1 a2 l3 I → J2 l3 I)) → wz_89 d V X R Q QE J2 a0 a1 a2 I) : jc V d 89 (0, 0) [.ref a0, jy a1, jy a2] X I R Q QE := by
  refine jy_met hV (by decide) (n := 4) (rt := none) (hh := []) (ini := false) (C := jx_c89) (L := [some (.ref a0), some (jy a1), some (jy a2), none]) jt_89 (Nat.le_of_ble_eq_true rfl) rfl ?_
  intro J hS
  have h := h (fun l3 I => J 2 [] [some (.ref a0), some (jy a1), some (jy a2), some (jy l3)] (0, 0) X I R) ?_
  · unfold wz_89 at h
    refine jy_iconst hS rfl ?_
    refine jy_istore_n hS rfl (Nat.le_of_ble_eq_true rfl) (L' := [some (.ref a0), some (jy a1), some (jy a2), some (jy 0)]) rfl ?_
    exact jy_join hS h rfl (jy_sub_s (jy_sub_s (jy_sub_s (jy_sub_s jy_sub_0))))
  · intro l3 I h
    unfold wz_89_2 at h
    refine jy_iload_n hS rfl rfl ?_
    refine jy_aload_n hS rfl rfl ?_
    obtain ⟨g1, h⟩ := h
    obtain ⟨q2, h⟩ := h
    obtain ⟨g3, h⟩ := h
    refine jy_getR hS rfl (by decide) g1 g3 ?_
    obtain ⟨g4, h⟩ := h
    obtain ⟨q5, h⟩ := h
    obtain ⟨g6, h⟩ := h
    refine jy_getR hS rfl (by decide) g4 g6 ?_
    refine jy_iload_n hS rfl rfl ?_
    obtain ⟨n7, h⟩ := h
    obtain ⟨g8, h⟩ := h
    obtain ⟨g9, h⟩ := h
    refine jy_iald hS rfl g8.1 (Nat.le_of_lt g8.2) g9 ?_
    obtain ⟨g10, h⟩ := h
    refine jy_icmp_ge hS rfl ⟨g10, (jy_rng _)⟩ (fun hq => ?_) (fun hq => ?_)
    · have h := h.1 hq
      exact jy_ret hS rfl rfl ⟨rfl, rfl, h⟩
    · have h := h.2 hq
      refine jy_aload_n hS rfl rfl ?_
      refine jy_getI hS rfl (by decide) g1 ?_
      refine jy_if_ne hS rfl (jy_rng _) (fun hq => ?_) (fun hq => ?_)
      · have h := h.1 hq
        exact jy_ret hS rfl rfl ⟨rfl, rfl, h⟩
      · have h := h.2 hq
        refine jy_aload_n hS rfl rfl ?_
        refine jy_aload_n hS rfl rfl ?_
        refine jy_getR hS rfl (by decide) g1 g3 ?_
        obtain ⟨q11, h⟩ := h
        obtain ⟨g12, h⟩ := h
        refine jy_getR hS rfl (by decide) g4 g12 ?_
        refine jy_iload_n hS rfl rfl ?_
        obtain ⟨n13, h⟩ := h
        obtain ⟨g14, h⟩ := h
        obtain ⟨g15, h⟩ := h
        refine jy_iald hS rfl g14.1 (Nat.le_of_lt g14.2) g15 ?_
        refine jy_iload_n hS rfl rfl ?_
        refine jy_iconst hS rfl ?_
        refine jy_iadd hS rfl ?_
        obtain ⟨d17, g18, h⟩ := h
        obtain ⟨Q16, h⟩ := h
        obtain ⟨g19, h⟩ := h
        refine jy_callV hS rfl rfl rfl (Nat.le_of_ble_eq_true rfl) (Or.inl g1) g19 g18 ⟨by decide, by decide⟩ (Nat.le_of_ble_eq_true rfl) ?_ ?_
        rotate_left
        · exact fun Ex Xx Ix Rx hp => hp.2.2.2.elim
        intro rv Xx I20 Rx hp
        obtain ⟨e1, e2, hp⟩ := hp
        rw [e1, e2]
        clear e1 e2
        obtain ⟨e1, h⟩ := h rv I20 hp
        rw [e1]
        clear e1
        change J 38 [] _ (0, 0) _ _ _
        refine jy_iinc hS rfl rfl (L' := [some (.ref a0), some (jy a1), some (jy a2), some (jy (l3 + 1))]) rfl ?_
        refine jy_goto hS rfl ?_
        exact jy_join hS h rfl (jy_sub_s (jy_sub_s (jy_sub_s (jy_sub_s jy_sub_0))))
theorem jt_90 : jx_ml 90 = 4 ∧ jx_rt 90 = none ∧ jx_hz 90 = [] ∧ decide ((jx_nm 90).name = "<init>") = false ∧ jx_code 90 = jx_c90 := by decide +kernel
/-- GC$Runner.runWhile, from 2 -/
def wz_90_2 (d : Nat) (V : jx_V) (X : jx_X) (R : jx_R) (Q : Option Value → jx_I → Prop) (QE : String → jx_I → Prop) (J2 : Int → jx_I → Prop) (a0 : Nat) (a1 : Int) (a2 : Int) (l3 : Int) (I : jx_I) : Prop :=
  (-2147483648 ≤ l3 ∧ l3 < 2147483648) ∧ (
  (300 < l3 → (
    Q none I
  )) ∧ (¬ 300 < l3 → (
    (X.2.1 a0 = some (6, 0)) ∧ (
    ((I a0 8).toInt ≠ 0 → (
      Q none I
    )) ∧ ((I a0 8).toInt = 0 → (
      (1 < d) ∧ (
      ∃ Q3 : Option Value → jx_I → Prop, (
      (jc V 1 88 (0, 0) [.ref a0] X I R Q3 (fun _ _ => False)) ∧ (
      ∀ rv I6, Q3 rv I6 → ∃ r7 : Int, rv = some (jy r7) ∧ (
      (-2147483648 ≤ r7 ∧ r7 < 2147483648) ∧ (
      (r7 = 0 → (
        Q none I6
      )) ∧ (¬ r7 = 0 → (
        (5 < d) ∧ (
        ∃ Q9 : Option Value → jx_I → Prop, (
        (jc V 5 93 (0, 0) [.ref a0, jy a1] X I6 R Q9 (fun _ _ => False)) ∧ (
        ∀ rv I12, Q9 rv I12 → ∃ r13 : Int, rv = some (jy r13) ∧ (
        (-2147483648 ≤ r13 ∧ r13 < 2147483648) ∧ (
        (r13 ≠ 0 → (
          ∃ q15 : Nat, (
          (R a0 3 = some q15) ∧ (
          (X.2.1 q15 = some (4, 0)) ∧ (
          ∃ q18 : Nat, (
          (R q15 3 = some q18) ∧ (
          ∃ n20 : Nat, (
          (X.2.1 q18 = some (100, n20) ∧ n20 < 2147483648) ∧ (
          (0 ≤ a1 ∧ a1 < n20) ∧ (
          ∃ d24 : Nat, d24 < d ∧ (
          ∃ Q23 : Option Value → jx_I → Prop, (
          (jc V d24 86 (0, 0) [.ref a0, jy ((I12 q18 a1.toNat).toInt), jy (a2 + 1)] X I12 R Q23 (fun _ _ => False)) ∧ (
          ∀ rv I27, Q23 rv I27 → rv = none ∧ (
          J2 (l3 + 1) I27))))))))))))
        )) ∧ (r13 = 0 → (
          Q none I12
        )))))))
      )))))))
    )))
  )))
/-- GC$Runner.runWhile -/
def wz_90 (d : Nat) (V : jx_V) (X : jx_X) (R : jx_R) (Q : Option Value → jx_I → Prop) (QE : String → jx_I → Prop) (J2 : Int → jx_I → Prop) (a0 : Nat) (a1 : Int) (a2 : Int) (I : jx_I) : Prop :=
  J2 0 I
set_option maxRecDepth 20000 in
theorem wm_90 {V : jx_V} (hV : V.1.stackTraces = false) {d : Nat} {X : jx_X} {R : jx_R} {I : jx_I} {Q : Option Value → jx_I → Prop} {QE : String → jx_I → Prop} {a0 : Nat} {a1 : Int} {a2 : Int} (r_a1 : -2147483648 ≤ a1 ∧ a1 < 2147483648) (r_a2 : -2147483648 ≤ a2 ∧ a2 < 2147483648) 
    (h : ∀ (J2 : Int → jx_I → Prop), ((∀ (l3 : Int) I, wz_90_2 d V X R Q QE J2 a0 a1 a2 l3 I → J2 l3 I)) → wz_90 d V X R Q QE J2 a0 a1 a2 I) : jc V d 90 (0, 0) [.ref a0, jy a1, jy a2] X I R Q QE := by
  refine jy_met hV (by decide) (n := 4) (rt := none) (hh := []) (ini := false) (C := jx_c90) (L := [some (.ref a0), some (jy a1), some (jy a2), none]) jt_90 (Nat.le_of_ble_eq_true rfl) rfl ?_
  intro J hS
  have h := h (fun l3 I => J 2 [] [some (.ref a0), some (jy a1), some (jy a2), some (jy l3)] (0, 0) X I R) ?_
  · unfold wz_90 at h
    refine jy_iconst hS rfl ?_
    refine jy_istore_n hS rfl (Nat.le_of_ble_eq_true rfl) (L' := [some (.ref a0), some (jy a1), some (jy a2), some (jy 0)]) rfl ?_
    exact jy_join hS h rfl (jy_sub_s (jy_sub_s (jy_sub_s (jy_sub_s jy_sub_0))))
  · intro l3 I h
    unfold wz_90_2 at h
    refine jy_iload_n hS rfl rfl ?_
    refine jy_sipush hS rfl (by decide) ?_
    obtain ⟨g1, h⟩ := h
    refine jy_icmp_gt hS rfl ⟨g1, ⟨by decide, by decide⟩⟩ (fun hq => ?_) (fun hq => ?_)
    · have h := h.1 hq
      exact jy_ret hS rfl rfl ⟨rfl, rfl, h⟩
    · have h := h.2 hq
      refine jy_aload_n hS rfl rfl ?_
      obtain ⟨g2, h⟩ := h
      refine jy_getI hS rfl (by decide) g2 ?_
      refine jy_if_ne hS rfl (jy_rng _) (fun hq => ?_) (fun hq => ?_)
      · have h := h.1 hq
        exact jy_ret hS rfl rfl ⟨rfl, rfl, h⟩
      · have h := h.2 hq
        refine jy_aload_n hS rfl rfl ?_
        obtain ⟨g4, h⟩ := h
        obtain ⟨Q3, h⟩ := h
        obtain ⟨g5, h⟩ := h
        refine jy_callV hS rfl rfl rfl (Nat.le_of_ble_eq_true rfl) (Or.inl g2) g5 g4 ⟨by decide, by decide⟩ (Nat.le_of_ble_eq_true rfl) ?_ ?_
        rotate_left
        · exact fun Ex Xx Ix Rx hp => hp.2.2.2.elim
        intro rv Xx I6 Rx hp
        obtain ⟨e1, e2, hp⟩ := hp
        rw [e1, e2]
        clear e1 e2
        obtain ⟨r7, e1, h⟩ := h rv I6 hp
        rw [e1]
        clear e1
        change J 20 [jy r7] _ (0, 0) _ _ _
        obtain ⟨g8, h⟩ := h
        refine jy_if_eq hS rfl g8 (fun hq => ?_) (fun hq => ?_)
        · have h := h.1 hq
          exact jy_ret hS rfl rfl ⟨rfl, rfl, h⟩
        · have h := h.2 hq
          refine jy_aload_n hS rfl rfl ?_
          refine jy_iload_n hS rfl rfl ?_
          obtain ⟨g10, h⟩ := h
          obtain ⟨Q9, h⟩ := h
          obtain ⟨g11, h⟩ := h
          refine jy_callV hS rfl rfl rfl (Nat.le_of_ble_eq_true rfl) (Or.inl g2) g11 g10 ⟨by decide, by decide⟩ (Nat.le_of_ble_eq_true rfl) ?_ ?_
          rotate_left
          · exact fun Ex Xx Ix Rx hp => hp.2.2.2.elim
          intro rv Xx I12 Rx hp
          obtain ⟨e1, e2, hp⟩ := hp
          rw [e1, e2]
          clear e1 e2
          obtain ⟨r13, e1, h⟩ := h rv I12 hp
          rw [e1]
          clear e1
          change J 28 [jy r13] _ (0, 0) _ _ _
          obtain ⟨g14, h⟩ := h
          refine jy_if_ne hS rfl g14 (fun hq => ?_) (fun hq => ?_)
          · have h := h.1 hq
            refine jy_aload_n hS rfl rfl ?_
            refine jy_aload_n hS rfl rfl ?_
            obtain ⟨q15, h⟩ := h
            obtain ⟨g16, h⟩ := h
            refine jy_getR hS rfl (by decide) g2 g16 ?_
            obtain ⟨g17, h⟩ := h
            obtain ⟨q18, h⟩ := h
            obtain ⟨g19, h⟩ := h
            refine jy_getR hS rfl (by decide) g17 g19 ?_
            refine jy_iload_n hS rfl rfl ?_
            obtain ⟨n20, h⟩ := h
            obtain ⟨g21, h⟩ := h
            obtain ⟨g22, h⟩ := h
            refine jy_iald hS rfl g21.1 (Nat.le_of_lt g21.2) g22 ?_
            refine jy_iload_n hS rfl rfl ?_
            refine jy_iconst hS rfl ?_
            refine jy_iadd hS rfl ?_
            obtain ⟨d24, g25, h⟩ := h
            obtain ⟨Q23, h⟩ := h
            obtain ⟨g26, h⟩ := h
            refine jy_callV hS rfl rfl rfl (Nat.le_of_ble_eq_true rfl) (Or.inl g2) g26 g25 ⟨by decide, by decide⟩ (Nat.le_of_ble_eq_true rfl) ?_ ?_
            rotate_left
            · exact fun Ex Xx Ix Rx hp => hp.2.2.2.elim
            intro rv Xx I27 Rx hp
            obtain ⟨e1, e2, hp⟩ := hp
            rw [e1, e2]
            clear e1 e2
            obtain ⟨e1, h⟩ := h rv I27 hp
            rw [e1]
            clear e1
            change J 48 [] _ (0, 0) _ _ _
            refine jy_iinc hS rfl rfl (L' := [some (.ref a0), some (jy a1), some (jy a2), some (jy (l3 + 1))]) rfl ?_
            refine jy_goto hS rfl ?_
            exact jy_join hS h rfl (jy_sub_s (jy_sub_s (jy_sub_s (jy_sub_s jy_sub_0))))
          · have h := h.2 hq
            exact jy_ret hS rfl rfl ⟨rfl, rfl, h⟩
theorem jt_91 : jx_ml 91 = 3 ∧ jx_rt 91 = none ∧ jx_hz 91 = [] ∧ decide ((jx_nm 91).name = "<init>") = false ∧ jx_code 91 = jx_c91 := by decide +kernel
/-- GC$Runner.doStep -/
def wz_91 (V : jx_V) (X : jx_X) (R : jx_R) (Q : Option Value → jx_I → Prop) (QE : String → jx_I → Prop)  (a0 : Nat) (a1 : Int) (a2 : Int) (I : jx_I) : Prop :=
  ((a1 < 1 ∨ 5 < a1) → (
    (X.2.1 a0 = some (6, 0)) ∧ (
    ∃ q2 : Nat, (
    (R a0 1 = some q2) ∧ (
    (X.2.1 q2 = some (5, 0)) ∧ (
    ∃ Q5 : Option Value → jx_I → Prop, (
    (jc V 1 71 (0, 0) [.ref q2, jy a2] X I R Q5 (fun _ _ => False)) ∧ (
    ∀ rv I7, Q5 rv I7 → rv = none ∧ (
    ∃ Q9 : Option Value → jx_I → Prop, (
    (jc V 1 70 (0, 0) [.ref q2, jy a2] X I7 R Q9 (fun _ _ => False)) ∧ (
    ∀ rv I11, Q9 rv I11 → rv = none ∧ (
    Q none I11))))))))))
  ))
  ∧ (a1 = 1 → (
    (X.2.1 a0 = some (6, 0)) ∧ (
    ∀ I14 : jx_I, I14 = jx_u I a0 5 (Int32.ofInt ((I a0 5).toInt + a2)) → (
    Q none I14))
  ))
  ∧ (a1 = 2 → (
    (X.2.1 a0 = some (6, 0)) ∧ (
    ∃ q16 : Nat, (
    (R a0 0 = some q16) ∧ (
    ∃ q18 : Nat, (
    (R a0 1 = some q18) ∧ (
    (X.2.1 q16 = some (1, 0)) ∧ (
    ∃ Q21 : Option Value → jx_I → Prop, (
    (jc V 2 18 (0, 0) [.ref q16, .ref q18] X I R Q21 (fun _ _ => False)) ∧ (
    ∀ rv I23, Q21 rv I23 → rv = none ∧ (
    Q none I23)))))))))
  ))
  ∧ (a1 = 3 → (
    (X.2.1 a0 = some (6, 0)) ∧ (
    ∃ q26 : Nat, (
    (R a0 0 = some q26) ∧ (
    ∃ q28 : Nat, (
    (R a0 1 = some q28) ∧ (
    (X.2.1 q26 = some (1, 0)) ∧ (
    ∃ Q31 : Option Value → jx_I → Prop, (
    (jc V 1 19 (0, 0) [.ref q26, .ref q28] X I R Q31 (fun _ _ => False)) ∧ (
    ∀ rv I33, Q31 rv I33 → rv = none ∧ (
    Q none I33)))))))))
  ))
  ∧ (a1 = 4 → (
    (X.2.1 a0 = some (6, 0)) ∧ (
    ∃ q36 : Nat, (
    (R a0 1 = some q36) ∧ (
    (X.2.1 q36 = some (5, 0)) ∧ (
    ∃ Q39 : Option Value → jx_I → Prop, (
    (jc V 1 71 (0, 0) [.ref q36, jy a2] X I R Q39 (fun _ _ => False)) ∧ (
    ∀ rv I41, Q39 rv I41 → rv = none ∧ (
    Q none I41)))))))
  ))
  ∧ (a1 = 5 → (
    (X.2.1 a0 = some (6, 0)) ∧ (
    ∃ q44 : Nat, (
    (R a0 1 = some q44) ∧ (
    (X.2.1 q44 = some (5, 0)) ∧ (
    ∃ Q47 : Option Value → jx_I → Prop, (
    (jc V 1 72 (0, 0) [.ref q44, jy a2] X I R Q47 (fun _ _ => False)) ∧ (
    ∀ rv I49, Q47 rv I49 → ∃ r50 : Int, rv = some (jy r50) ∧ (
    (-2147483648 ≤ r50 ∧ r50 < 2147483648) ∧ (
    (r50 ≠ 0 → (
      Q none I49
    )) ∧ (r50 = 0 → (
      ∃ Q52 : Option Value → jx_I → Prop, (
      (jc V 1 69 (0, 0) [.ref q44, jy a2] X I49 R Q52 (fun _ _ => False)) ∧ (
      ∀ rv I54, Q52 rv I54 → rv = none ∧ (
      Q none I54)))
    ))))))))))
  ))
set_option maxRecDepth 20000 in
theorem wm_91 {V : jx_V} (hV : V.1.stackTraces = false) {X : jx_X} {R : jx_R} {I : jx_I} {Q : Option Value → jx_I → Prop} {QE : String → jx_I → Prop} {a0 : Nat} {a1 : Int} {a2 : Int} (r_a1 : -2147483648 ≤ a1 ∧ a1 < 2147483648) (r_a2 : -2147483648 ≤ a2 ∧ a2 < 2147483648) 
    (h : wz_91 V X R Q QE  a0 a1 a2 I) : jc V 3 91 (0, 0) [.ref a0, jy a1, jy a2] X I R Q QE := by
  refine jy_met hV (by decide) (n := 3) (rt := none) (hh := []) (ini := false) (C := jx_c91) (L := [some (.ref a0), some (jy a1), some (jy a2)]) jt_91 (Nat.le_of_ble_eq_true rfl) rfl ?_
  intro J hS
  unfold wz_91 at h
  refine jy_iload_n hS rfl rfl ?_
  refine jy_tsw hS rfl r_a1 (fun hq => ?_) (fun hq8 hq => ?_)
  · have h := h.1 hq
    refine ⟨by decide, ?_⟩
    change J 110 _ _ _ _ _ _
    refine jy_aload_n hS rfl rfl ?_
    obtain ⟨g1, h⟩ := h
    obtain ⟨q2, h⟩ := h
    obtain ⟨g3, h⟩ := h
    refine jy_getR hS rfl (by decide) g1 g3 ?_
    refine jy_iload_n hS rfl rfl ?_
    obtain ⟨g4, h⟩ := h
    obtain ⟨Q5, h⟩ := h
    obtain ⟨g6, h⟩ := h
    refine jy_callV hS rfl rfl rfl (Nat.le_of_ble_eq_true rfl) (Or.inl g4) g6 (by decide) ⟨by decide, by decide⟩ (Nat.le_of_ble_eq_true rfl) ?_ ?_
    rotate_left
    · exact fun Ex Xx Ix Rx hp => hp.2.2.2.elim
    intro rv Xx I7 Rx hp
    obtain ⟨e1, e2, hp⟩ := hp
    rw [e1, e2]
    clear e1 e2
    obtain ⟨e1, h⟩ := h rv I7 hp
    rw [e1]
    clear e1
    change J 118 [] _ (0, 0) _ _ _
    refine jy_aload_n hS rfl rfl ?_
    refine jy_getR hS rfl (by decide) g1 g3 ?_
    refine jy_iload_n hS rfl rfl ?_
    obtain ⟨Q9, h⟩ := h
    obtain ⟨g10, h⟩ := h
    refine jy_callV hS rfl rfl rfl (Nat.le_of_ble_eq_true rfl) (Or.inl g4) g10 (by decide) ⟨by decide, by decide⟩ (Nat.le_of_ble_eq_true rfl) ?_ ?_
    rotate_left
    · exact fun Ex Xx Ix Rx hp => hp.2.2.2.elim
    intro rv Xx I11 Rx hp
    obtain ⟨e1, e2, hp⟩ := hp
    rw [e1, e2]
    clear e1 e2
    obtain ⟨e1, h⟩ := h rv I11 hp
    rw [e1]
    clear e1
    change J 126 [] _ (0, 0) _ _ _
    exact jy_ret hS rfl rfl ⟨rfl, rfl, h⟩
  · have h := h.2
    have hq7 : a1 = 1 ∨ a1 = 2 ∨ a1 = 3 ∨ a1 = 4 ∨ a1 = 5 := by omega
    rcases hq7 with hq7 | hq7 | hq7 | hq7 | hq7
    · have h := h.1 hq7
      refine ⟨35, by rw [hq7]; rfl, by decide, ?_⟩
      change J 36 _ _ _ _ _ _
      refine jy_aload_n hS rfl rfl ?_
      refine jy_dup hS rfl rfl ?_
      obtain ⟨g13, h⟩ := h
      refine jy_getI hS rfl (by decide) g13 ?_
      refine jy_iload_n hS rfl rfl ?_
      refine jy_iadd hS rfl ?_
      refine jy_putI hS rfl (by decide) g13 ?_
      intro I14 e9
      have h := h I14 e9
      clear e9
      refine jy_goto hS rfl ?_
      exact jy_ret hS rfl rfl ⟨rfl, rfl, h⟩
    · have h := h.2.1 hq7
      refine ⟨48, by rw [hq7]; rfl, by decide, ?_⟩
      change J 49 _ _ _ _ _ _
      refine jy_aload_n hS rfl rfl ?_
      obtain ⟨g15, h⟩ := h
      obtain ⟨q16, h⟩ := h
      obtain ⟨g17, h⟩ := h
      refine jy_getR hS rfl (by decide) g15 g17 ?_
      refine jy_aload_n hS rfl rfl ?_
      obtain ⟨q18, h⟩ := h
      obtain ⟨g19, h⟩ := h
      refine jy_getR hS rfl (by decide) g15 g19 ?_
      obtain ⟨g20, h⟩ := h
      obtain ⟨Q21, h⟩ := h
      obtain ⟨g22, h⟩ := h
      refine jy_callV hS rfl rfl rfl (Nat.le_of_ble_eq_true rfl) (Or.inl g20) g22 (by decide) ⟨by decide, by decide⟩ (Nat.le_of_ble_eq_true rfl) ?_ ?_
      rotate_left
      · exact fun Ex Xx Ix Rx hp => hp.2.2.2.elim
      intro rv Xx I23 Rx hp
      obtain ⟨e1, e2, hp⟩ := hp
      rw [e1, e2]
      clear e1 e2
      obtain ⟨e1, h⟩ := h rv I23 hp
      rw [e1]
      clear e1
      change J 60 [] _ (0, 0) _ _ _
      refine jy_goto hS rfl ?_
      exact jy_ret hS rfl rfl ⟨rfl, rfl, h⟩
    · have h := h.2.2.1 hq7
      refine ⟨62, by rw [hq7]; rfl, by decide, ?_⟩
      change J 63 _ _ _ _ _ _
      refine jy_aload_n hS rfl rfl ?_
      obtain ⟨g25, h⟩ := h
      obtain ⟨q26, h⟩ := h
      obtain ⟨g27, h⟩ := h
      refine jy_getR hS rfl (by decide) g25 g27 ?_
      refine jy_aload_n hS rfl rfl ?_
      obtain ⟨q28, h⟩ := h
      obtain ⟨g29, h⟩ := h
      refine jy_getR hS rfl (by decide) g25 g29 ?_
      obtain ⟨g30, h⟩ := h
      obtain ⟨Q31, h⟩ := h
      obtain ⟨g32, h⟩ := h
      refine jy_callV hS rfl rfl rfl (Nat.le_of_ble_eq_true rfl) (Or.inl g30) g32 (by decide) ⟨by decide, by decide⟩ (Nat.le_of_ble_eq_true rfl) ?_ ?_
      rotate_left
      · exact fun Ex Xx Ix Rx hp => hp.2.2.2.elim
      intro rv Xx I33 Rx hp
      obtain ⟨e1, e2, hp⟩ := hp
      rw [e1, e2]
      clear e1 e2
      obtain ⟨e1, h⟩ := h rv I33 hp
      rw [e1]
      clear e1
      change J 74 [] _ (0, 0) _ _ _
      refine jy_goto hS rfl ?_
      exact jy_ret hS rfl rfl ⟨rfl, rfl, h⟩
    · have h := h.2.2.2.1 hq7
      refine ⟨76, by rw [hq7]; rfl, by decide, ?_⟩
      change J 77 _ _ _ _ _ _
      refine jy_aload_n hS rfl rfl ?_
      obtain ⟨g35, h⟩ := h
      obtain ⟨q36, h⟩ := h
      obtain ⟨g37, h⟩ := h
      refine jy_getR hS rfl (by decide) g35 g37 ?_
      refine jy_iload_n hS rfl rfl ?_
      obtain ⟨g38, h⟩ := h
      obtain ⟨Q39, h⟩ := h
      obtain ⟨g40, h⟩ := h
      refine jy_callV hS rfl rfl rfl (Nat.le_of_ble_eq_true rfl) (Or.inl g38) g40 (by decide) ⟨by decide, by decide⟩ (Nat.le_of_ble_eq_true rfl) ?_ ?_
      rotate_left
      · exact fun Ex Xx Ix Rx hp => hp.2.2.2.elim
      intro rv Xx I41 Rx hp
      obtain ⟨e1, e2, hp⟩ := hp
      rw [e1, e2]
      clear e1 e2
      obtain ⟨e1, h⟩ := h rv I41 hp
      rw [e1]
      clear e1
      change J 85 [] _ (0, 0) _ _ _
      refine jy_goto hS rfl ?_
      exact jy_ret hS rfl rfl ⟨rfl, rfl, h⟩
    · have h := h.2.2.2.2 hq7
      refine ⟨87, by rw [hq7]; rfl, by decide, ?_⟩
      change J 88 _ _ _ _ _ _
      refine jy_aload_n hS rfl rfl ?_
      obtain ⟨g43, h⟩ := h
      obtain ⟨q44, h⟩ := h
      obtain ⟨g45, h⟩ := h
      refine jy_getR hS rfl (by decide) g43 g45 ?_
      refine jy_iload_n hS rfl rfl ?_
      obtain ⟨g46, h⟩ := h
      obtain ⟨Q47, h⟩ := h
      obtain ⟨g48, h⟩ := h
      refine jy_callV hS rfl rfl rfl (Nat.le_of_ble_eq_true rfl) (Or.inl g46) g48 (by decide) ⟨by decide, by decide⟩ (Nat.le_of_ble_eq_true rfl) ?_ ?_
      rotate_left
      · exact fun Ex Xx Ix Rx hp => hp.2.2.2.elim
      intro rv Xx I49 Rx hp
      obtain ⟨e1, e2, hp⟩ := hp
      rw [e1, e2]
      clear e1 e2
      obtain ⟨r50, e1, h⟩ := h rv I49 hp
      rw [e1]
      clear e1
      change J 96 [jy r50] _ (0, 0) _ _ _
      obtain ⟨g51, h⟩ := h
      refine jy_if_ne hS rfl g51 (fun hq => ?_) (fun hq => ?_)
      · have h := h.1 hq
        exact jy_ret hS rfl rfl ⟨rfl, rfl, h⟩
      · have h := h.2 hq
        refine jy_aload_n hS rfl rfl ?_
        refine jy_getR hS rfl (by decide) g43 g45 ?_
        refine jy_iload_n hS rfl rfl ?_
        obtain ⟨Q52, h⟩ := h
        obtain ⟨g53, h⟩ := h
        refine jy_callV hS rfl rfl rfl (Nat.le_of_ble_eq_true rfl) (Or.inl g46) g53 (by decide) ⟨by decide, by decide⟩ (Nat.le_of_ble_eq_true rfl) ?_ ?_
        rotate_left
        · exact fun Ex Xx Ix Rx hp => hp.2.2.2.elim
        intro rv Xx I54 Rx hp
        obtain ⟨e1, e2, hp⟩ := hp
        rw [e1, e2]
        clear e1 e2
        obtain ⟨e1, h⟩ := h rv I54 hp
        rw [e1]
        clear e1
        change J 107 [] _ (0, 0) _ _ _
        refine jy_goto hS rfl ?_
        exact jy_ret hS rfl rfl ⟨rfl, rfl, h⟩
theorem jt_92 : jx_ml 92 = 3 ∧ jx_rt 92 = none ∧ jx_hz 92 = [] ∧ decide ((jx_nm 92).name = "<init>") = false ∧ jx_code 92 = jx_c92 := by decide +kernel
/-- GC$Runner.goTo -/
def wz_92 (V : jx_V) (X : jx_X) (R : jx_R) (Q : Option Value → jx_I → Prop) (QE : String → jx_I → Prop)  (a0 : Nat) (a1 : Int) (I : jx_I) : Prop :=
  (X.2.1 a0 = some (6, 0)) ∧ (
  ∃ q2 : Nat, (
  (R a0 2 = some q2) ∧ (
  (X.2.1 q2 = some (2, 0)) ∧ (
  ∃ Q5 : Option Value → jx_I → Prop, (
  (jc V 1 36 (0, 0) [.ref q2, jy ((I a0 4).toInt), jy a1] X I R Q5 (fun _ _ => False)) ∧ (
  ∀ rv I7, Q5 rv I7 → ∃ r8 : Int, rv = some (jy r8) ∧ (
  (-2147483648 ≤ r8 ∧ r8 < 2147483648) ∧ (
  (r8 ≠ 0 → (
    ∀ I10 : jx_I, I10 = jx_u I7 a0 4 (Int32.ofInt a1) → (
    ∃ q11 : Nat, (
    (R q2 6 = some q11) ∧ (
    ∃ q13 : Nat, (
    (R a0 1 = some q13) ∧ (
    ∃ q15 : Nat, (
    (R a0 0 = some q15) ∧ (
    (X.2.1 q15 = some (1, 0)) ∧ (
    ∃ q18 : Nat, (
    (R q15 0 = some q18) ∧ (
    ∃ Q20 : Option Value → jx_I → Prop, (
    (jc V 1 39 (0, 0) [.ref q2, jy ((I10 a0 4).toInt)] X I10 R Q20 (fun _ _ => False)) ∧ (
    ∀ rv I22, Q20 rv I22 → ∃ r23 : Int, rv = some (jy r23) ∧ (
    (X.2.1 q11 = some (3, 0)) ∧ (
    ∃ Q25 : Option Value → jx_I → Prop, (
    (jc V 3 52 (0, 0) [.ref q11, .ref q13, .ref q18, jy ((I10 a0 4).toInt * 8), jy r23] X I22 R Q25 (fun _ _ => False)) ∧ (
    ∀ rv I27, Q25 rv I27 → ∃ r28 : Int, rv = some (jy r28) ∧ (
    ∀ I29 : jx_I, I29 = jx_u I27 a0 5 (Int32.ofInt ((I10 a0 5).toInt + (r8 + r28))) → (
    ∃ Q30 : Option Value → jx_I → Prop, (
    (jc V 3 16 (0, 0) [.ref q15, .ref q2, jy a1, .ref q13] X I29 R Q30 (fun _ _ => False)) ∧ (
    ∀ rv I32, Q30 rv I32 → rv = none ∧ (
    Q none I32)))))))))))))))))))))
  )) ∧ (r8 = 0 → (
    ∀ I34 : jx_I, I34 = jx_u I7 a0 6 (Int32.ofInt ((I7 a0 6).toInt + 1)) → (
    Q none I34)
  ))))))))))
set_option maxRecDepth 20000 in
theorem wm_92 {V : jx_V} (hV : V.1.stackTraces = false) {X : jx_X} {R : jx_R} {I : jx_I} {Q : Option Value → jx_I → Prop} {QE : String → jx_I → Prop} {a0 : Nat} {a1 : Int} (r_a1 : -2147483648 ≤ a1 ∧ a1 < 2147483648) 
    (h : wz_92 V X R Q QE  a0 a1 I) : jc V 4 92 (0, 0) [.ref a0, jy a1] X I R Q QE := by
  refine jy_met hV (by decide) (n := 3) (rt := none) (hh := []) (ini := false) (C := jx_c92) (L := [some (.ref a0), some (jy a1), none]) jt_92 (Nat.le_of_ble_eq_true rfl) rfl ?_
  intro J hS
  unfold wz_92 at h
  refine jy_aload_n hS rfl rfl ?_
  obtain ⟨g1, h⟩ := h
  obtain ⟨q2, h⟩ := h
  obtain ⟨g3, h⟩ := h
  refine jy_getR hS rfl (by decide) g1 g3 ?_
  refine jy_aload_n hS rfl rfl ?_
  refine jy_getI hS rfl (by decide) g1 ?_
  refine jy_iload_n hS rfl rfl ?_
  obtain ⟨g4, h⟩ := h
  obtain ⟨Q5, h⟩ := h
  obtain ⟨g6, h⟩ := h
  refine jy_callV hS rfl rfl rfl (Nat.le_of_ble_eq_true rfl) (Or.inl g4) g6 (by decide) ⟨by decide, by decide⟩ (Nat.le_of_ble_eq_true rfl) ?_ ?_
  rotate_left
  · exact fun Ex Xx Ix Rx hp => hp.2.2.2.elim
  intro rv Xx I7 Rx hp
  obtain ⟨e1, e2, hp⟩ := hp
  rw [e1, e2]
  clear e1 e2
  obtain ⟨r8, e1, h⟩ := h rv I7 hp
  rw [e1]
  clear e1
  change J 12 [jy r8] _ (0, 0) _ _ _
  refine jy_istore_n hS rfl (Nat.le_of_ble_eq_true rfl) (L' := [some (.ref a0), some (jy a1), some (jy r8)]) rfl ?_
  refine jy_iload_n hS rfl rfl ?_
  obtain ⟨g9, h⟩ := h
  refine jy_if_ne hS rfl g9 (fun hq => ?_) (fun hq => ?_)
  · have h := h.1 hq
    refine jy_aload_n hS rfl rfl ?_
    refine jy_iload_n hS rfl rfl ?_
    refine jy_putI hS rfl (by decide) g1 ?_
    intro I10 e9
    have h := h I10 e9
    clear e9
    refine jy_aload_n hS rfl rfl ?_
    refine jy_dup hS rfl rfl ?_
    refine jy_getI hS rfl (by decide) g1 ?_
    refine jy_iload_n hS rfl rfl ?_
    refine jy_aload_n hS rfl rfl ?_
    refine jy_getR hS rfl (by decide) g1 g3 ?_
    obtain ⟨q11, h⟩ := h
    obtain ⟨g12, h⟩ := h
    refine jy_getR hS rfl (by decide) g4 g12 ?_
    refine jy_aload_n hS rfl rfl ?_
    obtain ⟨q13, h⟩ := h
    obtain ⟨g14, h⟩ := h
    refine jy_getR hS rfl (by decide) g1 g14 ?_
    refine jy_aload_n hS rfl rfl ?_
    obtain ⟨q15, h⟩ := h
    obtain ⟨g16, h⟩ := h
    refine jy_getR hS rfl (by decide) g1 g16 ?_
    obtain ⟨g17, h⟩ := h
    obtain ⟨q18, h⟩ := h
    obtain ⟨g19, h⟩ := h
    refine jy_getR hS rfl (by decide) g17 g19 ?_
    refine jy_aload_n hS rfl rfl ?_
    refine jy_getI hS rfl (by decide) g1 ?_
    refine jy_bipush hS rfl (by decide) ?_
    refine jy_imul hS rfl ?_
    refine jy_aload_n hS rfl rfl ?_
    refine jy_getR hS rfl (by decide) g1 g3 ?_
    refine jy_aload_n hS rfl rfl ?_
    refine jy_getI hS rfl (by decide) g1 ?_
    obtain ⟨Q20, h⟩ := h
    obtain ⟨g21, h⟩ := h
    refine jy_callV hS rfl rfl rfl (Nat.le_of_ble_eq_true rfl) (Or.inl g4) g21 (by decide) ⟨by decide, by decide⟩ (Nat.le_of_ble_eq_true rfl) ?_ ?_
    rotate_left
    · exact fun Ex Xx Ix Rx hp => hp.2.2.2.elim
    intro rv Xx I22 Rx hp
    obtain ⟨e1, e2, hp⟩ := hp
    rw [e1, e2]
    clear e1 e2
    obtain ⟨r23, e1, h⟩ := h rv I22 hp
    rw [e1]
    clear e1
    change J 75 [jy r23, jy ((I10 a0 4).toInt * 8), .ref q18, .ref q13, .ref q11, jy r8, jy ((I10 a0 5).toInt), .ref a0] _ (0, 0) _ _ _
    obtain ⟨g24, h⟩ := h
    obtain ⟨Q25, h⟩ := h
    obtain ⟨g26, h⟩ := h
    refine jy_callV hS rfl rfl rfl (Nat.le_of_ble_eq_true rfl) (Or.inl g24) g26 (by decide) ⟨by decide, by decide⟩ (Nat.le_of_ble_eq_true rfl) ?_ ?_
    rotate_left
    · exact fun Ex Xx Ix Rx hp => hp.2.2.2.elim
    intro rv Xx I27 Rx hp
    obtain ⟨e1, e2, hp⟩ := hp
    rw [e1, e2]
    clear e1 e2
    obtain ⟨r28, e1, h⟩ := h rv I27 hp
    rw [e1]
    clear e1
    change J 78 [jy r28, jy r8, jy ((I10 a0 5).toInt), .ref a0] _ (0, 0) _ _ _
    refine jy_iadd hS rfl ?_
    refine jy_iadd hS rfl ?_
    refine jy_putI hS rfl (by decide) g1 ?_
    intro I29 e9
    have h := h I29 e9
    clear e9
    refine jy_aload_n hS rfl rfl ?_
    refine jy_getR hS rfl (by decide) g1 g16 ?_
    refine jy_aload_n hS rfl rfl ?_
    refine jy_getR hS rfl (by decide) g1 g3 ?_
    refine jy_iload_n hS rfl rfl ?_
    refine jy_aload_n hS rfl rfl ?_
    refine jy_getR hS rfl (by decide) g1 g14 ?_
    obtain ⟨Q30, h⟩ := h
    obtain ⟨g31, h⟩ := h
    refine jy_callV hS rfl rfl rfl (Nat.le_of_ble_eq_true rfl) (Or.inl g17) g31 (by decide) ⟨by decide, by decide⟩ (Nat.le_of_ble_eq_true rfl) ?_ ?_
    rotate_left
    · exact fun Ex Xx Ix Rx hp => hp.2.2.2.elim
    intro rv Xx I32 Rx hp
    obtain ⟨e1, e2, hp⟩ := hp
    rw [e1, e2]
    clear e1 e2
    obtain ⟨e1, h⟩ := h rv I32 hp
    rw [e1]
    clear e1
    change J 99 [] _ (0, 0) _ _ _
    exact jy_ret hS rfl rfl ⟨rfl, rfl, h⟩
  · have h := h.2 hq
    refine jy_aload_n hS rfl rfl ?_
    refine jy_dup hS rfl rfl ?_
    refine jy_getI hS rfl (by decide) g1 ?_
    refine jy_iconst hS rfl ?_
    refine jy_iadd hS rfl ?_
    refine jy_putI hS rfl (by decide) g1 ?_
    intro I34 e9
    have h := h I34 e9
    clear e9
    exact jy_ret hS rfl rfl ⟨rfl, rfl, h⟩
theorem jt_93 : jx_ml 93 = 4 ∧ jx_rt 93 = some .boolean ∧ jx_hz 93 = [] ∧ decide ((jx_nm 93).name = "<init>") = false ∧ jx_code 93 = jx_c93 := by decide +kernel
/-- GC$Runner.isSo, from 12 -/
def wz_93_12 (V : jx_V) (X : jx_X) (R : jx_R) (Q : Option Value → jx_I → Prop) (QE : String → jx_I → Prop) (J12 : Int → Int → jx_I → Prop) (a0 : Nat) (a1 : Int) (l2 : Int) (l3 : Int) (I : jx_I) : Prop :=
  (X.2.1 a0 = some (6, 0)) ∧ (
  ∃ q11 : Nat, (
  (R a0 3 = some q11) ∧ (
  (X.2.1 q11 = some (4, 0)) ∧ (
  ∃ q14 : Nat, (
  (R q11 6 = some q14) ∧ (
  ∃ n16 : Nat, (
  (X.2.1 q14 = some (100, n16) ∧ n16 < 2147483648) ∧ (
  (0 ≤ a1 ∧ a1 < n16) ∧ (
  (-2147483648 ≤ l3 ∧ l3 < 2147483648) ∧ (
  ((I q14 a1.toNat).toInt ≤ l3 → (
    ∃ q20 : Nat, (
    (R q11 7 = some q20) ∧ (
    ∃ n22 : Nat, (
    (X.2.1 q20 = some (100, n22) ∧ n22 < 2147483648) ∧ (
    (0 ≤ a1 ∧ a1 < n22) ∧ (
    (((I q20 a1.toNat).toInt ≠ 0 ∧ (I q20 a1.toNat).toInt ≠ 1) → (
      (-2147483648 ≤ l2 ∧ l2 < 2147483648) ∧ (
      (l2 ≠ 0 → (
        Q (some (jy 0)) I
      )) ∧ (l2 = 0 → (
        Q (some (jy 1)) I
      )))
    ))
    ∧ ((I q20 a1.toNat).toInt = 0 → (
      (-2147483648 ≤ l2 ∧ l2 < 2147483648) ∧ (
      (0 ≤ l2 → (
        Q (some (jy 0)) I
      )) ∧ (¬ 0 ≤ l2 → (
        Q (some (jy 1)) I
      )))
    ))
    ∧ ((I q20 a1.toNat).toInt = 1 → (
      (-2147483648 ≤ l2 ∧ l2 < 2147483648) ∧ (
      (l2 ≤ 0 → (
        Q (some (jy 0)) I
      )) ∧ (¬ l2 ≤ 0 → (
        Q (some (jy 1)) I
      )))
    )))))))
  )) ∧ (¬ (I q14 a1.toNat).toInt ≤ l3 → (
    ∃ q28 : Nat, (
    (R q11 10 = some q28) ∧ (
    ∃ n30 : Nat, (
    (X.2.1 q28 = some (100, n30) ∧ n30 < 2147483648) ∧ (
    (0 ≤ l3 ∧ l3 < n30) ∧ (
    ∃ q33 : Nat, (
    (R q11 8 = some q33) ∧ (
    ∃ n35 : Nat, (
    (X.2.1 q33 = some (100, n35) ∧ n35 < 2147483648) ∧ (
    (0 ≤ l3 ∧ l3 < n35) ∧ (
    ∃ q38 : Nat, (
    (R q11 9 = some q38) ∧ (
    ∃ n40 : Nat, (
    (X.2.1 q38 = some (100, n40) ∧ n40 < 2147483648) ∧ (
    (0 ≤ l3 ∧ l3 < n40) ∧ (
    ∃ Q43 : Option Value → jx_I → Prop, (
    (jc V 4 94 (0, 0) [.ref a0, jy ((I q33 l3.toNat).toInt), jy ((I q38 l3.toNat).toInt)] X I R Q43 (fun _ _ => False)) ∧ (
    ∀ rv I45, Q43 rv I45 → ∃ r46 : Int, rv = some (jy r46) ∧ (
    J12 (l2 + ((I q28 l3.toNat).toInt * r46)) (l3 + 1) I45))))))))))))))))))
  ))))))))))))
/-- GC$Runner.isSo -/
def wz_93 (V : jx_V) (X : jx_X) (R : jx_R) (Q : Option Value → jx_I → Prop) (QE : String → jx_I → Prop) (J12 : Int → Int → jx_I → Prop) (a0 : Nat) (a1 : Int) (I : jx_I) : Prop :=
  (X.2.1 a0 = some (6, 0)) ∧ (
  ∃ q2 : Nat, (
  (R a0 3 = some q2) ∧ (
  (X.2.1 q2 = some (4, 0)) ∧ (
  ∃ q5 : Nat, (
  (R q2 5 = some q5) ∧ (
  ∃ n7 : Nat, (
  (X.2.1 q5 = some (100, n7) ∧ n7 < 2147483648) ∧ (
  (0 ≤ a1 ∧ a1 < n7) ∧ (
  J12 0 ((I q5 a1.toNat).toInt) I)))))))))
set_option maxRecDepth 20000 in
theorem wm_93 {V : jx_V} (hV : V.1.stackTraces = false) {X : jx_X} {R : jx_R} {I : jx_I} {Q : Option Value → jx_I → Prop} {QE : String → jx_I → Prop} {a0 : Nat} {a1 : Int} (r_a1 : -2147483648 ≤ a1 ∧ a1 < 2147483648) 
    (h : ∀ (J12 : Int → Int → jx_I → Prop), ((∀ (l2 : Int) (l3 : Int) I, wz_93_12 V X R Q QE J12 a0 a1 l2 l3 I → J12 l2 l3 I)) → wz_93 V X R Q QE J12 a0 a1 I) : jc V 5 93 (0, 0) [.ref a0, jy a1] X I R Q QE := by
  refine jy_met hV (by decide) (n := 4) (rt := some .boolean) (hh := []) (ini := false) (C := jx_c93) (L := [some (.ref a0), some (jy a1), none, none]) jt_93 (Nat.le_of_ble_eq_true rfl) rfl ?_
  intro J hS
  have h := h (fun l2 l3 I => J 12 [] [some (.ref a0), some (jy a1), some (jy l2), some (jy l3)] (0, 0) X I R) ?_
  · unfold wz_93 at h
    refine jy_iconst hS rfl ?_
    refine jy_istore_n hS rfl (Nat.le_of_ble_eq_true rfl) (L' := [some (.ref a0), some (jy a1), some (jy 0), none]) rfl ?_
    refine jy_aload_n hS rfl rfl ?_
    obtain ⟨g1, h⟩ := h
    obtain ⟨q2, h⟩ := h
    obtain ⟨g3, h⟩ := h
    refine jy_getR hS rfl (by decide) g1 g3 ?_
    obtain ⟨g4, h⟩ := h
    obtain ⟨q5, h⟩ := h
    obtain ⟨g6, h⟩ := h
    refine jy_getR hS rfl (by decide) g4 g6 ?_
    refine jy_iload_n hS rfl rfl ?_
    obtain ⟨n7, h⟩ := h
    obtain ⟨g8, h⟩ := h
    obtain ⟨g9, h⟩ := h
    refine jy_iald hS rfl g8.1 (Nat.le_of_lt g8.2) g9 ?_
    refine jy_istore_n hS rfl (Nat.le_of_ble_eq_true rfl) (L' := [some (.ref a0), some (jy a1), some (jy 0), some (jy ((I q5 a1.toNat).toInt))]) rfl ?_
    exact jy_join hS h rfl (jy_sub_s (jy_sub_s (jy_sub_s (jy_sub_s jy_sub_0))))
  · intro l2 l3 I h
    unfold wz_93_12 at h
    refine jy_iload_n hS rfl rfl ?_
    refine jy_aload_n hS rfl rfl ?_
    obtain ⟨g10, h⟩ := h
    obtain ⟨q11, h⟩ := h
    obtain ⟨g12, h⟩ := h
    refine jy_getR hS rfl (by decide) g10 g12 ?_
    obtain ⟨g13, h⟩ := h
    obtain ⟨q14, h⟩ := h
    obtain ⟨g15, h⟩ := h
    refine jy_getR hS rfl (by decide) g13 g15 ?_
    refine jy_iload_n hS rfl rfl ?_
    obtain ⟨n16, h⟩ := h
    obtain ⟨g17, h⟩ := h
    obtain ⟨g18, h⟩ := h
    refine jy_iald hS rfl g17.1 (Nat.le_of_lt g17.2) g18 ?_
    obtain ⟨g19, h⟩ := h
    refine jy_icmp_ge hS rfl ⟨g19, (jy_rng _)⟩ (fun hq => ?_) (fun hq => ?_)
    · have h := h.1 hq
      refine jy_aload_n hS rfl rfl ?_
      refine jy_getR hS rfl (by decide) g10 g12 ?_
      obtain ⟨q20, h⟩ := h
      obtain ⟨g21, h⟩ := h
      refine jy_getR hS rfl (by decide) g13 g21 ?_
      refine jy_iload_n hS rfl rfl ?_
      obtain ⟨n22, h⟩ := h
      obtain ⟨g23, h⟩ := h
      obtain ⟨g24, h⟩ := h
      refine jy_iald hS rfl g23.1 (Nat.le_of_lt g23.2) g24 ?_
      refine jy_lsw hS rfl (jy_rng _) ?_
      rcases (by omega : ((I q20 a1.toNat).toInt ≠ 0 ∧ (I q20 a1.toNat).toInt ≠ 1) ∨ (I q20 a1.toNat).toInt = 0 ∨ (I q20 a1.toNat).toInt = 1) with hq0 | hq0 | hq0
      · have h := h.1 hq0
        have e9 : Op.lookupswitch.offset [(0, 25), (1, 35)] 45 ((I q20 a1.toNat).toInt) = 45 := by
          simp only [Op.lookupswitch.offset]; repeat (first | rfl | rw [if_neg (by omega)])
        refine ⟨?_, ?_⟩
        · show 0 ≤ ((75 : Nat) : Int) + Op.lookupswitch.offset [(0, 25), (1, 35)] 45 ((I q20 a1.toNat).toInt)
          rw [e9]
          decide
        change J (((75 : Nat) : Int) + Op.lookupswitch.offset [(0, 25), (1, 35)] 45 ((I q20 a1.toNat).toInt)).toNat _ _ _ _ _ _
        rw [e9]
        change J 120 _ _ _ _ _ _
        refine jy_iload_n hS rfl rfl ?_
        obtain ⟨g25, h⟩ := h
        refine jy_if_ne hS rfl g25 (fun hq => ?_) (fun hq => ?_)
        · have h := h.1 hq
          refine jy_iconst hS rfl ?_
          exact jy_iret hS rfl rfl ⟨rfl, rfl, h⟩
        · have h := h.2 hq
          refine jy_iconst hS rfl ?_
          refine jy_goto hS rfl ?_
          exact jy_iret hS rfl rfl ⟨rfl, rfl, h⟩
      · have h := h.2.1 hq0
        have e9 : Op.lookupswitch.offset [(0, 25), (1, 35)] 45 ((I q20 a1.toNat).toInt) = 25 := by
          rw [hq0]; rfl
        refine ⟨?_, ?_⟩
        · show 0 ≤ ((75 : Nat) : Int) + Op.lookupswitch.offset [(0, 25), (1, 35)] 45 ((I q20 a1.toNat).toInt)
          rw [e9]
          decide
        change J (((75 : Nat) : Int) + Op.lookupswitch.offset [(0, 25), (1, 35)] 45 ((I q20 a1.toNat).toInt)).toNat _ _ _ _ _ _
        rw [e9]
        change J 100 _ _ _ _ _ _
        refine jy_iload_n hS rfl rfl ?_
        obtain ⟨g26, h⟩ := h
        refine jy_if_ge hS rfl g26 (fun hq => ?_) (fun hq => ?_)
        · have h := h.1 hq
          refine jy_iconst hS rfl ?_
          exact jy_iret hS rfl rfl ⟨rfl, rfl, h⟩
        · have h := h.2 hq
          refine jy_iconst hS rfl ?_
          refine jy_goto hS rfl ?_
          exact jy_iret hS rfl rfl ⟨rfl, rfl, h⟩
      · have h := h.2.2 hq0
        have e9 : Op.lookupswitch.offset [(0, 25), (1, 35)] 45 ((I q20 a1.toNat).toInt) = 35 := by
          rw [hq0]; rfl
        refine ⟨?_, ?_⟩
        · show 0 ≤ ((75 : Nat) : Int) + Op.lookupswitch.offset [(0, 25), (1, 35)] 45 ((I q20 a1.toNat).toInt)
          rw [e9]
          decide
        change J (((75 : Nat) : Int) + Op.lookupswitch.offset [(0, 25), (1, 35)] 45 ((I q20 a1.toNat).toInt)).toNat _ _ _ _ _ _
        rw [e9]
        change J 110 _ _ _ _ _ _
        refine jy_iload_n hS rfl rfl ?_
        obtain ⟨g27, h⟩ := h
        refine jy_if_le hS rfl g27 (fun hq => ?_) (fun hq => ?_)
        · have h := h.1 hq
          refine jy_iconst hS rfl ?_
          exact jy_iret hS rfl rfl ⟨rfl, rfl, h⟩
        · have h := h.2 hq
          refine jy_iconst hS rfl ?_
          refine jy_goto hS rfl ?_
          exact jy_iret hS rfl rfl ⟨rfl, rfl, h⟩
    · have h := h.2 hq
      refine jy_iload_n hS rfl rfl ?_
      refine jy_aload_n hS rfl rfl ?_
      refine jy_getR hS rfl (by decide) g10 g12 ?_
      obtain ⟨q28, h⟩ := h
      obtain ⟨g29, h⟩ := h
      refine jy_getR hS rfl (by decide) g13 g29 ?_
      refine jy_iload_n hS rfl rfl ?_
      obtain ⟨n30, h⟩ := h
      obtain ⟨g31, h⟩ := h
      obtain ⟨g32, h⟩ := h
      refine jy_iald hS rfl g31.1 (Nat.le_of_lt g31.2) g32 ?_
      refine jy_aload_n hS rfl rfl ?_
      refine jy_aload_n hS rfl rfl ?_
      refine jy_getR hS rfl (by decide) g10 g12 ?_
      obtain ⟨q33, h⟩ := h
      obtain ⟨g34, h⟩ := h
      refine jy_getR hS rfl (by decide) g13 g34 ?_
      refine jy_iload_n hS rfl rfl ?_
      obtain ⟨n35, h⟩ := h
      obtain ⟨g36, h⟩ := h
      obtain ⟨g37, h⟩ := h
      refine jy_iald hS rfl g36.1 (Nat.le_of_lt g36.2) g37 ?_
      refine jy_aload_n hS rfl rfl ?_
      refine jy_getR hS rfl (by decide) g10 g12 ?_
      obtain ⟨q38, h⟩ := h
      obtain ⟨g39, h⟩ := h
      refine jy_getR hS rfl (by decide) g13 g39 ?_
      refine jy_iload_n hS rfl rfl ?_
      obtain ⟨n40, h⟩ := h
      obtain ⟨g41, h⟩ := h
      obtain ⟨g42, h⟩ := h
      refine jy_iald hS rfl g41.1 (Nat.le_of_lt g41.2) g42 ?_
      obtain ⟨Q43, h⟩ := h
      obtain ⟨g44, h⟩ := h
      refine jy_callV hS rfl rfl rfl (Nat.le_of_ble_eq_true rfl) (Or.inl g10) g44 (by decide) ⟨by decide, by decide⟩ (Nat.le_of_ble_eq_true rfl) ?_ ?_
      rotate_left
      · exact fun Ex Xx Ix Rx hp => hp.2.2.2.elim
      intro rv Xx I45 Rx hp
      obtain ⟨e1, e2, hp⟩ := hp
      rw [e1, e2]
      clear e1 e2
      obtain ⟨r46, e1, h⟩ := h rv I45 hp
      rw [e1]
      clear e1
      change J 57 [jy r46, jy ((I q28 l3.toNat).toInt), jy l2] _ (0, 0) _ _ _
      refine jy_imul hS rfl ?_
      refine jy_iadd hS rfl ?_
      refine jy_istore_n hS rfl (Nat.le_of_ble_eq_true rfl) (L' := [some (.ref a0), some (jy a1), some (jy (l2 + ((I q28 l3.toNat).toInt * r46))), some (jy l3)]) rfl ?_
      refine jy_iinc hS rfl rfl (L' := [some (.ref a0), some (jy a1), some (jy (l2 + ((I q28 l3.toNat).toInt * r46))), some (jy (l3 + 1))]) rfl ?_
      refine jy_goto hS rfl ?_
      exact jy_join hS h rfl (jy_sub_s (jy_sub_s (jy_sub_s (jy_sub_s jy_sub_0))))
theorem jt_94 : jx_ml 94 = 3 ∧ jx_rt 94 = some .int ∧ jx_hz 94 = [] ∧ decide ((jx_nm 94).name = "<init>") = false ∧ jx_code 94 = jx_c94 := by decide +kernel
/-- GC$Runner.valueOf -/
def wz_94 (V : jx_V) (X : jx_X) (R : jx_R) (Q : Option Value → jx_I → Prop) (QE : String → jx_I → Prop)  (a0 : Nat) (a1 : Int) (a2 : Int) (I : jx_I) : Prop :=
  ((a1 < 1 ∨ 7 < a1) → (
    Q (some (jy a2)) I
  ))
  ∧ (a1 = 1 → (
    (X.2.1 a0 = some (6, 0)) ∧ (
    Q (some (jy ((I a0 4).toInt))) I)
  ))
  ∧ (a1 = 2 → (
    (X.2.1 a0 = some (6, 0)) ∧ (
    Q (some (jy ((I a0 5).toInt))) I)
  ))
  ∧ (a1 = 3 → (
    (X.2.1 a0 = some (6, 0)) ∧ (
    ∃ q4 : Nat, (
    (R a0 2 = some q4) ∧ (
    (X.2.1 q4 = some (2, 0)) ∧ (
    ∃ q7 : Nat, (
    (R q4 6 = some q7) ∧ (
    ∃ q9 : Nat, (
    (R a0 1 = some q9) ∧ (
    ∃ q11 : Nat, (
    (R a0 0 = some q11) ∧ (
    (X.2.1 q11 = some (1, 0)) ∧ (
    ∃ q14 : Nat, (
    (R q11 0 = some q14) ∧ (
    ∃ Q16 : Option Value → jx_I → Prop, (
    (jc V 1 39 (0, 0) [.ref q4, jy ((I a0 4).toInt)] X I R Q16 (fun _ _ => False)) ∧ (
    ∀ rv I18, Q16 rv I18 → ∃ r19 : Int, rv = some (jy r19) ∧ (
    (X.2.1 q7 = some (3, 0)) ∧ (
    ∃ Q21 : Option Value → jx_I → Prop, (
    (jc V 3 52 (0, 0) [.ref q7, .ref q9, .ref q14, jy ((I a0 4).toInt * 8), jy r19] X I18 R Q21 (fun _ _ => False)) ∧ (
    ∀ rv I23, Q21 rv I23 → ∃ r24 : Int, rv = some (jy r24) ∧ (
    Q (some (jy r24)) I23))))))))))))))))))))
  ))
  ∧ (a1 = 4 → (
    (X.2.1 a0 = some (6, 0)) ∧ (
    ∃ q26 : Nat, (
    (R a0 1 = some q26) ∧ (
    (X.2.1 q26 = some (5, 0)) ∧ (
    Q (some (jy ((I q26 1).toInt))) I))))
  ))
  ∧ (a1 = 5 → (
    (X.2.1 a0 = some (6, 0)) ∧ (
    Q (some (jy ((I a0 6).toInt))) I)
  ))
  ∧ (a1 = 6 → (
    (X.2.1 a0 = some (6, 0)) ∧ (
    Q (some (jy ((I a0 7).toInt - 1))) I)
  ))
  ∧ (a1 = 7 → (
    (X.2.1 a0 = some (6, 0)) ∧ (
    ∃ q32 : Nat, (
    (R a0 0 = some q32) ∧ (
    (X.2.1 q32 = some (1, 0)) ∧ (
    ∃ Q35 : Option Value → jx_I → Prop, (
    (jc V 1 11 (0, 0) [.ref q32, jy ((I a0 4).toInt), jy a2] X I R Q35 (fun _ _ => False)) ∧ (
    ∀ rv I37, Q35 rv I37 → ∃ r38 : Int, rv = some (jy r38) ∧ (
    Q (some (jy r38)) I37)))))))
  ))
set_option maxRecDepth 20000 in
theorem wm_94 {V : jx_V} (hV : V.1.stackTraces = false) {X : jx_X} {R : jx_R} {I : jx_I} {Q : Option Value → jx_I → Prop} {QE : String → jx_I → Prop} {a0 : Nat} {a1 : Int} {a2 : Int} (r_a1 : -2147483648 ≤ a1 ∧ a1 < 2147483648) (r_a2 : -2147483648 ≤ a2 ∧ a2 < 2147483648) 
    (h : wz_94 V X R Q QE  a0 a1 a2 I) : jc V 4 94 (0, 0) [.ref a0, jy a1, jy a2] X I R Q QE := by
  refine jy_met hV (by decide) (n := 3) (rt := some .int) (hh := []) (ini := false) (C := jx_c94) (L := [some (.ref a0), some (jy a1), some (jy a2)]) jt_94 (Nat.le_of_ble_eq_true rfl) rfl ?_
  intro J hS
  unfold wz_94 at h
  refine jy_iload_n hS rfl rfl ?_
  refine jy_tsw hS rfl r_a1 (fun hq => ?_) (fun hq8 hq => ?_)
  · have h := h.1 hq
    refine ⟨by decide, ?_⟩
    change J 127 _ _ _ _ _ _
    refine jy_iload_n hS rfl rfl ?_
    exact jy_iret hS rfl rfl ⟨rfl, rfl, h⟩
  · have h := h.2
    have hq7 : a1 = 1 ∨ a1 = 2 ∨ a1 = 3 ∨ a1 = 4 ∨ a1 = 5 ∨ a1 = 6 ∨ a1 = 7 := by omega
    rcases hq7 with hq7 | hq7 | hq7 | hq7 | hq7 | hq7 | hq7
    · have h := h.1 hq7
      refine ⟨43, by rw [hq7]; rfl, by decide, ?_⟩
      change J 44 _ _ _ _ _ _
      refine jy_aload_n hS rfl rfl ?_
      obtain ⟨g1, h⟩ := h
      refine jy_getI hS rfl (by decide) g1 ?_
      exact jy_iret hS rfl rfl ⟨rfl, rfl, h⟩
    · have h := h.2.1 hq7
      refine ⟨48, by rw [hq7]; rfl, by decide, ?_⟩
      change J 49 _ _ _ _ _ _
      refine jy_aload_n hS rfl rfl ?_
      obtain ⟨g2, h⟩ := h
      refine jy_getI hS rfl (by decide) g2 ?_
      exact jy_iret hS rfl rfl ⟨rfl, rfl, h⟩
    · have h := h.2.2.1 hq7
      refine ⟨53, by rw [hq7]; rfl, by decide, ?_⟩
      change J 54 _ _ _ _ _ _
      refine jy_aload_n hS rfl rfl ?_
      obtain ⟨g3, h⟩ := h
      obtain ⟨q4, h⟩ := h
      obtain ⟨g5, h⟩ := h
      refine jy_getR hS rfl (by decide) g3 g5 ?_
      obtain ⟨g6, h⟩ := h
      obtain ⟨q7, h⟩ := h
      obtain ⟨g8, h⟩ := h
      refine jy_getR hS rfl (by decide) g6 g8 ?_
      refine jy_aload_n hS rfl rfl ?_
      obtain ⟨q9, h⟩ := h
      obtain ⟨g10, h⟩ := h
      refine jy_getR hS rfl (by decide) g3 g10 ?_
      refine jy_aload_n hS rfl rfl ?_
      obtain ⟨q11, h⟩ := h
      obtain ⟨g12, h⟩ := h
      refine jy_getR hS rfl (by decide) g3 g12 ?_
      obtain ⟨g13, h⟩ := h
      obtain ⟨q14, h⟩ := h
      obtain ⟨g15, h⟩ := h
      refine jy_getR hS rfl (by decide) g13 g15 ?_
      refine jy_aload_n hS rfl rfl ?_
      refine jy_getI hS rfl (by decide) g3 ?_
      refine jy_bipush hS rfl (by decide) ?_
      refine jy_imul hS rfl ?_
      refine jy_aload_n hS rfl rfl ?_
      refine jy_getR hS rfl (by decide) g3 g5 ?_
      refine jy_aload_n hS rfl rfl ?_
      refine jy_getI hS rfl (by decide) g3 ?_
      obtain ⟨Q16, h⟩ := h
      obtain ⟨g17, h⟩ := h
      refine jy_callV hS rfl rfl rfl (Nat.le_of_ble_eq_true rfl) (Or.inl g6) g17 (by decide) ⟨by decide, by decide⟩ (Nat.le_of_ble_eq_true rfl) ?_ ?_
      rotate_left
      · exact fun Ex Xx Ix Rx hp => hp.2.2.2.elim
      intro rv Xx I18 Rx hp
      obtain ⟨e1, e2, hp⟩ := hp
      rw [e1, e2]
      clear e1 e2
      obtain ⟨r19, e1, h⟩ := h rv I18 hp
      rw [e1]
      clear e1
      change J 90 [jy r19, jy ((I a0 4).toInt * 8), .ref q14, .ref q9, .ref q7] _ (0, 0) _ _ _
      obtain ⟨g20, h⟩ := h
      obtain ⟨Q21, h⟩ := h
      obtain ⟨g22, h⟩ := h
      refine jy_callV hS rfl rfl rfl (Nat.le_of_ble_eq_true rfl) (Or.inl g20) g22 (by decide) ⟨by decide, by decide⟩ (Nat.le_of_ble_eq_true rfl) ?_ ?_
      rotate_left
      · exact fun Ex Xx Ix Rx hp => hp.2.2.2.elim
      intro rv Xx I23 Rx hp
      obtain ⟨e1, e2, hp⟩ := hp
      rw [e1, e2]
      clear e1 e2
      obtain ⟨r24, e1, h⟩ := h rv I23 hp
      rw [e1]
      clear e1
      change J 93 [jy r24] _ (0, 0) _ _ _
      exact jy_iret hS rfl rfl ⟨rfl, rfl, h⟩
    · have h := h.2.2.2.1 hq7
      refine ⟨93, by rw [hq7]; rfl, by decide, ?_⟩
      change J 94 _ _ _ _ _ _
      refine jy_aload_n hS rfl rfl ?_
      obtain ⟨g25, h⟩ := h
      obtain ⟨q26, h⟩ := h
      obtain ⟨g27, h⟩ := h
      refine jy_getR hS rfl (by decide) g25 g27 ?_
      obtain ⟨g28, h⟩ := h
      refine jy_getI hS rfl (by decide) g28 ?_
      exact jy_iret hS rfl rfl ⟨rfl, rfl, h⟩
    · have h := h.2.2.2.2.1 hq7
      refine ⟨101, by rw [hq7]; rfl, by decide, ?_⟩
      change J 102 _ _ _ _ _ _
      refine jy_aload_n hS rfl rfl ?_
      obtain ⟨g29, h⟩ := h
      refine jy_getI hS rfl (by decide) g29 ?_
      exact jy_iret hS rfl rfl ⟨rfl, rfl, h⟩
    · have h := h.2.2.2.2.2.1 hq7
      refine ⟨106, by rw [hq7]; rfl, by decide, ?_⟩
      change J 107 _ _ _ _ _ _
      refine jy_aload_n hS rfl rfl ?_
      obtain ⟨g30, h⟩ := h
      refine jy_getI hS rfl (by decide) g30 ?_
      refine jy_iconst hS rfl ?_
      refine jy_isub hS rfl ?_
      exact jy_iret hS rfl rfl ⟨rfl, rfl, h⟩
    · have h := h.2.2.2.2.2.2 hq7
      refine ⟨113, by rw [hq7]; rfl, by decide, ?_⟩
      change J 114 _ _ _ _ _ _
      refine jy_aload_n hS rfl rfl ?_
      obtain ⟨g31, h⟩ := h
      obtain ⟨q32, h⟩ := h
      obtain ⟨g33, h⟩ := h
      refine jy_getR hS rfl (by decide) g31 g33 ?_
      refine jy_aload_n hS rfl rfl ?_
      refine jy_getI hS rfl (by decide) g31 ?_
      refine jy_iload_n hS rfl rfl ?_
      obtain ⟨g34, h⟩ := h
      obtain ⟨Q35, h⟩ := h
      obtain ⟨g36, h⟩ := h
      refine jy_callV hS rfl rfl rfl (Nat.le_of_ble_eq_true rfl) (Or.inl g34) g36 (by decide) ⟨by decide, by decide⟩ (Nat.le_of_ble_eq_true rfl) ?_ ?_
      rotate_left
      · exact fun Ex Xx Ix Rx hp => hp.2.2.2.elim
      intro rv Xx I37 Rx hp
      obtain ⟨e1, e2, hp⟩ := hp
      rw [e1, e2]
      clear e1 e2
      obtain ⟨r38, e1, h⟩ := h rv I37 hp
      rw [e1]
      clear e1
      change J 126 [jy r38] _ (0, 0) _ _ _
      exact jy_iret hS rfl rfl ⟨rfl, rfl, h⟩
theorem jt_96 : jx_ml 96 = 2 ∧ jx_rt 96 = none ∧ jx_hz 96 = [] ∧ decide ((jx_nm 96).name = "<init>") = false ∧ jx_code 96 = jx_c96 := by decide +kernel
/-- GC$State.beginIn -/
def wz_96 (V : jx_V) (X : jx_X) (R : jx_R) (Q : Option Value → jx_I → Prop) (QE : String → jx_I → Prop)  (a0 : Nat) (a1 : Nat) (I : jx_I) : Prop :=
  (X.2.1 a0 = some (7, 0)) ∧ (
  ∃ q2 : Nat, (
  (R a0 0 = some q2) ∧ (
  (X.2.1 q2 = some (1, 0)) ∧ (
  ∃ Q5 : Option Value → jx_I → Prop, (
  (jc V 1 10 (0, 0) [.ref q2, .ref a1] X I R Q5 (fun _ _ => False)) ∧ (
  ∀ rv I7, Q5 rv I7 → rv = none ∧ (
  ∃ q9 : Nat, (
  (R a0 1 = some q9) ∧ (
  (X.2.1 a1 = some (2, 0)) ∧ (
  (X.2.1 q9 = some (5, 0)) ∧ (
  ∃ Q13 : Option Value → jx_I → Prop, (
  (jc V 2 75 (0, 0) [.ref q9, jy ((I7 a1 8).toInt)] X I7 R Q13 (fun _ _ => False)) ∧ (
  ∀ rv I15, Q13 rv I15 → rv = none ∧ (
  ∃ q17 : Nat, (
  (R a0 2 = some q17) ∧ (
  (X.2.1 q17 = some (5, 0)) ∧ (
  ∃ Q20 : Option Value → jx_I → Prop, (
  (jc V 1 68 (0, 0) [.ref q17] X I15 R Q20 (fun _ _ => False)) ∧ (
  ∀ rv I22, Q20 rv I22 → rv = none ∧ (
  ∀ I24 : jx_I, I24 = jx_u I22 a0 6 (Int32.ofInt 0) → (
  ∀ I25 : jx_I, I25 = jx_u I24 a0 7 (Int32.ofInt 0) → (
  Q none I25))))))))))))))))))))))
set_option maxRecDepth 20000 in
theorem wm_96 {V : jx_V} (hV : V.1.stackTraces = false) {X : jx_X} {R : jx_R} {I : jx_I} {Q : Option Value → jx_I → Prop} {QE : String → jx_I → Prop} {a0 : Nat} {a1 : Nat}  
    (h : wz_96 V X R Q QE  a0 a1 I) : jc V 3 96 (0, 0) [.ref a0, .ref a1] X I R Q QE := by
  refine jy_met hV (by decide) (n := 2) (rt := none) (hh := []) (ini := false) (C := jx_c96) (L := [some (.ref a0), some (.ref a1)]) jt_96 (Nat.le_of_ble_eq_true rfl) rfl ?_
  intro J hS
  unfold wz_96 at h
  refine jy_aload_n hS rfl rfl ?_
  obtain ⟨g1, h⟩ := h
  obtain ⟨q2, h⟩ := h
  obtain ⟨g3, h⟩ := h
  refine jy_getR hS rfl (by decide) g1 g3 ?_
  refine jy_aload_n hS rfl rfl ?_
  obtain ⟨g4, h⟩ := h
  obtain ⟨Q5, h⟩ := h
  obtain ⟨g6, h⟩ := h
  refine jy_callV hS rfl rfl rfl (Nat.le_of_ble_eq_true rfl) (Or.inl g4) g6 (by decide) ⟨by decide, by decide⟩ (Nat.le_of_ble_eq_true rfl) ?_ ?_
  rotate_left
  · exact fun Ex Xx Ix Rx hp => hp.2.2.2.elim
  intro rv Xx I7 Rx hp
  obtain ⟨e1, e2, hp⟩ := hp
  rw [e1, e2]
  clear e1 e2
  obtain ⟨e1, h⟩ := h rv I7 hp
  rw [e1]
  clear e1
  change J 8 [] _ (0, 0) _ _ _
  refine jy_aload_n hS rfl rfl ?_
  obtain ⟨q9, h⟩ := h
  obtain ⟨g10, h⟩ := h
  refine jy_getR hS rfl (by decide) g1 g10 ?_
  refine jy_aload_n hS rfl rfl ?_
  obtain ⟨g11, h⟩ := h
  refine jy_getI hS rfl (by decide) g11 ?_
  obtain ⟨g12, h⟩ := h
  obtain ⟨Q13, h⟩ := h
  obtain ⟨g14, h⟩ := h
  refine jy_callV hS rfl rfl rfl (Nat.le_of_ble_eq_true rfl) (Or.inl g12) g14 (by decide) ⟨by decide, by decide⟩ (Nat.le_of_ble_eq_true rfl) ?_ ?_
  rotate_left
  · exact fun Ex Xx Ix Rx hp => hp.2.2.2.elim
  intro rv Xx I15 Rx hp
  obtain ⟨e1, e2, hp⟩ := hp
  rw [e1, e2]
  clear e1 e2
  obtain ⟨e1, h⟩ := h rv I15 hp
  rw [e1]
  clear e1
  change J 19 [] _ (0, 0) _ _ _
  refine jy_aload_n hS rfl rfl ?_
  obtain ⟨q17, h⟩ := h
  obtain ⟨g18, h⟩ := h
  refine jy_getR hS rfl (by decide) g1 g18 ?_
  obtain ⟨g19, h⟩ := h
  obtain ⟨Q20, h⟩ := h
  obtain ⟨g21, h⟩ := h
  refine jy_callV hS rfl rfl rfl (Nat.le_of_ble_eq_true rfl) (Or.inl g19) g21 (by decide) ⟨by decide, by decide⟩ (Nat.le_of_ble_eq_true rfl) ?_ ?_
  rotate_left
  · exact fun Ex Xx Ix Rx hp => hp.2.2.2.elim
  intro rv Xx I22 Rx hp
  obtain ⟨e1, e2, hp⟩ := hp
  rw [e1, e2]
  clear e1 e2
  obtain ⟨e1, h⟩ := h rv I22 hp
  rw [e1]
  clear e1
  change J 26 [] _ (0, 0) _ _ _
  refine jy_aload_n hS rfl rfl ?_
  refine jy_iconst hS rfl ?_
  refine jy_putI hS rfl (by decide) g1 ?_
  intro I24 e9
  have h := h I24 e9
  clear e9
  refine jy_aload_n hS rfl rfl ?_
  refine jy_iconst hS rfl ?_
  refine jy_putI hS rfl (by decide) g1 ?_
  intro I25 e9
  have h := h I25 e9
  clear e9
  exact jy_ret hS rfl rfl ⟨rfl, rfl, h⟩
theorem jt_97 : jx_ml 97 = 2 ∧ jx_rt 97 = none ∧ jx_hz 97 = [] ∧ decide ((jx_nm 97).name = "<init>") = false ∧ jx_code 97 = jx_c97 := by decide +kernel
/-- GC$State.copyFrom -/
def wz_97 (V : jx_V) (X : jx_X) (R : jx_R) (Q : Option Value → jx_I → Prop) (QE : String → jx_I → Prop)  (a0 : Nat) (a1 : Nat) (I : jx_I) : Prop :=
  (X.2.1 a0 = some (7, 0)) ∧ (
  ∃ q2 : Nat, (
  (R a0 0 = some q2) ∧ (
  (X.2.1 a1 = some (7, 0)) ∧ (
  ∃ q5 : Nat, (
  (R a1 0 = some q5) ∧ (
  (X.2.1 q2 = some (1, 0)) ∧ (
  ∃ Q8 : Option Value → jx_I → Prop, (
  (jc V 1 9 (0, 0) [.ref q2, .ref q5] X I R Q8 (fun _ _ => False)) ∧ (
  ∀ rv I10, Q8 rv I10 → rv = none ∧ (
  ∃ q12 : Nat, (
  (R a0 1 = some q12) ∧ (
  ∃ q14 : Nat, (
  (R a1 1 = some q14) ∧ (
  (X.2.1 q12 = some (5, 0)) ∧ (
  ∃ Q17 : Option Value → jx_I → Prop, (
  (jc V 1 74 (0, 0) [.ref q12, .ref q14] X I10 R Q17 (fun _ _ => False)) ∧ (
  ∀ rv I19, Q17 rv I19 → rv = none ∧ (
  ∃ q21 : Nat, (
  (R a0 2 = some q21) ∧ (
  ∃ q23 : Nat, (
  (R a1 2 = some q23) ∧ (
  (X.2.1 q21 = some (5, 0)) ∧ (
  ∃ Q26 : Option Value → jx_I → Prop, (
  (jc V 1 74 (0, 0) [.ref q21, .ref q23] X I19 R Q26 (fun _ _ => False)) ∧ (
  ∀ rv I28, Q26 rv I28 → rv = none ∧ (
  ∃ q30 : Nat, (
  (R a1 3 = some q30) ∧ (
  ∃ q32 : Nat, (
  (R a0 3 = some q32) ∧ (
  ∃ n34 : Nat, (
  (X.2.1 q30 = some (100, n34) ∧ n34 < 2147483648) ∧ (
  ∃ n36 : Nat, (
  (X.2.1 q32 = some (100, n36) ∧ n36 < 2147483648) ∧ (
  ((0 ≤ (0 : Int) ∧ (0 : Int) + (9 : Int) ≤ n34) ∧ (0 ≤ (0 : Int) ∧ (0 : Int) + (9 : Int) ≤ n36) ∧ 0 ≤ (9 : Int)) ∧ (
  ∀ I39 : jx_I, I39 = jx_cp I28 q30 q32 (0 : Int).toNat (0 : Int).toNat (9 : Int).toNat → (
  ∃ q40 : Nat, (
  (R a1 4 = some q40) ∧ (
  ∃ q42 : Nat, (
  (R a0 4 = some q42) ∧ (
  ∃ n44 : Nat, (
  (X.2.1 q40 = some (100, n44) ∧ n44 < 2147483648) ∧ (
  ∃ n46 : Nat, (
  (X.2.1 q42 = some (100, n46) ∧ n46 < 2147483648) ∧ (
  ((0 ≤ (0 : Int) ∧ (0 : Int) + (9 : Int) ≤ n44) ∧ (0 ≤ (0 : Int) ∧ (0 : Int) + (9 : Int) ≤ n46) ∧ 0 ≤ (9 : Int)) ∧ (
  ∀ I49 : jx_I, I49 = jx_cp I39 q40 q42 (0 : Int).toNat (0 : Int).toNat (9 : Int).toNat → (
  ∃ q50 : Nat, (
  (R a1 5 = some q50) ∧ (
  ∃ q52 : Nat, (
  (R a0 5 = some q52) ∧ (
  ∃ n54 : Nat, (
  (X.2.1 q52 = some (100, n54) ∧ n54 < 2147483648) ∧ (
  ∃ n56 : Nat, (
  (X.2.1 q50 = some (100, n56) ∧ n56 < 2147483648) ∧ (
  ((0 ≤ (0 : Int) ∧ (0 : Int) + (n54 : Int) ≤ n56) ∧ (0 ≤ (0 : Int) ∧ (0 : Int) + (n54 : Int) ≤ n54) ∧ 0 ≤ (n54 : Int)) ∧ (
  ∀ I59 : jx_I, I59 = jx_cp I49 q50 q52 (0 : Int).toNat (0 : Int).toNat ((n54 : Int) : Int).toNat → (
  ∀ I60 : jx_I, I60 = jx_u I59 a0 6 (Int32.ofInt ((I59 a1 6).toInt)) → (
  ∀ I61 : jx_I, I61 = jx_u I60 a0 7 (Int32.ofInt ((I60 a1 7).toInt)) → (
  Q none I61))))))))))))))))))))))))))))))))))))))))))))))))))))))))))
set_option maxRecDepth 20000 in
theorem wm_97 {V : jx_V} (hV : V.1.stackTraces = false) {X : jx_X} {R : jx_R} {I : jx_I} {Q : Option Value → jx_I → Prop} {QE : String → jx_I → Prop} {a0 : Nat} {a1 : Nat}  
    (h : wz_97 V X R Q QE  a0 a1 I) : jc V 2 97 (0, 0) [.ref a0, .ref a1] X I R Q QE := by
  refine jy_met hV (by decide) (n := 2) (rt := none) (hh := []) (ini := false) (C := jx_c97) (L := [some (.ref a0), some (.ref a1)]) jt_97 (Nat.le_of_ble_eq_true rfl) rfl ?_
  intro J hS
  unfold wz_97 at h
  refine jy_aload_n hS rfl rfl ?_
  obtain ⟨g1, h⟩ := h
  obtain ⟨q2, h⟩ := h
  obtain ⟨g3, h⟩ := h
  refine jy_getR hS rfl (by decide) g1 g3 ?_
  refine jy_aload_n hS rfl rfl ?_
  obtain ⟨g4, h⟩ := h
  obtain ⟨q5, h⟩ := h
  obtain ⟨g6, h⟩ := h
  refine jy_getR hS rfl (by decide) g4 g6 ?_
  obtain ⟨g7, h⟩ := h
  obtain ⟨Q8, h⟩ := h
  obtain ⟨g9, h⟩ := h
  refine jy_callV hS rfl rfl rfl (Nat.le_of_ble_eq_true rfl) (Or.inl g7) g9 (by decide) ⟨by decide, by decide⟩ (Nat.le_of_ble_eq_true rfl) ?_ ?_
  rotate_left
  · exact fun Ex Xx Ix Rx hp => hp.2.2.2.elim
  intro rv Xx I10 Rx hp
  obtain ⟨e1, e2, hp⟩ := hp
  rw [e1, e2]
  clear e1 e2
  obtain ⟨e1, h⟩ := h rv I10 hp
  rw [e1]
  clear e1
  change J 11 [] _ (0, 0) _ _ _
  refine jy_aload_n hS rfl rfl ?_
  obtain ⟨q12, h⟩ := h
  obtain ⟨g13, h⟩ := h
  refine jy_getR hS rfl (by decide) g1 g13 ?_
  refine jy_aload_n hS rfl rfl ?_
  obtain ⟨q14, h⟩ := h
  obtain ⟨g15, h⟩ := h
  refine jy_getR hS rfl (by decide) g4 g15 ?_
  obtain ⟨g16, h⟩ := h
  obtain ⟨Q17, h⟩ := h
  obtain ⟨g18, h⟩ := h
  refine jy_callV hS rfl rfl rfl (Nat.le_of_ble_eq_true rfl) (Or.inl g16) g18 (by decide) ⟨by decide, by decide⟩ (Nat.le_of_ble_eq_true rfl) ?_ ?_
  rotate_left
  · exact fun Ex Xx Ix Rx hp => hp.2.2.2.elim
  intro rv Xx I19 Rx hp
  obtain ⟨e1, e2, hp⟩ := hp
  rw [e1, e2]
  clear e1 e2
  obtain ⟨e1, h⟩ := h rv I19 hp
  rw [e1]
  clear e1
  change J 22 [] _ (0, 0) _ _ _
  refine jy_aload_n hS rfl rfl ?_
  obtain ⟨q21, h⟩ := h
  obtain ⟨g22, h⟩ := h
  refine jy_getR hS rfl (by decide) g1 g22 ?_
  refine jy_aload_n hS rfl rfl ?_
  obtain ⟨q23, h⟩ := h
  obtain ⟨g24, h⟩ := h
  refine jy_getR hS rfl (by decide) g4 g24 ?_
  obtain ⟨g25, h⟩ := h
  obtain ⟨Q26, h⟩ := h
  obtain ⟨g27, h⟩ := h
  refine jy_callV hS rfl rfl rfl (Nat.le_of_ble_eq_true rfl) (Or.inl g25) g27 (by decide) ⟨by decide, by decide⟩ (Nat.le_of_ble_eq_true rfl) ?_ ?_
  rotate_left
  · exact fun Ex Xx Ix Rx hp => hp.2.2.2.elim
  intro rv Xx I28 Rx hp
  obtain ⟨e1, e2, hp⟩ := hp
  rw [e1, e2]
  clear e1 e2
  obtain ⟨e1, h⟩ := h rv I28 hp
  rw [e1]
  clear e1
  change J 33 [] _ (0, 0) _ _ _
  refine jy_aload_n hS rfl rfl ?_
  obtain ⟨q30, h⟩ := h
  obtain ⟨g31, h⟩ := h
  refine jy_getR hS rfl (by decide) g4 g31 ?_
  refine jy_iconst hS rfl ?_
  refine jy_aload_n hS rfl rfl ?_
  obtain ⟨q32, h⟩ := h
  obtain ⟨g33, h⟩ := h
  refine jy_getR hS rfl (by decide) g1 g33 ?_
  refine jy_iconst hS rfl ?_
  refine jy_bipush hS rfl (by decide) ?_
  obtain ⟨n34, h⟩ := h
  obtain ⟨g35, h⟩ := h
  obtain ⟨n36, h⟩ := h
  obtain ⟨g37, h⟩ := h
  obtain ⟨g38, h⟩ := h
  refine jy_copy hS rfl (by decide) g35 g37 g38 (Nat.le_of_ble_eq_true rfl) ?_
  intro I39 e9
  have h := h I39 e9
  clear e9
  refine jy_aload_n hS rfl rfl ?_
  obtain ⟨q40, h⟩ := h
  obtain ⟨g41, h⟩ := h
  refine jy_getR hS rfl (by decide) g4 g41 ?_
  refine jy_iconst hS rfl ?_
  refine jy_aload_n hS rfl rfl ?_
  obtain ⟨q42, h⟩ := h
  obtain ⟨g43, h⟩ := h
  refine jy_getR hS rfl (by decide) g1 g43 ?_
  refine jy_iconst hS rfl ?_
  refine jy_bipush hS rfl (by decide) ?_
  obtain ⟨n44, h⟩ := h
  obtain ⟨g45, h⟩ := h
  obtain ⟨n46, h⟩ := h
  obtain ⟨g47, h⟩ := h
  obtain ⟨g48, h⟩ := h
  refine jy_copy hS rfl (by decide) g45 g47 g48 (Nat.le_of_ble_eq_true rfl) ?_
  intro I49 e9
  have h := h I49 e9
  clear e9
  refine jy_aload_n hS rfl rfl ?_
  obtain ⟨q50, h⟩ := h
  obtain ⟨g51, h⟩ := h
  refine jy_getR hS rfl (by decide) g4 g51 ?_
  refine jy_iconst hS rfl ?_
  refine jy_aload_n hS rfl rfl ?_
  obtain ⟨q52, h⟩ := h
  obtain ⟨g53, h⟩ := h
  refine jy_getR hS rfl (by decide) g1 g53 ?_
  refine jy_iconst hS rfl ?_
  refine jy_aload_n hS rfl rfl ?_
  refine jy_getR hS rfl (by decide) g1 g53 ?_
  obtain ⟨n54, h⟩ := h
  obtain ⟨g55, h⟩ := h
  refine jy_alen hS rfl g55.1 (by decide) g55.2 ?_
  obtain ⟨n56, h⟩ := h
  obtain ⟨g57, h⟩ := h
  obtain ⟨g58, h⟩ := h
  refine jy_copy hS rfl (by decide) g57 g55 g58 (Nat.le_of_ble_eq_true rfl) ?_
  intro I59 e9
  have h := h I59 e9
  clear e9
  refine jy_aload_n hS rfl rfl ?_
  refine jy_aload_n hS rfl rfl ?_
  refine jy_getI hS rfl (by decide) g4 ?_
  refine jy_putI hS rfl (by decide) g1 ?_
  intro I60 e9
  have h := h I60 e9
  clear e9
  refine jy_aload_n hS rfl rfl ?_
  refine jy_aload_n hS rfl rfl ?_
  refine jy_getI hS rfl (by decide) g4 ?_
  refine jy_putI hS rfl (by decide) g1 ?_
  intro I61 e9
  have h := h I61 e9
  clear e9
  exact jy_ret hS rfl rfl ⟨rfl, rfl, h⟩
theorem jt_98 : jx_ml 98 = 3 ∧ jx_rt 98 = some .boolean ∧ jx_hz 98 = [] ∧ decide ((jx_nm 98).name = "<init>") = false ∧ jx_code 98 = jx_c98 := by decide +kernel
/-- GC$State.addLine -/
def wz_98 (V : jx_V) (X : jx_X) (R : jx_R) (Q : Option Value → jx_I → Prop) (QE : String → jx_I → Prop)  (a0 : Nat) (a1 : Int) (a2 : Int) (I : jx_I) : Prop :=
  (X.2.1 a0 = some (7, 0)) ∧ (
  ((I a0 6).toInt < 9 → (
    ∃ q2 : Nat, (
    (R a0 3 = some q2) ∧ (
    ∃ n4 : Nat, (
    (X.2.1 q2 = some (100, n4) ∧ n4 < 2147483648) ∧ (
    (0 ≤ (I a0 6).toInt ∧ (I a0 6).toInt < n4) ∧ (
    ∀ I7 : jx_I, I7 = jx_u I q2 ((I a0 6).toInt).toNat (Int32.ofInt a1) → (
    ∃ q8 : Nat, (
    (R a0 4 = some q8) ∧ (
    ∃ n10 : Nat, (
    (X.2.1 q8 = some (100, n10) ∧ n10 < 2147483648) ∧ (
    (0 ≤ (I7 a0 6).toInt ∧ (I7 a0 6).toInt < n10) ∧ (
    ∀ I13 : jx_I, I13 = jx_u I7 q8 ((I7 a0 6).toInt).toNat (Int32.ofInt a2) → (
    ∀ I14 : jx_I, I14 = jx_u I13 a0 6 (Int32.ofInt ((I13 a0 6).toInt + 1)) → (
    Q (some (jy 1)) I14)))))))))))))
  )) ∧ (¬ (I a0 6).toInt < 9 → (
    Q (some (jy 0)) I
  )))
set_option maxRecDepth 20000 in
theorem wm_98 {V : jx_V} (hV : V.1.stackTraces = false) {X : jx_X} {R : jx_R} {I : jx_I} {Q : Option Value → jx_I → Prop} {QE : String → jx_I → Prop} {a0 : Nat} {a1 : Int} {a2 : Int} (r_a1 : -2147483648 ≤ a1 ∧ a1 < 2147483648) (r_a2 : -2147483648 ≤ a2 ∧ a2 < 2147483648) 
    (h : wz_98 V X R Q QE  a0 a1 a2 I) : jc V 1 98 (0, 0) [.ref a0, jy a1, jy a2] X I R Q QE := by
  refine jy_met hV (by decide) (n := 3) (rt := some .boolean) (hh := []) (ini := false) (C := jx_c98) (L := [some (.ref a0), some (jy a1), some (jy a2)]) jt_98 (Nat.le_of_ble_eq_true rfl) rfl ?_
  intro J hS
  unfold wz_98 at h
  refine jy_aload_n hS rfl rfl ?_
  obtain ⟨g1, h⟩ := h
  refine jy_getI hS rfl (by decide) g1 ?_
  refine jy_bipush hS rfl (by decide) ?_
  refine jy_icmp_lt hS rfl ⟨(jy_rng _), ⟨by decide, by decide⟩⟩ (fun hq => ?_) (fun hq => ?_)
  · have h := h.1 hq
    refine jy_aload_n hS rfl rfl ?_
    obtain ⟨q2, h⟩ := h
    obtain ⟨g3, h⟩ := h
    refine jy_getR hS rfl (by decide) g1 g3 ?_
    refine jy_aload_n hS rfl rfl ?_
    refine jy_getI hS rfl (by decide) g1 ?_
    refine jy_iload_n hS rfl rfl ?_
    obtain ⟨n4, h⟩ := h
    obtain ⟨g5, h⟩ := h
    obtain ⟨g6, h⟩ := h
    refine jy_iast hS rfl g5.1 (Nat.le_of_lt g5.2) g6 ?_
    intro I7 e9
    have h := h I7 e9
    clear e9
    refine jy_aload_n hS rfl rfl ?_
    obtain ⟨q8, h⟩ := h
    obtain ⟨g9, h⟩ := h
    refine jy_getR hS rfl (by decide) g1 g9 ?_
    refine jy_aload_n hS rfl rfl ?_
    refine jy_getI hS rfl (by decide) g1 ?_
    refine jy_iload_n hS rfl rfl ?_
    obtain ⟨n10, h⟩ := h
    obtain ⟨g11, h⟩ := h
    obtain ⟨g12, h⟩ := h
    refine jy_iast hS rfl g11.1 (Nat.le_of_lt g11.2) g12 ?_
    intro I13 e9
    have h := h I13 e9
    clear e9
    refine jy_aload_n hS rfl rfl ?_
    refine jy_dup hS rfl rfl ?_
    refine jy_getI hS rfl (by decide) g1 ?_
    refine jy_iconst hS rfl ?_
    refine jy_iadd hS rfl ?_
    refine jy_putI hS rfl (by decide) g1 ?_
    intro I14 e9
    have h := h I14 e9
    clear e9
    refine jy_iconst hS rfl ?_
    exact jy_iret hS rfl rfl ⟨rfl, rfl, h⟩
  · have h := h.2 hq
    refine jy_iconst hS rfl ?_
    exact jy_iret hS rfl rfl ⟨rfl, rfl, h⟩
theorem jt_99 : jx_ml 99 = 1 ∧ jx_rt 99 = none ∧ jx_hz 99 = [] ∧ decide ((jx_nm 99).name = "<init>") = false ∧ jx_code 99 = jx_c99 := by decide +kernel
/-- GC$State.keepForUndo -/
def wz_99 (V : jx_V) (X : jx_X) (R : jx_R) (Q : Option Value → jx_I → Prop) (QE : String → jx_I → Prop)  (a0 : Nat) (I : jx_I) : Prop :=
  (X.2.1 a0 = some (7, 0)) ∧ (
  (24 ≤ (I a0 7).toInt → (
    Q none I
  )) ∧ (¬ 24 ≤ (I a0 7).toInt → (
    ∃ q2 : Nat, (
    (R a0 0 = some q2) ∧ (
    (X.2.1 q2 = some (1, 0)) ∧ (
    ∃ q5 : Nat, (
    (R q2 0 = some q5) ∧ (
    ∃ q7 : Nat, (
    (R a0 5 = some q7) ∧ (
    ∃ n9 : Nat, (
    (X.2.1 q5 = some (100, n9) ∧ n9 < 2147483648) ∧ (
    ∃ n11 : Nat, (
    (X.2.1 q7 = some (100, n11) ∧ n11 < 2147483648) ∧ (
    ((0 ≤ (0 : Int) ∧ (0 : Int) + (80 : Int) ≤ n9) ∧ (0 ≤ ((I a0 7).toInt * 160) ∧ ((I a0 7).toInt * 160) + (80 : Int) ≤ n11) ∧ 0 ≤ (80 : Int)) ∧ (
    ∀ I14 : jx_I, I14 = jx_cp I q5 q7 (0 : Int).toNat (((I a0 7).toInt * 160) : Int).toNat (80 : Int).toNat → (
    ∃ q15 : Nat, (
    (R q2 1 = some q15) ∧ (
    ∃ n17 : Nat, (
    (X.2.1 q15 = some (100, n17) ∧ n17 < 2147483648) ∧ (
    ((0 ≤ (0 : Int) ∧ (0 : Int) + (80 : Int) ≤ n17) ∧ (0 ≤ (((I14 a0 7).toInt * 160) + 80) ∧ (((I14 a0 7).toInt * 160) + 80) + (80 : Int) ≤ n11) ∧ 0 ≤ (80 : Int)) ∧ (
    ∀ I20 : jx_I, I20 = jx_cp I14 q15 q7 (0 : Int).toNat ((((I14 a0 7).toInt * 160) + 80) : Int).toNat (80 : Int).toNat → (
    ∀ I21 : jx_I, I21 = jx_u I20 a0 7 (Int32.ofInt ((I20 a0 7).toInt + 1)) → (
    Q none I21))))))))))))))))))))
  )))
set_option maxRecDepth 20000 in
theorem wm_99 {V : jx_V} (hV : V.1.stackTraces = false) {X : jx_X} {R : jx_R} {I : jx_I} {Q : Option Value → jx_I → Prop} {QE : String → jx_I → Prop} {a0 : Nat}  
    (h : wz_99 V X R Q QE  a0 I) : jc V 1 99 (0, 0) [.ref a0] X I R Q QE := by
  refine jy_met hV (by decide) (n := 1) (rt := none) (hh := []) (ini := false) (C := jx_c99) (L := [some (.ref a0)]) jt_99 (Nat.le_of_ble_eq_true rfl) rfl ?_
  intro J hS
  unfold wz_99 at h
  refine jy_aload_n hS rfl rfl ?_
  obtain ⟨g1, h⟩ := h
  refine jy_getI hS rfl (by decide) g1 ?_
  refine jy_bipush hS rfl (by decide) ?_
  refine jy_icmp_ge hS rfl ⟨(jy_rng _), ⟨by decide, by decide⟩⟩ (fun hq => ?_) (fun hq => ?_)
  · have h := h.1 hq
    exact jy_ret hS rfl rfl ⟨rfl, rfl, h⟩
  · have h := h.2 hq
    refine jy_aload_n hS rfl rfl ?_
    obtain ⟨q2, h⟩ := h
    obtain ⟨g3, h⟩ := h
    refine jy_getR hS rfl (by decide) g1 g3 ?_
    obtain ⟨g4, h⟩ := h
    obtain ⟨q5, h⟩ := h
    obtain ⟨g6, h⟩ := h
    refine jy_getR hS rfl (by decide) g4 g6 ?_
    refine jy_iconst hS rfl ?_
    refine jy_aload_n hS rfl rfl ?_
    obtain ⟨q7, h⟩ := h
    obtain ⟨g8, h⟩ := h
    refine jy_getR hS rfl (by decide) g1 g8 ?_
    refine jy_aload_n hS rfl rfl ?_
    refine jy_getI hS rfl (by decide) g1 ?_
    refine jy_sipush hS rfl (by decide) ?_
    refine jy_imul hS rfl ?_
    refine jy_bipush hS rfl (by decide) ?_
    obtain ⟨n9, h⟩ := h
    obtain ⟨g10, h⟩ := h
    obtain ⟨n11, h⟩ := h
    obtain ⟨g12, h⟩ := h
    obtain ⟨g13, h⟩ := h
    refine jy_copy hS rfl (by decide) g10 g12 g13 (Nat.le_of_ble_eq_true rfl) ?_
    intro I14 e9
    have h := h I14 e9
    clear e9
    refine jy_aload_n hS rfl rfl ?_
    refine jy_getR hS rfl (by decide) g1 g3 ?_
    obtain ⟨q15, h⟩ := h
    obtain ⟨g16, h⟩ := h
    refine jy_getR hS rfl (by decide) g4 g16 ?_
    refine jy_iconst hS rfl ?_
    refine jy_aload_n hS rfl rfl ?_
    refine jy_getR hS rfl (by decide) g1 g8 ?_
    refine jy_aload_n hS rfl rfl ?_
    refine jy_getI hS rfl (by decide) g1 ?_
    refine jy_sipush hS rfl (by decide) ?_
    refine jy_imul hS rfl ?_
    refine jy_bipush hS rfl (by decide) ?_
    refine jy_iadd hS rfl ?_
    refine jy_bipush hS rfl (by decide) ?_
    obtain ⟨n17, h⟩ := h
    obtain ⟨g18, h⟩ := h
    obtain ⟨g19, h⟩ := h
    refine jy_copy hS rfl (by decide) g18 g12 g19 (Nat.le_of_ble_eq_true rfl) ?_
    intro I20 e9
    have h := h I20 e9
    clear e9
    refine jy_aload_n hS rfl rfl ?_
    refine jy_dup hS rfl rfl ?_
    refine jy_getI hS rfl (by decide) g1 ?_
    refine jy_iconst hS rfl ?_
    refine jy_iadd hS rfl ?_
    refine jy_putI hS rfl (by decide) g1 ?_
    intro I21 e9
    have h := h I21 e9
    clear e9
    exact jy_ret hS rfl rfl ⟨rfl, rfl, h⟩
theorem jt_100 : jx_ml 100 = 1 ∧ jx_rt 100 = some .boolean ∧ jx_hz 100 = [] ∧ decide ((jx_nm 100).name = "<init>") = false ∧ jx_code 100 = jx_c100 := by decide +kernel
/-- GC$State.takeBack -/
def wz_100 (V : jx_V) (X : jx_X) (R : jx_R) (Q : Option Value → jx_I → Prop) (QE : String → jx_I → Prop)  (a0 : Nat) (I : jx_I) : Prop :=
  (X.2.1 a0 = some (7, 0)) ∧ (
  (0 < (I a0 7).toInt → (
    ∀ I2 : jx_I, I2 = jx_u I a0 7 (Int32.ofInt ((I a0 7).toInt - 1)) → (
    ∃ q3 : Nat, (
    (R a0 5 = some q3) ∧ (
    ∃ q5 : Nat, (
    (R a0 0 = some q5) ∧ (
    (X.2.1 q5 = some (1, 0)) ∧ (
    ∃ q8 : Nat, (
    (R q5 0 = some q8) ∧ (
    ∃ n10 : Nat, (
    (X.2.1 q3 = some (100, n10) ∧ n10 < 2147483648) ∧ (
    ∃ n12 : Nat, (
    (X.2.1 q8 = some (100, n12) ∧ n12 < 2147483648) ∧ (
    ((0 ≤ ((I2 a0 7).toInt * 160) ∧ ((I2 a0 7).toInt * 160) + (80 : Int) ≤ n10) ∧ (0 ≤ (0 : Int) ∧ (0 : Int) + (80 : Int) ≤ n12) ∧ 0 ≤ (80 : Int)) ∧ (
    ∀ I15 : jx_I, I15 = jx_cp I2 q3 q8 (((I2 a0 7).toInt * 160) : Int).toNat (0 : Int).toNat (80 : Int).toNat → (
    ∃ q16 : Nat, (
    (R q5 1 = some q16) ∧ (
    ∃ n18 : Nat, (
    (X.2.1 q16 = some (100, n18) ∧ n18 < 2147483648) ∧ (
    ((0 ≤ (((I15 a0 7).toInt * 160) + 80) ∧ (((I15 a0 7).toInt * 160) + 80) + (80 : Int) ≤ n10) ∧ (0 ≤ (0 : Int) ∧ (0 : Int) + (80 : Int) ≤ n18) ∧ 0 ≤ (80 : Int)) ∧ (
    ∀ I21 : jx_I, I21 = jx_cp I15 q3 q16 ((((I15 a0 7).toInt * 160) + 80) : Int).toNat (0 : Int).toNat (80 : Int).toNat → (
    Q (some (jy 1)) I21))))))))))))))))))))
  )) ∧ (¬ 0 < (I a0 7).toInt → (
    Q (some (jy 0)) I
  )))
set_option maxRecDepth 20000 in
theorem wm_100 {V : jx_V} (hV : V.1.stackTraces = false) {X : jx_X} {R : jx_R} {I : jx_I} {Q : Option Value → jx_I → Prop} {QE : String → jx_I → Prop} {a0 : Nat}  
    (h : wz_100 V X R Q QE  a0 I) : jc V 1 100 (0, 0) [.ref a0] X I R Q QE := by
  refine jy_met hV (by decide) (n := 1) (rt := some .boolean) (hh := []) (ini := false) (C := jx_c100) (L := [some (.ref a0)]) jt_100 (Nat.le_of_ble_eq_true rfl) rfl ?_
  intro J hS
  unfold wz_100 at h
  refine jy_aload_n hS rfl rfl ?_
  obtain ⟨g1, h⟩ := h
  refine jy_getI hS rfl (by decide) g1 ?_
  refine jy_if_gt hS rfl (jy_rng _) (fun hq => ?_) (fun hq => ?_)
  · have h := h.1 hq
    refine jy_aload_n hS rfl rfl ?_
    refine jy_dup hS rfl rfl ?_
    refine jy_getI hS rfl (by decide) g1 ?_
    refine jy_iconst hS rfl ?_
    refine jy_isub hS rfl ?_
    refine jy_putI hS rfl (by decide) g1 ?_
    intro I2 e9
    have h := h I2 e9
    clear e9
    refine jy_aload_n hS rfl rfl ?_
    obtain ⟨q3, h⟩ := h
    obtain ⟨g4, h⟩ := h
    refine jy_getR hS rfl (by decide) g1 g4 ?_
    refine jy_aload_n hS rfl rfl ?_
    refine jy_getI hS rfl (by decide) g1 ?_
    refine jy_sipush hS rfl (by decide) ?_
    refine jy_imul hS rfl ?_
    refine jy_aload_n hS rfl rfl ?_
    obtain ⟨q5, h⟩ := h
    obtain ⟨g6, h⟩ := h
    refine jy_getR hS rfl (by decide) g1 g6 ?_
    obtain ⟨g7, h⟩ := h
    obtain ⟨q8, h⟩ := h
    obtain ⟨g9, h⟩ := h
    refine jy_getR hS rfl (by decide) g7 g9 ?_
    refine jy_iconst hS rfl ?_
    refine jy_bipush hS rfl (by decide) ?_
    obtain ⟨n10, h⟩ := h
    obtain ⟨g11, h⟩ := h
    obtain ⟨n12, h⟩ := h
    obtain ⟨g13, h⟩ := h
    obtain ⟨g14, h⟩ := h
    refine jy_copy hS rfl (by decide) g11 g13 g14 (Nat.le_of_ble_eq_true rfl) ?_
    intro I15 e9
    have h := h I15 e9
    clear e9
    refine jy_aload_n hS rfl rfl ?_
    refine jy_getR hS rfl (by decide) g1 g4 ?_
    refine jy_aload_n hS rfl rfl ?_
    refine jy_getI hS rfl (by decide) g1 ?_
    refine jy_sipush hS rfl (by decide) ?_
    refine jy_imul hS rfl ?_
    refine jy_bipush hS rfl (by decide) ?_
    refine jy_iadd hS rfl ?_
    refine jy_aload_n hS rfl rfl ?_
    refine jy_getR hS rfl (by decide) g1 g6 ?_
    obtain ⟨q16, h⟩ := h
    obtain ⟨g17, h⟩ := h
    refine jy_getR hS rfl (by decide) g7 g17 ?_
    refine jy_iconst hS rfl ?_
    refine jy_bipush hS rfl (by decide) ?_
    obtain ⟨n18, h⟩ := h
    obtain ⟨g19, h⟩ := h
    obtain ⟨g20, h⟩ := h
    refine jy_copy hS rfl (by decide) g11 g19 g20 (Nat.le_of_ble_eq_true rfl) ?_
    intro I21 e9
    have h := h I21 e9
    clear e9
    refine jy_iconst hS rfl ?_
    exact jy_iret hS rfl rfl ⟨rfl, rfl, h⟩
  · have h := h.2 hq
    refine jy_iconst hS rfl ?_
    exact jy_iret hS rfl rfl ⟨rfl, rfl, h⟩
theorem jt_102 : jx_ml 102 = 2 ∧ jx_rt 102 = some .boolean ∧ jx_hz 102 = [] ∧ decide ((jx_nm 102).name = "<init>") = false ∧ jx_code 102 = jx_c102 := by decide +kernel
/-- GC$Tape.hasRoomFor -/
def wz_102 (V : jx_V) (X : jx_X) (R : jx_R) (Q : Option Value → jx_I → Prop) (QE : String → jx_I → Prop)  (a0 : Nat) (a1 : Int) (I : jx_I) : Prop :=
  (X.2.1 a0 = some (8, 0)) ∧ (
  (-2147483648 ≤ ((I a0 1).toInt + a1) ∧ ((I a0 1).toInt + a1) < 2147483648) ∧ (
  (600 < ((I a0 1).toInt + a1) → (
    Q (some (jy 0)) I
  )) ∧ (¬ 600 < ((I a0 1).toInt + a1) → (
    Q (some (jy 1)) I
  ))))
set_option maxRecDepth 20000 in
theorem wm_102 {V : jx_V} (hV : V.1.stackTraces = false) {X : jx_X} {R : jx_R} {I : jx_I} {Q : Option Value → jx_I → Prop} {QE : String → jx_I → Prop} {a0 : Nat} {a1 : Int} (r_a1 : -2147483648 ≤ a1 ∧ a1 < 2147483648) 
    (h : wz_102 V X R Q QE  a0 a1 I) : jc V 1 102 (0, 0) [.ref a0, jy a1] X I R Q QE := by
  refine jy_met hV (by decide) (n := 2) (rt := some .boolean) (hh := []) (ini := false) (C := jx_c102) (L := [some (.ref a0), some (jy a1)]) jt_102 (Nat.le_of_ble_eq_true rfl) rfl ?_
  intro J hS
  unfold wz_102 at h
  refine jy_aload_n hS rfl rfl ?_
  obtain ⟨g1, h⟩ := h
  refine jy_getI hS rfl (by decide) g1 ?_
  refine jy_iload_n hS rfl rfl ?_
  refine jy_iadd hS rfl ?_
  refine jy_sipush hS rfl (by decide) ?_
  obtain ⟨g2, h⟩ := h
  refine jy_icmp_gt hS rfl ⟨g2, ⟨by decide, by decide⟩⟩ (fun hq => ?_) (fun hq => ?_)
  · have h := h.1 hq
    refine jy_iconst hS rfl ?_
    exact jy_iret hS rfl rfl ⟨rfl, rfl, h⟩
  · have h := h.2 hq
    refine jy_iconst hS rfl ?_
    refine jy_goto hS rfl ?_
    exact jy_iret hS rfl rfl ⟨rfl, rfl, h⟩
theorem jt_103 : jx_ml 103 = 3 ∧ jx_rt 103 = none ∧ jx_hz 103 = [] ∧ decide ((jx_nm 103).name = "<init>") = false ∧ jx_code 103 = jx_c103 := by decide +kernel
/-- GC$Tape.put, from 3 -/
def wz_103_3 (V : jx_V) (X : jx_X) (R : jx_R) (Q : Option Value → jx_I → Prop) (QE : String → jx_I → Prop) (J3 : Int → jx_I → Prop) (J43 : Int → jx_I → Prop) (a0 : Nat) (a1 : Int) (l2 : Int) (I : jx_I) : Prop :=
  (-2147483648 ≤ l2 ∧ l2 < 2147483648) ∧ (
  (l2 < 0 → (
    Q none I
  )) ∧ (¬ l2 < 0 → (
    (X.2.1 a0 = some (8, 0)) ∧ (
    (600 ≤ (I a0 1).toInt → (
      J3 (l2 + (-8)) I
    )) ∧ (¬ 600 ≤ (I a0 1).toInt → (
      ∃ q3 : Nat, (
      (R a0 0 = some q3) ∧ (
      ∃ n5 : Nat, (
      (X.2.1 q3 = some (100, n5) ∧ n5 < 2147483648) ∧ (
      (0 ≤ (I a0 1).toInt ∧ (I a0 1).toInt < n5) ∧ (
      ∀ I8 : jx_I, I8 = jx_u I q3 ((I a0 1).toInt).toNat (Int32.ofInt ((Int32.ofInt ((((Int32.ofInt a1).toUInt32 >>> ((Int32.ofInt l2).toUInt32 &&& Int32.toUInt32 31)).toInt32).toInt) &&& Int32.ofInt 255).toInt)) → (
      ∀ I9 : jx_I, I9 = jx_u I8 a0 1 (Int32.ofInt ((I8 a0 1).toInt + 1)) → (
      J43 l2 I9)))))))
    )))
  )))
/-- GC$Tape.put, from 43 -/
def wz_103_43 (V : jx_V) (X : jx_X) (R : jx_R) (Q : Option Value → jx_I → Prop) (QE : String → jx_I → Prop) (J3 : Int → jx_I → Prop) (J43 : Int → jx_I → Prop) (a0 : Nat) (a1 : Int) (l2 : Int) (I : jx_I) : Prop :=
  J3 (l2 + (-8)) I
/-- GC$Tape.put -/
def wz_103 (V : jx_V) (X : jx_X) (R : jx_R) (Q : Option Value → jx_I → Prop) (QE : String → jx_I → Prop) (J3 : Int → jx_I → Prop) (J43 : Int → jx_I → Prop) (a0 : Nat) (a1 : Int) (I : jx_I) : Prop :=
  J3 24 I
set_option maxRecDepth 20000 in
theorem wm_103 {V : jx_V} (hV : V.1.stackTraces = false) {X : jx_X} {R : jx_R} {I : jx_I} {Q : Option Value → jx_I → Prop} {QE : String → jx_I → Prop} {a0 : Nat} {a1 : Int} (r_a1 : -2147483648 ≤ a1 ∧ a1 < 2147483648) 
    (h : ∀ (J3 : Int → jx_I → Prop) (J43 : Int → jx_I → Prop), ((∀ (l2 : Int) I, wz_103_3 V X R Q QE J3 J43 a0 a1 l2 I → J3 l2 I) ∧ (∀ (l2 : Int) I, wz_103_43 V X R Q QE J3 J43 a0 a1 l2 I → J43 l2 I)) → wz_103 V X R Q QE J3 J43 a0 a1 I) : jc V 1 103 (0, 0) [.ref a0, jy a1] X I R Q QE := by
  refine jy_met hV (by decide) (n := 3) (rt := none) (hh := []) (ini := false) (C := jx_c103) (L := [some (.ref a0), some (jy a1), none]) jt_103 (Nat.le_of_ble_eq_true rfl) rfl ?_
  intro J hS
  have h := h (fun l2 I => J 3 [] [some (.ref a0), some (jy a1), some (jy l2)] (0, 0) X I R) (fun l2 I => J 43 [] [some (.ref a0), some (jy a1), some (jy l2)] (0, 0) X I R) ?_
  · unfold wz_103 at h
    refine jy_bipush hS rfl (by decide) ?_
    refine jy_istore_n hS rfl (Nat.le_of_ble_eq_true rfl) (L' := [some (.ref a0), some (jy a1), some (jy 24)]) rfl ?_
    exact jy_join hS h rfl (jy_sub_s (jy_sub_s (jy_sub_s jy_sub_0)))
  refine ⟨?_, ?_⟩
  · intro l2 I h
    unfold wz_103_3 at h
    refine jy_iload_n hS rfl rfl ?_
    obtain ⟨g1, h⟩ := h
    refine jy_if_lt hS rfl g1 (fun hq => ?_) (fun hq => ?_)
    · have h := h.1 hq
      exact jy_ret hS rfl rfl ⟨rfl, rfl, h⟩
    · have h := h.2 hq
      refine jy_aload_n hS rfl rfl ?_
      obtain ⟨g2, h⟩ := h
      refine jy_getI hS rfl (by decide) g2 ?_
      refine jy_sipush hS rfl (by decide) ?_
      refine jy_icmp_ge hS rfl ⟨(jy_rng _), ⟨by decide, by decide⟩⟩ (fun hq => ?_) (fun hq => ?_)
      · have h := h.1 hq
        refine jy_iinc hS rfl rfl (L' := [some (.ref a0), some (jy a1), some (jy (l2 + (-8)))]) rfl ?_
        refine jy_goto hS rfl ?_
        exact jy_join hS h rfl (jy_sub_s (jy_sub_s (jy_sub_s jy_sub_0)))
      · have h := h.2 hq
        refine jy_aload_n hS rfl rfl ?_
        obtain ⟨q3, h⟩ := h
        obtain ⟨g4, h⟩ := h
        refine jy_getR hS rfl (by decide) g2 g4 ?_
        refine jy_aload_n hS rfl rfl ?_
        refine jy_getI hS rfl (by decide) g2 ?_
        refine jy_iload_n hS rfl rfl ?_
        refine jy_iload_n hS rfl rfl ?_
        refine jy_iushrX hS rfl rfl ?_
        refine jy_sipush hS rfl (by decide) ?_
        refine jy_iandX hS rfl rfl ?_
        obtain ⟨n5, h⟩ := h
        obtain ⟨g6, h⟩ := h
        obtain ⟨g7, h⟩ := h
        refine jy_iast hS rfl g6.1 (Nat.le_of_lt g6.2) g7 ?_
        intro I8 e9
        have h := h I8 e9
        clear e9
        refine jy_aload_n hS rfl rfl ?_
        refine jy_dup hS rfl rfl ?_
        refine jy_getI hS rfl (by decide) g2 ?_
        refine jy_iconst hS rfl ?_
        refine jy_iadd hS rfl ?_
        refine jy_putI hS rfl (by decide) g2 ?_
        intro I9 e9
        have h := h I9 e9
        clear e9
        exact jy_join hS h rfl (jy_sub_s (jy_sub_s (jy_sub_s jy_sub_0)))
  · intro l2 I h
    unfold wz_103_43 at h
    refine jy_iinc hS rfl rfl (L' := [some (.ref a0), some (jy a1), some (jy (l2 + (-8)))]) rfl ?_
    refine jy_goto hS rfl ?_
    exact jy_join hS h rfl (jy_sub_s (jy_sub_s (jy_sub_s jy_sub_0)))
theorem jt_104 : jx_ml 104 = 2 ∧ jx_rt 104 = none ∧ jx_hz 104 = [] ∧ decide ((jx_nm 104).name = "<init>") = false ∧ jx_code 104 = jx_c104 := by decide +kernel
/-- GC$Tape.open -/
def wz_104 (V : jx_V) (X : jx_X) (R : jx_R) (Q : Option Value → jx_I → Prop) (QE : String → jx_I → Prop)  (a0 : Nat) (a1 : Int) (I : jx_I) : Prop :=
  (X.2.1 a0 = some (8, 0)) ∧ (
  ∃ Q2 : Option Value → jx_I → Prop, (
  (jc V 1 329 (0, 0) [jy a1, jy ((I a0 1).toInt)] X I R Q2 (fun _ _ => False)) ∧ (
  ∀ rv I4, Q2 rv I4 → ∃ r5 : Int, rv = some (jy r5) ∧ (
  ∃ Q6 : Option Value → jx_I → Prop, (
  (jc V 1 328 (0, 0) [jy 0, jy r5] X I4 R Q6 (fun _ _ => False)) ∧ (
  ∀ rv I8, Q6 rv I8 → ∃ r9 : Int, rv = some (jy r9) ∧ (
  ∀ I10 : jx_I, I10 = jx_u I8 a0 2 (Int32.ofInt r9) → (
  ∀ I11 : jx_I, I11 = jx_u I10 a0 3 (Int32.ofInt 0) → (
  ∀ I12 : jx_I, I12 = jx_u I11 a0 7 (Int32.ofInt 0) → (
  ∀ I13 : jx_I, I13 = jx_u I12 a0 8 (Int32.ofInt (-1)) → (
  ∃ Q14 : Option Value → jx_I → Prop, (
  (jc V 1 119 (0, 0) [.ref a0] X I13 R Q14 (fun _ _ => False)) ∧ (
  ∀ rv I16, Q14 rv I16 → rv = none ∧ (
  Q none I16))))))))))))))
set_option maxRecDepth 20000 in
theorem wm_104 {V : jx_V} (hV : V.1.stackTraces = false) {X : jx_X} {R : jx_R} {I : jx_I} {Q : Option Value → jx_I → Prop} {QE : String → jx_I → Prop} {a0 : Nat} {a1 : Int} (r_a1 : -2147483648 ≤ a1 ∧ a1 < 2147483648) 
    (h : wz_104 V X R Q QE  a0 a1 I) : jc V 2 104 (0, 0) [.ref a0, jy a1] X I R Q QE := by
  refine jy_met hV (by decide) (n := 2) (rt := none) (hh := []) (ini := false) (C := jx_c104) (L := [some (.ref a0), some (jy a1)]) jt_104 (Nat.le_of_ble_eq_true rfl) rfl ?_
  intro J hS
  unfold wz_104 at h
  refine jy_aload_n hS rfl rfl ?_
  refine jy_iconst hS rfl ?_
  refine jy_iload_n hS rfl rfl ?_
  refine jy_aload_n hS rfl rfl ?_
  obtain ⟨g1, h⟩ := h
  refine jy_getI hS rfl (by decide) g1 ?_
  obtain ⟨Q2, h⟩ := h
  obtain ⟨g3, h⟩ := h
  refine jy_callS hS rfl rfl rfl (Nat.le_of_ble_eq_true rfl) g3 (by decide) ⟨by decide, by decide⟩ (Nat.le_of_ble_eq_true rfl) ?_ ?_
  rotate_left
  · exact fun Ex Xx Ix Rx hp => hp.2.2.2.elim
  intro rv Xx I4 Rx hp
  obtain ⟨e1, e2, hp⟩ := hp
  rw [e1, e2]
  clear e1 e2
  obtain ⟨r5, e1, h⟩ := h rv I4 hp
  rw [e1]
  clear e1
  change J 10 [jy r5, jy 0, .ref a0] _ (0, 0) _ _ _
  obtain ⟨Q6, h⟩ := h
  obtain ⟨g7, h⟩ := h
  refine jy_callS hS rfl rfl rfl (Nat.le_of_ble_eq_true rfl) g7 (by decide) ⟨by decide, by decide⟩ (Nat.le_of_ble_eq_true rfl) ?_ ?_
  rotate_left
  · exact fun Ex Xx Ix Rx hp => hp.2.2.2.elim
  intro rv Xx I8 Rx hp
  obtain ⟨e1, e2, hp⟩ := hp
  rw [e1, e2]
  clear e1 e2
  obtain ⟨r9, e1, h⟩ := h rv I8 hp
  rw [e1]
  clear e1
  change J 13 [jy r9, .ref a0] _ (0, 0) _ _ _
  refine jy_putI hS rfl (by decide) g1 ?_
  intro I10 e9
  have h := h I10 e9
  clear e9
  refine jy_aload_n hS rfl rfl ?_
  refine jy_iconst hS rfl ?_
  refine jy_putI hS rfl (by decide) g1 ?_
  intro I11 e9
  have h := h I11 e9
  clear e9
  refine jy_aload_n hS rfl rfl ?_
  refine jy_iconst hS rfl ?_
  refine jy_putI hS rfl (by decide) g1 ?_
  intro I12 e9
  have h := h I12 e9
  clear e9
  refine jy_aload_n hS rfl rfl ?_
  refine jy_iconst hS rfl ?_
  refine jy_putI hS rfl (by decide) g1 ?_
  intro I13 e9
  have h := h I13 e9
  clear e9
  refine jy_aload_n hS rfl rfl ?_
  obtain ⟨Q14, h⟩ := h
  obtain ⟨g15, h⟩ := h
  refine jy_callV hS rfl rfl rfl (Nat.le_of_ble_eq_true rfl) (Or.inl g1) g15 (by decide) ⟨by decide, by decide⟩ (Nat.le_of_ble_eq_true rfl) ?_ ?_
  rotate_left
  · exact fun Ex Xx Ix Rx hp => hp.2.2.2.elim
  intro rv Xx I16 Rx hp
  obtain ⟨e1, e2, hp⟩ := hp
  rw [e1, e2]
  clear e1 e2
  obtain ⟨e1, h⟩ := h rv I16 hp
  rw [e1]
  clear e1
  change J 35 [] _ (0, 0) _ _ _
  exact jy_ret hS rfl rfl ⟨rfl, rfl, h⟩
theorem jt_105 : jx_ml 105 = 1 ∧ jx_rt 105 = none ∧ jx_hz 105 = [] ∧ decide ((jx_nm 105).name = "<init>") = false ∧ jx_code 105 = jx_c105 := by decide +kernel
/-- GC$Tape.close -/
def wz_105 (V : jx_V) (X : jx_X) (R : jx_R) (Q : Option Value → jx_I → Prop) (QE : String → jx_I → Prop)  (a0 : Nat) (I : jx_I) : Prop :=
  (X.2.1 a0 = some (8, 0)) ∧ (
  ∀ I2 : jx_I, I2 = jx_u I a0 1 (Int32.ofInt 0) → (
  Q none I2))
set_option maxRecDepth 20000 in
theorem wm_105 {V : jx_V} (hV : V.1.stackTraces = false) {X : jx_X} {R : jx_R} {I : jx_I} {Q : Option Value → jx_I → Prop} {QE : String → jx_I → Prop} {a0 : Nat}  
    (h : wz_105 V X R Q QE  a0 I) : jc V 1 105 (0, 0) [.ref a0] X I R Q QE := by
  refine jy_met hV (by decide) (n := 1) (rt := none) (hh := []) (ini := false) (C := jx_c105) (L := [some (.ref a0)]) jt_105 (Nat.le_of_ble_eq_true rfl) rfl ?_
  intro J hS
  unfold wz_105 at h
  refine jy_aload_n hS rfl rfl ?_
  refine jy_iconst hS rfl ?_
  obtain ⟨g1, h⟩ := h
  refine jy_putI hS rfl (by decide) g1 ?_
  intro I2 e9
  have h := h I2 e9
  clear e9
  exact jy_ret hS rfl rfl ⟨rfl, rfl, h⟩
theorem jt_106 : jx_ml 106 = 3 ∧ jx_rt 106 = some .boolean ∧ jx_hz 106 = [] ∧ decide ((jx_nm 106).name = "<init>") = false ∧ jx_code 106 = jx_c106 := by decide +kernel
/-- GC$Tape.fail -/
def wz_106 (V : jx_V) (X : jx_X) (R : jx_R) (Q : Option Value → jx_I → Prop) (QE : String → jx_I → Prop)  (a0 : Nat) (a1 : Int) (a2 : Int) (I : jx_I) : Prop :=
  (X.2.1 a0 = some (8, 0)) ∧ (
  ∀ I2 : jx_I, I2 = jx_u I a0 7 (Int32.ofInt a1) → (
  ∀ I3 : jx_I, I3 = jx_u I2 a0 8 (Int32.ofInt a2) → (
  Q (some (jy 0)) I3)))
set_option maxRecDepth 20000 in
theorem wm_106 {V : jx_V} (hV : V.1.stackTraces = false) {X : jx_X} {R : jx_R} {I : jx_I} {Q : Option Value → jx_I → Prop} {QE : String → jx_I → Prop} {a0 : Nat} {a1 : Int} {a2 : Int} (r_a1 : -2147483648 ≤ a1 ∧ a1 < 2147483648) (r_a2 : -2147483648 ≤ a2 ∧ a2 < 2147483648) 
    (h : wz_106 V X R Q QE  a0 a1 a2 I) : jc V 1 106 (0, 0) [.ref a0, jy a1, jy a2] X I R Q QE := by
  refine jy_met hV (by decide) (n := 3) (rt := some .boolean) (hh := []) (ini := false) (C := jx_c106) (L := [some (.ref a0), some (jy a1), some (jy a2)]) jt_106 (Nat.le_of_ble_eq_true rfl) rfl ?_
  intro J hS
  unfold wz_106 at h
  refine jy_aload_n hS rfl rfl ?_
  refine jy_iload_n hS rfl rfl ?_
  obtain ⟨g1, h⟩ := h
  refine jy_putI hS rfl (by decide) g1 ?_
  intro I2 e9
  have h := h I2 e9
  clear e9
  refine jy_aload_n hS rfl rfl ?_
  refine jy_iload_n hS rfl rfl ?_
  refine jy_putI hS rfl (by decide) g1 ?_
  intro I3 e9
  have h := h I3 e9
  clear e9
  refine jy_iconst hS rfl ?_
  exact jy_iret hS rfl rfl ⟨rfl, rfl, h⟩
theorem jt_107 : jx_ml 107 = 2 ∧ jx_rt 107 = some .boolean ∧ jx_hz 107 = [] ∧ decide ((jx_nm 107).name = "<init>") = false ∧ jx_code 107 = jx_c107 := by decide +kernel
/-- GC$Tape.failHere -/
def wz_107 (V : jx_V) (X : jx_X) (R : jx_R) (Q : Option Value → jx_I → Prop) (QE : String → jx_I → Prop)  (a0 : Nat) (a1 : Int) (I : jx_I) : Prop :=
  (X.2.1 a0 = some (8, 0)) ∧ (
  ∃ Q2 : Option Value → jx_I → Prop, (
  (jc V 1 106 (0, 0) [.ref a0, jy a1, jy ((I a0 3).toInt)] X I R Q2 (fun _ _ => False)) ∧ (
  ∀ rv I4, Q2 rv I4 → ∃ r5 : Int, rv = some (jy r5) ∧ (
  (r5 = 0 ∨ r5 = 1) ∧ (
  Q (some (jy r5)) I4)))))
set_option maxRecDepth 20000 in
theorem wm_107 {V : jx_V} (hV : V.1.stackTraces = false) {X : jx_X} {R : jx_R} {I : jx_I} {Q : Option Value → jx_I → Prop} {QE : String → jx_I → Prop} {a0 : Nat} {a1 : Int} (r_a1 : -2147483648 ≤ a1 ∧ a1 < 2147483648) 
    (h : wz_107 V X R Q QE  a0 a1 I) : jc V 2 107 (0, 0) [.ref a0, jy a1] X I R Q QE := by
  refine jy_met hV (by decide) (n := 2) (rt := some .boolean) (hh := []) (ini := false) (C := jx_c107) (L := [some (.ref a0), some (jy a1)]) jt_107 (Nat.le_of_ble_eq_true rfl) rfl ?_
  intro J hS
  unfold wz_107 at h
  refine jy_aload_n hS rfl rfl ?_
  refine jy_iload_n hS rfl rfl ?_
  refine jy_aload_n hS rfl rfl ?_
  obtain ⟨g1, h⟩ := h
  refine jy_getI hS rfl (by decide) g1 ?_
  obtain ⟨Q2, h⟩ := h
  obtain ⟨g3, h⟩ := h
  refine jy_callV hS rfl rfl rfl (Nat.le_of_ble_eq_true rfl) (Or.inl g1) g3 (by decide) ⟨by decide, by decide⟩ (Nat.le_of_ble_eq_true rfl) ?_ ?_
  rotate_left
  · exact fun Ex Xx Ix Rx hp => hp.2.2.2.elim
  intro rv Xx I4 Rx hp
  obtain ⟨e1, e2, hp⟩ := hp
  rw [e1, e2]
  clear e1 e2
  obtain ⟨r5, e1, h⟩ := h rv I4 hp
  rw [e1]
  clear e1
  change J 9 [jy r5] _ (0, 0) _ _ _
  obtain ⟨g6, h⟩ := h
  exact jy_iret hS rfl (by rcases g6 with q | q <;> rw [q] <;> rfl) ⟨rfl, rfl, h⟩
theorem jt_108 : jx_ml 108 = 2 ∧ jx_rt 108 = some .boolean ∧ jx_hz 108 = [] ∧ decide ((jx_nm 108).name = "<init>") = false ∧ jx_code 108 = jx_c108 := by decide +kernel
/-- GC$Tape.failAtWord -/
def wz_108 (V : jx_V) (X : jx_X) (R : jx_R) (Q : Option Value → jx_I → Prop) (QE : String → jx_I → Prop)  (a0 : Nat) (a1 : Int) (I : jx_I) : Prop :=
  (X.2.1 a0 = some (8, 0)) ∧ (
  ∃ Q2 : Option Value → jx_I → Prop, (
  (jc V 1 106 (0, 0) [.ref a0, jy a1, jy ((I a0 4).toInt)] X I R Q2 (fun _ _ => False)) ∧ (
  ∀ rv I4, Q2 rv I4 → ∃ r5 : Int, rv = some (jy r5) ∧ (
  (r5 = 0 ∨ r5 = 1) ∧ (
  Q (some (jy r5)) I4)))))
set_option maxRecDepth 20000 in
theorem wm_108 {V : jx_V} (hV : V.1.stackTraces = false) {X : jx_X} {R : jx_R} {I : jx_I} {Q : Option Value → jx_I → Prop} {QE : String → jx_I → Prop} {a0 : Nat} {a1 : Int} (r_a1 : -2147483648 ≤ a1 ∧ a1 < 2147483648) 
    (h : wz_108 V X R Q QE  a0 a1 I) : jc V 2 108 (0, 0) [.ref a0, jy a1] X I R Q QE := by
  refine jy_met hV (by decide) (n := 2) (rt := some .boolean) (hh := []) (ini := false) (C := jx_c108) (L := [some (.ref a0), some (jy a1)]) jt_108 (Nat.le_of_ble_eq_true rfl) rfl ?_
  intro J hS
  unfold wz_108 at h
  refine jy_aload_n hS rfl rfl ?_
  refine jy_iload_n hS rfl rfl ?_
  refine jy_aload_n hS rfl rfl ?_
  obtain ⟨g1, h⟩ := h
  refine jy_getI hS rfl (by decide) g1 ?_
  obtain ⟨Q2, h⟩ := h
  obtain ⟨g3, h⟩ := h
  refine jy_callV hS rfl rfl rfl (Nat.le_of_ble_eq_true rfl) (Or.inl g1) g3 (by decide) ⟨by decide, by decide⟩ (Nat.le_of_ble_eq_true rfl) ?_ ?_
  rotate_left
  · exact fun Ex Xx Ix Rx hp => hp.2.2.2.elim
  intro rv Xx I4 Rx hp
  obtain ⟨e1, e2, hp⟩ := hp
  rw [e1, e2]
  clear e1 e2
  obtain ⟨r5, e1, h⟩ := h rv I4 hp
  rw [e1]
  clear e1
  change J 9 [jy r5] _ (0, 0) _ _ _
  obtain ⟨g6, h⟩ := h
  exact jy_iret hS rfl (by rcases g6 with q | q <;> rw [q] <;> rfl) ⟨rfl, rfl, h⟩
theorem jt_109 : jx_ml 109 = 2 ∧ jx_rt 109 = some .boolean ∧ jx_hz 109 = [] ∧ decide ((jx_nm 109).name = "<init>") = false ∧ jx_code 109 = jx_c109 := by decide +kernel
/-- GC$Tape.failAtNumber -/
def wz_109 (V : jx_V) (X : jx_X) (R : jx_R) (Q : Option Value → jx_I → Prop) (QE : String → jx_I → Prop)  (a0 : Nat) (a1 : Int) (I : jx_I) : Prop :=
  (X.2.1 a0 = some (8, 0)) ∧ (
  ∃ Q2 : Option Value → jx_I → Prop, (
  (jc V 1 106 (0, 0) [.ref a0, jy a1, jy ((I a0 6).toInt)] X I R Q2 (fun _ _ => False)) ∧ (
  ∀ rv I4, Q2 rv I4 → ∃ r5 : Int, rv = some (jy r5) ∧ (
  (r5 = 0 ∨ r5 = 1) ∧ (
  Q (some (jy r5)) I4)))))
set_option maxRecDepth 20000 in
theorem wm_109 {V : jx_V} (hV : V.1.stackTraces = false) {X : jx_X} {R : jx_R} {I : jx_I} {Q : Option Value → jx_I → Prop} {QE : String → jx_I → Prop} {a0 : Nat} {a1 : Int} (r_a1 : -2147483648 ≤ a1 ∧ a1 < 2147483648) 
    (h : wz_109 V X R Q QE  a0 a1 I) : jc V 2 109 (0, 0) [.ref a0, jy a1] X I R Q QE := by
  refine jy_met hV (by decide) (n := 2) (rt := some .boolean) (hh := []) (ini := false) (C := jx_c109) (L := [some (.ref a0), some (jy a1)]) jt_109 (Nat.le_of_ble_eq_true rfl) rfl ?_
  intro J hS
  unfold wz_109 at h
  refine jy_aload_n hS rfl rfl ?_
  refine jy_iload_n hS rfl rfl ?_
  refine jy_aload_n hS rfl rfl ?_
  obtain ⟨g1, h⟩ := h
  refine jy_getI hS rfl (by decide) g1 ?_
  obtain ⟨Q2, h⟩ := h
  obtain ⟨g3, h⟩ := h
  refine jy_callV hS rfl rfl rfl (Nat.le_of_ble_eq_true rfl) (Or.inl g1) g3 (by decide) ⟨by decide, by decide⟩ (Nat.le_of_ble_eq_true rfl) ?_ ?_
  rotate_left
  · exact fun Ex Xx Ix Rx hp => hp.2.2.2.elim
  intro rv Xx I4 Rx hp
  obtain ⟨e1, e2, hp⟩ := hp
  rw [e1, e2]
  clear e1 e2
  obtain ⟨r5, e1, h⟩ := h rv I4 hp
  rw [e1]
  clear e1
  change J 9 [jy r5] _ (0, 0) _ _ _
  obtain ⟨g6, h⟩ := h
  exact jy_iret hS rfl (by rcases g6 with q | q <;> rw [q] <;> rfl) ⟨rfl, rfl, h⟩
theorem jt_110 : jx_ml 110 = 1 ∧ jx_rt 110 = some .boolean ∧ jx_hz 110 = [] ∧ decide ((jx_nm 110).name = "<init>") = false ∧ jx_code 110 = jx_c110 := by decide +kernel
/-- GC$Tape.hasEnded -/
def wz_110 (V : jx_V) (X : jx_X) (R : jx_R) (Q : Option Value → jx_I → Prop) (QE : String → jx_I → Prop)  (a0 : Nat) (I : jx_I) : Prop :=
  (X.2.1 a0 = some (8, 0)) ∧ (
  ((I a0 3).toInt < (I a0 2).toInt → (
    Q (some (jy 0)) I
  )) ∧ (¬ (I a0 3).toInt < (I a0 2).toInt → (
    Q (some (jy 1)) I
  )))
set_option maxRecDepth 20000 in
theorem wm_110 {V : jx_V} (hV : V.1.stackTraces = false) {X : jx_X} {R : jx_R} {I : jx_I} {Q : Option Value → jx_I → Prop} {QE : String → jx_I → Prop} {a0 : Nat}  
    (h : wz_110 V X R Q QE  a0 I) : jc V 1 110 (0, 0) [.ref a0] X I R Q QE := by
  refine jy_met hV (by decide) (n := 1) (rt := some .boolean) (hh := []) (ini := false) (C := jx_c110) (L := [some (.ref a0)]) jt_110 (Nat.le_of_ble_eq_true rfl) rfl ?_
  intro J hS
  unfold wz_110 at h
  refine jy_aload_n hS rfl rfl ?_
  obtain ⟨g1, h⟩ := h
  refine jy_getI hS rfl (by decide) g1 ?_
  refine jy_aload_n hS rfl rfl ?_
  refine jy_getI hS rfl (by decide) g1 ?_
  refine jy_icmp_lt hS rfl ⟨(jy_rng _), (jy_rng _)⟩ (fun hq => ?_) (fun hq => ?_)
  · have h := h.1 hq
    refine jy_iconst hS rfl ?_
    exact jy_iret hS rfl rfl ⟨rfl, rfl, h⟩
  · have h := h.2 hq
    refine jy_iconst hS rfl ?_
    refine jy_goto hS rfl ?_
    exact jy_iret hS rfl rfl ⟨rfl, rfl, h⟩
theorem jt_111 : jx_ml 111 = 2 ∧ jx_rt 111 = some .boolean ∧ jx_hz 111 = [] ∧ decide ((jx_nm 111).name = "<init>") = false ∧ jx_code 111 = jx_c111 := by decide +kernel
/-- GC$Tape.isSign -/
def wz_111 (V : jx_V) (X : jx_X) (R : jx_R) (Q : Option Value → jx_I → Prop) (QE : String → jx_I → Prop)  (a0 : Nat) (a1 : Int) (I : jx_I) : Prop :=
  (X.2.1 a0 = some (8, 0)) ∧ (
  ((I a0 2).toInt ≤ (I a0 3).toInt → (
    Q (some (jy 0)) I
  )) ∧ (¬ (I a0 2).toInt ≤ (I a0 3).toInt → (
    ∃ q2 : Nat, (
    (R a0 0 = some q2) ∧ (
    ∃ n4 : Nat, (
    (X.2.1 q2 = some (100, n4) ∧ n4 < 2147483648) ∧ (
    (0 ≤ (I a0 3).toInt ∧ (I a0 3).toInt < n4) ∧ (
    ((I q2 ((I a0 3).toInt).toNat).toInt ≠ a1 → (
      Q (some (jy 0)) I
    )) ∧ ((I q2 ((I a0 3).toInt).toNat).toInt = a1 → (
      Q (some (jy 1)) I
    )))))))
  )))
set_option maxRecDepth 20000 in
theorem wm_111 {V : jx_V} (hV : V.1.stackTraces = false) {X : jx_X} {R : jx_R} {I : jx_I} {Q : Option Value → jx_I → Prop} {QE : String → jx_I → Prop} {a0 : Nat} {a1 : Int} (r_a1 : -2147483648 ≤ a1 ∧ a1 < 2147483648) 
    (h : wz_111 V X R Q QE  a0 a1 I) : jc V 1 111 (0, 0) [.ref a0, jy a1] X I R Q QE := by
  refine jy_met hV (by decide) (n := 2) (rt := some .boolean) (hh := []) (ini := false) (C := jx_c111) (L := [some (.ref a0), some (jy a1)]) jt_111 (Nat.le_of_ble_eq_true rfl) rfl ?_
  intro J hS
  unfold wz_111 at h
  refine jy_aload_n hS rfl rfl ?_
  obtain ⟨g1, h⟩ := h
  refine jy_getI hS rfl (by decide) g1 ?_
  refine jy_aload_n hS rfl rfl ?_
  refine jy_getI hS rfl (by decide) g1 ?_
  refine jy_icmp_ge hS rfl ⟨(jy_rng _), (jy_rng _)⟩ (fun hq => ?_) (fun hq => ?_)
  · have h := h.1 hq
    refine jy_iconst hS rfl ?_
    exact jy_iret hS rfl rfl ⟨rfl, rfl, h⟩
  · have h := h.2 hq
    refine jy_aload_n hS rfl rfl ?_
    obtain ⟨q2, h⟩ := h
    obtain ⟨g3, h⟩ := h
    refine jy_getR hS rfl (by decide) g1 g3 ?_
    refine jy_aload_n hS rfl rfl ?_
    refine jy_getI hS rfl (by decide) g1 ?_
    obtain ⟨n4, h⟩ := h
    obtain ⟨g5, h⟩ := h
    obtain ⟨g6, h⟩ := h
    refine jy_iald hS rfl g5.1 (Nat.le_of_lt g5.2) g6 ?_
    refine jy_iload_n hS rfl rfl ?_
    refine jy_icmp_ne hS rfl ⟨(jy_rng _), r_a1⟩ (fun hq => ?_) (fun hq => ?_)
    · have h := h.1 hq
      refine jy_iconst hS rfl ?_
      exact jy_iret hS rfl rfl ⟨rfl, rfl, h⟩
    · have h := h.2 hq
      refine jy_iconst hS rfl ?_
      refine jy_goto hS rfl ?_
      exact jy_iret hS rfl rfl ⟨rfl, rfl, h⟩
theorem jt_112 : jx_ml 112 = 2 ∧ jx_rt 112 = some .boolean ∧ jx_hz 112 = [] ∧ decide ((jx_nm 112).name = "<init>") = false ∧ jx_code 112 = jx_c112 := by decide +kernel
/-- GC$Tape.takesSign -/
def wz_112 (V : jx_V) (X : jx_X) (R : jx_R) (Q : Option Value → jx_I → Prop) (QE : String → jx_I → Prop)  (a0 : Nat) (a1 : Int) (I : jx_I) : Prop :=
  (X.2.1 a0 = some (8, 0)) ∧ (
  ((I a0 2).toInt ≤ (I a0 3).toInt → (
    Q (some (jy 0)) I
  )) ∧ (¬ (I a0 2).toInt ≤ (I a0 3).toInt → (
    ∃ q2 : Nat, (
    (R a0 0 = some q2) ∧ (
    ∃ n4 : Nat, (
    (X.2.1 q2 = some (100, n4) ∧ n4 < 2147483648) ∧ (
    (0 ≤ (I a0 3).toInt ∧ (I a0 3).toInt < n4) ∧ (
    ((I q2 ((I a0 3).toInt).toNat).toInt = a1 → (
      ∀ I7 : jx_I, I7 = jx_u I a0 3 (Int32.ofInt ((I a0 3).toInt + 1)) → (
      ∃ Q8 : Option Value → jx_I → Prop, (
      (jc V 1 119 (0, 0) [.ref a0] X I7 R Q8 (fun _ _ => False)) ∧ (
      ∀ rv I10, Q8 rv I10 → rv = none ∧ (
      Q (some (jy 1)) I10))))
    )) ∧ (¬ (I q2 ((I a0 3).toInt).toNat).toInt = a1 → (
      Q (some (jy 0)) I
    )))))))
  )))
set_option maxRecDepth 20000 in
theorem wm_112 {V : jx_V} (hV : V.1.stackTraces = false) {X : jx_X} {R : jx_R} {I : jx_I} {Q : Option Value → jx_I → Prop} {QE : String → jx_I → Prop} {a0 : Nat} {a1 : Int} (r_a1 : -2147483648 ≤ a1 ∧ a1 < 2147483648) 
    (h : wz_112 V X R Q QE  a0 a1 I) : jc V 2 112 (0, 0) [.ref a0, jy a1] X I R Q QE := by
  refine jy_met hV (by decide) (n := 2) (rt := some .boolean) (hh := []) (ini := false) (C := jx_c112) (L := [some (.ref a0), some (jy a1)]) jt_112 (Nat.le_of_ble_eq_true rfl) rfl ?_
  intro J hS
  unfold wz_112 at h
  refine jy_aload_n hS rfl rfl ?_
  obtain ⟨g1, h⟩ := h
  refine jy_getI hS rfl (by decide) g1 ?_
  refine jy_aload_n hS rfl rfl ?_
  refine jy_getI hS rfl (by decide) g1 ?_
  refine jy_icmp_ge hS rfl ⟨(jy_rng _), (jy_rng _)⟩ (fun hq => ?_) (fun hq => ?_)
  · have h := h.1 hq
    refine jy_iconst hS rfl ?_
    exact jy_iret hS rfl rfl ⟨rfl, rfl, h⟩
  · have h := h.2 hq
    refine jy_aload_n hS rfl rfl ?_
    obtain ⟨q2, h⟩ := h
    obtain ⟨g3, h⟩ := h
    refine jy_getR hS rfl (by decide) g1 g3 ?_
    refine jy_aload_n hS rfl rfl ?_
    refine jy_getI hS rfl (by decide) g1 ?_
    obtain ⟨n4, h⟩ := h
    obtain ⟨g5, h⟩ := h
    obtain ⟨g6, h⟩ := h
    refine jy_iald hS rfl g5.1 (Nat.le_of_lt g5.2) g6 ?_
    refine jy_iload_n hS rfl rfl ?_
    refine jy_icmp_eq hS rfl ⟨(jy_rng _), r_a1⟩ (fun hq => ?_) (fun hq => ?_)
    · have h := h.1 hq
      refine jy_aload_n hS rfl rfl ?_
      refine jy_dup hS rfl rfl ?_
      refine jy_getI hS rfl (by decide) g1 ?_
      refine jy_iconst hS rfl ?_
      refine jy_iadd hS rfl ?_
      refine jy_putI hS rfl (by decide) g1 ?_
      intro I7 e9
      have h := h I7 e9
      clear e9
      refine jy_aload_n hS rfl rfl ?_
      obtain ⟨Q8, h⟩ := h
      obtain ⟨g9, h⟩ := h
      refine jy_callV hS rfl rfl rfl (Nat.le_of_ble_eq_true rfl) (Or.inl g1) g9 (by decide) ⟨by decide, by decide⟩ (Nat.le_of_ble_eq_true rfl) ?_ ?_
      rotate_left
      · exact fun Ex Xx Ix Rx hp => hp.2.2.2.elim
      intro rv Xx I10 Rx hp
      obtain ⟨e1, e2, hp⟩ := hp
      rw [e1, e2]
      clear e1 e2
      obtain ⟨e1, h⟩ := h rv I10 hp
      rw [e1]
      clear e1
      change J 40 [] _ (0, 0) _ _ _
      refine jy_iconst hS rfl ?_
      exact jy_iret hS rfl rfl ⟨rfl, rfl, h⟩
    · have h := h.2 hq
      refine jy_iconst hS rfl ?_
      exact jy_iret hS rfl rfl ⟨rfl, rfl, h⟩
theorem jt_113 : jx_ml 113 = 2 ∧ jx_rt 113 = some .boolean ∧ jx_hz 113 = [] ∧ decide ((jx_nm 113).name = "<init>") = false ∧ jx_code 113 = jx_c113 := by decide +kernel
/-- GC$Tape.needsSign -/
def wz_113 (V : jx_V) (X : jx_X) (R : jx_R) (Q : Option Value → jx_I → Prop) (QE : String → jx_I → Prop)  (a0 : Nat) (a1 : Int) (I : jx_I) : Prop :=
  (X.2.1 a0 = some (8, 0)) ∧ (
  ∃ Q2 : Option Value → jx_I → Prop, (
  (jc V 2 112 (0, 0) [.ref a0, jy a1] X I R Q2 (fun _ _ => False)) ∧ (
  ∀ rv I4, Q2 rv I4 → ∃ r5 : Int, rv = some (jy r5) ∧ (
  (-2147483648 ≤ r5 ∧ r5 < 2147483648) ∧ (
  (r5 ≠ 0 → (
    Q (some (jy 1)) I4
  )) ∧ (r5 = 0 → (
    ∃ Q7 : Option Value → jx_I → Prop, (
    (jc V 1 106 (0, 0) [.ref a0, jy 1, jy ((I4 a0 3).toInt)] X I4 R Q7 (fun _ _ => False)) ∧ (
    ∀ rv I9, Q7 rv I9 → ∃ r10 : Int, rv = some (jy r10) ∧ (
    (-2147483648 ≤ r10 ∧ r10 < 2147483648) ∧ (
    (r10 = 0 → (
      Q (some (jy 0)) I9
    )) ∧ (¬ r10 = 0 → (
      Q (some (jy 1)) I9
    ))))))
  )))))))
set_option maxRecDepth 20000 in
theorem wm_113 {V : jx_V} (hV : V.1.stackTraces = false) {X : jx_X} {R : jx_R} {I : jx_I} {Q : Option Value → jx_I → Prop} {QE : String → jx_I → Prop} {a0 : Nat} {a1 : Int} (r_a1 : -2147483648 ≤ a1 ∧ a1 < 2147483648) 
    (h : wz_113 V X R Q QE  a0 a1 I) : jc V 3 113 (0, 0) [.ref a0, jy a1] X I R Q QE := by
  refine jy_met hV (by decide) (n := 2) (rt := some .boolean) (hh := []) (ini := false) (C := jx_c113) (L := [some (.ref a0), some (jy a1)]) jt_113 (Nat.le_of_ble_eq_true rfl) rfl ?_
  intro J hS
  unfold wz_113 at h
  refine jy_aload_n hS rfl rfl ?_
  refine jy_iload_n hS rfl rfl ?_
  obtain ⟨g1, h⟩ := h
  obtain ⟨Q2, h⟩ := h
  obtain ⟨g3, h⟩ := h
  refine jy_callV hS rfl rfl rfl (Nat.le_of_ble_eq_true rfl) (Or.inl g1) g3 (by decide) ⟨by decide, by decide⟩ (Nat.le_of_ble_eq_true rfl) ?_ ?_
  rotate_left
  · exact fun Ex Xx Ix Rx hp => hp.2.2.2.elim
  intro rv Xx I4 Rx hp
  obtain ⟨e1, e2, hp⟩ := hp
  rw [e1, e2]
  clear e1 e2
  obtain ⟨r5, e1, h⟩ := h rv I4 hp
  rw [e1]
  clear e1
  change J 5 [jy r5] _ (0, 0) _ _ _
  obtain ⟨g6, h⟩ := h
  refine jy_if_ne hS rfl g6 (fun hq => ?_) (fun hq => ?_)
  · have h := h.1 hq
    refine jy_iconst hS rfl ?_
    refine jy_goto hS rfl ?_
    exact jy_iret hS rfl rfl ⟨rfl, rfl, h⟩
  · have h := h.2 hq
    refine jy_aload_n hS rfl rfl ?_
    refine jy_iconst hS rfl ?_
    refine jy_aload_n hS rfl rfl ?_
    refine jy_getI hS rfl (by decide) g1 ?_
    obtain ⟨Q7, h⟩ := h
    obtain ⟨g8, h⟩ := h
    refine jy_callV hS rfl rfl rfl (Nat.le_of_ble_eq_true rfl) (Or.inl g1) g8 (by decide) ⟨by decide, by decide⟩ (Nat.le_of_ble_eq_true rfl) ?_ ?_
    rotate_left
    · exact fun Ex Xx Ix Rx hp => hp.2.2.2.elim
    intro rv Xx I9 Rx hp
    obtain ⟨e1, e2, hp⟩ := hp
    rw [e1, e2]
    clear e1 e2
    obtain ⟨r10, e1, h⟩ := h rv I9 hp
    rw [e1]
    clear e1
    change J 17 [jy r10] _ (0, 0) _ _ _
    obtain ⟨g11, h⟩ := h
    refine jy_if_eq hS rfl g11 (fun hq => ?_) (fun hq => ?_)
    · have h := h.1 hq
      refine jy_iconst hS rfl ?_
      exact jy_iret hS rfl rfl ⟨rfl, rfl, h⟩
    · have h := h.2 hq
      refine jy_iconst hS rfl ?_
      refine jy_goto hS rfl ?_
      exact jy_iret hS rfl rfl ⟨rfl, rfl, h⟩
theorem jt_114 : jx_ml 114 = 1 ∧ jx_rt 114 = some .boolean ∧ jx_hz 114 = [] ∧ decide ((jx_nm 114).name = "<init>") = false ∧ jx_code 114 = jx_c114 := by decide +kernel
/-- GC$Tape.startsNumber -/
def wz_114 (V : jx_V) (X : jx_X) (R : jx_R) (Q : Option Value → jx_I → Prop) (QE : String → jx_I → Prop)  (a0 : Nat) (I : jx_I) : Prop :=
  (X.2.1 a0 = some (8, 0)) ∧ (
  ((I a0 2).toInt ≤ (I a0 3).toInt → (
    Q (some (jy 0)) I
  )) ∧ (¬ (I a0 2).toInt ≤ (I a0 3).toInt → (
    ∃ q2 : Nat, (
    (R a0 0 = some q2) ∧ (
    ∃ n4 : Nat, (
    (X.2.1 q2 = some (100, n4) ∧ n4 < 2147483648) ∧ (
    (0 ≤ (I a0 3).toInt ∧ (I a0 3).toInt < n4) ∧ (
    ((I q2 ((I a0 3).toInt).toNat).toInt < 48 → (
      Q (some (jy 0)) I
    )) ∧ (¬ (I q2 ((I a0 3).toInt).toNat).toInt < 48 → (
      (0 ≤ (I a0 3).toInt ∧ (I a0 3).toInt < n4) ∧ (
      (57 < (I q2 ((I a0 3).toInt).toNat).toInt → (
        Q (some (jy 0)) I
      )) ∧ (¬ 57 < (I q2 ((I a0 3).toInt).toNat).toInt → (
        Q (some (jy 1)) I
      )))
    )))))))
  )))
set_option maxRecDepth 20000 in
theorem wm_114 {V : jx_V} (hV : V.1.stackTraces = false) {X : jx_X} {R : jx_R} {I : jx_I} {Q : Option Value → jx_I → Prop} {QE : String → jx_I → Prop} {a0 : Nat}  
    (h : wz_114 V X R Q QE  a0 I) : jc V 1 114 (0, 0) [.ref a0] X I R Q QE := by
  refine jy_met hV (by decide) (n := 1) (rt := some .boolean) (hh := []) (ini := false) (C := jx_c114) (L := [some (.ref a0)]) jt_114 (Nat.le_of_ble_eq_true rfl) rfl ?_
  intro J hS
  unfold wz_114 at h
  refine jy_aload_n hS rfl rfl ?_
  obtain ⟨g1, h⟩ := h
  refine jy_getI hS rfl (by decide) g1 ?_
  refine jy_aload_n hS rfl rfl ?_
  refine jy_getI hS rfl (by decide) g1 ?_
  refine jy_icmp_ge hS rfl ⟨(jy_rng _), (jy_rng _)⟩ (fun hq => ?_) (fun hq => ?_)
  · have h := h.1 hq
    refine jy_iconst hS rfl ?_
    exact jy_iret hS rfl rfl ⟨rfl, rfl, h⟩
  · have h := h.2 hq
    refine jy_aload_n hS rfl rfl ?_
    obtain ⟨q2, h⟩ := h
    obtain ⟨g3, h⟩ := h
    refine jy_getR hS rfl (by decide) g1 g3 ?_
    refine jy_aload_n hS rfl rfl ?_
    refine jy_getI hS rfl (by decide) g1 ?_
    obtain ⟨n4, h⟩ := h
    obtain ⟨g5, h⟩ := h
    obtain ⟨g6, h⟩ := h
    refine jy_iald hS rfl g5.1 (Nat.le_of_lt g5.2) g6 ?_
    refine jy_bipush hS rfl (by decide) ?_
    refine jy_icmp_lt hS rfl ⟨(jy_rng _), ⟨by decide, by decide⟩⟩ (fun hq => ?_) (fun hq => ?_)
    · have h := h.1 hq
      refine jy_iconst hS rfl ?_
      exact jy_iret hS rfl rfl ⟨rfl, rfl, h⟩
    · have h := h.2 hq
      refine jy_aload_n hS rfl rfl ?_
      refine jy_getR hS rfl (by decide) g1 g3 ?_
      refine jy_aload_n hS rfl rfl ?_
      refine jy_getI hS rfl (by decide) g1 ?_
      obtain ⟨g7, h⟩ := h
      refine jy_iald hS rfl g5.1 (Nat.le_of_lt g5.2) g7 ?_
      refine jy_bipush hS rfl (by decide) ?_
      refine jy_icmp_gt hS rfl ⟨(jy_rng _), ⟨by decide, by decide⟩⟩ (fun hq => ?_) (fun hq => ?_)
      · have h := h.1 hq
        refine jy_iconst hS rfl ?_
        exact jy_iret hS rfl rfl ⟨rfl, rfl, h⟩
      · have h := h.2 hq
        refine jy_iconst hS rfl ?_
        refine jy_goto hS rfl ?_
        exact jy_iret hS rfl rfl ⟨rfl, rfl, h⟩
theorem jt_115 : jx_ml 115 = 1 ∧ jx_rt 115 = some .boolean ∧ jx_hz 115 = [] ∧ decide ((jx_nm 115).name = "<init>") = false ∧ jx_code 115 = jx_c115 := by decide +kernel
/-- GC$Tape.startsWord -/
def wz_115 (V : jx_V) (X : jx_X) (R : jx_R) (Q : Option Value → jx_I → Prop) (QE : String → jx_I → Prop)  (a0 : Nat) (I : jx_I) : Prop :=
  (X.2.1 a0 = some (8, 0)) ∧ (
  ((I a0 2).toInt ≤ (I a0 3).toInt → (
    Q (some (jy 0)) I
  )) ∧ (¬ (I a0 2).toInt ≤ (I a0 3).toInt → (
    ∃ q2 : Nat, (
    (R a0 0 = some q2) ∧ (
    ∃ n4 : Nat, (
    (X.2.1 q2 = some (100, n4) ∧ n4 < 2147483648) ∧ (
    (0 ≤ (I a0 3).toInt ∧ (I a0 3).toInt < n4) ∧ (
    ((I q2 ((I a0 3).toInt).toNat).toInt < 97 → (
      Q (some (jy 0)) I
    )) ∧ (¬ (I q2 ((I a0 3).toInt).toNat).toInt < 97 → (
      (0 ≤ (I a0 3).toInt ∧ (I a0 3).toInt < n4) ∧ (
      (122 < (I q2 ((I a0 3).toInt).toNat).toInt → (
        Q (some (jy 0)) I
      )) ∧ (¬ 122 < (I q2 ((I a0 3).toInt).toNat).toInt → (
        Q (some (jy 1)) I
      )))
    )))))))
  )))
set_option maxRecDepth 20000 in
theorem wm_115 {V : jx_V} (hV : V.1.stackTraces = false) {X : jx_X} {R : jx_R} {I : jx_I} {Q : Option Value → jx_I → Prop} {QE : String → jx_I → Prop} {a0 : Nat}  
    (h : wz_115 V X R Q QE  a0 I) : jc V 1 115 (0, 0) [.ref a0] X I R Q QE := by
  refine jy_met hV (by decide) (n := 1) (rt := some .boolean) (hh := []) (ini := false) (C := jx_c115) (L := [some (.ref a0)]) jt_115 (Nat.le_of_ble_eq_true rfl) rfl ?_
  intro J hS
  unfold wz_115 at h
  refine jy_aload_n hS rfl rfl ?_
  obtain ⟨g1, h⟩ := h
  refine jy_getI hS rfl (by decide) g1 ?_
  refine jy_aload_n hS rfl rfl ?_
  refine jy_getI hS rfl (by decide) g1 ?_
  refine jy_icmp_ge hS rfl ⟨(jy_rng _), (jy_rng _)⟩ (fun hq => ?_) (fun hq => ?_)
  · have h := h.1 hq
    refine jy_iconst hS rfl ?_
    exact jy_iret hS rfl rfl ⟨rfl, rfl, h⟩
  · have h := h.2 hq
    refine jy_aload_n hS rfl rfl ?_
    obtain ⟨q2, h⟩ := h
    obtain ⟨g3, h⟩ := h
    refine jy_getR hS rfl (by decide) g1 g3 ?_
    refine jy_aload_n hS rfl rfl ?_
    refine jy_getI hS rfl (by decide) g1 ?_
    obtain ⟨n4, h⟩ := h
    obtain ⟨g5, h⟩ := h
    obtain ⟨g6, h⟩ := h
    refine jy_iald hS rfl g5.1 (Nat.le_of_lt g5.2) g6 ?_
    refine jy_bipush hS rfl (by decide) ?_
    refine jy_icmp_lt hS rfl ⟨(jy_rng _), ⟨by decide, by decide⟩⟩ (fun hq => ?_) (fun hq => ?_)
    · have h := h.1 hq
      refine jy_iconst hS rfl ?_
      exact jy_iret hS rfl rfl ⟨rfl, rfl, h⟩
    · have h := h.2 hq
      refine jy_aload_n hS rfl rfl ?_
      refine jy_getR hS rfl (by decide) g1 g3 ?_
      refine jy_aload_n hS rfl rfl ?_
      refine jy_getI hS rfl (by decide) g1 ?_
      obtain ⟨g7, h⟩ := h
      refine jy_iald hS rfl g5.1 (Nat.le_of_lt g5.2) g7 ?_
      refine jy_bipush hS rfl (by decide) ?_
      refine jy_icmp_gt hS rfl ⟨(jy_rng _), ⟨by decide, by decide⟩⟩ (fun hq => ?_) (fun hq => ?_)
      · have h := h.1 hq
        refine jy_iconst hS rfl ?_
        exact jy_iret hS rfl rfl ⟨rfl, rfl, h⟩
      · have h := h.2 hq
        refine jy_iconst hS rfl ?_
        refine jy_goto hS rfl ?_
        exact jy_iret hS rfl rfl ⟨rfl, rfl, h⟩
theorem jt_116 : jx_ml 116 = 1 ∧ jx_rt 116 = none ∧ jx_hz 116 = [] ∧ decide ((jx_nm 116).name = "<init>") = false ∧ jx_code 116 = jx_c116 := by decide +kernel
/-- GC$Tape.readWord, from 8 -/
def wz_116_8 (V : jx_V) (X : jx_X) (R : jx_R) (Q : Option Value → jx_I → Prop) (QE : String → jx_I → Prop) (J8 : jx_I → Prop) (a0 : Nat)  (I : jx_I) : Prop :=
  (X.2.1 a0 = some (8, 0)) ∧ (
  ((I a0 2).toInt ≤ (I a0 3).toInt → (
    ∀ I4 : jx_I, I4 = jx_u I a0 5 (Int32.ofInt ((I a0 3).toInt)) → (
    ∃ Q5 : Option Value → jx_I → Prop, (
    (jc V 1 119 (0, 0) [.ref a0] X I4 R Q5 (fun _ _ => False)) ∧ (
    ∀ rv I7, Q5 rv I7 → rv = none ∧ (
    Q none I7))))
  )) ∧ (¬ (I a0 2).toInt ≤ (I a0 3).toInt → (
    ∃ q9 : Nat, (
    (R a0 0 = some q9) ∧ (
    ∃ n11 : Nat, (
    (X.2.1 q9 = some (100, n11) ∧ n11 < 2147483648) ∧ (
    (0 ≤ (I a0 3).toInt ∧ (I a0 3).toInt < n11) ∧ (
    ((I q9 ((I a0 3).toInt).toNat).toInt < 97 → (
      ∀ I14 : jx_I, I14 = jx_u I a0 5 (Int32.ofInt ((I a0 3).toInt)) → (
      ∃ Q15 : Option Value → jx_I → Prop, (
      (jc V 1 119 (0, 0) [.ref a0] X I14 R Q15 (fun _ _ => False)) ∧ (
      ∀ rv I17, Q15 rv I17 → rv = none ∧ (
      Q none I17))))
    )) ∧ (¬ (I q9 ((I a0 3).toInt).toNat).toInt < 97 → (
      (0 ≤ (I a0 3).toInt ∧ (I a0 3).toInt < n11) ∧ (
      (122 < (I q9 ((I a0 3).toInt).toNat).toInt → (
        ∀ I20 : jx_I, I20 = jx_u I a0 5 (Int32.ofInt ((I a0 3).toInt)) → (
        ∃ Q21 : Option Value → jx_I → Prop, (
        (jc V 1 119 (0, 0) [.ref a0] X I20 R Q21 (fun _ _ => False)) ∧ (
        ∀ rv I23, Q21 rv I23 → rv = none ∧ (
        Q none I23))))
      )) ∧ (¬ 122 < (I q9 ((I a0 3).toInt).toNat).toInt → (
        ∀ I25 : jx_I, I25 = jx_u I a0 3 (Int32.ofInt ((I a0 3).toInt + 1)) → (
        J8 I25)
      )))
    )))))))
  )))
/-- GC$Tape.readWord -/
def wz_116 (V : jx_V) (X : jx_X) (R : jx_R) (Q : Option Value → jx_I → Prop) (QE : String → jx_I → Prop) (J8 : jx_I → Prop) (a0 : Nat) (I : jx_I) : Prop :=
  (X.2.1 a0 = some (8, 0)) ∧ (
  ∀ I2 : jx_I, I2 = jx_u I a0 4 (Int32.ofInt ((I a0 3).toInt)) → (
  J8 I2))
set_option maxRecDepth 20000 in
theorem wm_116 {V : jx_V} (hV : V.1.stackTraces = false) {X : jx_X} {R : jx_R} {I : jx_I} {Q : Option Value → jx_I → Prop} {QE : String → jx_I → Prop} {a0 : Nat}  
    (h : ∀ (J8 : jx_I → Prop), ((∀  I, wz_116_8 V X R Q QE J8 a0  I → J8  I)) → wz_116 V X R Q QE J8 a0 I) : jc V 2 116 (0, 0) [.ref a0] X I R Q QE := by
  refine jy_met hV (by decide) (n := 1) (rt := none) (hh := []) (ini := false) (C := jx_c116) (L := [some (.ref a0)]) jt_116 (Nat.le_of_ble_eq_true rfl) rfl ?_
  intro J hS
  have h := h (fun  I => J 8 [] [some (.ref a0)] (0, 0) X I R) ?_
  · unfold wz_116 at h
    refine jy_aload_n hS rfl rfl ?_
    refine jy_aload_n hS rfl rfl ?_
    obtain ⟨g1, h⟩ := h
    refine jy_getI hS rfl (by decide) g1 ?_
    refine jy_putI hS rfl (by decide) g1 ?_
    intro I2 e9
    have h := h I2 e9
    clear e9
    exact jy_join hS h rfl (jy_sub_s jy_sub_0)
  · intro  I h
    unfold wz_116_8 at h
    refine jy_aload_n hS rfl rfl ?_
    obtain ⟨g3, h⟩ := h
    refine jy_getI hS rfl (by decide) g3 ?_
    refine jy_aload_n hS rfl rfl ?_
    refine jy_getI hS rfl (by decide) g3 ?_
    refine jy_icmp_ge hS rfl ⟨(jy_rng _), (jy_rng _)⟩ (fun hq => ?_) (fun hq => ?_)
    · have h := h.1 hq
      refine jy_aload_n hS rfl rfl ?_
      refine jy_aload_n hS rfl rfl ?_
      refine jy_getI hS rfl (by decide) g3 ?_
      refine jy_putI hS rfl (by decide) g3 ?_
      intro I4 e9
      have h := h I4 e9
      clear e9
      refine jy_aload_n hS rfl rfl ?_
      obtain ⟨Q5, h⟩ := h
      obtain ⟨g6, h⟩ := h
      refine jy_callV hS rfl rfl rfl (Nat.le_of_ble_eq_true rfl) (Or.inl g3) g6 (by decide) ⟨by decide, by decide⟩ (Nat.le_of_ble_eq_true rfl) ?_ ?_
      rotate_left
      · exact fun Ex Xx Ix Rx hp => hp.2.2.2.elim
      intro rv Xx I7 Rx hp
      obtain ⟨e1, e2, hp⟩ := hp
      rw [e1, e2]
      clear e1 e2
      obtain ⟨e1, h⟩ := h rv I7 hp
      rw [e1]
      clear e1
      change J 72 [] _ (0, 0) _ _ _
      exact jy_ret hS rfl rfl ⟨rfl, rfl, h⟩
    · have h := h.2 hq
      refine jy_aload_n hS rfl rfl ?_
      obtain ⟨q9, h⟩ := h
      obtain ⟨g10, h⟩ := h
      refine jy_getR hS rfl (by decide) g3 g10 ?_
      refine jy_aload_n hS rfl rfl ?_
      refine jy_getI hS rfl (by decide) g3 ?_
      obtain ⟨n11, h⟩ := h
      obtain ⟨g12, h⟩ := h
      obtain ⟨g13, h⟩ := h
      refine jy_iald hS rfl g12.1 (Nat.le_of_lt g12.2) g13 ?_
      refine jy_bipush hS rfl (by decide) ?_
      refine jy_icmp_lt hS rfl ⟨(jy_rng _), ⟨by decide, by decide⟩⟩ (fun hq => ?_) (fun hq => ?_)
      · have h := h.1 hq
        refine jy_aload_n hS rfl rfl ?_
        refine jy_aload_n hS rfl rfl ?_
        refine jy_getI hS rfl (by decide) g3 ?_
        refine jy_putI hS rfl (by decide) g3 ?_
        intro I14 e9
        have h := h I14 e9
        clear e9
        refine jy_aload_n hS rfl rfl ?_
        obtain ⟨Q15, h⟩ := h
        obtain ⟨g16, h⟩ := h
        refine jy_callV hS rfl rfl rfl (Nat.le_of_ble_eq_true rfl) (Or.inl g3) g16 (by decide) ⟨by decide, by decide⟩ (Nat.le_of_ble_eq_true rfl) ?_ ?_
        rotate_left
        · exact fun Ex Xx Ix Rx hp => hp.2.2.2.elim
        intro rv Xx I17 Rx hp
        obtain ⟨e1, e2, hp⟩ := hp
        rw [e1, e2]
        clear e1 e2
        obtain ⟨e1, h⟩ := h rv I17 hp
        rw [e1]
        clear e1
        change J 72 [] _ (0, 0) _ _ _
        exact jy_ret hS rfl rfl ⟨rfl, rfl, h⟩
      · have h := h.2 hq
        refine jy_aload_n hS rfl rfl ?_
        refine jy_getR hS rfl (by decide) g3 g10 ?_
        refine jy_aload_n hS rfl rfl ?_
        refine jy_getI hS rfl (by decide) g3 ?_
        obtain ⟨g19, h⟩ := h
        refine jy_iald hS rfl g12.1 (Nat.le_of_lt g12.2) g19 ?_
        refine jy_bipush hS rfl (by decide) ?_
        refine jy_icmp_gt hS rfl ⟨(jy_rng _), ⟨by decide, by decide⟩⟩ (fun hq => ?_) (fun hq => ?_)
        · have h := h.1 hq
          refine jy_aload_n hS rfl rfl ?_
          refine jy_aload_n hS rfl rfl ?_
          refine jy_getI hS rfl (by decide) g3 ?_
          refine jy_putI hS rfl (by decide) g3 ?_
          intro I20 e9
          have h := h I20 e9
          clear e9
          refine jy_aload_n hS rfl rfl ?_
          obtain ⟨Q21, h⟩ := h
          obtain ⟨g22, h⟩ := h
          refine jy_callV hS rfl rfl rfl (Nat.le_of_ble_eq_true rfl) (Or.inl g3) g22 (by decide) ⟨by decide, by decide⟩ (Nat.le_of_ble_eq_true rfl) ?_ ?_
          rotate_left
          · exact fun Ex Xx Ix Rx hp => hp.2.2.2.elim
          intro rv Xx I23 Rx hp
          obtain ⟨e1, e2, hp⟩ := hp
          rw [e1, e2]
          clear e1 e2
          obtain ⟨e1, h⟩ := h rv I23 hp
          rw [e1]
          clear e1
          change J 72 [] _ (0, 0) _ _ _
          exact jy_ret hS rfl rfl ⟨rfl, rfl, h⟩
        · have h := h.2 hq
          refine jy_aload_n hS rfl rfl ?_
          refine jy_dup hS rfl rfl ?_
          refine jy_getI hS rfl (by decide) g3 ?_
          refine jy_iconst hS rfl ?_
          refine jy_iadd hS rfl ?_
          refine jy_putI hS rfl (by decide) g3 ?_
          intro I25 e9
          have h := h I25 e9
          clear e9
          refine jy_goto hS rfl ?_
          exact jy_join hS h rfl (jy_sub_s jy_sub_0)
