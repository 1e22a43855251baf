theorem jt_25 : jx_ml 25 = 4 ∧ jx_rt 25 = some .boolean ∧ jx_hz 25 = [] ∧ decide ((jx_nm 25).name = "<init>") = false ∧ jx_code 25 = jx_c25 := by decide +kernel
/-- GC$Land.readClause -/
def wz_25 (V : jx_V) (X : jx_X) (R : jx_R) (Q : Option Value → jx_I → Prop) (QE : String → jx_I → Prop)  (a0 : Nat) (a1 : Nat) (a2 : Int) (I : jx_I) : Prop :=
  (X.2.1 a1 = some (8, 0)) ∧ (
  ∃ Q2 : Option Value → jx_I → Prop, (
  (jc V 2 116 (0, 0) [.ref a1] X I R Q2 (fun _ _ => False)) ∧ (
  ∀ rv I4, Q2 rv I4 → rv = none ∧ (
  (X.2.1 a0 = some (2, 0)) ∧ (
  ∃ Q7 : Option Value → jx_I → Prop, (
  (jc V 6 26 (0, 0) [.ref a0, .ref a1] X I4 R Q7 (fun _ _ => False)) ∧ (
  ∀ rv I9, Q7 rv I9 → ∃ r10 : Int, rv = some (jy r10) ∧ (
  (-2147483648 ≤ r10 ∧ r10 < 2147483648) ∧ (
  (0 ≤ r10 → (
    (a2 < 60 → (
      ((r10 < 0 ∨ 5 < r10) → (
        ∃ q12 : Nat, (
        (R a0 6 = some q12) ∧ (
        (X.2.1 q12 = some (3, 0)) ∧ (
        ∃ Q15 : Option Value → jx_I → Prop, (
        (jc V 1 45 (0, 0) [.ref q12] X I9 R Q15 (fun _ _ => False)) ∧ (
        ∀ rv I17, Q15 rv I17 → rv = none ∧ (
        ∃ d20 : Nat, d20 < 201 ∧ (
        ∃ Q19 : Option Value → jx_I → Prop, (
        (jc V d20 46 (0, 0) [.ref q12, .ref a1, jy 0] X I17 R Q19 (fun _ _ => False)) ∧ (
        ∀ rv I23, Q19 rv I23 → ∃ r24 : Int, rv = some (jy r24) ∧ (
        (r24 = 0 ∨ r24 = 1) ∧ (
        Q (some (jy r24)) I23)))))))))))
      ))
      ∧ (r10 = 0 → (
        ∃ Q26 : Option Value → jx_I → Prop, (
        (jc V 3 27 (0, 0) [.ref a0, .ref a1] X I9 R Q26 (fun _ _ => False)) ∧ (
        ∀ rv I28, Q26 rv I28 → ∃ r29 : Int, rv = some (jy r29) ∧ (
        (r29 = 0 ∨ r29 = 1) ∧ (
        Q (some (jy r29)) I28))))
      ))
      ∧ (r10 = 1 → (
        ∃ Q31 : Option Value → jx_I → Prop, (
        (jc V 4 29 (0, 0) [.ref a0, .ref a1] X I9 R Q31 (fun _ _ => False)) ∧ (
        ∀ rv I33, Q31 rv I33 → ∃ r34 : Int, rv = some (jy r34) ∧ (
        (r34 = 0 ∨ r34 = 1) ∧ (
        Q (some (jy r34)) I33))))
      ))
      ∧ (r10 = 2 → (
        ∃ Q36 : Option Value → jx_I → Prop, (
        (jc V 3 28 (0, 0) [.ref a0, .ref a1] X I9 R Q36 (fun _ _ => False)) ∧ (
        ∀ rv I38, Q36 rv I38 → ∃ r39 : Int, rv = some (jy r39) ∧ (
        (r39 = 0 ∨ r39 = 1) ∧ (
        Q (some (jy r39)) I38))))
      ))
      ∧ (r10 = 3 → (
        ∃ Q41 : Option Value → jx_I → Prop, (
        (jc V 4 30 (0, 0) [.ref a0, .ref a1] X I9 R Q41 (fun _ _ => False)) ∧ (
        ∀ rv I43, Q41 rv I43 → ∃ r44 : Int, rv = some (jy r44) ∧ (
        (r44 = 0 ∨ r44 = 1) ∧ (
        Q (some (jy r44)) I43))))
      ))
      ∧ (r10 = 4 → (
        ∃ Q46 : Option Value → jx_I → Prop, (
        (jc V 4 31 (0, 0) [.ref a0, .ref a1] X I9 R Q46 (fun _ _ => False)) ∧ (
        ∀ rv I48, Q46 rv I48 → ∃ r49 : Int, rv = some (jy r49) ∧ (
        (r49 = 0 ∨ r49 = 1) ∧ (
        Q (some (jy r49)) I48))))
      ))
      ∧ (r10 = 5 → (
        ∃ Q51 : Option Value → jx_I → Prop, (
        (jc V 4 32 (0, 0) [.ref a0, .ref a1] X I9 R Q51 (fun _ _ => False)) ∧ (
        ∀ rv I53, Q51 rv I53 → ∃ r54 : Int, rv = some (jy r54) ∧ (
        (r54 = 0 ∨ r54 = 1) ∧ (
        Q (some (jy r54)) I53))))
      ))
    )) ∧ (¬ a2 < 60 → (
      ∃ Q56 : Option Value → jx_I → Prop, (
      (jc V 2 108 (0, 0) [.ref a1, jy 3] X I9 R Q56 (fun _ _ => False)) ∧ (
      ∀ rv I58, Q56 rv I58 → ∃ r59 : Int, rv = some (jy r59) ∧ (
      (r59 = 0 ∨ r59 = 1) ∧ (
      Q (some (jy r59)) I58))))
    ))
  )) ∧ (¬ 0 ≤ r10 → (
    ∃ Q61 : Option Value → jx_I → Prop, (
    (jc V 2 108 (0, 0) [.ref a1, jy 1] X I9 R Q61 (fun _ _ => False)) ∧ (
    ∀ rv I63, Q61 rv I63 → ∃ r64 : Int, rv = some (jy r64) ∧ (
    (r64 = 0 ∨ r64 = 1) ∧ (
    Q (some (jy r64)) I63))))
  )))))))))))
set_option maxRecDepth 20000 in
theorem wm_25 {V : jx_V} (hV : V.1.stackTraces = false) {X : jx_X} {R : jx_R} {I : jx_I} {Q : Option Value → jx_I → Prop} {QE : String → jx_I → Prop} {a0 : Nat} {a1 : Nat} {a2 : Int} (r_a2 : -2147483648 ≤ a2 ∧ a2 < 2147483648) 
    (h : wz_25 V X R Q QE  a0 a1 a2 I) : jc V 201 25 (0, 0) [.ref a0, .ref a1, jy a2] X I R Q QE := by
  refine jy_met hV (by decide) (n := 4) (rt := some .boolean) (hh := []) (ini := false) (C := jx_c25) (L := [some (.ref a0), some (.ref a1), some (jy a2), none]) jt_25 (Nat.le_of_ble_eq_true rfl) rfl ?_
  intro J hS
  unfold wz_25 at h
  refine jy_aload_n hS rfl rfl ?_
  obtain ⟨g1, h⟩ := h
  obtain ⟨Q2, h⟩ := h
  obtain ⟨g3, h⟩ := h
  refine jy_callV hS rfl rfl rfl (Nat.le_of_ble_eq_true rfl) (Or.inl g1) g3 (by decide) ⟨by decide, by decide⟩ (Nat.le_of_ble_eq_true rfl) ?_ ?_
  rotate_left
  · exact fun Ex Xx Ix Rx hp => hp.2.2.2.elim
  intro rv Xx I4 Rx hp
  obtain ⟨e1, e2, hp⟩ := hp
  rw [e1, e2]
  clear e1 e2
  obtain ⟨e1, h⟩ := h rv I4 hp
  rw [e1]
  clear e1
  change J 4 [] _ (0, 0) _ _ _
  refine jy_aload_n hS rfl rfl ?_
  refine jy_aload_n hS rfl rfl ?_
  obtain ⟨g6, h⟩ := h
  obtain ⟨Q7, h⟩ := h
  obtain ⟨g8, h⟩ := h
  refine jy_callV hS rfl rfl rfl (Nat.le_of_ble_eq_true rfl) (Or.inl g6) g8 (by decide) ⟨by decide, by decide⟩ (Nat.le_of_ble_eq_true rfl) ?_ ?_
  rotate_left
  · exact fun Ex Xx Ix Rx hp => hp.2.2.2.elim
  intro rv Xx I9 Rx hp
  obtain ⟨e1, e2, hp⟩ := hp
  rw [e1, e2]
  clear e1 e2
  obtain ⟨r10, e1, h⟩ := h rv I9 hp
  rw [e1]
  clear e1
  change J 9 [jy r10] _ (0, 0) _ _ _
  refine jy_istore_n hS rfl (Nat.le_of_ble_eq_true rfl) (L' := [some (.ref a0), some (.ref a1), some (jy a2), some (jy r10)]) rfl ?_
  refine jy_iload_n hS rfl rfl ?_
  obtain ⟨g11, h⟩ := h
  refine jy_if_ge hS rfl g11 (fun hq => ?_) (fun hq => ?_)
  · have h := h.1 hq
    refine jy_iload_n hS rfl rfl ?_
    refine jy_bipush hS rfl (by decide) ?_
    refine jy_icmp_lt hS rfl ⟨r_a2, ⟨by decide, by decide⟩⟩ (fun hq => ?_) (fun hq => ?_)
    · have h := h.1 hq
      refine jy_iload_n hS rfl rfl ?_
      refine jy_tsw hS rfl g11 (fun hq => ?_) (fun hq8 hq => ?_)
      · have h := h.1 hq
        refine ⟨by decide, ?_⟩
        change J 108 _ _ _ _ _ _
        refine jy_aload_n hS rfl rfl ?_
        obtain ⟨q12, h⟩ := h
        obtain ⟨g13, h⟩ := h
        refine jy_getR hS rfl (by decide) g6 g13 ?_
        obtain ⟨g14, h⟩ := h
        obtain ⟨Q15, h⟩ := h
        obtain ⟨g16, h⟩ := h
        refine jy_callV hS rfl rfl rfl (Nat.le_of_ble_eq_true rfl) (Or.inl g14) g16 (by decide) ⟨by decide, by decide⟩ (Nat.le_of_ble_eq_true rfl) ?_ ?_
        rotate_left
        · exact fun Ex Xx Ix Rx hp => hp.2.2.2.elim
        intro rv Xx I17 Rx hp
        obtain ⟨e1, e2, hp⟩ := hp
        rw [e1, e2]
        clear e1 e2
        obtain ⟨e1, h⟩ := h rv I17 hp
        rw [e1]
        clear e1
        change J 115 [] _ (0, 0) _ _ _
        refine jy_aload_n hS rfl rfl ?_
        refine jy_getR hS rfl (by decide) g6 g13 ?_
        refine jy_aload_n hS rfl rfl ?_
        refine jy_iconst hS rfl ?_
        obtain ⟨d20, g21, h⟩ := h
        obtain ⟨Q19, h⟩ := h
        obtain ⟨g22, h⟩ := h
        refine jy_callV hS rfl rfl rfl (Nat.le_of_ble_eq_true rfl) (Or.inl g14) g22 g21 ⟨by decide, by decide⟩ (Nat.le_of_ble_eq_true rfl) ?_ ?_
        rotate_left
        · exact fun Ex Xx Ix Rx hp => hp.2.2.2.elim
        intro rv Xx I23 Rx hp
        obtain ⟨e1, e2, hp⟩ := hp
        rw [e1, e2]
        clear e1 e2
        obtain ⟨r24, e1, h⟩ := h rv I23 hp
        rw [e1]
        clear e1
        change J 124 [jy r24] _ (0, 0) _ _ _
        obtain ⟨g25, h⟩ := h
        exact jy_iret hS rfl (by rcases g25 with q | q <;> rw [q] <;> rfl) ⟨rfl, rfl, h⟩
      · have h := h.2
        have hq7 : r10 = 0 ∨ r10 = 1 ∨ r10 = 2 ∨ r10 = 3 ∨ r10 = 4 ∨ r10 = 5 := by omega
        rcases hq7 with hq7 | hq7 | hq7 | hq7 | hq7 | hq7
        · have h := h.1 hq7
          refine ⟨39, by rw [hq7]; rfl, by decide, ?_⟩
          change J 72 _ _ _ _ _ _
          refine jy_aload_n hS rfl rfl ?_
          refine jy_aload_n hS rfl rfl ?_
          obtain ⟨Q26, h⟩ := h
          obtain ⟨g27, h⟩ := h
          refine jy_callV hS rfl rfl rfl (Nat.le_of_ble_eq_true rfl) (Or.inl g6) g27 (by decide) ⟨by decide, by decide⟩ (Nat.le_of_ble_eq_true rfl) ?_ ?_
          rotate_left
          · exact fun Ex Xx Ix Rx hp => hp.2.2.2.elim
          intro rv Xx I28 Rx hp
          obtain ⟨e1, e2, hp⟩ := hp
          rw [e1, e2]
          clear e1 e2
          obtain ⟨r29, e1, h⟩ := h rv I28 hp
          rw [e1]
          clear e1
          change J 77 [jy r29] _ (0, 0) _ _ _
          obtain ⟨g30, h⟩ := h
          exact jy_iret hS rfl (by rcases g30 with q | q <;> rw [q] <;> rfl) ⟨rfl, rfl, h⟩
        · have h := h.2.1 hq7
          refine ⟨45, by rw [hq7]; rfl, by decide, ?_⟩
          change J 78 _ _ _ _ _ _
          refine jy_aload_n hS rfl rfl ?_
          refine jy_aload_n hS rfl rfl ?_
          obtain ⟨Q31, h⟩ := h
          obtain ⟨g32, h⟩ := h
          refine jy_callV hS rfl rfl rfl (Nat.le_of_ble_eq_true rfl) (Or.inl g6) g32 (by decide) ⟨by decide, by decide⟩ (Nat.le_of_ble_eq_true rfl) ?_ ?_
          rotate_left
          · exact fun Ex Xx Ix Rx hp => hp.2.2.2.elim
          intro rv Xx I33 Rx hp
          obtain ⟨e1, e2, hp⟩ := hp
          rw [e1, e2]
          clear e1 e2
          obtain ⟨r34, e1, h⟩ := h rv I33 hp
          rw [e1]
          clear e1
          change J 83 [jy r34] _ (0, 0) _ _ _
          obtain ⟨g35, h⟩ := h
          exact jy_iret hS rfl (by rcases g35 with q | q <;> rw [q] <;> rfl) ⟨rfl, rfl, h⟩
        · have h := h.2.2.1 hq7
          refine ⟨51, by rw [hq7]; rfl, by decide, ?_⟩
          change J 84 _ _ _ _ _ _
          refine jy_aload_n hS rfl rfl ?_
          refine jy_aload_n hS rfl rfl ?_
          obtain ⟨Q36, h⟩ := h
          obtain ⟨g37, h⟩ := h
          refine jy_callV hS rfl rfl rfl (Nat.le_of_ble_eq_true rfl) (Or.inl g6) g37 (by decide) ⟨by decide, by decide⟩ (Nat.le_of_ble_eq_true rfl) ?_ ?_
          rotate_left
          · exact fun Ex Xx Ix Rx hp => hp.2.2.2.elim
          intro rv Xx I38 Rx hp
          obtain ⟨e1, e2, hp⟩ := hp
          rw [e1, e2]
          clear e1 e2
          obtain ⟨r39, e1, h⟩ := h rv I38 hp
          rw [e1]
          clear e1
          change J 89 [jy r39] _ (0, 0) _ _ _
          obtain ⟨g40, h⟩ := h
          exact jy_iret hS rfl (by rcases g40 with q | q <;> rw [q] <;> rfl) ⟨rfl, rfl, h⟩
        · have h := h.2.2.2.1 hq7
          refine ⟨57, by rw [hq7]; rfl, by decide, ?_⟩
          change J 90 _ _ _ _ _ _
          refine jy_aload_n hS rfl rfl ?_
          refine jy_aload_n hS rfl rfl ?_
          obtain ⟨Q41, h⟩ := h
          obtain ⟨g42, h⟩ := h
          refine jy_callV hS rfl rfl rfl (Nat.le_of_ble_eq_true rfl) (Or.inl g6) g42 (by decide) ⟨by decide, by decide⟩ (Nat.le_of_ble_eq_true rfl) ?_ ?_
          rotate_left
          · exact fun Ex Xx Ix Rx hp => hp.2.2.2.elim
          intro rv Xx I43 Rx hp
          obtain ⟨e1, e2, hp⟩ := hp
          rw [e1, e2]
          clear e1 e2
          obtain ⟨r44, e1, h⟩ := h rv I43 hp
          rw [e1]
          clear e1
          change J 95 [jy r44] _ (0, 0) _ _ _
          obtain ⟨g45, h⟩ := h
          exact jy_iret hS rfl (by rcases g45 with q | q <;> rw [q] <;> rfl) ⟨rfl, rfl, h⟩
        · have h := h.2.2.2.2.1 hq7
          refine ⟨63, by rw [hq7]; rfl, by decide, ?_⟩
          change J 96 _ _ _ _ _ _
          refine jy_aload_n hS rfl rfl ?_
          refine jy_aload_n hS rfl rfl ?_
          obtain ⟨Q46, h⟩ := h
          obtain ⟨g47, h⟩ := h
          refine jy_callV hS rfl rfl rfl (Nat.le_of_ble_eq_true rfl) (Or.inl g6) g47 (by decide) ⟨by decide, by decide⟩ (Nat.le_of_ble_eq_true rfl) ?_ ?_
          rotate_left
          · exact fun Ex Xx Ix Rx hp => hp.2.2.2.elim
          intro rv Xx I48 Rx hp
          obtain ⟨e1, e2, hp⟩ := hp
          rw [e1, e2]
          clear e1 e2
          obtain ⟨r49, e1, h⟩ := h rv I48 hp
          rw [e1]
          clear e1
          change J 101 [jy r49] _ (0, 0) _ _ _
          obtain ⟨g50, h⟩ := h
          exact jy_iret hS rfl (by rcases g50 with q | q <;> rw [q] <;> rfl) ⟨rfl, rfl, h⟩
        · have h := h.2.2.2.2.2 hq7
          refine ⟨69, by rw [hq7]; rfl, by decide, ?_⟩
          change J 102 _ _ _ _ _ _
          refine jy_aload_n hS rfl rfl ?_
          refine jy_aload_n hS rfl rfl ?_
          obtain ⟨Q51, h⟩ := h
          obtain ⟨g52, h⟩ := h
          refine jy_callV hS rfl rfl rfl (Nat.le_of_ble_eq_true rfl) (Or.inl g6) g52 (by decide) ⟨by decide, by decide⟩ (Nat.le_of_ble_eq_true rfl) ?_ ?_
          rotate_left
          · exact fun Ex Xx Ix Rx hp => hp.2.2.2.elim
          intro rv Xx I53 Rx hp
          obtain ⟨e1, e2, hp⟩ := hp
          rw [e1, e2]
          clear e1 e2
          obtain ⟨r54, e1, h⟩ := h rv I53 hp
          rw [e1]
          clear e1
          change J 107 [jy r54] _ (0, 0) _ _ _
          obtain ⟨g55, h⟩ := h
          exact jy_iret hS rfl (by rcases g55 with q | q <;> rw [q] <;> rfl) ⟨rfl, rfl, h⟩
    · have h := h.2 hq
      refine jy_aload_n hS rfl rfl ?_
      refine jy_iconst hS rfl ?_
      obtain ⟨Q56, h⟩ := h
      obtain ⟨g57, h⟩ := h
      refine jy_callV hS rfl rfl rfl (Nat.le_of_ble_eq_true rfl) (Or.inl g1) g57 (by decide) ⟨by decide, by decide⟩ (Nat.le_of_ble_eq_true rfl) ?_ ?_
      rotate_left
      · exact fun Ex Xx Ix Rx hp => hp.2.2.2.elim
      intro rv Xx I58 Rx hp
      obtain ⟨e1, e2, hp⟩ := hp
      rw [e1, e2]
      clear e1 e2
      obtain ⟨r59, e1, h⟩ := h rv I58 hp
      rw [e1]
      clear e1
      change J 31 [jy r59] _ (0, 0) _ _ _
      obtain ⟨g60, h⟩ := h
      exact jy_iret hS rfl (by rcases g60 with q | q <;> rw [q] <;> rfl) ⟨rfl, rfl, h⟩
  · have h := h.2 hq
    refine jy_aload_n hS rfl rfl ?_
    refine jy_iconst hS rfl ?_
    obtain ⟨Q61, h⟩ := h
    obtain ⟨g62, h⟩ := h
    refine jy_callV hS rfl rfl rfl (Nat.le_of_ble_eq_true rfl) (Or.inl g1) g62 (by decide) ⟨by decide, by decide⟩ (Nat.le_of_ble_eq_true rfl) ?_ ?_
    rotate_left
    · exact fun Ex Xx Ix Rx hp => hp.2.2.2.elim
    intro rv Xx I63 Rx hp
    obtain ⟨e1, e2, hp⟩ := hp
    rw [e1, e2]
    clear e1 e2
    obtain ⟨r64, e1, h⟩ := h rv I63 hp
    rw [e1]
    clear e1
    change J 19 [jy r64] _ (0, 0) _ _ _
    obtain ⟨g65, h⟩ := h
    exact jy_iret hS rfl (by rcases g65 with q | q <;> rw [q] <;> rfl) ⟨rfl, rfl, h⟩
theorem jt_26 : jx_ml 26 = 2 ∧ jx_rt 26 = some .int ∧ jx_hz 26 = [] ∧ decide ((jx_nm 26).name = "<init>") = false ∧ jx_code 26 = jx_c26 := by decide +kernel
/-- GC$Land.kindOfWord -/
def wz_26 (V : jx_V) (X : jx_X) (R : jx_R) (Q : Option Value → jx_I → Prop) (QE : String → jx_I → Prop)  (a0 : Nat) (a1 : Nat) (I : jx_I) : Prop :=
  (X.2.1 a1 = some (8, 0)) ∧ (
  ∃ Q2 : Option Value → jx_I → Prop, (
  (jc V 5 117 (0, 0) [.ref a1, .ref (V.2.2.2.1 1)] X I R Q2 (fun _ _ => False)) ∧ (
  ∀ rv I4, Q2 rv I4 → ∃ r5 : Int, rv = some (jy r5) ∧ (
  (-2147483648 ≤ r5 ∧ r5 < 2147483648) ∧ (
  (r5 = 0 → (
    ∃ Q7 : Option Value → jx_I → Prop, (
    (jc V 5 117 (0, 0) [.ref a1, .ref (V.2.2.2.1 2)] X I4 R Q7 (fun _ _ => False)) ∧ (
    ∀ rv I9, Q7 rv I9 → ∃ r10 : Int, rv = some (jy r10) ∧ (
    (-2147483648 ≤ r10 ∧ r10 < 2147483648) ∧ (
    (r10 = 0 → (
      ∃ Q12 : Option Value → jx_I → Prop, (
      (jc V 5 117 (0, 0) [.ref a1, .ref (V.2.2.2.1 3)] X I9 R Q12 (fun _ _ => False)) ∧ (
      ∀ rv I14, Q12 rv I14 → ∃ r15 : Int, rv = some (jy r15) ∧ (
      (-2147483648 ≤ r15 ∧ r15 < 2147483648) ∧ (
      (r15 = 0 → (
        ∃ Q17 : Option Value → jx_I → Prop, (
        (jc V 5 117 (0, 0) [.ref a1, .ref (V.2.2.2.1 4)] X I14 R Q17 (fun _ _ => False)) ∧ (
        ∀ rv I19, Q17 rv I19 → ∃ r20 : Int, rv = some (jy r20) ∧ (
        (-2147483648 ≤ r20 ∧ r20 < 2147483648) ∧ (
        (r20 = 0 → (
          ∃ Q22 : Option Value → jx_I → Prop, (
          (jc V 5 117 (0, 0) [.ref a1, .ref (V.2.2.2.1 5)] X I19 R Q22 (fun _ _ => False)) ∧ (
          ∀ rv I24, Q22 rv I24 → ∃ r25 : Int, rv = some (jy r25) ∧ (
          (-2147483648 ≤ r25 ∧ r25 < 2147483648) ∧ (
          (r25 = 0 → (
            ∃ Q27 : Option Value → jx_I → Prop, (
            (jc V 5 117 (0, 0) [.ref a1, .ref (V.2.2.2.1 6)] X I24 R Q27 (fun _ _ => False)) ∧ (
            ∀ rv I29, Q27 rv I29 → ∃ r30 : Int, rv = some (jy r30) ∧ (
            (-2147483648 ≤ r30 ∧ r30 < 2147483648) ∧ (
            (r30 = 0 → (
              ∃ Q32 : Option Value → jx_I → Prop, (
              (jc V 5 117 (0, 0) [.ref a1, .ref (V.2.2.2.1 7)] X I29 R Q32 (fun _ _ => False)) ∧ (
              ∀ rv I34, Q32 rv I34 → ∃ r35 : Int, rv = some (jy r35) ∧ (
              (-2147483648 ≤ r35 ∧ r35 < 2147483648) ∧ (
              (r35 = 0 → (
                Q (some (jy (-1))) I34
              )) ∧ (¬ r35 = 0 → (
                Q (some (jy 6)) I34
              ))))))
            )) ∧ (¬ r30 = 0 → (
              Q (some (jy 5)) I29
            ))))))
          )) ∧ (¬ r25 = 0 → (
            Q (some (jy 4)) I24
          ))))))
        )) ∧ (¬ r20 = 0 → (
          Q (some (jy 3)) I19
        ))))))
      )) ∧ (¬ r15 = 0 → (
        Q (some (jy 2)) I14
      ))))))
    )) ∧ (¬ r10 = 0 → (
      Q (some (jy 1)) I9
    ))))))
  )) ∧ (¬ r5 = 0 → (
    Q (some (jy 0)) I4
  )))))))
set_option maxRecDepth 20000 in
theorem wm_26 {V : jx_V} (hV : V.1.stackTraces = false) {X : jx_X} {R : jx_R} {I : jx_I} {Q : Option Value → jx_I → Prop} {QE : String → jx_I → Prop} {a0 : Nat} {a1 : Nat}  
    (h : wz_26 V X R Q QE  a0 a1 I) : jc V 6 26 (0, 0) [.ref a0, .ref a1] X I R Q QE := by
  refine jy_met hV (by decide) (n := 2) (rt := some .int) (hh := []) (ini := false) (C := jx_c26) (L := [some (.ref a0), some (.ref a1)]) jt_26 (Nat.le_of_ble_eq_true rfl) rfl ?_
  intro J hS
  unfold wz_26 at h
  refine jy_aload_n hS rfl rfl ?_
  refine jy_ldcS hS rfl ?_
  obtain ⟨g1, h⟩ := h
  obtain ⟨Q2, h⟩ := h
  obtain ⟨g3, h⟩ := h
  refine jy_callV hS rfl rfl rfl (Nat.le_of_ble_eq_true rfl) (Or.inl g1) g3 (by decide) ⟨by decide, by decide⟩ (Nat.le_of_ble_eq_true rfl) ?_ ?_
  rotate_left
  · exact fun Ex Xx Ix Rx hp => hp.2.2.2.elim
  intro rv Xx I4 Rx hp
  obtain ⟨e1, e2, hp⟩ := hp
  rw [e1, e2]
  clear e1 e2
  obtain ⟨r5, e1, h⟩ := h rv I4 hp
  rw [e1]
  clear e1
  change J 6 [jy r5] _ (0, 0) _ _ _
  obtain ⟨g6, h⟩ := h
  refine jy_if_eq hS rfl g6 (fun hq => ?_) (fun hq => ?_)
  · have h := h.1 hq
    refine jy_aload_n hS rfl rfl ?_
    refine jy_ldcS hS rfl ?_
    obtain ⟨Q7, h⟩ := h
    obtain ⟨g8, h⟩ := h
    refine jy_callV hS rfl rfl rfl (Nat.le_of_ble_eq_true rfl) (Or.inl g1) g8 (by decide) ⟨by decide, by decide⟩ (Nat.le_of_ble_eq_true rfl) ?_ ?_
    rotate_left
    · exact fun Ex Xx Ix Rx hp => hp.2.2.2.elim
    intro rv Xx I9 Rx hp
    obtain ⟨e1, e2, hp⟩ := hp
    rw [e1, e2]
    clear e1 e2
    obtain ⟨r10, e1, h⟩ := h rv I9 hp
    rw [e1]
    clear e1
    change J 17 [jy r10] _ (0, 0) _ _ _
    obtain ⟨g11, h⟩ := h
    refine jy_if_eq hS rfl g11 (fun hq => ?_) (fun hq => ?_)
    · have h := h.1 hq
      refine jy_aload_n hS rfl rfl ?_
      refine jy_ldcS hS rfl ?_
      obtain ⟨Q12, h⟩ := h
      obtain ⟨g13, h⟩ := h
      refine jy_callV hS rfl rfl rfl (Nat.le_of_ble_eq_true rfl) (Or.inl g1) g13 (by decide) ⟨by decide, by decide⟩ (Nat.le_of_ble_eq_true rfl) ?_ ?_
      rotate_left
      · exact fun Ex Xx Ix Rx hp => hp.2.2.2.elim
      intro rv Xx I14 Rx hp
      obtain ⟨e1, e2, hp⟩ := hp
      rw [e1, e2]
      clear e1 e2
      obtain ⟨r15, e1, h⟩ := h rv I14 hp
      rw [e1]
      clear e1
      change J 28 [jy r15] _ (0, 0) _ _ _
      obtain ⟨g16, h⟩ := h
      refine jy_if_eq hS rfl g16 (fun hq => ?_) (fun hq => ?_)
      · have h := h.1 hq
        refine jy_aload_n hS rfl rfl ?_
        refine jy_ldcS hS rfl ?_
        obtain ⟨Q17, h⟩ := h
        obtain ⟨g18, h⟩ := h
        refine jy_callV hS rfl rfl rfl (Nat.le_of_ble_eq_true rfl) (Or.inl g1) g18 (by decide) ⟨by decide, by decide⟩ (Nat.le_of_ble_eq_true rfl) ?_ ?_
        rotate_left
        · exact fun Ex Xx Ix Rx hp => hp.2.2.2.elim
        intro rv Xx I19 Rx hp
        obtain ⟨e1, e2, hp⟩ := hp
        rw [e1, e2]
        clear e1 e2
        obtain ⟨r20, e1, h⟩ := h rv I19 hp
        rw [e1]
        clear e1
        change J 39 [jy r20] _ (0, 0) _ _ _
        obtain ⟨g21, h⟩ := h
        refine jy_if_eq hS rfl g21 (fun hq => ?_) (fun hq => ?_)
        · have h := h.1 hq
          refine jy_aload_n hS rfl rfl ?_
          refine jy_ldcS hS rfl ?_
          obtain ⟨Q22, h⟩ := h
          obtain ⟨g23, h⟩ := h
          refine jy_callV hS rfl rfl rfl (Nat.le_of_ble_eq_true rfl) (Or.inl g1) g23 (by decide) ⟨by decide, by decide⟩ (Nat.le_of_ble_eq_true rfl) ?_ ?_
          rotate_left
          · exact fun Ex Xx Ix Rx hp => hp.2.2.2.elim
          intro rv Xx I24 Rx hp
          obtain ⟨e1, e2, hp⟩ := hp
          rw [e1, e2]
          clear e1 e2
          obtain ⟨r25, e1, h⟩ := h rv I24 hp
          rw [e1]
          clear e1
          change J 50 [jy r25] _ (0, 0) _ _ _
          obtain ⟨g26, h⟩ := h
          refine jy_if_eq hS rfl g26 (fun hq => ?_) (fun hq => ?_)
          · have h := h.1 hq
            refine jy_aload_n hS rfl rfl ?_
            refine jy_ldcS hS rfl ?_
            obtain ⟨Q27, h⟩ := h
            obtain ⟨g28, h⟩ := h
            refine jy_callV hS rfl rfl rfl (Nat.le_of_ble_eq_true rfl) (Or.inl g1) g28 (by decide) ⟨by decide, by decide⟩ (Nat.le_of_ble_eq_true rfl) ?_ ?_
            rotate_left
            · exact fun Ex Xx Ix Rx hp => hp.2.2.2.elim
            intro rv Xx I29 Rx hp
            obtain ⟨e1, e2, hp⟩ := hp
            rw [e1, e2]
            clear e1 e2
            obtain ⟨r30, e1, h⟩ := h rv I29 hp
            rw [e1]
            clear e1
            change J 61 [jy r30] _ (0, 0) _ _ _
            obtain ⟨g31, h⟩ := h
            refine jy_if_eq hS rfl g31 (fun hq => ?_) (fun hq => ?_)
            · have h := h.1 hq
              refine jy_aload_n hS rfl rfl ?_
              refine jy_ldcS hS rfl ?_
              obtain ⟨Q32, h⟩ := h
              obtain ⟨g33, h⟩ := h
              refine jy_callV hS rfl rfl rfl (Nat.le_of_ble_eq_true rfl) (Or.inl g1) g33 (by decide) ⟨by decide, by decide⟩ (Nat.le_of_ble_eq_true rfl) ?_ ?_
              rotate_left
              · exact fun Ex Xx Ix Rx hp => hp.2.2.2.elim
              intro rv Xx I34 Rx hp
              obtain ⟨e1, e2, hp⟩ := hp
              rw [e1, e2]
              clear e1 e2
              obtain ⟨r35, e1, h⟩ := h rv I34 hp
              rw [e1]
              clear e1
              change J 72 [jy r35] _ (0, 0) _ _ _
              obtain ⟨g36, h⟩ := h
              refine jy_if_eq hS rfl g36 (fun hq => ?_) (fun hq => ?_)
              · have h := h.1 hq
                refine jy_iconst hS rfl ?_
                exact jy_iret hS rfl rfl ⟨rfl, rfl, h⟩
              · have h := h.2 hq
                refine jy_bipush hS rfl (by decide) ?_
                refine jy_goto hS rfl ?_
                exact jy_iret hS rfl rfl ⟨rfl, rfl, h⟩
            · have h := h.2 hq
              refine jy_iconst hS rfl ?_
              exact jy_iret hS rfl rfl ⟨rfl, rfl, h⟩
          · have h := h.2 hq
            refine jy_iconst hS rfl ?_
            exact jy_iret hS rfl rfl ⟨rfl, rfl, h⟩
        · have h := h.2 hq
          refine jy_iconst hS rfl ?_
          exact jy_iret hS rfl rfl ⟨rfl, rfl, h⟩
      · have h := h.2 hq
        refine jy_iconst hS rfl ?_
        exact jy_iret hS rfl rfl ⟨rfl, rfl, h⟩
    · have h := h.2 hq
      refine jy_iconst hS rfl ?_
      exact jy_iret hS rfl rfl ⟨rfl, rfl, h⟩
  · have h := h.2 hq
    refine jy_iconst hS rfl ?_
    exact jy_iret hS rfl rfl ⟨rfl, rfl, h⟩
theorem jt_27 : jx_ml 27 = 3 ∧ jx_rt 27 = some .boolean ∧ jx_hz 27 = [] ∧ decide ((jx_nm 27).name = "<init>") = false ∧ jx_code 27 = jx_c27 := by decide +kernel
/-- GC$Land.readPlace -/
def wz_27 (V : jx_V) (X : jx_X) (R : jx_R) (Q : Option Value → jx_I → Prop) (QE : String → jx_I → Prop)  (a0 : Nat) (a1 : Nat) (I : jx_I) : Prop :=
  (X.2.1 a0 = some (2, 0)) ∧ (
  ((I a0 7).toInt < 10 → (
    (X.2.1 a1 = some (8, 0)) ∧ (
    ∃ Q3 : Option Value → jx_I → Prop, (
    (jc V 2 118 (0, 0) [.ref a1, jy 0, jy 3] X I R Q3 (fun _ _ => False)) ∧ (
    ∀ rv I5, Q3 rv I5 → ∃ r6 : Int, rv = some (jy r6) ∧ (
    (-2147483648 ≤ r6 ∧ r6 < 2147483648) ∧ (
    (0 ≤ r6 → (
      ∃ q8 : Nat, (
      (R a0 0 = some q8) ∧ (
      ∃ n10 : Nat, (
      (X.2.1 q8 = some (100, n10) ∧ n10 < 2147483648) ∧ (
      (0 ≤ (I5 a0 7).toInt ∧ (I5 a0 7).toInt < n10) ∧ (
      ∀ I13 : jx_I, I13 = jx_u I5 q8 ((I5 a0 7).toInt).toNat (Int32.ofInt r6) → (
      ∀ I14 : jx_I, I14 = jx_u I13 a0 7 (Int32.ofInt ((I13 a0 7).toInt + 1)) → (
      Q (some (jy 1)) I14)))))))
    )) ∧ (¬ 0 ≤ r6 → (
      Q (some (jy 0)) I5
    )))))))
  )) ∧ (¬ (I a0 7).toInt < 10 → (
    (X.2.1 a1 = some (8, 0)) ∧ (
    ∃ Q16 : Option Value → jx_I → Prop, (
    (jc V 2 108 (0, 0) [.ref a1, jy 3] X I R Q16 (fun _ _ => False)) ∧ (
    ∀ rv I18, Q16 rv I18 → ∃ r19 : Int, rv = some (jy r19) ∧ (
    (r19 = 0 ∨ r19 = 1) ∧ (
    Q (some (jy r19)) I18)))))
  )))
set_option maxRecDepth 20000 in
theorem wm_27 {V : jx_V} (hV : V.1.stackTraces = false) {X : jx_X} {R : jx_R} {I : jx_I} {Q : Option Value → jx_I → Prop} {QE : String → jx_I → Prop} {a0 : Nat} {a1 : Nat}  
    (h : wz_27 V X R Q QE  a0 a1 I) : jc V 3 27 (0, 0) [.ref a0, .ref a1] X I R Q QE := by
  refine jy_met hV (by decide) (n := 3) (rt := some .boolean) (hh := []) (ini := false) (C := jx_c27) (L := [some (.ref a0), some (.ref a1), none]) jt_27 (Nat.le_of_ble_eq_true rfl) rfl ?_
  intro J hS
  unfold wz_27 at h
  refine jy_aload_n hS rfl rfl ?_
  obtain ⟨g1, h⟩ := h
  refine jy_getI hS rfl (by decide) g1 ?_
  refine jy_bipush hS rfl (by decide) ?_
  refine jy_icmp_lt hS rfl ⟨(jy_rng _), ⟨by decide, by decide⟩⟩ (fun hq => ?_) (fun hq => ?_)
  · have h := h.1 hq
    refine jy_aload_n hS rfl rfl ?_
    refine jy_iconst hS rfl ?_
    refine jy_iconst hS rfl ?_
    obtain ⟨g2, h⟩ := h
    obtain ⟨Q3, h⟩ := h
    obtain ⟨g4, h⟩ := h
    refine jy_callV hS rfl rfl rfl (Nat.le_of_ble_eq_true rfl) (Or.inl g2) g4 (by decide) ⟨by decide, by decide⟩ (Nat.le_of_ble_eq_true rfl) ?_ ?_
    rotate_left
    · exact fun Ex Xx Ix Rx hp => hp.2.2.2.elim
    intro rv Xx I5 Rx hp
    obtain ⟨e1, e2, hp⟩ := hp
    rw [e1, e2]
    clear e1 e2
    obtain ⟨r6, e1, h⟩ := h rv I5 hp
    rw [e1]
    clear e1
    change J 21 [jy r6] _ (0, 0) _ _ _
    refine jy_istore_n hS rfl (Nat.le_of_ble_eq_true rfl) (L' := [some (.ref a0), some (.ref a1), some (jy r6)]) rfl ?_
    refine jy_iload_n hS rfl rfl ?_
    obtain ⟨g7, h⟩ := h
    refine jy_if_ge hS rfl g7 (fun hq => ?_) (fun hq => ?_)
    · have h := h.1 hq
      refine jy_aload_n hS rfl rfl ?_
      obtain ⟨q8, h⟩ := h
      obtain ⟨g9, h⟩ := h
      refine jy_getR hS rfl (by decide) g1 g9 ?_
      refine jy_aload_n hS rfl rfl ?_
      refine jy_getI hS rfl (by decide) g1 ?_
      refine jy_iload_n hS rfl rfl ?_
      obtain ⟨n10, h⟩ := h
      obtain ⟨g11, h⟩ := h
      obtain ⟨g12, h⟩ := h
      refine jy_iast hS rfl g11.1 (Nat.le_of_lt g11.2) g12 ?_
      intro I13 e9
      have h := h I13 e9
      clear e9
      refine jy_aload_n hS rfl rfl ?_
      refine jy_dup hS rfl rfl ?_
      refine jy_getI hS rfl (by decide) g1 ?_
      refine jy_iconst hS rfl ?_
      refine jy_iadd hS rfl ?_
      refine jy_putI hS rfl (by decide) g1 ?_
      intro I14 e9
      have h := h I14 e9
      clear e9
      refine jy_iconst hS rfl ?_
      exact jy_iret hS rfl rfl ⟨rfl, rfl, h⟩
    · have h := h.2 hq
      refine jy_iconst hS rfl ?_
      exact jy_iret hS rfl rfl ⟨rfl, rfl, h⟩
  · have h := h.2 hq
    refine jy_aload_n hS rfl rfl ?_
    refine jy_iconst hS rfl ?_
    obtain ⟨g15, h⟩ := h
    obtain ⟨Q16, h⟩ := h
    obtain ⟨g17, h⟩ := h
    refine jy_callV hS rfl rfl rfl (Nat.le_of_ble_eq_true rfl) (Or.inl g15) g17 (by decide) ⟨by decide, by decide⟩ (Nat.le_of_ble_eq_true rfl) ?_ ?_
    rotate_left
    · exact fun Ex Xx Ix Rx hp => hp.2.2.2.elim
    intro rv Xx I18 Rx hp
    obtain ⟨e1, e2, hp⟩ := hp
    rw [e1, e2]
    clear e1 e2
    obtain ⟨r19, e1, h⟩ := h rv I18 hp
    rw [e1]
    clear e1
    change J 14 [jy r19] _ (0, 0) _ _ _
    obtain ⟨g20, h⟩ := h
    exact jy_iret hS rfl (by rcases g20 with q | q <;> rw [q] <;> rfl) ⟨rfl, rfl, h⟩
theorem jt_28 : jx_ml 28 = 3 ∧ jx_rt 28 = some .boolean ∧ jx_hz 28 = [] ∧ decide ((jx_nm 28).name = "<init>") = false ∧ jx_code 28 = jx_c28 := by decide +kernel
/-- GC$Land.readCamel -/
def wz_28 (V : jx_V) (X : jx_X) (R : jx_R) (Q : Option Value → jx_I → Prop) (QE : String → jx_I → Prop)  (a0 : Nat) (a1 : Nat) (I : jx_I) : Prop :=
  (X.2.1 a0 = some (2, 0)) ∧ (
  ((I a0 8).toInt < 8 → (
    (X.2.1 a1 = some (8, 0)) ∧ (
    ∃ Q3 : Option Value → jx_I → Prop, (
    (jc V 2 118 (0, 0) [.ref a1, jy 0, jy 99] X I R Q3 (fun _ _ => False)) ∧ (
    ∀ rv I5, Q3 rv I5 → ∃ r6 : Int, rv = some (jy r6) ∧ (
    (-2147483648 ≤ r6 ∧ r6 < 2147483648) ∧ (
    (0 ≤ r6 → (
      ∃ q8 : Nat, (
      (R a0 2 = some q8) ∧ (
      ∃ n10 : Nat, (
      (X.2.1 q8 = some (100, n10) ∧ n10 < 2147483648) ∧ (
      (0 ≤ (I5 a0 8).toInt ∧ (I5 a0 8).toInt < n10) ∧ (
      ∀ I13 : jx_I, I13 = jx_u I5 q8 ((I5 a0 8).toInt).toNat (Int32.ofInt r6) → (
      ∀ I14 : jx_I, I14 = jx_u I13 a0 8 (Int32.ofInt ((I13 a0 8).toInt + 1)) → (
      Q (some (jy 1)) I14)))))))
    )) ∧ (¬ 0 ≤ r6 → (
      Q (some (jy 0)) I5
    )))))))
  )) ∧ (¬ (I a0 8).toInt < 8 → (
    (X.2.1 a1 = some (8, 0)) ∧ (
    ∃ Q16 : Option Value → jx_I → Prop, (
    (jc V 2 108 (0, 0) [.ref a1, jy 3] X I R Q16 (fun _ _ => False)) ∧ (
    ∀ rv I18, Q16 rv I18 → ∃ r19 : Int, rv = some (jy r19) ∧ (
    (r19 = 0 ∨ r19 = 1) ∧ (
    Q (some (jy r19)) I18)))))
  )))
set_option maxRecDepth 20000 in
theorem wm_28 {V : jx_V} (hV : V.1.stackTraces = false) {X : jx_X} {R : jx_R} {I : jx_I} {Q : Option Value → jx_I → Prop} {QE : String → jx_I → Prop} {a0 : Nat} {a1 : Nat}  
    (h : wz_28 V X R Q QE  a0 a1 I) : jc V 3 28 (0, 0) [.ref a0, .ref a1] X I R Q QE := by
  refine jy_met hV (by decide) (n := 3) (rt := some .boolean) (hh := []) (ini := false) (C := jx_c28) (L := [some (.ref a0), some (.ref a1), none]) jt_28 (Nat.le_of_ble_eq_true rfl) rfl ?_
  intro J hS
  unfold wz_28 at h
  refine jy_aload_n hS rfl rfl ?_
  obtain ⟨g1, h⟩ := h
  refine jy_getI hS rfl (by decide) g1 ?_
  refine jy_bipush hS rfl (by decide) ?_
  refine jy_icmp_lt hS rfl ⟨(jy_rng _), ⟨by decide, by decide⟩⟩ (fun hq => ?_) (fun hq => ?_)
  · have h := h.1 hq
    refine jy_aload_n hS rfl rfl ?_
    refine jy_iconst hS rfl ?_
    refine jy_bipush hS rfl (by decide) ?_
    obtain ⟨g2, h⟩ := h
    obtain ⟨Q3, h⟩ := h
    obtain ⟨g4, h⟩ := h
    refine jy_callV hS rfl rfl rfl (Nat.le_of_ble_eq_true rfl) (Or.inl g2) g4 (by decide) ⟨by decide, by decide⟩ (Nat.le_of_ble_eq_true rfl) ?_ ?_
    rotate_left
    · exact fun Ex Xx Ix Rx hp => hp.2.2.2.elim
    intro rv Xx I5 Rx hp
    obtain ⟨e1, e2, hp⟩ := hp
    rw [e1, e2]
    clear e1 e2
    obtain ⟨r6, e1, h⟩ := h rv I5 hp
    rw [e1]
    clear e1
    change J 22 [jy r6] _ (0, 0) _ _ _
    refine jy_istore_n hS rfl (Nat.le_of_ble_eq_true rfl) (L' := [some (.ref a0), some (.ref a1), some (jy r6)]) rfl ?_
    refine jy_iload_n hS rfl rfl ?_
    obtain ⟨g7, h⟩ := h
    refine jy_if_ge hS rfl g7 (fun hq => ?_) (fun hq => ?_)
    · have h := h.1 hq
      refine jy_aload_n hS rfl rfl ?_
      obtain ⟨q8, h⟩ := h
      obtain ⟨g9, h⟩ := h
      refine jy_getR hS rfl (by decide) g1 g9 ?_
      refine jy_aload_n hS rfl rfl ?_
      refine jy_getI hS rfl (by decide) g1 ?_
      refine jy_iload_n hS rfl rfl ?_
      obtain ⟨n10, h⟩ := h
      obtain ⟨g11, h⟩ := h
      obtain ⟨g12, h⟩ := h
      refine jy_iast hS rfl g11.1 (Nat.le_of_lt g11.2) g12 ?_
      intro I13 e9
      have h := h I13 e9
      clear e9
      refine jy_aload_n hS rfl rfl ?_
      refine jy_dup hS rfl rfl ?_
      refine jy_getI hS rfl (by decide) g1 ?_
      refine jy_iconst hS rfl ?_
      refine jy_iadd hS rfl ?_
      refine jy_putI hS rfl (by decide) g1 ?_
      intro I14 e9
      have h := h I14 e9
      clear e9
      refine jy_iconst hS rfl ?_
      exact jy_iret hS rfl rfl ⟨rfl, rfl, h⟩
    · have h := h.2 hq
      refine jy_iconst hS rfl ?_
      exact jy_iret hS rfl rfl ⟨rfl, rfl, h⟩
  · have h := h.2 hq
    refine jy_aload_n hS rfl rfl ?_
    refine jy_iconst hS rfl ?_
    obtain ⟨g15, h⟩ := h
    obtain ⟨Q16, h⟩ := h
    obtain ⟨g17, h⟩ := h
    refine jy_callV hS rfl rfl rfl (Nat.le_of_ble_eq_true rfl) (Or.inl g15) g17 (by decide) ⟨by decide, by decide⟩ (Nat.le_of_ble_eq_true rfl) ?_ ?_
    rotate_left
    · exact fun Ex Xx Ix Rx hp => hp.2.2.2.elim
    intro rv Xx I18 Rx hp
    obtain ⟨e1, e2, hp⟩ := hp
    rw [e1, e2]
    clear e1 e2
    obtain ⟨r19, e1, h⟩ := h rv I18 hp
    rw [e1]
    clear e1
    change J 14 [jy r19] _ (0, 0) _ _ _
    obtain ⟨g20, h⟩ := h
    exact jy_iret hS rfl (by rcases g20 with q | q <;> rw [q] <;> rfl) ⟨rfl, rfl, h⟩
theorem jt_29 : jx_ml 29 = 5 ∧ jx_rt 29 = some .boolean ∧ jx_hz 29 = [] ∧ decide ((jx_nm 29).name = "<init>") = false ∧ jx_code 29 = jx_c29 := by decide +kernel
/-- GC$Land.readRoad -/
def wz_29 (V : jx_V) (X : jx_X) (R : jx_R) (Q : Option Value → jx_I → Prop) (QE : String → jx_I → Prop)  (a0 : Nat) (a1 : Nat) (I : jx_I) : Prop :=
  (X.2.1 a0 = some (2, 0)) ∧ (
  ∃ Q2 : Option Value → jx_I → Prop, (
  (jc V 3 34 (0, 0) [.ref a0, .ref a1] X I R Q2 (fun _ _ => False)) ∧ (
  ∀ rv I4, Q2 rv I4 → ∃ r5 : Int, rv = some (jy r5) ∧ (
  (-2147483648 ≤ r5 ∧ r5 < 2147483648) ∧ (
  (0 ≤ r5 → (
    ∃ Q7 : Option Value → jx_I → Prop, (
    (jc V 3 34 (0, 0) [.ref a0, .ref a1] X I4 R Q7 (fun _ _ => False)) ∧ (
    ∀ rv I9, Q7 rv I9 → ∃ r10 : Int, rv = some (jy r10) ∧ (
    (-2147483648 ≤ r10 ∧ r10 < 2147483648) ∧ (
    (0 ≤ r10 → (
      (r5 ≠ r10 → (
        (X.2.1 a1 = some (8, 0)) ∧ (
        ∃ Q13 : Option Value → jx_I → Prop, (
        (jc V 2 118 (0, 0) [.ref a1, jy 1, jy 24] X I9 R Q13 (fun _ _ => False)) ∧ (
        ∀ rv I15, Q13 rv I15 → ∃ r16 : Int, rv = some (jy r16) ∧ (
        (-2147483648 ≤ r16 ∧ r16 < 2147483648) ∧ (
        (0 ≤ r16 → (
          ∃ q18 : Nat, (
          (R a0 1 = some q18) ∧ (
          ∃ n20 : Nat, (
          (X.2.1 q18 = some (100, n20) ∧ n20 < 2147483648) ∧ (
          (0 ≤ ((r5 * 10) + r10) ∧ ((r5 * 10) + r10) < n20) ∧ (
          ∀ I23 : jx_I, I23 = jx_u I15 q18 ((r5 * 10) + r10).toNat (Int32.ofInt r16) → (
          (0 ≤ ((r10 * 10) + r5) ∧ ((r10 * 10) + r5) < n20) ∧ (
          ∀ I25 : jx_I, I25 = jx_u I23 q18 ((r10 * 10) + r5).toNat (Int32.ofInt r16) → (
          Q (some (jy 1)) I25))))))))
        )) ∧ (¬ 0 ≤ r16 → (
          Q (some (jy 0)) I15
        )))))))
      )) ∧ (r5 = r10 → (
        (X.2.1 a1 = some (8, 0)) ∧ (
        ∃ Q27 : Option Value → jx_I → Prop, (
        (jc V 2 109 (0, 0) [.ref a1, jy 2] X I9 R Q27 (fun _ _ => False)) ∧ (
        ∀ rv I29, Q27 rv I29 → ∃ r30 : Int, rv = some (jy r30) ∧ (
        (r30 = 0 ∨ r30 = 1) ∧ (
        Q (some (jy r30)) I29)))))
      ))
    )) ∧ (¬ 0 ≤ r10 → (
      Q (some (jy 0)) I9
    ))))))
  )) ∧ (¬ 0 ≤ r5 → (
    Q (some (jy 0)) I4
  )))))))
set_option maxRecDepth 20000 in
theorem wm_29 {V : jx_V} (hV : V.1.stackTraces = false) {X : jx_X} {R : jx_R} {I : jx_I} {Q : Option Value → jx_I → Prop} {QE : String → jx_I → Prop} {a0 : Nat} {a1 : Nat}  
    (h : wz_29 V X R Q QE  a0 a1 I) : jc V 4 29 (0, 0) [.ref a0, .ref a1] X I R Q QE := by
  refine jy_met hV (by decide) (n := 5) (rt := some .boolean) (hh := []) (ini := false) (C := jx_c29) (L := [some (.ref a0), some (.ref a1), none, none, none]) jt_29 (Nat.le_of_ble_eq_true rfl) rfl ?_
  intro J hS
  unfold wz_29 at h
  refine jy_aload_n hS rfl rfl ?_
  refine jy_aload_n hS rfl rfl ?_
  obtain ⟨g1, h⟩ := h
  obtain ⟨Q2, h⟩ := h
  obtain ⟨g3, h⟩ := h
  refine jy_callV hS rfl rfl rfl (Nat.le_of_ble_eq_true rfl) (Or.inl g1) g3 (by decide) ⟨by decide, by decide⟩ (Nat.le_of_ble_eq_true rfl) ?_ ?_
  rotate_left
  · exact fun Ex Xx Ix Rx hp => hp.2.2.2.elim
  intro rv Xx I4 Rx hp
  obtain ⟨e1, e2, hp⟩ := hp
  rw [e1, e2]
  clear e1 e2
  obtain ⟨r5, e1, h⟩ := h rv I4 hp
  rw [e1]
  clear e1
  change J 5 [jy r5] _ (0, 0) _ _ _
  refine jy_istore_n hS rfl (Nat.le_of_ble_eq_true rfl) (L' := [some (.ref a0), some (.ref a1), some (jy r5), none, none]) rfl ?_
  refine jy_iload_n hS rfl rfl ?_
  obtain ⟨g6, h⟩ := h
  refine jy_if_ge hS rfl g6 (fun hq => ?_) (fun hq => ?_)
  · have h := h.1 hq
    refine jy_aload_n hS rfl rfl ?_
    refine jy_aload_n hS rfl rfl ?_
    obtain ⟨Q7, h⟩ := h
    obtain ⟨g8, h⟩ := h
    refine jy_callV hS rfl rfl rfl (Nat.le_of_ble_eq_true rfl) (Or.inl g1) g8 (by decide) ⟨by decide, by decide⟩ (Nat.le_of_ble_eq_true rfl) ?_ ?_
    rotate_left
    · exact fun Ex Xx Ix Rx hp => hp.2.2.2.elim
    intro rv Xx I9 Rx hp
    obtain ⟨e1, e2, hp⟩ := hp
    rw [e1, e2]
    clear e1 e2
    obtain ⟨r10, e1, h⟩ := h rv I9 hp
    rw [e1]
    clear e1
    change J 17 [jy r10] _ (0, 0) _ _ _
    refine jy_istore_n hS rfl (Nat.le_of_ble_eq_true rfl) (L' := [some (.ref a0), some (.ref a1), some (jy r5), some (jy r10), none]) rfl ?_
    refine jy_iload_n hS rfl rfl ?_
    obtain ⟨g11, h⟩ := h
    refine jy_if_ge hS rfl g11 (fun hq => ?_) (fun hq => ?_)
    · have h := h.1 hq
      refine jy_iload_n hS rfl rfl ?_
      refine jy_iload_n hS rfl rfl ?_
      refine jy_icmp_ne hS rfl ⟨g6, g11⟩ (fun hq => ?_) (fun hq => ?_)
      · have h := h.1 hq
        refine jy_aload_n hS rfl rfl ?_
        refine jy_iconst hS rfl ?_
        refine jy_bipush hS rfl (by decide) ?_
        obtain ⟨g12, h⟩ := h
        obtain ⟨Q13, h⟩ := h
        obtain ⟨g14, h⟩ := h
        refine jy_callV hS rfl rfl rfl (Nat.le_of_ble_eq_true rfl) (Or.inl g12) g14 (by decide) ⟨by decide, by decide⟩ (Nat.le_of_ble_eq_true rfl) ?_ ?_
        rotate_left
        · exact fun Ex Xx Ix Rx hp => hp.2.2.2.elim
        intro rv Xx I15 Rx hp
        obtain ⟨e1, e2, hp⟩ := hp
        rw [e1, e2]
        clear e1 e2
        obtain ⟨r16, e1, h⟩ := h rv I15 hp
        rw [e1]
        clear e1
        change J 42 [jy r16] _ (0, 0) _ _ _
        refine jy_istore hS rfl (Nat.le_of_ble_eq_true rfl) (L' := [some (.ref a0), some (.ref a1), some (jy r5), some (jy r10), some (jy r16)]) rfl ?_
        refine jy_iload hS rfl rfl ?_
        obtain ⟨g17, h⟩ := h
        refine jy_if_ge hS rfl g17 (fun hq => ?_) (fun hq => ?_)
        · have h := h.1 hq
          refine jy_aload_n hS rfl rfl ?_
          obtain ⟨q18, h⟩ := h
          obtain ⟨g19, h⟩ := h
          refine jy_getR hS rfl (by decide) g1 g19 ?_
          refine jy_iload_n hS rfl rfl ?_
          refine jy_bipush hS rfl (by decide) ?_
          refine jy_imul hS rfl ?_
          refine jy_iload_n hS rfl rfl ?_
          refine jy_iadd hS rfl ?_
          refine jy_iload hS rfl rfl ?_
          obtain ⟨n20, h⟩ := h
          obtain ⟨g21, h⟩ := h
          obtain ⟨g22, h⟩ := h
          refine jy_iast hS rfl g21.1 (Nat.le_of_lt g21.2) g22 ?_
          intro I23 e9
          have h := h I23 e9
          clear e9
          refine jy_aload_n hS rfl rfl ?_
          refine jy_getR hS rfl (by decide) g1 g19 ?_
          refine jy_iload_n hS rfl rfl ?_
          refine jy_bipush hS rfl (by decide) ?_
          refine jy_imul hS rfl ?_
          refine jy_iload_n hS rfl rfl ?_
          refine jy_iadd hS rfl ?_
          refine jy_iload hS rfl rfl ?_
          obtain ⟨g24, h⟩ := h
          refine jy_iast hS rfl g21.1 (Nat.le_of_lt g21.2) g24 ?_
          intro I25 e9
          have h := h I25 e9
          clear e9
          refine jy_iconst hS rfl ?_
          exact jy_iret hS rfl rfl ⟨rfl, rfl, h⟩
        · have h := h.2 hq
          refine jy_iconst hS rfl ?_
          exact jy_iret hS rfl rfl ⟨rfl, rfl, h⟩
      · have h := h.2 hq
        refine jy_aload_n hS rfl rfl ?_
        refine jy_iconst hS rfl ?_
        obtain ⟨g26, h⟩ := h
        obtain ⟨Q27, h⟩ := h
        obtain ⟨g28, h⟩ := h
        refine jy_callV hS rfl rfl rfl (Nat.le_of_ble_eq_true rfl) (Or.inl g26) g28 (by decide) ⟨by decide, by decide⟩ (Nat.le_of_ble_eq_true rfl) ?_ ?_
        rotate_left
        · exact fun Ex Xx Ix Rx hp => hp.2.2.2.elim
        intro rv Xx I29 Rx hp
        obtain ⟨e1, e2, hp⟩ := hp
        rw [e1, e2]
        clear e1 e2
        obtain ⟨r30, e1, h⟩ := h rv I29 hp
        rw [e1]
        clear e1
        change J 34 [jy r30] _ (0, 0) _ _ _
        obtain ⟨g31, h⟩ := h
        exact jy_iret hS rfl (by rcases g31 with q | q <;> rw [q] <;> rfl) ⟨rfl, rfl, h⟩
    · have h := h.2 hq
      refine jy_iconst hS rfl ?_
      exact jy_iret hS rfl rfl ⟨rfl, rfl, h⟩
  · have h := h.2 hq
    refine jy_iconst hS rfl ?_
    exact jy_iret hS rfl rfl ⟨rfl, rfl, h⟩
theorem jt_30 : jx_ml 30 = 6 ∧ jx_rt 30 = some .boolean ∧ jx_hz 30 = [] ∧ decide ((jx_nm 30).name = "<init>") = false ∧ jx_code 30 = jx_c30 := by decide +kernel
/-- GC$Land.readHurt -/
def wz_30 (V : jx_V) (X : jx_X) (R : jx_R) (Q : Option Value → jx_I → Prop) (QE : String → jx_I → Prop)  (a0 : Nat) (a1 : Nat) (I : jx_I) : Prop :=
  (X.2.1 a0 = some (2, 0)) ∧ (
  ∃ Q2 : Option Value → jx_I → Prop, (
  (jc V 3 35 (0, 0) [.ref a0, .ref a1] X I R Q2 (fun _ _ => False)) ∧ (
  ∀ rv I4, Q2 rv I4 → ∃ r5 : Int, rv = some (jy r5) ∧ (
  (-2147483648 ≤ r5 ∧ r5 < 2147483648) ∧ (
  (0 ≤ r5 → (
    ∃ Q7 : Option Value → jx_I → Prop, (
    (jc V 3 34 (0, 0) [.ref a0, .ref a1] X I4 R Q7 (fun _ _ => False)) ∧ (
    ∀ rv I9, Q7 rv I9 → ∃ r10 : Int, rv = some (jy r10) ∧ (
    (-2147483648 ≤ r10 ∧ r10 < 2147483648) ∧ (
    (0 ≤ r10 → (
      (X.2.1 a1 = some (8, 0)) ∧ (
      ∃ Q13 : Option Value → jx_I → Prop, (
      (jc V 2 118 (0, 0) [.ref a1, jy 1, jy 20] X I9 R Q13 (fun _ _ => False)) ∧ (
      ∀ rv I15, Q13 rv I15 → ∃ r16 : Int, rv = some (jy r16) ∧ (
      (-2147483648 ≤ r16 ∧ r16 < 2147483648) ∧ (
      (0 ≤ r16 → (
        ∃ q18 : Nat, (
        (R a0 5 = some q18) ∧ (
        ∃ n20 : Nat, (
        (X.2.1 q18 = some (100, n20) ∧ n20 < 2147483648) ∧ (
        (0 ≤ ((r10 * 8) + r5) ∧ ((r10 * 8) + r5) < n20) ∧ (
        ∃ Q23 : Option Value → jx_I → Prop, (
        (jc V 1 329 (0, 0) [jy 20, jy ((I15 q18 ((r10 * 8) + r5).toNat).toInt + r16)] X I15 R Q23 (fun _ _ => False)) ∧ (
        ∀ rv I25, Q23 rv I25 → ∃ r26 : Int, rv = some (jy r26) ∧ (
        (0 ≤ ((r10 * 8) + r5) ∧ ((r10 * 8) + r5) < n20) ∧ (
        ∀ I28 : jx_I, I28 = jx_u I25 q18 ((r10 * 8) + r5).toNat (Int32.ofInt r26) → (
        Q (some (jy 1)) I28))))))))))
      )) ∧ (¬ 0 ≤ r16 → (
        Q (some (jy 0)) I15
      )))))))
    )) ∧ (¬ 0 ≤ r10 → (
      Q (some (jy 0)) I9
    ))))))
  )) ∧ (¬ 0 ≤ r5 → (
    Q (some (jy 0)) I4
  )))))))
set_option maxRecDepth 20000 in
theorem wm_30 {V : jx_V} (hV : V.1.stackTraces = false) {X : jx_X} {R : jx_R} {I : jx_I} {Q : Option Value → jx_I → Prop} {QE : String → jx_I → Prop} {a0 : Nat} {a1 : Nat}  
    (h : wz_30 V X R Q QE  a0 a1 I) : jc V 4 30 (0, 0) [.ref a0, .ref a1] X I R Q QE := by
  refine jy_met hV (by decide) (n := 6) (rt := some .boolean) (hh := []) (ini := false) (C := jx_c30) (L := [some (.ref a0), some (.ref a1), none, none, none, none]) jt_30 (Nat.le_of_ble_eq_true rfl) rfl ?_
  intro J hS
  unfold wz_30 at h
  refine jy_aload_n hS rfl rfl ?_
  refine jy_aload_n hS rfl rfl ?_
  obtain ⟨g1, h⟩ := h
  obtain ⟨Q2, h⟩ := h
  obtain ⟨g3, h⟩ := h
  refine jy_callV hS rfl rfl rfl (Nat.le_of_ble_eq_true rfl) (Or.inl g1) g3 (by decide) ⟨by decide, by decide⟩ (Nat.le_of_ble_eq_true rfl) ?_ ?_
  rotate_left
  · exact fun Ex Xx Ix Rx hp => hp.2.2.2.elim
  intro rv Xx I4 Rx hp
  obtain ⟨e1, e2, hp⟩ := hp
  rw [e1, e2]
  clear e1 e2
  obtain ⟨r5, e1, h⟩ := h rv I4 hp
  rw [e1]
  clear e1
  change J 5 [jy r5] _ (0, 0) _ _ _
  refine jy_istore_n hS rfl (Nat.le_of_ble_eq_true rfl) (L' := [some (.ref a0), some (.ref a1), some (jy r5), none, none, none]) rfl ?_
  refine jy_iload_n hS rfl rfl ?_
  obtain ⟨g6, h⟩ := h
  refine jy_if_ge hS rfl g6 (fun hq => ?_) (fun hq => ?_)
  · have h := h.1 hq
    refine jy_aload_n hS rfl rfl ?_
    refine jy_aload_n hS rfl rfl ?_
    obtain ⟨Q7, h⟩ := h
    obtain ⟨g8, h⟩ := h
    refine jy_callV hS rfl rfl rfl (Nat.le_of_ble_eq_true rfl) (Or.inl g1) g8 (by decide) ⟨by decide, by decide⟩ (Nat.le_of_ble_eq_true rfl) ?_ ?_
    rotate_left
    · exact fun Ex Xx Ix Rx hp => hp.2.2.2.elim
    intro rv Xx I9 Rx hp
    obtain ⟨e1, e2, hp⟩ := hp
    rw [e1, e2]
    clear e1 e2
    obtain ⟨r10, e1, h⟩ := h rv I9 hp
    rw [e1]
    clear e1
    change J 17 [jy r10] _ (0, 0) _ _ _
    refine jy_istore_n hS rfl (Nat.le_of_ble_eq_true rfl) (L' := [some (.ref a0), some (.ref a1), some (jy r5), some (jy r10), none, none]) rfl ?_
    refine jy_iload_n hS rfl rfl ?_
    obtain ⟨g11, h⟩ := h
    refine jy_if_ge hS rfl g11 (fun hq => ?_) (fun hq => ?_)
    · have h := h.1 hq
      refine jy_aload_n hS rfl rfl ?_
      refine jy_iconst hS rfl ?_
      refine jy_bipush hS rfl (by decide) ?_
      obtain ⟨g12, h⟩ := h
      obtain ⟨Q13, h⟩ := h
      obtain ⟨g14, h⟩ := h
      refine jy_callV hS rfl rfl rfl (Nat.le_of_ble_eq_true rfl) (Or.inl g12) g14 (by decide) ⟨by decide, by decide⟩ (Nat.le_of_ble_eq_true rfl) ?_ ?_
      rotate_left
      · exact fun Ex Xx Ix Rx hp => hp.2.2.2.elim
      intro rv Xx I15 Rx hp
      obtain ⟨e1, e2, hp⟩ := hp
      rw [e1, e2]
      clear e1 e2
      obtain ⟨r16, e1, h⟩ := h rv I15 hp
      rw [e1]
      clear e1
      change J 31 [jy r16] _ (0, 0) _ _ _
      refine jy_istore hS rfl (Nat.le_of_ble_eq_true rfl) (L' := [some (.ref a0), some (.ref a1), some (jy r5), some (jy r10), some (jy r16), none]) rfl ?_
      refine jy_iload hS rfl rfl ?_
      obtain ⟨g17, h⟩ := h
      refine jy_if_ge hS rfl g17 (fun hq => ?_) (fun hq => ?_)
      · have h := h.1 hq
        refine jy_iload_n hS rfl rfl ?_
        refine jy_bipush hS rfl (by decide) ?_
        refine jy_imul hS rfl ?_
        refine jy_iload_n hS rfl rfl ?_
        refine jy_iadd hS rfl ?_
        refine jy_istore hS rfl (Nat.le_of_ble_eq_true rfl) (L' := [some (.ref a0), some (.ref a1), some (jy r5), some (jy r10), some (jy r16), some (jy ((r10 * 8) + r5))]) rfl ?_
        refine jy_aload_n hS rfl rfl ?_
        obtain ⟨q18, h⟩ := h
        obtain ⟨g19, h⟩ := h
        refine jy_getR hS rfl (by decide) g1 g19 ?_
        refine jy_iload hS rfl rfl ?_
        refine jy_bipush hS rfl (by decide) ?_
        refine jy_aload_n hS rfl rfl ?_
        refine jy_getR hS rfl (by decide) g1 g19 ?_
        refine jy_iload hS rfl rfl ?_
        obtain ⟨n20, h⟩ := h
        obtain ⟨g21, h⟩ := h
        obtain ⟨g22, h⟩ := h
        refine jy_iald hS rfl g21.1 (Nat.le_of_lt g21.2) g22 ?_
        refine jy_iload hS rfl rfl ?_
        refine jy_iadd hS rfl ?_
        obtain ⟨Q23, h⟩ := h
        obtain ⟨g24, h⟩ := h
        refine jy_callS hS rfl rfl rfl (Nat.le_of_ble_eq_true rfl) g24 (by decide) ⟨by decide, by decide⟩ (Nat.le_of_ble_eq_true rfl) ?_ ?_
        rotate_left
        · exact fun Ex Xx Ix Rx hp => hp.2.2.2.elim
        intro rv Xx I25 Rx hp
        obtain ⟨e1, e2, hp⟩ := hp
        rw [e1, e2]
        clear e1 e2
        obtain ⟨r26, e1, h⟩ := h rv I25 hp
        rw [e1]
        clear e1
        change J 69 [jy r26, jy ((r10 * 8) + r5), .ref q18] _ (0, 0) _ _ _
        obtain ⟨g27, h⟩ := h
        refine jy_iast hS rfl g21.1 (Nat.le_of_lt g21.2) g27 ?_
        intro I28 e9
        have h := h I28 e9
        clear e9
        refine jy_iconst hS rfl ?_
        exact jy_iret hS rfl rfl ⟨rfl, rfl, h⟩
      · have h := h.2 hq
        refine jy_iconst hS rfl ?_
        exact jy_iret hS rfl rfl ⟨rfl, rfl, h⟩
    · have h := h.2 hq
      refine jy_iconst hS rfl ?_
      exact jy_iret hS rfl rfl ⟨rfl, rfl, h⟩
  · have h := h.2 hq
    refine jy_iconst hS rfl ?_
    exact jy_iret hS rfl rfl ⟨rfl, rfl, h⟩
theorem jt_31 : jx_ml 31 = 4 ∧ jx_rt 31 = some .boolean ∧ jx_hz 31 = [] ∧ decide ((jx_nm 31).name = "<init>") = false ∧ jx_code 31 = jx_c31 := by decide +kernel
/-- GC$Land.readCalf, from 20 -/
def wz_31_20 (V : jx_V) (X : jx_X) (R : jx_R) (Q : Option Value → jx_I → Prop) (QE : String → jx_I → Prop) (J20 : Int → Int → jx_I → Prop) (a0 : Nat) (a1 : Nat) (s0 : Int) (l2 : Int) (I : jx_I) : Prop :=
  (-2147483648 ≤ s0 ∧ s0 < 2147483648) ∧ (
  (0 ≤ s0 → (
    (X.2.1 a0 = some (2, 0)) ∧ (
    ∃ q13 : Nat, (
    (R a0 3 = some q13) ∧ (
    ∃ n15 : Nat, (
    (X.2.1 q13 = some (100, n15) ∧ n15 < 2147483648) ∧ (
    (0 ≤ l2 ∧ l2 < n15) ∧ (
    ∀ I18 : jx_I, I18 = jx_u I q13 l2.toNat (Int32.ofInt s0) → (
    Q (some (jy 1)) I18)))))))
  )) ∧ (¬ 0 ≤ s0 → (
    Q (some (jy 0)) I
  )))
/-- GC$Land.readCalf -/
def wz_31 (V : jx_V) (X : jx_X) (R : jx_R) (Q : Option Value → jx_I → Prop) (QE : String → jx_I → Prop) (J20 : Int → Int → jx_I → Prop) (a0 : Nat) (a1 : Nat) (I : jx_I) : Prop :=
  (X.2.1 a0 = some (2, 0)) ∧ (
  ∃ Q2 : Option Value → jx_I → Prop, (
  (jc V 3 35 (0, 0) [.ref a0, .ref a1] X I R Q2 (fun _ _ => False)) ∧ (
  ∀ rv I4, Q2 rv I4 → ∃ r5 : Int, rv = some (jy r5) ∧ (
  (-2147483648 ≤ r5 ∧ r5 < 2147483648) ∧ (
  (0 ≤ r5 → (
    ∃ Q7 : Option Value → jx_I → Prop, (
    (jc V 3 33 (0, 0) [.ref a0, .ref a1, jy r5] X I4 R Q7 (fun _ _ => False)) ∧ (
    ∀ rv I9, Q7 rv I9 → ∃ r10 : Int, rv = some (jy r10) ∧ (
    J20 r10 r5 I9)))
  )) ∧ (¬ 0 ≤ r5 → (
    J20 (-1) r5 I4
  )))))))
set_option maxRecDepth 20000 in
theorem wm_31 {V : jx_V} (hV : V.1.stackTraces = false) {X : jx_X} {R : jx_R} {I : jx_I} {Q : Option Value → jx_I → Prop} {QE : String → jx_I → Prop} {a0 : Nat} {a1 : Nat}  
    (h : ∀ (J20 : Int → Int → jx_I → Prop), ((∀ (s0 : Int) (l2 : Int) I, wz_31_20 V X R Q QE J20 a0 a1 s0 l2 I → J20 s0 l2 I)) → wz_31 V X R Q QE J20 a0 a1 I) : jc V 4 31 (0, 0) [.ref a0, .ref a1] X I R Q QE := by
  refine jy_met hV (by decide) (n := 4) (rt := some .boolean) (hh := []) (ini := false) (C := jx_c31) (L := [some (.ref a0), some (.ref a1), none, none]) jt_31 (Nat.le_of_ble_eq_true rfl) rfl ?_
  intro J hS
  have h := h (fun s0 l2 I => J 20 [jy s0] [some (.ref a0), none, some (jy l2), none] (0, 0) X I R) ?_
  · unfold wz_31 at h
    refine jy_aload_n hS rfl rfl ?_
    refine jy_aload_n hS rfl rfl ?_
    obtain ⟨g1, h⟩ := h
    obtain ⟨Q2, h⟩ := h
    obtain ⟨g3, h⟩ := h
    refine jy_callV hS rfl rfl rfl (Nat.le_of_ble_eq_true rfl) (Or.inl g1) g3 (by decide) ⟨by decide, by decide⟩ (Nat.le_of_ble_eq_true rfl) ?_ ?_
    rotate_left
    · exact fun Ex Xx Ix Rx hp => hp.2.2.2.elim
    intro rv Xx I4 Rx hp
    obtain ⟨e1, e2, hp⟩ := hp
    rw [e1, e2]
    clear e1 e2
    obtain ⟨r5, e1, h⟩ := h rv I4 hp
    rw [e1]
    clear e1
    change J 5 [jy r5] _ (0, 0) _ _ _
    refine jy_istore_n hS rfl (Nat.le_of_ble_eq_true rfl) (L' := [some (.ref a0), some (.ref a1), some (jy r5), none]) rfl ?_
    refine jy_iload_n hS rfl rfl ?_
    obtain ⟨g6, h⟩ := h
    refine jy_if_ge hS rfl g6 (fun hq => ?_) (fun hq => ?_)
    · have h := h.1 hq
      refine jy_aload_n hS rfl rfl ?_
      refine jy_aload_n hS rfl rfl ?_
      refine jy_iload_n hS rfl rfl ?_
      obtain ⟨Q7, h⟩ := h
      obtain ⟨g8, h⟩ := h
      refine jy_callV hS rfl rfl rfl (Nat.le_of_ble_eq_true rfl) (Or.inl g1) g8 (by decide) ⟨by decide, by decide⟩ (Nat.le_of_ble_eq_true rfl) ?_ ?_
      rotate_left
      · exact fun Ex Xx Ix Rx hp => hp.2.2.2.elim
      intro rv Xx I9 Rx hp
      obtain ⟨e1, e2, hp⟩ := hp
      rw [e1, e2]
      clear e1 e2
      obtain ⟨r10, e1, h⟩ := h rv I9 hp
      rw [e1]
      clear e1
      change J 20 [jy r10] _ (0, 0) _ _ _
      exact jy_join hS h rfl (jy_sub_s (jy_sub_n (jy_sub_s (jy_sub_n jy_sub_0))))
    · have h := h.2 hq
      refine jy_iconst hS rfl ?_
      refine jy_goto hS rfl ?_
      exact jy_join hS h rfl (jy_sub_s (jy_sub_n (jy_sub_s (jy_sub_n jy_sub_0))))
  · intro s0 l2 I h
    unfold wz_31_20 at h
    refine jy_istore_n hS rfl (Nat.le_of_ble_eq_true rfl) (L' := [some (.ref a0), none, some (jy l2), some (jy s0)]) rfl ?_
    refine jy_iload_n hS rfl rfl ?_
    obtain ⟨g11, h⟩ := h
    refine jy_if_ge hS rfl g11 (fun hq => ?_) (fun hq => ?_)
    · have h := h.1 hq
      refine jy_aload_n hS rfl rfl ?_
      obtain ⟨g12, h⟩ := h
      obtain ⟨q13, h⟩ := h
      obtain ⟨g14, h⟩ := h
      refine jy_getR hS rfl (by decide) g12 g14 ?_
      refine jy_iload_n hS rfl rfl ?_
      refine jy_iload_n hS rfl rfl ?_
      obtain ⟨n15, h⟩ := h
      obtain ⟨g16, h⟩ := h
      obtain ⟨g17, h⟩ := h
      refine jy_iast hS rfl g16.1 (Nat.le_of_lt g16.2) g17 ?_
      intro I18 e9
      have h := h I18 e9
      clear e9
      refine jy_iconst hS rfl ?_
      exact jy_iret hS rfl rfl ⟨rfl, rfl, h⟩
    · have h := h.2 hq
      refine jy_iconst hS rfl ?_
      exact jy_iret hS rfl rfl ⟨rfl, rfl, h⟩
theorem jt_32 : jx_ml 32 = 4 ∧ jx_rt 32 = some .boolean ∧ jx_hz 32 = [] ∧ decide ((jx_nm 32).name = "<init>") = false ∧ jx_code 32 = jx_c32 := by decide +kernel
/-- GC$Land.readQuarrel, from 20 -/
def wz_32_20 (V : jx_V) (X : jx_X) (R : jx_R) (Q : Option Value → jx_I → Prop) (QE : String → jx_I → Prop) (J20 : Int → Int → jx_I → Prop) (a0 : Nat) (a1 : Nat) (s0 : Int) (l2 : Int) (I : jx_I) : Prop :=
  (-2147483648 ≤ s0 ∧ s0 < 2147483648) ∧ (
  (0 ≤ s0 → (
    (X.2.1 a0 = some (2, 0)) ∧ (
    ∃ q13 : Nat, (
    (R a0 4 = some q13) ∧ (
    ∃ n15 : Nat, (
    (X.2.1 q13 = some (100, n15) ∧ n15 < 2147483648) ∧ (
    (0 ≤ l2 ∧ l2 < n15) ∧ (
    (0 ≤ l2 ∧ l2 < n15) ∧ (
    ∀ I19 : jx_I, I19 = jx_u I q13 l2.toNat (Int32.ofInt ((Int32.ofInt ((I q13 l2.toNat).toInt) ||| Int32.ofInt ((Int32.ofInt 1 <<< (Int32.ofInt s0 &&& 31)).toInt)).toInt)) → (
    (0 ≤ s0 ∧ s0 < n15) ∧ (
    (0 ≤ s0 ∧ s0 < n15) ∧ (
    ∀ I22 : jx_I, I22 = jx_u I19 q13 s0.toNat (Int32.ofInt ((Int32.ofInt ((I19 q13 s0.toNat).toInt) ||| Int32.ofInt ((Int32.ofInt 1 <<< (Int32.ofInt l2 &&& 31)).toInt)).toInt)) → (
    Q (some (jy 1)) I22)))))))))))
  )) ∧ (¬ 0 ≤ s0 → (
    Q (some (jy 0)) I
  )))
/-- GC$Land.readQuarrel -/
def wz_32 (V : jx_V) (X : jx_X) (R : jx_R) (Q : Option Value → jx_I → Prop) (QE : String → jx_I → Prop) (J20 : Int → Int → jx_I → Prop) (a0 : Nat) (a1 : Nat) (I : jx_I) : Prop :=
  (X.2.1 a0 = some (2, 0)) ∧ (
  ∃ Q2 : Option Value → jx_I → Prop, (
  (jc V 3 35 (0, 0) [.ref a0, .ref a1] X I R Q2 (fun _ _ => False)) ∧ (
  ∀ rv I4, Q2 rv I4 → ∃ r5 : Int, rv = some (jy r5) ∧ (
  (-2147483648 ≤ r5 ∧ r5 < 2147483648) ∧ (
  (0 ≤ r5 → (
    ∃ Q7 : Option Value → jx_I → Prop, (
    (jc V 3 33 (0, 0) [.ref a0, .ref a1, jy r5] X I4 R Q7 (fun _ _ => False)) ∧ (
    ∀ rv I9, Q7 rv I9 → ∃ r10 : Int, rv = some (jy r10) ∧ (
    J20 r10 r5 I9)))
  )) ∧ (¬ 0 ≤ r5 → (
    J20 (-1) r5 I4
  )))))))
set_option maxRecDepth 20000 in
theorem wm_32 {V : jx_V} (hV : V.1.stackTraces = false) {X : jx_X} {R : jx_R} {I : jx_I} {Q : Option Value → jx_I → Prop} {QE : String → jx_I → Prop} {a0 : Nat} {a1 : Nat}  
    (h : ∀ (J20 : Int → Int → jx_I → Prop), ((∀ (s0 : Int) (l2 : Int) I, wz_32_20 V X R Q QE J20 a0 a1 s0 l2 I → J20 s0 l2 I)) → wz_32 V X R Q QE J20 a0 a1 I) : jc V 4 32 (0, 0) [.ref a0, .ref a1] X I R Q QE := by
  refine jy_met hV (by decide) (n := 4) (rt := some .boolean) (hh := []) (ini := false) (C := jx_c32) (L := [some (.ref a0), some (.ref a1), none, none]) jt_32 (Nat.le_of_ble_eq_true rfl) rfl ?_
  intro J hS
  have h := h (fun s0 l2 I => J 20 [jy s0] [some (.ref a0), none, some (jy l2), none] (0, 0) X I R) ?_
  · unfold wz_32 at h
    refine jy_aload_n hS rfl rfl ?_
    refine jy_aload_n hS rfl rfl ?_
    obtain ⟨g1, h⟩ := h
    obtain ⟨Q2, h⟩ := h
    obtain ⟨g3, h⟩ := h
    refine jy_callV hS rfl rfl rfl (Nat.le_of_ble_eq_true rfl) (Or.inl g1) g3 (by decide) ⟨by decide, by decide⟩ (Nat.le_of_ble_eq_true rfl) ?_ ?_
    rotate_left
    · exact fun Ex Xx Ix Rx hp => hp.2.2.2.elim
    intro rv Xx I4 Rx hp
    obtain ⟨e1, e2, hp⟩ := hp
    rw [e1, e2]
    clear e1 e2
    obtain ⟨r5, e1, h⟩ := h rv I4 hp
    rw [e1]
    clear e1
    change J 5 [jy r5] _ (0, 0) _ _ _
    refine jy_istore_n hS rfl (Nat.le_of_ble_eq_true rfl) (L' := [some (.ref a0), some (.ref a1), some (jy r5), none]) rfl ?_
    refine jy_iload_n hS rfl rfl ?_
    obtain ⟨g6, h⟩ := h
    refine jy_if_ge hS rfl g6 (fun hq => ?_) (fun hq => ?_)
    · have h := h.1 hq
      refine jy_aload_n hS rfl rfl ?_
      refine jy_aload_n hS rfl rfl ?_
      refine jy_iload_n hS rfl rfl ?_
      obtain ⟨Q7, h⟩ := h
      obtain ⟨g8, h⟩ := h
      refine jy_callV hS rfl rfl rfl (Nat.le_of_ble_eq_true rfl) (Or.inl g1) g8 (by decide) ⟨by decide, by decide⟩ (Nat.le_of_ble_eq_true rfl) ?_ ?_
      rotate_left
      · exact fun Ex Xx Ix Rx hp => hp.2.2.2.elim
      intro rv Xx I9 Rx hp
      obtain ⟨e1, e2, hp⟩ := hp
      rw [e1, e2]
      clear e1 e2
      obtain ⟨r10, e1, h⟩ := h rv I9 hp
      rw [e1]
      clear e1
      change J 20 [jy r10] _ (0, 0) _ _ _
      exact jy_join hS h rfl (jy_sub_s (jy_sub_n (jy_sub_s (jy_sub_n jy_sub_0))))
    · have h := h.2 hq
      refine jy_iconst hS rfl ?_
      refine jy_goto hS rfl ?_
      exact jy_join hS h rfl (jy_sub_s (jy_sub_n (jy_sub_s (jy_sub_n jy_sub_0))))
  · intro s0 l2 I h
    unfold wz_32_20 at h
    refine jy_istore_n hS rfl (Nat.le_of_ble_eq_true rfl) (L' := [some (.ref a0), none, some (jy l2), some (jy s0)]) rfl ?_
    refine jy_iload_n hS rfl rfl ?_
    obtain ⟨g11, h⟩ := h
    refine jy_if_ge hS rfl g11 (fun hq => ?_) (fun hq => ?_)
    · have h := h.1 hq
      refine jy_aload_n hS rfl rfl ?_
      obtain ⟨g12, h⟩ := h
      obtain ⟨q13, h⟩ := h
      obtain ⟨g14, h⟩ := h
      refine jy_getR hS rfl (by decide) g12 g14 ?_
      refine jy_iload_n hS rfl rfl ?_
      refine jy_dup2 hS rfl rfl rfl ?_
      obtain ⟨n15, h⟩ := h
      obtain ⟨g16, h⟩ := h
      obtain ⟨g17, h⟩ := h
      refine jy_iald hS rfl g16.1 (Nat.le_of_lt g16.2) g17 ?_
      refine jy_iconst hS rfl ?_
      refine jy_iload_n hS rfl rfl ?_
      refine jy_ishlX hS rfl rfl ?_
      refine jy_iorX hS rfl rfl ?_
      obtain ⟨g18, h⟩ := h
      refine jy_iast hS rfl g16.1 (Nat.le_of_lt g16.2) g18 ?_
      intro I19 e9
      have h := h I19 e9
      clear e9
      refine jy_aload_n hS rfl rfl ?_
      refine jy_getR hS rfl (by decide) g12 g14 ?_
      refine jy_iload_n hS rfl rfl ?_
      refine jy_dup2 hS rfl rfl rfl ?_
      obtain ⟨g20, h⟩ := h
      refine jy_iald hS rfl g16.1 (Nat.le_of_lt g16.2) g20 ?_
      refine jy_iconst hS rfl ?_
      refine jy_iload_n hS rfl rfl ?_
      refine jy_ishlX hS rfl rfl ?_
      refine jy_iorX hS rfl rfl ?_
      obtain ⟨g21, h⟩ := h
      refine jy_iast hS rfl g16.1 (Nat.le_of_lt g16.2) g21 ?_
      intro I22 e9
      have h := h I22 e9
      clear e9
      refine jy_iconst hS rfl ?_
      exact jy_iret hS rfl rfl ⟨rfl, rfl, h⟩
    · have h := h.2 hq
      refine jy_iconst hS rfl ?_
      exact jy_iret hS rfl rfl ⟨rfl, rfl, h⟩
theorem jt_33 : jx_ml 33 = 4 ∧ jx_rt 33 = some .int ∧ jx_hz 33 = [] ∧ decide ((jx_nm 33).name = "<init>") = false ∧ jx_code 33 = jx_c33 := by decide +kernel
/-- GC$Land.readOtherCamel -/
def wz_33 (V : jx_V) (X : jx_X) (R : jx_R) (Q : Option Value → jx_I → Prop) (QE : String → jx_I → Prop)  (a0 : Nat) (a1 : Nat) (a2 : Int) (I : jx_I) : Prop :=
  (X.2.1 a0 = some (2, 0)) ∧ (
  (X.2.1 a1 = some (8, 0)) ∧ (
  ∃ Q3 : Option Value → jx_I → Prop, (
  (jc V 2 118 (0, 0) [.ref a1, jy 0, jy ((I a0 8).toInt - 1)] X I R Q3 (fun _ _ => False)) ∧ (
  ∀ rv I5, Q3 rv I5 → ∃ r6 : Int, rv = some (jy r6) ∧ (
  (-2147483648 ≤ r6 ∧ r6 < 2147483648) ∧ (
  (r6 ≠ a2 → (
    Q (some (jy r6)) I5
  )) ∧ (r6 = a2 → (
    ∃ Q8 : Option Value → jx_I → Prop, (
    (jc V 2 109 (0, 0) [.ref a1, jy 2] X I5 R Q8 (fun _ _ => False)) ∧ (
    ∀ rv I10, Q8 rv I10 → ∃ r11 : Int, rv = some (jy r11) ∧ (
    Q (some (jy (-1))) I10)))
  ))))))))
set_option maxRecDepth 20000 in
theorem wm_33 {V : jx_V} (hV : V.1.stackTraces = false) {X : jx_X} {R : jx_R} {I : jx_I} {Q : Option Value → jx_I → Prop} {QE : String → jx_I → Prop} {a0 : Nat} {a1 : Nat} {a2 : Int} (r_a2 : -2147483648 ≤ a2 ∧ a2 < 2147483648) 
    (h : wz_33 V X R Q QE  a0 a1 a2 I) : jc V 3 33 (0, 0) [.ref a0, .ref a1, jy a2] X I R Q QE := by
  refine jy_met hV (by decide) (n := 4) (rt := some .int) (hh := []) (ini := false) (C := jx_c33) (L := [some (.ref a0), some (.ref a1), some (jy a2), none]) jt_33 (Nat.le_of_ble_eq_true rfl) rfl ?_
  intro J hS
  unfold wz_33 at h
  refine jy_aload_n hS rfl rfl ?_
  refine jy_iconst hS rfl ?_
  refine jy_aload_n hS rfl rfl ?_
  obtain ⟨g1, h⟩ := h
  refine jy_getI hS rfl (by decide) g1 ?_
  refine jy_iconst hS rfl ?_
  refine jy_isub hS rfl ?_
  obtain ⟨g2, h⟩ := h
  obtain ⟨Q3, h⟩ := h
  obtain ⟨g4, h⟩ := h
  refine jy_callV hS rfl rfl rfl (Nat.le_of_ble_eq_true rfl) (Or.inl g2) g4 (by decide) ⟨by decide, by decide⟩ (Nat.le_of_ble_eq_true rfl) ?_ ?_
  rotate_left
  · exact fun Ex Xx Ix Rx hp => hp.2.2.2.elim
  intro rv Xx I5 Rx hp
  obtain ⟨e1, e2, hp⟩ := hp
  rw [e1, e2]
  clear e1 e2
  obtain ⟨r6, e1, h⟩ := h rv I5 hp
  rw [e1]
  clear e1
  change J 11 [jy r6] _ (0, 0) _ _ _
  refine jy_istore_n hS rfl (Nat.le_of_ble_eq_true rfl) (L' := [some (.ref a0), some (.ref a1), some (jy a2), some (jy r6)]) rfl ?_
  refine jy_iload_n hS rfl rfl ?_
  refine jy_iload_n hS rfl rfl ?_
  obtain ⟨g7, h⟩ := h
  refine jy_icmp_ne hS rfl ⟨g7, r_a2⟩ (fun hq => ?_) (fun hq => ?_)
  · have h := h.1 hq
    refine jy_iload_n hS rfl rfl ?_
    exact jy_iret hS rfl rfl ⟨rfl, rfl, h⟩
  · have h := h.2 hq
    refine jy_aload_n hS rfl rfl ?_
    refine jy_iconst hS rfl ?_
    obtain ⟨Q8, h⟩ := h
    obtain ⟨g9, h⟩ := h
    refine jy_callV hS rfl rfl rfl (Nat.le_of_ble_eq_true rfl) (Or.inl g2) g9 (by decide) ⟨by decide, by decide⟩ (Nat.le_of_ble_eq_true rfl) ?_ ?_
    rotate_left
    · exact fun Ex Xx Ix Rx hp => hp.2.2.2.elim
    intro rv Xx I10 Rx hp
    obtain ⟨e1, e2, hp⟩ := hp
    rw [e1, e2]
    clear e1 e2
    obtain ⟨r11, e1, h⟩ := h rv I10 hp
    rw [e1]
    clear e1
    change J 22 [jy r11] _ (0, 0) _ _ _
    refine jy_pop hS rfl rfl ?_
    refine jy_iconst hS rfl ?_
    exact jy_iret hS rfl rfl ⟨rfl, rfl, h⟩
theorem jt_34 : jx_ml 34 = 2 ∧ jx_rt 34 = some .int ∧ jx_hz 34 = [] ∧ decide ((jx_nm 34).name = "<init>") = false ∧ jx_code 34 = jx_c34 := by decide +kernel
/-- GC$Land.readPlaceName -/
def wz_34 (V : jx_V) (X : jx_X) (R : jx_R) (Q : Option Value → jx_I → Prop) (QE : String → jx_I → Prop)  (a0 : Nat) (a1 : Nat) (I : jx_I) : Prop :=
  (X.2.1 a0 = some (2, 0)) ∧ (
  (X.2.1 a1 = some (8, 0)) ∧ (
  ∃ Q3 : Option Value → jx_I → Prop, (
  (jc V 2 118 (0, 0) [.ref a1, jy 0, jy ((I a0 7).toInt - 1)] X I R Q3 (fun _ _ => False)) ∧ (
  ∀ rv I5, Q3 rv I5 → ∃ r6 : Int, rv = some (jy r6) ∧ (
  Q (some (jy r6)) I5)))))
set_option maxRecDepth 20000 in
theorem wm_34 {V : jx_V} (hV : V.1.stackTraces = false) {X : jx_X} {R : jx_R} {I : jx_I} {Q : Option Value → jx_I → Prop} {QE : String → jx_I → Prop} {a0 : Nat} {a1 : Nat}  
    (h : wz_34 V X R Q QE  a0 a1 I) : jc V 3 34 (0, 0) [.ref a0, .ref a1] X I R Q QE := by
  refine jy_met hV (by decide) (n := 2) (rt := some .int) (hh := []) (ini := false) (C := jx_c34) (L := [some (.ref a0), some (.ref a1)]) jt_34 (Nat.le_of_ble_eq_true rfl) rfl ?_
  intro J hS
  unfold wz_34 at h
  refine jy_aload_n hS rfl rfl ?_
  refine jy_iconst hS rfl ?_
  refine jy_aload_n hS rfl rfl ?_
  obtain ⟨g1, h⟩ := h
  refine jy_getI hS rfl (by decide) g1 ?_
  refine jy_iconst hS rfl ?_
  refine jy_isub hS rfl ?_
  obtain ⟨g2, h⟩ := h
  obtain ⟨Q3, h⟩ := h
  obtain ⟨g4, h⟩ := h
  refine jy_callV hS rfl rfl rfl (Nat.le_of_ble_eq_true rfl) (Or.inl g2) g4 (by decide) ⟨by decide, by decide⟩ (Nat.le_of_ble_eq_true rfl) ?_ ?_
  rotate_left
  · exact fun Ex Xx Ix Rx hp => hp.2.2.2.elim
  intro rv Xx I5 Rx hp
  obtain ⟨e1, e2, hp⟩ := hp
  rw [e1, e2]
  clear e1 e2
  obtain ⟨r6, e1, h⟩ := h rv I5 hp
  rw [e1]
  clear e1
  change J 11 [jy r6] _ (0, 0) _ _ _
  exact jy_iret hS rfl rfl ⟨rfl, rfl, h⟩
theorem jt_35 : jx_ml 35 = 2 ∧ jx_rt 35 = some .int ∧ jx_hz 35 = [] ∧ decide ((jx_nm 35).name = "<init>") = false ∧ jx_code 35 = jx_c35 := by decide +kernel
/-- GC$Land.readCamelName -/
def wz_35 (V : jx_V) (X : jx_X) (R : jx_R) (Q : Option Value → jx_I → Prop) (QE : String → jx_I → Prop)  (a0 : Nat) (a1 : Nat) (I : jx_I) : Prop :=
  (X.2.1 a0 = some (2, 0)) ∧ (
  (X.2.1 a1 = some (8, 0)) ∧ (
  ∃ Q3 : Option Value → jx_I → Prop, (
  (jc V 2 118 (0, 0) [.ref a1, jy 0, jy ((I a0 8).toInt - 1)] X I R Q3 (fun _ _ => False)) ∧ (
  ∀ rv I5, Q3 rv I5 → ∃ r6 : Int, rv = some (jy r6) ∧ (
  Q (some (jy r6)) I5)))))
set_option maxRecDepth 20000 in
theorem wm_35 {V : jx_V} (hV : V.1.stackTraces = false) {X : jx_X} {R : jx_R} {I : jx_I} {Q : Option Value → jx_I → Prop} {QE : String → jx_I → Prop} {a0 : Nat} {a1 : Nat}  
    (h : wz_35 V X R Q QE  a0 a1 I) : jc V 3 35 (0, 0) [.ref a0, .ref a1] X I R Q QE := by
  refine jy_met hV (by decide) (n := 2) (rt := some .int) (hh := []) (ini := false) (C := jx_c35) (L := [some (.ref a0), some (.ref a1)]) jt_35 (Nat.le_of_ble_eq_true rfl) rfl ?_
  intro J hS
  unfold wz_35 at h
  refine jy_aload_n hS rfl rfl ?_
  refine jy_iconst hS rfl ?_
  refine jy_aload_n hS rfl rfl ?_
  obtain ⟨g1, h⟩ := h
  refine jy_getI hS rfl (by decide) g1 ?_
  refine jy_iconst hS rfl ?_
  refine jy_isub hS rfl ?_
  obtain ⟨g2, h⟩ := h
  obtain ⟨Q3, h⟩ := h
  obtain ⟨g4, h⟩ := h
  refine jy_callV hS rfl rfl rfl (Nat.le_of_ble_eq_true rfl) (Or.inl g2) g4 (by decide) ⟨by decide, by decide⟩ (Nat.le_of_ble_eq_true rfl) ?_ ?_
  rotate_left
  · exact fun Ex Xx Ix Rx hp => hp.2.2.2.elim
  intro rv Xx I5 Rx hp
  obtain ⟨e1, e2, hp⟩ := hp
  rw [e1, e2]
  clear e1 e2
  obtain ⟨r6, e1, h⟩ := h rv I5 hp
  rw [e1]
  clear e1
  change J 11 [jy r6] _ (0, 0) _ _ _
  exact jy_iret hS rfl rfl ⟨rfl, rfl, h⟩
theorem jt_36 : jx_ml 36 = 3 ∧ jx_rt 36 = some .int ∧ jx_hz 36 = [] ∧ decide ((jx_nm 36).name = "<init>") = false ∧ jx_code 36 = jx_c36 := by decide +kernel
/-- GC$Land.roadHours -/
def wz_36 (V : jx_V) (X : jx_X) (R : jx_R) (Q : Option Value → jx_I → Prop) (QE : String → jx_I → Prop)  (a0 : Nat) (a1 : Int) (a2 : Int) (I : jx_I) : Prop :=
  (X.2.1 a0 = some (2, 0)) ∧ (
  ∃ q2 : Nat, (
  (R a0 1 = some q2) ∧ (
  ∃ n4 : Nat, (
  (X.2.1 q2 = some (100, n4) ∧ n4 < 2147483648) ∧ (
  (0 ≤ ((a1 * 10) + a2) ∧ ((a1 * 10) + a2) < n4) ∧ (
  Q (some (jy ((I q2 ((a1 * 10) + a2).toNat).toInt))) I))))))
set_option maxRecDepth 20000 in
theorem wm_36 {V : jx_V} (hV : V.1.stackTraces = false) {X : jx_X} {R : jx_R} {I : jx_I} {Q : Option Value → jx_I → Prop} {QE : String → jx_I → Prop} {a0 : Nat} {a1 : Int} {a2 : Int} (r_a1 : -2147483648 ≤ a1 ∧ a1 < 2147483648) (r_a2 : -2147483648 ≤ a2 ∧ a2 < 2147483648) 
    (h : wz_36 V X R Q QE  a0 a1 a2 I) : jc V 1 36 (0, 0) [.ref a0, jy a1, jy a2] X I R Q QE := by
  refine jy_met hV (by decide) (n := 3) (rt := some .int) (hh := []) (ini := false) (C := jx_c36) (L := [some (.ref a0), some (jy a1), some (jy a2)]) jt_36 (Nat.le_of_ble_eq_true rfl) rfl ?_
  intro J hS
  unfold wz_36 at h
  refine jy_aload_n hS rfl rfl ?_
  obtain ⟨g1, h⟩ := h
  obtain ⟨q2, h⟩ := h
  obtain ⟨g3, h⟩ := h
  refine jy_getR hS rfl (by decide) g1 g3 ?_
  refine jy_iload_n hS rfl rfl ?_
  refine jy_bipush hS rfl (by decide) ?_
  refine jy_imul hS rfl ?_
  refine jy_iload_n hS rfl rfl ?_
  refine jy_iadd hS rfl ?_
  obtain ⟨n4, h⟩ := h
  obtain ⟨g5, h⟩ := h
  obtain ⟨g6, h⟩ := h
  refine jy_iald hS rfl g5.1 (Nat.le_of_lt g5.2) g6 ?_
  exact jy_iret hS rfl rfl ⟨rfl, rfl, h⟩
theorem jt_37 : jx_ml 37 = 5 ∧ jx_rt 37 = some .int ∧ jx_hz 37 = [] ∧ decide ((jx_nm 37).name = "<init>") = false ∧ jx_code 37 = jx_c37 := by decide +kernel
/-- GC$Land.roadsOf, from 4 -/
def wz_37_4 (V : jx_V) (X : jx_X) (R : jx_R) (Q : Option Value → jx_I → Prop) (QE : String → jx_I → Prop) (J4 : Int → Int → jx_I → Prop) (a0 : Nat) (a1 : Nat) (l2 : Int) (l3 : Int) (I : jx_I) : Prop :=
  (X.2.1 a1 = some (5, 0)) ∧ (
  (-2147483648 ≤ l3 ∧ l3 < 2147483648) ∧ (
  ((I a1 1).toInt ≤ l3 → (
    Q (some (jy l2)) I
  )) ∧ (¬ (I a1 1).toInt ≤ l3 → (
    ∃ q3 : Nat, (
    (R a1 0 = some q3) ∧ (
    ∃ n5 : Nat, (
    (X.2.1 q3 = some (100, n5) ∧ n5 < 2147483648) ∧ (
    (0 ≤ (l3 - 1) ∧ (l3 - 1) < n5) ∧ (
    (0 ≤ l3 ∧ l3 < n5) ∧ (
    (X.2.1 a0 = some (2, 0)) ∧ (
    ∃ Q10 : Option Value → jx_I → Prop, (
    (jc V 1 36 (0, 0) [.ref a0, jy ((I q3 (l3 - 1).toNat).toInt), jy ((I q3 l3.toNat).toInt)] X I R Q10 (fun _ _ => False)) ∧ (
    ∀ rv I12, Q10 rv I12 → ∃ r13 : Int, rv = some (jy r13) ∧ (
    (-2147483648 ≤ r13 ∧ r13 < 2147483648) ∧ (
    (r13 ≠ 0 → (
      J4 (l2 + r13) (l3 + 1) I12
    )) ∧ (r13 = 0 → (
      Q (some (jy (-1))) I12
    )))))))))))))
  ))))
/-- GC$Land.roadsOf -/
def wz_37 (V : jx_V) (X : jx_X) (R : jx_R) (Q : Option Value → jx_I → Prop) (QE : String → jx_I → Prop) (J4 : Int → Int → jx_I → Prop) (a0 : Nat) (a1 : Nat) (I : jx_I) : Prop :=
  J4 0 1 I
set_option maxRecDepth 20000 in
theorem wm_37 {V : jx_V} (hV : V.1.stackTraces = false) {X : jx_X} {R : jx_R} {I : jx_I} {Q : Option Value → jx_I → Prop} {QE : String → jx_I → Prop} {a0 : Nat} {a1 : Nat}  
    (h : ∀ (J4 : Int → Int → jx_I → Prop), ((∀ (l2 : Int) (l3 : Int) I, wz_37_4 V X R Q QE J4 a0 a1 l2 l3 I → J4 l2 l3 I)) → wz_37 V X R Q QE J4 a0 a1 I) : jc V 2 37 (0, 0) [.ref a0, .ref a1] X I R Q QE := by
  refine jy_met hV (by decide) (n := 5) (rt := some .int) (hh := []) (ini := false) (C := jx_c37) (L := [some (.ref a0), some (.ref a1), none, none, none]) jt_37 (Nat.le_of_ble_eq_true rfl) rfl ?_
  intro J hS
  have h := h (fun l2 l3 I => J 4 [] [some (.ref a0), some (.ref a1), some (jy l2), some (jy l3), none] (0, 0) X I R) ?_
  · unfold wz_37 at h
    refine jy_iconst hS rfl ?_
    refine jy_istore_n hS rfl (Nat.le_of_ble_eq_true rfl) (L' := [some (.ref a0), some (.ref a1), some (jy 0), none, none]) rfl ?_
    refine jy_iconst hS rfl ?_
    refine jy_istore_n hS rfl (Nat.le_of_ble_eq_true rfl) (L' := [some (.ref a0), some (.ref a1), some (jy 0), some (jy 1), none]) rfl ?_
    exact jy_join hS h rfl (jy_sub_s (jy_sub_s (jy_sub_s (jy_sub_s (jy_sub_n jy_sub_0)))))
  · intro l2 l3 I h
    unfold wz_37_4 at h
    refine jy_iload_n hS rfl rfl ?_
    refine jy_aload_n hS rfl rfl ?_
    obtain ⟨g1, h⟩ := h
    refine jy_getI hS rfl (by decide) g1 ?_
    obtain ⟨g2, h⟩ := h
    refine jy_icmp_ge hS rfl ⟨g2, (jy_rng _)⟩ (fun hq => ?_) (fun hq => ?_)
    · have h := h.1 hq
      refine jy_iload_n hS rfl rfl ?_
      exact jy_iret hS rfl rfl ⟨rfl, rfl, h⟩
    · have h := h.2 hq
      refine jy_aload_n hS rfl rfl ?_
      refine jy_aload_n hS rfl rfl ?_
      obtain ⟨q3, h⟩ := h
      obtain ⟨g4, h⟩ := h
      refine jy_getR hS rfl (by decide) g1 g4 ?_
      refine jy_iload_n hS rfl rfl ?_
      refine jy_iconst hS rfl ?_
      refine jy_isub hS rfl ?_
      obtain ⟨n5, h⟩ := h
      obtain ⟨g6, h⟩ := h
      obtain ⟨g7, h⟩ := h
      refine jy_iald hS rfl g6.1 (Nat.le_of_lt g6.2) g7 ?_
      refine jy_aload_n hS rfl rfl ?_
      refine jy_getR hS rfl (by decide) g1 g4 ?_
      refine jy_iload_n hS rfl rfl ?_
      obtain ⟨g8, h⟩ := h
      refine jy_iald hS rfl g6.1 (Nat.le_of_lt g6.2) g8 ?_
      obtain ⟨g9, h⟩ := h
      obtain ⟨Q10, h⟩ := h
      obtain ⟨g11, h⟩ := h
      refine jy_callV hS rfl rfl rfl (Nat.le_of_ble_eq_true rfl) (Or.inl g9) g11 (by decide) ⟨by decide, by decide⟩ (Nat.le_of_ble_eq_true rfl) ?_ ?_
      rotate_left
      · exact fun Ex Xx Ix Rx hp => hp.2.2.2.elim
      intro rv Xx I12 Rx hp
      obtain ⟨e1, e2, hp⟩ := hp
      rw [e1, e2]
      clear e1 e2
      obtain ⟨r13, e1, h⟩ := h rv I12 hp
      rw [e1]
      clear e1
      change J 30 [jy r13] _ (0, 0) _ _ _
      refine jy_istore hS rfl (Nat.le_of_ble_eq_true rfl) (L' := [some (.ref a0), some (.ref a1), some (jy l2), some (jy l3), some (jy r13)]) rfl ?_
      refine jy_iload hS rfl rfl ?_
      obtain ⟨g14, h⟩ := h
      refine jy_if_ne hS rfl g14 (fun hq => ?_) (fun hq => ?_)
      · have h := h.1 hq
        refine jy_iload_n hS rfl rfl ?_
        refine jy_iload hS rfl rfl ?_
        refine jy_iadd hS rfl ?_
        refine jy_istore_n hS rfl (Nat.le_of_ble_eq_true rfl) (L' := [some (.ref a0), some (.ref a1), some (jy (l2 + r13)), some (jy l3), some (jy r13)]) rfl ?_
        refine jy_iinc hS rfl rfl (L' := [some (.ref a0), some (.ref a1), some (jy (l2 + r13)), some (jy (l3 + 1)), some (jy r13)]) rfl ?_
        refine jy_goto hS rfl ?_
        exact jy_join hS h rfl (jy_sub_s (jy_sub_s (jy_sub_s (jy_sub_s (jy_sub_n jy_sub_0)))))
      · have h := h.2 hq
        refine jy_iconst hS rfl ?_
        exact jy_iret hS rfl rfl ⟨rfl, rfl, h⟩
theorem jt_38 : jx_ml 38 = 4 ∧ jx_rt 38 = some .int ∧ jx_hz 38 = [] ∧ decide ((jx_nm 38).name = "<init>") = false ∧ jx_code 38 = jx_c38 := by decide +kernel
/-- GC$Land.haltAt -/
def wz_38 (V : jx_V) (X : jx_X) (R : jx_R) (Q : Option Value → jx_I → Prop) (QE : String → jx_I → Prop)  (a0 : Nat) (a1 : Int) (a2 : Nat) (a3 : Nat) (I : jx_I) : Prop :=
  (X.2.1 a0 = some (2, 0)) ∧ (
  ∃ q2 : Nat, (
  (R a0 6 = some q2) ∧ (
  (X.2.1 a3 = some (1, 0)) ∧ (
  ∃ q5 : Nat, (
  (R a3 0 = some q5) ∧ (
  ∃ Q7 : Option Value → jx_I → Prop, (
  (jc V 1 39 (0, 0) [.ref a0, jy a1] X I R Q7 (fun _ _ => False)) ∧ (
  ∀ rv I9, Q7 rv I9 → ∃ r10 : Int, rv = some (jy r10) ∧ (
  (X.2.1 q2 = some (3, 0)) ∧ (
  ∃ Q12 : Option Value → jx_I → Prop, (
  (jc V 3 52 (0, 0) [.ref q2, .ref a2, .ref q5, jy (a1 * 8), jy r10] X I9 R Q12 (fun _ _ => False)) ∧ (
  ∀ rv I14, Q12 rv I14 → ∃ r15 : Int, rv = some (jy r15) ∧ (
  Q (some (jy r15)) I14)))))))))))))
set_option maxRecDepth 20000 in
theorem wm_38 {V : jx_V} (hV : V.1.stackTraces = false) {X : jx_X} {R : jx_R} {I : jx_I} {Q : Option Value → jx_I → Prop} {QE : String → jx_I → Prop} {a0 : Nat} {a1 : Int} {a2 : Nat} {a3 : Nat} (r_a1 : -2147483648 ≤ a1 ∧ a1 < 2147483648) 
    (h : wz_38 V X R Q QE  a0 a1 a2 a3 I) : jc V 4 38 (0, 0) [.ref a0, jy a1, .ref a2, .ref a3] X I R Q QE := by
  refine jy_met hV (by decide) (n := 4) (rt := some .int) (hh := []) (ini := false) (C := jx_c38) (L := [some (.ref a0), some (jy a1), some (.ref a2), some (.ref a3)]) jt_38 (Nat.le_of_ble_eq_true rfl) rfl ?_
  intro J hS
  unfold wz_38 at h
  refine jy_aload_n hS rfl rfl ?_
  obtain ⟨g1, h⟩ := h
  obtain ⟨q2, h⟩ := h
  obtain ⟨g3, h⟩ := h
  refine jy_getR hS rfl (by decide) g1 g3 ?_
  refine jy_aload_n hS rfl rfl ?_
  refine jy_aload_n hS rfl rfl ?_
  obtain ⟨g4, h⟩ := h
  obtain ⟨q5, h⟩ := h
  obtain ⟨g6, h⟩ := h
  refine jy_getR hS rfl (by decide) g4 g6 ?_
  refine jy_iload_n hS rfl rfl ?_
  refine jy_bipush hS rfl (by decide) ?_
  refine jy_imul hS rfl ?_
  refine jy_aload_n hS rfl rfl ?_
  refine jy_iload_n hS rfl rfl ?_
  obtain ⟨Q7, h⟩ := h
  obtain ⟨g8, h⟩ := h
  refine jy_callV hS rfl rfl rfl (Nat.le_of_ble_eq_true rfl) (Or.inl g1) g8 (by decide) ⟨by decide, by decide⟩ (Nat.le_of_ble_eq_true rfl) ?_ ?_
  rotate_left
  · exact fun Ex Xx Ix Rx hp => hp.2.2.2.elim
  intro rv Xx I9 Rx hp
  obtain ⟨e1, e2, hp⟩ := hp
  rw [e1, e2]
  clear e1 e2
  obtain ⟨r10, e1, h⟩ := h rv I9 hp
  rw [e1]
  clear e1
  change J 18 [jy r10, jy (a1 * 8), .ref q5, .ref a2, .ref q2] _ (0, 0) _ _ _
  obtain ⟨g11, h⟩ := h
  obtain ⟨Q12, h⟩ := h
  obtain ⟨g13, h⟩ := h
  refine jy_callV hS rfl rfl rfl (Nat.le_of_ble_eq_true rfl) (Or.inl g11) g13 (by decide) ⟨by decide, by decide⟩ (Nat.le_of_ble_eq_true rfl) ?_ ?_
  rotate_left
  · exact fun Ex Xx Ix Rx hp => hp.2.2.2.elim
  intro rv Xx I14 Rx hp
  obtain ⟨e1, e2, hp⟩ := hp
  rw [e1, e2]
  clear e1 e2
  obtain ⟨r15, e1, h⟩ := h rv I14 hp
  rw [e1]
  clear e1
  change J 21 [jy r15] _ (0, 0) _ _ _
  exact jy_iret hS rfl rfl ⟨rfl, rfl, h⟩
theorem jt_39 : jx_ml 39 = 2 ∧ jx_rt 39 = some .int ∧ jx_hz 39 = [] ∧ decide ((jx_nm 39).name = "<init>") = false ∧ jx_code 39 = jx_c39 := by decide +kernel
/-- GC$Land.neededAt -/
def wz_39 (V : jx_V) (X : jx_X) (R : jx_R) (Q : Option Value → jx_I → Prop) (QE : String → jx_I → Prop)  (a0 : Nat) (a1 : Int) (I : jx_I) : Prop :=
  (X.2.1 a0 = some (2, 0)) ∧ (
  ∃ q2 : Nat, (
  (R a0 0 = some q2) ∧ (
  ∃ n4 : Nat, (
  (X.2.1 q2 = some (100, n4) ∧ n4 < 2147483648) ∧ (
  (0 ≤ a1 ∧ a1 < n4) ∧ (
  ((I q2 a1.toNat).toInt ≠ 3 → (
    Q (some (jy 1)) I
  )) ∧ ((I q2 a1.toNat).toInt = 3 → (
    Q (some (jy 3)) I
  ))))))))
set_option maxRecDepth 20000 in
theorem wm_39 {V : jx_V} (hV : V.1.stackTraces = false) {X : jx_X} {R : jx_R} {I : jx_I} {Q : Option Value → jx_I → Prop} {QE : String → jx_I → Prop} {a0 : Nat} {a1 : Int} (r_a1 : -2147483648 ≤ a1 ∧ a1 < 2147483648) 
    (h : wz_39 V X R Q QE  a0 a1 I) : jc V 1 39 (0, 0) [.ref a0, jy a1] X I R Q QE := by
  refine jy_met hV (by decide) (n := 2) (rt := some .int) (hh := []) (ini := false) (C := jx_c39) (L := [some (.ref a0), some (jy a1)]) jt_39 (Nat.le_of_ble_eq_true rfl) rfl ?_
  intro J hS
  unfold wz_39 at h
  refine jy_aload_n hS rfl rfl ?_
  obtain ⟨g1, h⟩ := h
  obtain ⟨q2, h⟩ := h
  obtain ⟨g3, h⟩ := h
  refine jy_getR hS rfl (by decide) g1 g3 ?_
  refine jy_iload_n hS rfl rfl ?_
  obtain ⟨n4, h⟩ := h
  obtain ⟨g5, h⟩ := h
  obtain ⟨g6, h⟩ := h
  refine jy_iald hS rfl g5.1 (Nat.le_of_lt g5.2) g6 ?_
  refine jy_iconst hS rfl ?_
  refine jy_icmp_ne hS rfl ⟨(jy_rng _), ⟨by decide, by decide⟩⟩ (fun hq => ?_) (fun hq => ?_)
  · have h := h.1 hq
    refine jy_iconst hS rfl ?_
    exact jy_iret hS rfl rfl ⟨rfl, rfl, h⟩
  · have h := h.2 hq
    refine jy_iconst hS rfl ?_
    refine jy_goto hS rfl ?_
    exact jy_iret hS rfl rfl ⟨rfl, rfl, h⟩
theorem jt_40 : jx_ml 40 = 3 ∧ jx_rt 40 = some .boolean ∧ jx_hz 40 = [] ∧ decide ((jx_nm 40).name = "<init>") = false ∧ jx_code 40 = jx_c40 := by decide +kernel
/-- GC$Land.areAtOdds -/
def wz_40 (V : jx_V) (X : jx_X) (R : jx_R) (Q : Option Value → jx_I → Prop) (QE : String → jx_I → Prop)  (a0 : Nat) (a1 : Int) (a2 : Int) (I : jx_I) : Prop :=
  (X.2.1 a0 = some (2, 0)) ∧ (
  ∃ q2 : Nat, (
  (R a0 4 = some q2) ∧ (
  ∃ n4 : Nat, (
  (X.2.1 q2 = some (100, n4) ∧ n4 < 2147483648) ∧ (
  (0 ≤ a1 ∧ a1 < n4) ∧ (
  ((Int32.ofInt ((Int32.ofInt ((I q2 a1.toNat).toInt) >>> (Int32.ofInt a2 &&& 31)).toInt) &&& Int32.ofInt 1).toInt = 0 → (
    Q (some (jy 0)) I
  )) ∧ (¬ (Int32.ofInt ((Int32.ofInt ((I q2 a1.toNat).toInt) >>> (Int32.ofInt a2 &&& 31)).toInt) &&& Int32.ofInt 1).toInt = 0 → (
    Q (some (jy 1)) I
  ))))))))
set_option maxRecDepth 20000 in
theorem wm_40 {V : jx_V} (hV : V.1.stackTraces = false) {X : jx_X} {R : jx_R} {I : jx_I} {Q : Option Value → jx_I → Prop} {QE : String → jx_I → Prop} {a0 : Nat} {a1 : Int} {a2 : Int} (r_a1 : -2147483648 ≤ a1 ∧ a1 < 2147483648) (r_a2 : -2147483648 ≤ a2 ∧ a2 < 2147483648) 
    (h : wz_40 V X R Q QE  a0 a1 a2 I) : jc V 1 40 (0, 0) [.ref a0, jy a1, jy a2] X I R Q QE := by
  refine jy_met hV (by decide) (n := 3) (rt := some .boolean) (hh := []) (ini := false) (C := jx_c40) (L := [some (.ref a0), some (jy a1), some (jy a2)]) jt_40 (Nat.le_of_ble_eq_true rfl) rfl ?_
  intro J hS
  unfold wz_40 at h
  refine jy_aload_n hS rfl rfl ?_
  obtain ⟨g1, h⟩ := h
  obtain ⟨q2, h⟩ := h
  obtain ⟨g3, h⟩ := h
  refine jy_getR hS rfl (by decide) g1 g3 ?_
  refine jy_iload_n hS rfl rfl ?_
  obtain ⟨n4, h⟩ := h
  obtain ⟨g5, h⟩ := h
  obtain ⟨g6, h⟩ := h
  refine jy_iald hS rfl g5.1 (Nat.le_of_lt g5.2) g6 ?_
  refine jy_iload_n hS rfl rfl ?_
  refine jy_ishrX hS rfl rfl ?_
  refine jy_iconst hS rfl ?_
  refine jy_iandX hS rfl rfl ?_
  refine jy_if_eq hS rfl (jy_rng _) (fun hq => ?_) (fun hq => ?_)
  · have h := h.1 hq
    refine jy_iconst hS rfl ?_
    exact jy_iret hS rfl rfl ⟨rfl, rfl, h⟩
  · have h := h.2 hq
    refine jy_iconst hS rfl ?_
    refine jy_goto hS rfl ?_
    exact jy_iret hS rfl rfl ⟨rfl, rfl, h⟩
theorem jt_41 : jx_ml 41 = 4 ∧ jx_rt 41 = some .int ∧ jx_hz 41 = [] ∧ decide ((jx_nm 41).name = "<init>") = false ∧ jx_code 41 = jx_c41 := by decide +kernel
/-- GC$Land.quarrelsIn, from 4 -/
def wz_41_4 (V : jx_V) (X : jx_X) (R : jx_R) (Q : Option Value → jx_I → Prop) (QE : String → jx_I → Prop) (J4 : Int → Int → jx_I → Prop) (J36 : Int → Int → jx_I → Prop) (a0 : Nat) (a1 : Nat) (l2 : Int) (l3 : Int) (I : jx_I) : Prop :=
  (X.2.1 a1 = some (5, 0)) ∧ (
  (-2147483648 ≤ l3 ∧ l3 < 2147483648) ∧ (
  ((I a1 1).toInt ≤ l3 → (
    Q (some (jy l2)) I
  )) ∧ (¬ (I a1 1).toInt ≤ l3 → (
    ∃ q3 : Nat, (
    (R a1 0 = some q3) ∧ (
    ∃ n5 : Nat, (
    (X.2.1 q3 = some (100, n5) ∧ n5 < 2147483648) ∧ (
    (0 ≤ (l3 - 1) ∧ (l3 - 1) < n5) ∧ (
    (0 ≤ l3 ∧ l3 < n5) ∧ (
    (X.2.1 a0 = some (2, 0)) ∧ (
    ∃ Q10 : Option Value → jx_I → Prop, (
    (jc V 1 40 (0, 0) [.ref a0, jy ((I q3 (l3 - 1).toNat).toInt), jy ((I q3 l3.toNat).toInt)] X I R Q10 (fun _ _ => False)) ∧ (
    ∀ rv I12, Q10 rv I12 → ∃ r13 : Int, rv = some (jy r13) ∧ (
    (-2147483648 ≤ r13 ∧ r13 < 2147483648) ∧ (
    (r13 = 0 → (
      J4 l2 (l3 + 1) I12
    )) ∧ (¬ r13 = 0 → (
      J36 (l2 + 1) l3 I12
    )))))))))))))
  ))))
/-- GC$Land.quarrelsIn, from 36 -/
def wz_41_36 (V : jx_V) (X : jx_X) (R : jx_R) (Q : Option Value → jx_I → Prop) (QE : String → jx_I → Prop) (J4 : Int → Int → jx_I → Prop) (J36 : Int → Int → jx_I → Prop) (a0 : Nat) (a1 : Nat) (l2 : Int) (l3 : Int) (I : jx_I) : Prop :=
  J4 l2 (l3 + 1) I
/-- GC$Land.quarrelsIn -/
def wz_41 (V : jx_V) (X : jx_X) (R : jx_R) (Q : Option Value → jx_I → Prop) (QE : String → jx_I → Prop) (J4 : Int → Int → jx_I → Prop) (J36 : Int → Int → jx_I → Prop) (a0 : Nat) (a1 : Nat) (I : jx_I) : Prop :=
  J4 0 1 I
set_option maxRecDepth 20000 in
theorem wm_41 {V : jx_V} (hV : V.1.stackTraces = false) {X : jx_X} {R : jx_R} {I : jx_I} {Q : Option Value → jx_I → Prop} {QE : String → jx_I → Prop} {a0 : Nat} {a1 : Nat}  
    (h : ∀ (J4 : Int → Int → jx_I → Prop) (J36 : Int → Int → jx_I → Prop), ((∀ (l2 : Int) (l3 : Int) I, wz_41_4 V X R Q QE J4 J36 a0 a1 l2 l3 I → J4 l2 l3 I) ∧ (∀ (l2 : Int) (l3 : Int) I, wz_41_36 V X R Q QE J4 J36 a0 a1 l2 l3 I → J36 l2 l3 I)) → wz_41 V X R Q QE J4 J36 a0 a1 I) : jc V 2 41 (0, 0) [.ref a0, .ref a1] X I R Q QE := by
  refine jy_met hV (by decide) (n := 4) (rt := some .int) (hh := []) (ini := false) (C := jx_c41) (L := [some (.ref a0), some (.ref a1), none, none]) jt_41 (Nat.le_of_ble_eq_true rfl) rfl ?_
  intro J hS
  have h := h (fun l2 l3 I => J 4 [] [some (.ref a0), some (.ref a1), some (jy l2), some (jy l3)] (0, 0) X I R) (fun l2 l3 I => J 36 [] [some (.ref a0), some (.ref a1), some (jy l2), some (jy l3)] (0, 0) X I R) ?_
  · unfold wz_41 at h
    refine jy_iconst hS rfl ?_
    refine jy_istore_n hS rfl (Nat.le_of_ble_eq_true rfl) (L' := [some (.ref a0), some (.ref a1), some (jy 0), none]) rfl ?_
    refine jy_iconst hS rfl ?_
    refine jy_istore_n hS rfl (Nat.le_of_ble_eq_true rfl) (L' := [some (.ref a0), some (.ref a1), some (jy 0), some (jy 1)]) rfl ?_
    exact jy_join hS h rfl (jy_sub_s (jy_sub_s (jy_sub_s (jy_sub_s jy_sub_0))))
  refine ⟨?_, ?_⟩
  · intro l2 l3 I h
    unfold wz_41_4 at h
    refine jy_iload_n hS rfl rfl ?_
    refine jy_aload_n hS rfl rfl ?_
    obtain ⟨g1, h⟩ := h
    refine jy_getI hS rfl (by decide) g1 ?_
    obtain ⟨g2, h⟩ := h
    refine jy_icmp_ge hS rfl ⟨g2, (jy_rng _)⟩ (fun hq => ?_) (fun hq => ?_)
    · have h := h.1 hq
      refine jy_iload_n hS rfl rfl ?_
      exact jy_iret hS rfl rfl ⟨rfl, rfl, h⟩
    · have h := h.2 hq
      refine jy_aload_n hS rfl rfl ?_
      refine jy_aload_n hS rfl rfl ?_
      obtain ⟨q3, h⟩ := h
      obtain ⟨g4, h⟩ := h
      refine jy_getR hS rfl (by decide) g1 g4 ?_
      refine jy_iload_n hS rfl rfl ?_
      refine jy_iconst hS rfl ?_
      refine jy_isub hS rfl ?_
      obtain ⟨n5, h⟩ := h
      obtain ⟨g6, h⟩ := h
      obtain ⟨g7, h⟩ := h
      refine jy_iald hS rfl g6.1 (Nat.le_of_lt g6.2) g7 ?_
      refine jy_aload_n hS rfl rfl ?_
      refine jy_getR hS rfl (by decide) g1 g4 ?_
      refine jy_iload_n hS rfl rfl ?_
      obtain ⟨g8, h⟩ := h
      refine jy_iald hS rfl g6.1 (Nat.le_of_lt g6.2) g8 ?_
      obtain ⟨g9, h⟩ := h
      obtain ⟨Q10, h⟩ := h
      obtain ⟨g11, h⟩ := h
      refine jy_callV hS rfl rfl rfl (Nat.le_of_ble_eq_true rfl) (Or.inl g9) g11 (by decide) ⟨by decide, by decide⟩ (Nat.le_of_ble_eq_true rfl) ?_ ?_
      rotate_left
      · exact fun Ex Xx Ix Rx hp => hp.2.2.2.elim
      intro rv Xx I12 Rx hp
      obtain ⟨e1, e2, hp⟩ := hp
      rw [e1, e2]
      clear e1 e2
      obtain ⟨r13, e1, h⟩ := h rv I12 hp
      rw [e1]
      clear e1
      change J 30 [jy r13] _ (0, 0) _ _ _
      obtain ⟨g14, h⟩ := h
      refine jy_if_eq hS rfl g14 (fun hq => ?_) (fun hq => ?_)
      · have h := h.1 hq
        refine jy_iinc hS rfl rfl (L' := [some (.ref a0), some (.ref a1), some (jy l2), some (jy (l3 + 1))]) rfl ?_
        refine jy_goto hS rfl ?_
        exact jy_join hS h rfl (jy_sub_s (jy_sub_s (jy_sub_s (jy_sub_s jy_sub_0))))
      · have h := h.2 hq
        refine jy_iinc hS rfl rfl (L' := [some (.ref a0), some (.ref a1), some (jy (l2 + 1)), some (jy l3)]) rfl ?_
        exact jy_join hS h rfl (jy_sub_s (jy_sub_s (jy_sub_s (jy_sub_s jy_sub_0))))
  · intro l2 l3 I h
    unfold wz_41_36 at h
    refine jy_iinc hS rfl rfl (L' := [some (.ref a0), some (.ref a1), some (jy l2), some (jy (l3 + 1))]) rfl ?_
    refine jy_goto hS rfl ?_
    exact jy_join hS h rfl (jy_sub_s (jy_sub_s (jy_sub_s (jy_sub_s jy_sub_0))))
theorem jt_42 : jx_ml 42 = 2 ∧ jx_rt 42 = some .boolean ∧ jx_hz 42 = [] ∧ decide ((jx_nm 42).name = "<init>") = false ∧ jx_code 42 = jx_c42 := by decide +kernel
/-- GC$Land.hasAll -/
def wz_42 (V : jx_V) (X : jx_X) (R : jx_R) (Q : Option Value → jx_I → Prop) (QE : String → jx_I → Prop)  (a0 : Nat) (a1 : Int) (I : jx_I) : Prop :=
  (a1 < 0 → (
    Q (some (jy 0)) I
  )) ∧ (¬ a1 < 0 → (
    (X.2.1 a0 = some (2, 0)) ∧ (
    ((Int32.ofInt 1 <<< (Int32.ofInt ((I a0 8).toInt) &&& 31)).toInt ≤ a1 → (
      Q (some (jy 0)) I
    )) ∧ (¬ (Int32.ofInt 1 <<< (Int32.ofInt ((I a0 8).toInt) &&& 31)).toInt ≤ a1 → (
      Q (some (jy 1)) I
    )))
  ))
set_option maxRecDepth 20000 in
theorem wm_42 {V : jx_V} (hV : V.1.stackTraces = false) {X : jx_X} {R : jx_R} {I : jx_I} {Q : Option Value → jx_I → Prop} {QE : String → jx_I → Prop} {a0 : Nat} {a1 : Int} (r_a1 : -2147483648 ≤ a1 ∧ a1 < 2147483648) 
    (h : wz_42 V X R Q QE  a0 a1 I) : jc V 1 42 (0, 0) [.ref a0, jy a1] X I R Q QE := by
  refine jy_met hV (by decide) (n := 2) (rt := some .boolean) (hh := []) (ini := false) (C := jx_c42) (L := [some (.ref a0), some (jy a1)]) jt_42 (Nat.le_of_ble_eq_true rfl) rfl ?_
  intro J hS
  unfold wz_42 at h
  refine jy_iload_n hS rfl rfl ?_
  refine jy_if_lt hS rfl r_a1 (fun hq => ?_) (fun hq => ?_)
  · have h := h.1 hq
    refine jy_iconst hS rfl ?_
    exact jy_iret hS rfl rfl ⟨rfl, rfl, h⟩
  · have h := h.2 hq
    refine jy_iload_n hS rfl rfl ?_
    refine jy_iconst hS rfl ?_
    refine jy_aload_n hS rfl rfl ?_
    obtain ⟨g1, h⟩ := h
    refine jy_getI hS rfl (by decide) g1 ?_
    refine jy_ishlX hS rfl rfl ?_
    refine jy_icmp_ge hS rfl ⟨r_a1, (jy_rng _)⟩ (fun hq => ?_) (fun hq => ?_)
    · have h := h.1 hq
      refine jy_iconst hS rfl ?_
      exact jy_iret hS rfl rfl ⟨rfl, rfl, h⟩
    · have h := h.2 hq
      refine jy_iconst hS rfl ?_
      refine jy_goto hS rfl ?_
      exact jy_iret hS rfl rfl ⟨rfl, rfl, h⟩
theorem jt_44 : jx_ml 44 = 1 ∧ jx_rt 44 = none ∧ jx_hz 44 = [] ∧ decide ((jx_nm 44).name = "<init>") = false ∧ jx_code 44 = jx_c44 := by decide +kernel
/-- GC$Law.becomeMost -/
def wz_44 (V : jx_V) (X : jx_X) (R : jx_R) (Q : Option Value → jx_I → Prop) (QE : String → jx_I → Prop)  (a0 : Nat) (I : jx_I) : Prop :=
  (X.2.1 a0 = some (3, 0)) ∧ (
  ∀ I2 : jx_I, I2 = jx_u I a0 3 (Int32.ofInt 0) → (
  ∃ Q3 : Option Value → jx_I → Prop, (
  (jc V 1 50 (0, 0) [.ref a0, jy 100] X I2 R Q3 (fun _ _ => False)) ∧ (
  ∀ rv I5, Q3 rv I5 → rv = none ∧ (
  Q none I5)))))
set_option maxRecDepth 20000 in
theorem wm_44 {V : jx_V} (hV : V.1.stackTraces = false) {X : jx_X} {R : jx_R} {I : jx_I} {Q : Option Value → jx_I → Prop} {QE : String → jx_I → Prop} {a0 : Nat}  
    (h : wz_44 V X R Q QE  a0 I) : jc V 2 44 (0, 0) [.ref a0] X I R Q QE := by
  refine jy_met hV (by decide) (n := 1) (rt := none) (hh := []) (ini := false) (C := jx_c44) (L := [some (.ref a0)]) jt_44 (Nat.le_of_ble_eq_true rfl) rfl ?_
  intro J hS
  unfold wz_44 at h
  refine jy_aload_n hS rfl rfl ?_
  refine jy_iconst hS rfl ?_
  obtain ⟨g1, h⟩ := h
  refine jy_putI hS rfl (by decide) g1 ?_
  intro I2 e9
  have h := h I2 e9
  clear e9
  refine jy_aload_n hS rfl rfl ?_
  refine jy_bipush hS rfl (by decide) ?_
  obtain ⟨Q3, h⟩ := h
  obtain ⟨g4, h⟩ := h
  refine jy_callV hS rfl rfl rfl (Nat.le_of_ble_eq_true rfl) (Or.inl g1) g4 (by decide) ⟨by decide, by decide⟩ (Nat.le_of_ble_eq_true rfl) ?_ ?_
  rotate_left
  · exact fun Ex Xx Ix Rx hp => hp.2.2.2.elim
  intro rv Xx I5 Rx hp
  obtain ⟨e1, e2, hp⟩ := hp
  rw [e1, e2]
  clear e1 e2
  obtain ⟨e1, h⟩ := h rv I5 hp
  rw [e1]
  clear e1
  change J 11 [] _ (0, 0) _ _ _
  exact jy_ret hS rfl rfl ⟨rfl, rfl, h⟩
theorem jt_45 : jx_ml 45 = 1 ∧ jx_rt 45 = none ∧ jx_hz 45 = [] ∧ decide ((jx_nm 45).name = "<init>") = false ∧ jx_code 45 = jx_c45 := by decide +kernel
/-- GC$Law.forget -/
def wz_45 (V : jx_V) (X : jx_X) (R : jx_R) (Q : Option Value → jx_I → Prop) (QE : String → jx_I → Prop)  (a0 : Nat) (I : jx_I) : Prop :=
  (X.2.1 a0 = some (3, 0)) ∧ (
  ∀ I2 : jx_I, I2 = jx_u I a0 3 (Int32.ofInt 0) → (
  Q none I2))
set_option maxRecDepth 20000 in
theorem wm_45 {V : jx_V} (hV : V.1.stackTraces = false) {X : jx_X} {R : jx_R} {I : jx_I} {Q : Option Value → jx_I → Prop} {QE : String → jx_I → Prop} {a0 : Nat}  
    (h : wz_45 V X R Q QE  a0 I) : jc V 1 45 (0, 0) [.ref a0] X I R Q QE := by
  refine jy_met hV (by decide) (n := 1) (rt := none) (hh := []) (ini := false) (C := jx_c45) (L := [some (.ref a0)]) jt_45 (Nat.le_of_ble_eq_true rfl) rfl ?_
  intro J hS
  unfold wz_45 at h
  refine jy_aload_n hS rfl rfl ?_
  refine jy_iconst hS rfl ?_
  obtain ⟨g1, h⟩ := h
  refine jy_putI hS rfl (by decide) g1 ?_
  intro I2 e9
  have h := h I2 e9
  clear e9
  exact jy_ret hS rfl rfl ⟨rfl, rfl, h⟩
theorem jt_46 : jx_ml 46 = 5 ∧ jx_rt 46 = some .boolean ∧ jx_hz 46 = [] ∧ decide ((jx_nm 46).name = "<init>") = false ∧ jx_code 46 = jx_c46 := by decide +kernel
/-- GC$Law.readSum, from 13 -/
def wz_46_13 (d : Nat) (V : jx_V) (X : jx_X) (R : jx_R) (Q : Option Value → jx_I → Prop) (QE : String → jx_I → Prop) (J13 : Int → jx_I → Prop) (J49 : Int → Int → jx_I → Prop) (a0 : Nat) (a1 : Nat) (a2 : Int) (l3 : Int) (I : jx_I) : Prop :=
  (-2147483648 ≤ l3 ∧ l3 < 2147483648) ∧ (
  (600 ≤ l3 → (
    Q (some (jy 1)) I
  )) ∧ (¬ 600 ≤ l3 → (
    (X.2.1 a1 = some (8, 0)) ∧ (
    (2 < d) ∧ (
    ∃ Q11 : Option Value → jx_I → Prop, (
    (jc V 2 112 (0, 0) [.ref a1, jy 43] X I R Q11 (fun _ _ => False)) ∧ (
    ∀ rv I14, Q11 rv I14 → ∃ r15 : Int, rv = some (jy r15) ∧ (
    (-2147483648 ≤ r15 ∧ r15 < 2147483648) ∧ (
    (r15 = 0 → (
      (2 < d) ∧ (
      ∃ Q17 : Option Value → jx_I → Prop, (
      (jc V 2 112 (0, 0) [.ref a1, jy 45] X I14 R Q17 (fun _ _ => False)) ∧ (
      ∀ rv I20, Q17 rv I20 → ∃ r21 : Int, rv = some (jy r21) ∧ (
      (-2147483648 ≤ r21 ∧ r21 < 2147483648) ∧ (
      (r21 = 0 → (
        J49 (-1) l3 I20
      )) ∧ (¬ r21 = 0 → (
        J49 106 l3 I20
      )))))))
    )) ∧ (¬ r15 = 0 → (
      J49 105 l3 I14
    ))))))))
  )))
/-- GC$Law.readSum, from 49 -/
def wz_46_49 (d : Nat) (V : jx_V) (X : jx_X) (R : jx_R) (Q : Option Value → jx_I → Prop) (QE : String → jx_I → Prop) (J13 : Int → jx_I → Prop) (J49 : Int → Int → jx_I → Prop) (a0 : Nat) (a1 : Nat) (a2 : Int) (s0 : Int) (l3 : Int) (I : jx_I) : Prop :=
  (-2147483648 ≤ s0 ∧ s0 < 2147483648) ∧ (
  (0 ≤ s0 → (
    (X.2.1 a0 = some (3, 0)) ∧ (
    ∃ d26 : Nat, d26 < d ∧ (
    ∃ Q25 : Option Value → jx_I → Prop, (
    (jc V d26 47 (0, 0) [.ref a0, .ref a1, jy a2] X I R Q25 (fun _ _ => False)) ∧ (
    ∀ rv I29, Q25 rv I29 → ∃ r30 : Int, rv = some (jy r30) ∧ (
    (-2147483648 ≤ r30 ∧ r30 < 2147483648) ∧ (
    (r30 ≠ 0 → (
      (1 < d) ∧ (
      ∃ Q32 : Option Value → jx_I → Prop, (
      (jc V 1 50 (0, 0) [.ref a0, jy s0] X I29 R Q32 (fun _ _ => False)) ∧ (
      ∀ rv I35, Q32 rv I35 → rv = none ∧ (
      J13 (l3 + 1) I35))))
    )) ∧ (r30 = 0 → (
      Q (some (jy 0)) I29
    ))))))))
  )) ∧ (¬ 0 ≤ s0 → (
    Q (some (jy 1)) I
  )))
/-- GC$Law.readSum -/
def wz_46 (d : Nat) (V : jx_V) (X : jx_X) (R : jx_R) (Q : Option Value → jx_I → Prop) (QE : String → jx_I → Prop) (J13 : Int → jx_I → Prop) (J49 : Int → Int → jx_I → Prop) (a0 : Nat) (a1 : Nat) (a2 : Int) (I : jx_I) : Prop :=
  (X.2.1 a0 = some (3, 0)) ∧ (
  ∃ d3 : Nat, d3 < d ∧ (
  ∃ Q2 : Option Value → jx_I → Prop, (
  (jc V d3 47 (0, 0) [.ref a0, .ref a1, jy a2] X I R Q2 (fun _ _ => False)) ∧ (
  ∀ rv I6, Q2 rv I6 → ∃ r7 : Int, rv = some (jy r7) ∧ (
  (-2147483648 ≤ r7 ∧ r7 < 2147483648) ∧ (
  (r7 ≠ 0 → (
    J13 0 I6
  )) ∧ (r7 = 0 → (
    Q (some (jy 0)) I6
  ))))))))
set_option maxRecDepth 20000 in
theorem wm_46 {V : jx_V} (hV : V.1.stackTraces = false) {d : Nat} {X : jx_X} {R : jx_R} {I : jx_I} {Q : Option Value → jx_I → Prop} {QE : String → jx_I → Prop} {a0 : Nat} {a1 : Nat} {a2 : Int} (r_a2 : -2147483648 ≤ a2 ∧ a2 < 2147483648) 
    (h : ∀ (J13 : Int → jx_I → Prop) (J49 : Int → Int → jx_I → Prop), ((∀ (l3 : Int) I, wz_46_13 d V X R Q QE J13 J49 a0 a1 a2 l3 I → J13 l3 I) ∧ (∀ (s0 : Int) (l3 : Int) I, wz_46_49 d V X R Q QE J13 J49 a0 a1 a2 s0 l3 I → J49 s0 l3 I)) → wz_46 d V X R Q QE J13 J49 a0 a1 a2 I) : jc V d 46 (0, 0) [.ref a0, .ref a1, jy a2] X I R Q QE := by
  refine jy_met hV (by decide) (n := 5) (rt := some .boolean) (hh := []) (ini := false) (C := jx_c46) (L := [some (.ref a0), some (.ref a1), some (jy a2), none, none]) jt_46 (Nat.le_of_ble_eq_true rfl) rfl ?_
  intro J hS
  have h := h (fun l3 I => J 13 [] [some (.ref a0), some (.ref a1), some (jy a2), some (jy l3), none] (0, 0) X I R) (fun s0 l3 I => J 49 [jy s0] [some (.ref a0), some (.ref a1), some (jy a2), some (jy l3), none] (0, 0) X I R) ?_
  · unfold wz_46 at h
    refine jy_aload_n hS rfl rfl ?_
    refine jy_aload_n hS rfl rfl ?_
    refine jy_iload_n hS rfl rfl ?_
    obtain ⟨g1, h⟩ := h
    obtain ⟨d3, g4, h⟩ := h
    obtain ⟨Q2, h⟩ := h
    obtain ⟨g5, h⟩ := h
    refine jy_callV hS rfl rfl rfl (Nat.le_of_ble_eq_true rfl) (Or.inl g1) g5 g4 ⟨by decide, by decide⟩ (Nat.le_of_ble_eq_true rfl) ?_ ?_
    rotate_left
    · exact fun Ex Xx Ix Rx hp => hp.2.2.2.elim
    intro rv Xx I6 Rx hp
    obtain ⟨e1, e2, hp⟩ := hp
    rw [e1, e2]
    clear e1 e2
    obtain ⟨r7, e1, h⟩ := h rv I6 hp
    rw [e1]
    clear e1
    change J 6 [jy r7] _ (0, 0) _ _ _
    obtain ⟨g8, h⟩ := h
    refine jy_if_ne hS rfl g8 (fun hq => ?_) (fun hq => ?_)
    · have h := h.1 hq
      refine jy_iconst hS rfl ?_
      refine jy_istore_n hS rfl (Nat.le_of_ble_eq_true rfl) (L' := [some (.ref a0), some (.ref a1), some (jy a2), some (jy 0), none]) rfl ?_
      exact jy_join hS h rfl (jy_sub_s (jy_sub_s (jy_sub_s (jy_sub_s (jy_sub_n jy_sub_0)))))
    · have h := h.2 hq
      refine jy_iconst hS rfl ?_
      exact jy_iret hS rfl rfl ⟨rfl, rfl, h⟩
  refine ⟨?_, ?_⟩
  · intro l3 I h
    unfold wz_46_13 at h
    refine jy_iload_n hS rfl rfl ?_
    refine jy_sipush hS rfl (by decide) ?_
    obtain ⟨g9, h⟩ := h
    refine jy_icmp_ge hS rfl ⟨g9, ⟨by decide, by decide⟩⟩ (fun hq => ?_) (fun hq => ?_)
    · have h := h.1 hq
      refine jy_iconst hS rfl ?_
      exact jy_iret hS rfl rfl ⟨rfl, rfl, h⟩
    · have h := h.2 hq
      refine jy_aload_n hS rfl rfl ?_
      refine jy_bipush hS rfl (by decide) ?_
      obtain ⟨g10, h⟩ := h
      obtain ⟨g12, h⟩ := h
      obtain ⟨Q11, h⟩ := h
      obtain ⟨g13, h⟩ := h
      refine jy_callV hS rfl rfl rfl (Nat.le_of_ble_eq_true rfl) (Or.inl g10) g13 g12 ⟨by decide, by decide⟩ (Nat.le_of_ble_eq_true rfl) ?_ ?_
      rotate_left
      · exact fun Ex Xx Ix Rx hp => hp.2.2.2.elim
      intro rv Xx I14 Rx hp
      obtain ⟨e1, e2, hp⟩ := hp
      rw [e1, e2]
      clear e1 e2
      obtain ⟨r15, e1, h⟩ := h rv I14 hp
      rw [e1]
      clear e1
      change J 26 [jy r15] _ (0, 0) _ _ _
      obtain ⟨g16, h⟩ := h
      refine jy_if_eq hS rfl g16 (fun hq => ?_) (fun hq => ?_)
      · have h := h.1 hq
        refine jy_aload_n hS rfl rfl ?_
        refine jy_bipush hS rfl (by decide) ?_
        obtain ⟨g18, h⟩ := h
        obtain ⟨Q17, h⟩ := h
        obtain ⟨g19, h⟩ := h
        refine jy_callV hS rfl rfl rfl (Nat.le_of_ble_eq_true rfl) (Or.inl g10) g19 g18 ⟨by decide, by decide⟩ (Nat.le_of_ble_eq_true rfl) ?_ ?_
        rotate_left
        · exact fun Ex Xx Ix Rx hp => hp.2.2.2.elim
        intro rv Xx I20 Rx hp
        obtain ⟨e1, e2, hp⟩ := hp
        rw [e1, e2]
        clear e1 e2
        obtain ⟨r21, e1, h⟩ := h rv I20 hp
        rw [e1]
        clear e1
        change J 40 [jy r21] _ (0, 0) _ _ _
        obtain ⟨g22, h⟩ := h
        refine jy_if_eq hS rfl g22 (fun hq => ?_) (fun hq => ?_)
        · have h := h.1 hq
          refine jy_iconst hS rfl ?_
          exact jy_join hS h rfl (jy_sub_s (jy_sub_s (jy_sub_s (jy_sub_s (jy_sub_n jy_sub_0)))))
        · have h := h.2 hq
          refine jy_bipush hS rfl (by decide) ?_
          refine jy_goto hS rfl ?_
          exact jy_join hS h rfl (jy_sub_s (jy_sub_s (jy_sub_s (jy_sub_s (jy_sub_n jy_sub_0)))))
      · have h := h.2 hq
        refine jy_bipush hS rfl (by decide) ?_
        refine jy_goto hS rfl ?_
        exact jy_join hS h rfl (jy_sub_s (jy_sub_s (jy_sub_s (jy_sub_s (jy_sub_n jy_sub_0)))))
  · intro s0 l3 I h
    unfold wz_46_49 at h
    refine jy_istore hS rfl (Nat.le_of_ble_eq_true rfl) (L' := [some (.ref a0), some (.ref a1), some (jy a2), some (jy l3), some (jy s0)]) rfl ?_
    refine jy_iload hS rfl rfl ?_
    obtain ⟨g23, h⟩ := h
    refine jy_if_ge hS rfl g23 (fun hq => ?_) (fun hq => ?_)
    · have h := h.1 hq
      refine jy_aload_n hS rfl rfl ?_
      refine jy_aload_n hS rfl rfl ?_
      refine jy_iload_n hS rfl rfl ?_
      obtain ⟨g24, h⟩ := h
      obtain ⟨d26, g27, h⟩ := h
      obtain ⟨Q25, h⟩ := h
      obtain ⟨g28, h⟩ := h
      refine jy_callV hS rfl rfl rfl (Nat.le_of_ble_eq_true rfl) (Or.inl g24) g28 g27 ⟨by decide, by decide⟩ (Nat.le_of_ble_eq_true rfl) ?_ ?_
      rotate_left
      · exact fun Ex Xx Ix Rx hp => hp.2.2.2.elim
      intro rv Xx I29 Rx hp
      obtain ⟨e1, e2, hp⟩ := hp
      rw [e1, e2]
      clear e1 e2
      obtain ⟨r30, e1, h⟩ := h rv I29 hp
      rw [e1]
      clear e1
      change J 64 [jy r30] _ (0, 0) _ _ _
      obtain ⟨g31, h⟩ := h
      refine jy_if_ne hS rfl g31 (fun hq => ?_) (fun hq => ?_)
      · have h := h.1 hq
        refine jy_aload_n hS rfl rfl ?_
        refine jy_iload hS rfl rfl ?_
        obtain ⟨g33, h⟩ := h
        obtain ⟨Q32, h⟩ := h
        obtain ⟨g34, h⟩ := h
        refine jy_callV hS rfl rfl rfl (Nat.le_of_ble_eq_true rfl) (Or.inl g24) g34 g33 ⟨by decide, by decide⟩ (Nat.le_of_ble_eq_true rfl) ?_ ?_
        rotate_left
        · exact fun Ex Xx Ix Rx hp => hp.2.2.2.elim
        intro rv Xx I35 Rx hp
        obtain ⟨e1, e2, hp⟩ := hp
        rw [e1, e2]
        clear e1 e2
        obtain ⟨e1, h⟩ := h rv I35 hp
        rw [e1]
        clear e1
        change J 75 [] _ (0, 0) _ _ _
        refine jy_iinc hS rfl rfl (L' := [some (.ref a0), some (.ref a1), some (jy a2), some (jy (l3 + 1)), some (jy s0)]) rfl ?_
        refine jy_goto hS rfl ?_
        exact jy_join hS h rfl (jy_sub_s (jy_sub_s (jy_sub_s (jy_sub_s (jy_sub_n jy_sub_0)))))
      · have h := h.2 hq
        refine jy_iconst hS rfl ?_
        exact jy_iret hS rfl rfl ⟨rfl, rfl, h⟩
    · have h := h.2 hq
      refine jy_iconst hS rfl ?_
      exact jy_iret hS rfl rfl ⟨rfl, rfl, h⟩
theorem jt_47 : jx_ml 47 = 4 ∧ jx_rt 47 = some .boolean ∧ jx_hz 47 = [] ∧ decide ((jx_nm 47).name = "<init>") = false ∧ jx_code 47 = jx_c47 := by decide +kernel
/-- GC$Law.readProduct, from 13 -/
def wz_47_13 (d : Nat) (V : jx_V) (X : jx_X) (R : jx_R) (Q : Option Value → jx_I → Prop) (QE : String → jx_I → Prop) (J13 : Int → jx_I → Prop) (a0 : Nat) (a1 : Nat) (a2 : Int) (l3 : Int) (I : jx_I) : Prop :=
  (-2147483648 ≤ l3 ∧ l3 < 2147483648) ∧ (
  (600 ≤ l3 → (
    Q (some (jy 1)) I
  )) ∧ (¬ 600 ≤ l3 → (
    (X.2.1 a1 = some (8, 0)) ∧ (
    (2 < d) ∧ (
    ∃ Q11 : Option Value → jx_I → Prop, (
    (jc V 2 112 (0, 0) [.ref a1, jy 42] X I R Q11 (fun _ _ => False)) ∧ (
    ∀ rv I14, Q11 rv I14 → ∃ r15 : Int, rv = some (jy r15) ∧ (
    (-2147483648 ≤ r15 ∧ r15 < 2147483648) ∧ (
    (r15 = 0 → (
      Q (some (jy 1)) I14
    )) ∧ (¬ r15 = 0 → (
      (X.2.1 a0 = some (3, 0)) ∧ (
      ∃ d19 : Nat, d19 < d ∧ (
      ∃ Q18 : Option Value → jx_I → Prop, (
      (jc V d19 48 (0, 0) [.ref a0, .ref a1, jy a2] X I14 R Q18 (fun _ _ => False)) ∧ (
      ∀ rv I22, Q18 rv I22 → ∃ r23 : Int, rv = some (jy r23) ∧ (
      (-2147483648 ≤ r23 ∧ r23 < 2147483648) ∧ (
      (r23 ≠ 0 → (
        (1 < d) ∧ (
        ∃ Q25 : Option Value → jx_I → Prop, (
        (jc V 1 50 (0, 0) [.ref a0, jy 107] X I22 R Q25 (fun _ _ => False)) ∧ (
        ∀ rv I28, Q25 rv I28 → rv = none ∧ (
        J13 (l3 + 1) I28))))
      )) ∧ (r23 = 0 → (
        Q (some (jy 0)) I22
      ))))))))
    ))))))))
  )))
/-- GC$Law.readProduct -/
def wz_47 (d : Nat) (V : jx_V) (X : jx_X) (R : jx_R) (Q : Option Value → jx_I → Prop) (QE : String → jx_I → Prop) (J13 : Int → jx_I → Prop) (a0 : Nat) (a1 : Nat) (a2 : Int) (I : jx_I) : Prop :=
  (X.2.1 a0 = some (3, 0)) ∧ (
  ∃ d3 : Nat, d3 < d ∧ (
  ∃ Q2 : Option Value → jx_I → Prop, (
  (jc V d3 48 (0, 0) [.ref a0, .ref a1, jy a2] X I R Q2 (fun _ _ => False)) ∧ (
  ∀ rv I6, Q2 rv I6 → ∃ r7 : Int, rv = some (jy r7) ∧ (
  (-2147483648 ≤ r7 ∧ r7 < 2147483648) ∧ (
  (r7 ≠ 0 → (
    J13 0 I6
  )) ∧ (r7 = 0 → (
    Q (some (jy 0)) I6
  ))))))))
set_option maxRecDepth 20000 in
theorem wm_47 {V : jx_V} (hV : V.1.stackTraces = false) {d : Nat} {X : jx_X} {R : jx_R} {I : jx_I} {Q : Option Value → jx_I → Prop} {QE : String → jx_I → Prop} {a0 : Nat} {a1 : Nat} {a2 : Int} (r_a2 : -2147483648 ≤ a2 ∧ a2 < 2147483648) 
    (h : ∀ (J13 : Int → jx_I → Prop), ((∀ (l3 : Int) I, wz_47_13 d V X R Q QE J13 a0 a1 a2 l3 I → J13 l3 I)) → wz_47 d V X R Q QE J13 a0 a1 a2 I) : jc V d 47 (0, 0) [.ref a0, .ref a1, jy a2] X I R Q QE := by
  refine jy_met hV (by decide) (n := 4) (rt := some .boolean) (hh := []) (ini := false) (C := jx_c47) (L := [some (.ref a0), some (.ref a1), some (jy a2), none]) jt_47 (Nat.le_of_ble_eq_true rfl) rfl ?_
  intro J hS
  have h := h (fun l3 I => J 13 [] [some (.ref a0), some (.ref a1), some (jy a2), some (jy l3)] (0, 0) X I R) ?_
  · unfold wz_47 at h
    refine jy_aload_n hS rfl rfl ?_
    refine jy_aload_n hS rfl rfl ?_
    refine jy_iload_n hS rfl rfl ?_
    obtain ⟨g1, h⟩ := h
    obtain ⟨d3, g4, h⟩ := h
    obtain ⟨Q2, h⟩ := h
    obtain ⟨g5, h⟩ := h
    refine jy_callV hS rfl rfl rfl (Nat.le_of_ble_eq_true rfl) (Or.inl g1) g5 g4 ⟨by decide, by decide⟩ (Nat.le_of_ble_eq_true rfl) ?_ ?_
    rotate_left
    · exact fun Ex Xx Ix Rx hp => hp.2.2.2.elim
    intro rv Xx I6 Rx hp
    obtain ⟨e1, e2, hp⟩ := hp
    rw [e1, e2]
    clear e1 e2
    obtain ⟨r7, e1, h⟩ := h rv I6 hp
    rw [e1]
    clear e1
    change J 6 [jy r7] _ (0, 0) _ _ _
    obtain ⟨g8, h⟩ := h
    refine jy_if_ne hS rfl g8 (fun hq => ?_) (fun hq => ?_)
    · have h := h.1 hq
      refine jy_iconst hS rfl ?_
      refine jy_istore_n hS rfl (Nat.le_of_ble_eq_true rfl) (L' := [some (.ref a0), some (.ref a1), some (jy a2), some (jy 0)]) rfl ?_
      exact jy_join hS h rfl (jy_sub_s (jy_sub_s (jy_sub_s (jy_sub_s jy_sub_0))))
    · have h := h.2 hq
      refine jy_iconst hS rfl ?_
      exact jy_iret hS rfl rfl ⟨rfl, rfl, h⟩
  · intro l3 I h
    unfold wz_47_13 at h
    refine jy_iload_n hS rfl rfl ?_
    refine jy_sipush hS rfl (by decide) ?_
    obtain ⟨g9, h⟩ := h
    refine jy_icmp_ge hS rfl ⟨g9, ⟨by decide, by decide⟩⟩ (fun hq => ?_) (fun hq => ?_)
    · have h := h.1 hq
      refine jy_iconst hS rfl ?_
      exact jy_iret hS rfl rfl ⟨rfl, rfl, h⟩
    · have h := h.2 hq
      refine jy_aload_n hS rfl rfl ?_
      refine jy_bipush hS rfl (by decide) ?_
      obtain ⟨g10, h⟩ := h
      obtain ⟨g12, h⟩ := h
      obtain ⟨Q11, h⟩ := h
      obtain ⟨g13, h⟩ := h
      refine jy_callV hS rfl rfl rfl (Nat.le_of_ble_eq_true rfl) (Or.inl g10) g13 g12 ⟨by decide, by decide⟩ (Nat.le_of_ble_eq_true rfl) ?_ ?_
      rotate_left
      · exact fun Ex Xx Ix Rx hp => hp.2.2.2.elim
      intro rv Xx I14 Rx hp
      obtain ⟨e1, e2, hp⟩ := hp
      rw [e1, e2]
      clear e1 e2
      obtain ⟨r15, e1, h⟩ := h rv I14 hp
      rw [e1]
      clear e1
      change J 26 [jy r15] _ (0, 0) _ _ _
      obtain ⟨g16, h⟩ := h
      refine jy_if_eq hS rfl g16 (fun hq => ?_) (fun hq => ?_)
      · have h := h.1 hq
        refine jy_iconst hS rfl ?_
        exact jy_iret hS rfl rfl ⟨rfl, rfl, h⟩
      · have h := h.2 hq
        refine jy_aload_n hS rfl rfl ?_
        refine jy_aload_n hS rfl rfl ?_
        refine jy_iload_n hS rfl rfl ?_
        obtain ⟨g17, h⟩ := h
        obtain ⟨d19, g20, h⟩ := h
        obtain ⟨Q18, h⟩ := h
        obtain ⟨g21, h⟩ := h
        refine jy_callV hS rfl rfl rfl (Nat.le_of_ble_eq_true rfl) (Or.inl g17) g21 g20 ⟨by decide, by decide⟩ (Nat.le_of_ble_eq_true rfl) ?_ ?_
        rotate_left
        · exact fun Ex Xx Ix Rx hp => hp.2.2.2.elim
        intro rv Xx I22 Rx hp
        obtain ⟨e1, e2, hp⟩ := hp
        rw [e1, e2]
        clear e1 e2
        obtain ⟨r23, e1, h⟩ := h rv I22 hp
        rw [e1]
        clear e1
        change J 35 [jy r23] _ (0, 0) _ _ _
        obtain ⟨g24, h⟩ := h
        refine jy_if_ne hS rfl g24 (fun hq => ?_) (fun hq => ?_)
        · have h := h.1 hq
          refine jy_aload_n hS rfl rfl ?_
          refine jy_bipush hS rfl (by decide) ?_
          obtain ⟨g26, h⟩ := h
          obtain ⟨Q25, h⟩ := h
          obtain ⟨g27, h⟩ := h
          refine jy_callV hS rfl rfl rfl (Nat.le_of_ble_eq_true rfl) (Or.inl g17) g27 g26 ⟨by decide, by decide⟩ (Nat.le_of_ble_eq_true rfl) ?_ ?_
          rotate_left
          · exact fun Ex Xx Ix Rx hp => hp.2.2.2.elim
          intro rv Xx I28 Rx hp
          obtain ⟨e1, e2, hp⟩ := hp
          rw [e1, e2]
          clear e1 e2
          obtain ⟨e1, h⟩ := h rv I28 hp
          rw [e1]
          clear e1
          change J 46 [] _ (0, 0) _ _ _
          refine jy_iinc hS rfl rfl (L' := [some (.ref a0), some (.ref a1), some (jy a2), some (jy (l3 + 1))]) rfl ?_
          refine jy_goto hS rfl ?_
          exact jy_join hS h rfl (jy_sub_s (jy_sub_s (jy_sub_s (jy_sub_s jy_sub_0))))
        · have h := h.2 hq
          refine jy_iconst hS rfl ?_
          exact jy_iret hS rfl rfl ⟨rfl, rfl, h⟩
theorem jt_48 : jx_ml 48 = 4 ∧ jx_rt 48 = some .boolean ∧ jx_hz 48 = [] ∧ decide ((jx_nm 48).name = "<init>") = false ∧ jx_code 48 = jx_c48 := by decide +kernel
/-- GC$Law.readUnit -/
def wz_48 (d : Nat) (V : jx_V) (X : jx_X) (R : jx_R) (Q : Option Value → jx_I → Prop) (QE : String → jx_I → Prop)  (a0 : Nat) (a1 : Nat) (a2 : Int) (I : jx_I) : Prop :=
  (X.2.1 a1 = some (8, 0)) ∧ (
  (1 < d) ∧ (
  ∃ Q2 : Option Value → jx_I → Prop, (
  (jc V 1 111 (0, 0) [.ref a1, jy 40] X I R Q2 (fun _ _ => False)) ∧ (
  ∀ rv I5, Q2 rv I5 → ∃ r6 : Int, rv = some (jy r6) ∧ (
  (-2147483648 ≤ r6 ∧ r6 < 2147483648) ∧ (
  (r6 = 0 → (
    (1 < d) ∧ (
    ∃ Q8 : Option Value → jx_I → Prop, (
    (jc V 1 114 (0, 0) [.ref a1] X I5 R Q8 (fun _ _ => False)) ∧ (
    ∀ rv I11, Q8 rv I11 → ∃ r12 : Int, rv = some (jy r12) ∧ (
    (-2147483648 ≤ r12 ∧ r12 < 2147483648) ∧ (
    (r12 = 0 → (
      (2 < d) ∧ (
      ∃ Q14 : Option Value → jx_I → Prop, (
      (jc V 2 116 (0, 0) [.ref a1] X I11 R Q14 (fun _ _ => False)) ∧ (
      ∀ rv I17, Q14 rv I17 → rv = none ∧ (
      (X.2.1 a0 = some (3, 0)) ∧ (
      (6 < d) ∧ (
      ∃ Q20 : Option Value → jx_I → Prop, (
      (jc V 6 49 (0, 0) [.ref a0, .ref a1] X I17 R Q20 (fun _ _ => False)) ∧ (
      ∀ rv I23, Q20 rv I23 → ∃ r24 : Int, rv = some (jy r24) ∧ (
      (-2147483648 ≤ r24 ∧ r24 < 2147483648) ∧ (
      (0 ≤ r24 → (
        (1 < d) ∧ (
        ∃ Q26 : Option Value → jx_I → Prop, (
        (jc V 1 50 (0, 0) [.ref a0, jy (100 + r24)] X I23 R Q26 (fun _ _ => False)) ∧ (
        ∀ rv I29, Q26 rv I29 → rv = none ∧ (
        Q (some (jy 1)) I29))))
      )) ∧ (¬ 0 ≤ r24 → (
        (2 < d) ∧ (
        ∃ Q31 : Option Value → jx_I → Prop, (
        (jc V 2 108 (0, 0) [.ref a1, jy 1] X I23 R Q31 (fun _ _ => False)) ∧ (
        ∀ rv I34, Q31 rv I34 → ∃ r35 : Int, rv = some (jy r35) ∧ (
        (r35 = 0 ∨ r35 = 1) ∧ (
        Q (some (jy r35)) I34)))))
      ))))))))))))
    )) ∧ (¬ r12 = 0 → (
      (2 < d) ∧ (
      ∃ Q37 : Option Value → jx_I → Prop, (
      (jc V 2 118 (0, 0) [.ref a1, jy 0, jy 99] X I11 R Q37 (fun _ _ => False)) ∧ (
      ∀ rv I40, Q37 rv I40 → ∃ r41 : Int, rv = some (jy r41) ∧ (
      (X.2.1 a0 = some (3, 0)) ∧ (
      (1 < d) ∧ (
      ∃ Q43 : Option Value → jx_I → Prop, (
      (jc V 1 50 (0, 0) [.ref a0, jy r41] X I40 R Q43 (fun _ _ => False)) ∧ (
      ∀ rv I46, Q43 rv I46 → rv = none ∧ (
      (-2147483648 ≤ r41 ∧ r41 < 2147483648) ∧ (
      (r41 < 0 → (
        Q (some (jy 0)) I46
      )) ∧ (¬ r41 < 0 → (
        Q (some (jy 1)) I46
      ))))))))))))
    )))))))
  )) ∧ (¬ r6 = 0 → (
    (a2 < 6 → (
      (2 < d) ∧ (
      ∃ Q49 : Option Value → jx_I → Prop, (
      (jc V 2 112 (0, 0) [.ref a1, jy 40] X I5 R Q49 (fun _ _ => False)) ∧ (
      ∀ rv I52, Q49 rv I52 → ∃ r53 : Int, rv = some (jy r53) ∧ (
      (-2147483648 ≤ r53 ∧ r53 < 2147483648) ∧ (
      (r53 = 0 → (
        Q (some (jy 0)) I52
      )) ∧ (¬ r53 = 0 → (
        (X.2.1 a0 = some (3, 0)) ∧ (
        ∃ d57 : Nat, d57 < d ∧ (
        ∃ Q56 : Option Value → jx_I → Prop, (
        (jc V d57 46 (0, 0) [.ref a0, .ref a1, jy (a2 + 1)] X I52 R Q56 (fun _ _ => False)) ∧ (
        ∀ rv I60, Q56 rv I60 → ∃ r61 : Int, rv = some (jy r61) ∧ (
        (-2147483648 ≤ r61 ∧ r61 < 2147483648) ∧ (
        (r61 = 0 → (
          Q (some (jy 0)) I60
        )) ∧ (¬ r61 = 0 → (
          (3 < d) ∧ (
          ∃ Q63 : Option Value → jx_I → Prop, (
          (jc V 3 113 (0, 0) [.ref a1, jy 41] X I60 R Q63 (fun _ _ => False)) ∧ (
          ∀ rv I66, Q63 rv I66 → ∃ r67 : Int, rv = some (jy r67) ∧ (
          (-2147483648 ≤ r67 ∧ r67 < 2147483648) ∧ (
          (r67 = 0 → (
            Q (some (jy 0)) I66
          )) ∧ (¬ r67 = 0 → (
            Q (some (jy 1)) I66
          )))))))
        ))))))))
      )))))))
    )) ∧ (¬ a2 < 6 → (
      (2 < d) ∧ (
      ∃ Q69 : Option Value → jx_I → Prop, (
      (jc V 2 107 (0, 0) [.ref a1, jy 3] X I5 R Q69 (fun _ _ => False)) ∧ (
      ∀ rv I72, Q69 rv I72 → ∃ r73 : Int, rv = some (jy r73) ∧ (
      (r73 = 0 ∨ r73 = 1) ∧ (
      Q (some (jy r73)) I72)))))
    ))
  ))))))))
set_option maxRecDepth 20000 in
theorem wm_48 {V : jx_V} (hV : V.1.stackTraces = false) {d : Nat} {X : jx_X} {R : jx_R} {I : jx_I} {Q : Option Value → jx_I → Prop} {QE : String → jx_I → Prop} {a0 : Nat} {a1 : Nat} {a2 : Int} (r_a2 : -2147483648 ≤ a2 ∧ a2 < 2147483648) 
    (h : wz_48 d V X R Q QE  a0 a1 a2 I) : jc V d 48 (0, 0) [.ref a0, .ref a1, jy a2] X I R Q QE := by
  refine jy_met hV (by decide) (n := 4) (rt := some .boolean) (hh := []) (ini := false) (C := jx_c48) (L := [some (.ref a0), some (.ref a1), some (jy a2), none]) jt_48 (Nat.le_of_ble_eq_true rfl) rfl ?_
  intro J hS
  unfold wz_48 at h
  refine jy_aload_n hS rfl rfl ?_
  refine jy_bipush hS rfl (by decide) ?_
  obtain ⟨g1, h⟩ := h
  obtain ⟨g3, h⟩ := h
  obtain ⟨Q2, h⟩ := h
  obtain ⟨g4, h⟩ := h
  refine jy_callV hS rfl rfl rfl (Nat.le_of_ble_eq_true rfl) (Or.inl g1) g4 g3 ⟨by decide, by decide⟩ (Nat.le_of_ble_eq_true rfl) ?_ ?_
  rotate_left
  · exact fun Ex Xx Ix Rx hp => hp.2.2.2.elim
  intro rv Xx I5 Rx hp
  obtain ⟨e1, e2, hp⟩ := hp
  rw [e1, e2]
  clear e1 e2
  obtain ⟨r6, e1, h⟩ := h rv I5 hp
  rw [e1]
  clear e1
  change J 6 [jy r6] _ (0, 0) _ _ _
  obtain ⟨g7, h⟩ := h
  refine jy_if_eq hS rfl g7 (fun hq => ?_) (fun hq => ?_)
  · have h := h.1 hq
    refine jy_aload_n hS rfl rfl ?_
    obtain ⟨g9, h⟩ := h
    obtain ⟨Q8, h⟩ := h
    obtain ⟨g10, h⟩ := h
    refine jy_callV hS rfl rfl rfl (Nat.le_of_ble_eq_true rfl) (Or.inl g1) g10 g9 ⟨by decide, by decide⟩ (Nat.le_of_ble_eq_true rfl) ?_ ?_
    rotate_left
    · exact fun Ex Xx Ix Rx hp => hp.2.2.2.elim
    intro rv Xx I11 Rx hp
    obtain ⟨e1, e2, hp⟩ := hp
    rw [e1, e2]
    clear e1 e2
    obtain ⟨r12, e1, h⟩ := h rv I11 hp
    rw [e1]
    clear e1
    change J 60 [jy r12] _ (0, 0) _ _ _
    obtain ⟨g13, h⟩ := h
    refine jy_if_eq hS rfl g13 (fun hq => ?_) (fun hq => ?_)
    · have h := h.1 hq
      refine jy_aload_n hS rfl rfl ?_
      obtain ⟨g15, h⟩ := h
      obtain ⟨Q14, h⟩ := h
      obtain ⟨g16, h⟩ := h
      refine jy_callV hS rfl rfl rfl (Nat.le_of_ble_eq_true rfl) (Or.inl g1) g16 g15 ⟨by decide, by decide⟩ (Nat.le_of_ble_eq_true rfl) ?_ ?_
      rotate_left
      · exact fun Ex Xx Ix Rx hp => hp.2.2.2.elim
      intro rv Xx I17 Rx hp
      obtain ⟨e1, e2, hp⟩ := hp
      rw [e1, e2]
      clear e1 e2
      obtain ⟨e1, h⟩ := h rv I17 hp
      rw [e1]
      clear e1
      change J 90 [] _ (0, 0) _ _ _
      refine jy_aload_n hS rfl rfl ?_
      refine jy_aload_n hS rfl rfl ?_
      obtain ⟨g19, h⟩ := h
      obtain ⟨g21, h⟩ := h
      obtain ⟨Q20, h⟩ := h
      obtain ⟨g22, h⟩ := h
      refine jy_callV hS rfl rfl rfl (Nat.le_of_ble_eq_true rfl) (Or.inl g19) g22 g21 ⟨by decide, by decide⟩ (Nat.le_of_ble_eq_true rfl) ?_ ?_
      rotate_left
      · exact fun Ex Xx Ix Rx hp => hp.2.2.2.elim
      intro rv Xx I23 Rx hp
      obtain ⟨e1, e2, hp⟩ := hp
      rw [e1, e2]
      clear e1 e2
      obtain ⟨r24, e1, h⟩ := h rv I23 hp
      rw [e1]
      clear e1
      change J 95 [jy r24] _ (0, 0) _ _ _
      refine jy_istore_n hS rfl (Nat.le_of_ble_eq_true rfl) (L' := [some (.ref a0), some (.ref a1), some (jy a2), some (jy r24)]) rfl ?_
      refine jy_iload_n hS rfl rfl ?_
      obtain ⟨g25, h⟩ := h
      refine jy_if_ge hS rfl g25 (fun hq => ?_) (fun hq => ?_)
      · have h := h.1 hq
        refine jy_aload_n hS rfl rfl ?_
        refine jy_bipush hS rfl (by decide) ?_
        refine jy_iload_n hS rfl rfl ?_
        refine jy_iadd hS rfl ?_
        obtain ⟨g27, h⟩ := h
        obtain ⟨Q26, h⟩ := h
        obtain ⟨g28, h⟩ := h
        refine jy_callV hS rfl rfl rfl (Nat.le_of_ble_eq_true rfl) (Or.inl g19) g28 g27 ⟨by decide, by decide⟩ (Nat.le_of_ble_eq_true rfl) ?_ ?_
        rotate_left
        · exact fun Ex Xx Ix Rx hp => hp.2.2.2.elim
        intro rv Xx I29 Rx hp
        obtain ⟨e1, e2, hp⟩ := hp
        rw [e1, e2]
        clear e1 e2
        obtain ⟨e1, h⟩ := h rv I29 hp
        rw [e1]
        clear e1
        change J 114 [] _ (0, 0) _ _ _
        refine jy_iconst hS rfl ?_
        exact jy_iret hS rfl rfl ⟨rfl, rfl, h⟩
      · have h := h.2 hq
        refine jy_aload_n hS rfl rfl ?_
        refine jy_iconst hS rfl ?_
        obtain ⟨g32, h⟩ := h
        obtain ⟨Q31, h⟩ := h
        obtain ⟨g33, h⟩ := h
        refine jy_callV hS rfl rfl rfl (Nat.le_of_ble_eq_true rfl) (Or.inl g1) g33 g32 ⟨by decide, by decide⟩ (Nat.le_of_ble_eq_true rfl) ?_ ?_
        rotate_left
        · exact fun Ex Xx Ix Rx hp => hp.2.2.2.elim
        intro rv Xx I34 Rx hp
        obtain ⟨e1, e2, hp⟩ := hp
        rw [e1, e2]
        clear e1 e2
        obtain ⟨r35, e1, h⟩ := h rv I34 hp
        rw [e1]
        clear e1
        change J 105 [jy r35] _ (0, 0) _ _ _
        obtain ⟨g36, h⟩ := h
        exact jy_iret hS rfl (by rcases g36 with q | q <;> rw [q] <;> rfl) ⟨rfl, rfl, h⟩
    · have h := h.2 hq
      refine jy_aload_n hS rfl rfl ?_
      refine jy_iconst hS rfl ?_
      refine jy_bipush hS rfl (by decide) ?_
      obtain ⟨g38, h⟩ := h
      obtain ⟨Q37, h⟩ := h
      obtain ⟨g39, h⟩ := h
      refine jy_callV hS rfl rfl rfl (Nat.le_of_ble_eq_true rfl) (Or.inl g1) g39 g38 ⟨by decide, by decide⟩ (Nat.le_of_ble_eq_true rfl) ?_ ?_
      rotate_left
      · exact fun Ex Xx Ix Rx hp => hp.2.2.2.elim
      intro rv Xx I40 Rx hp
      obtain ⟨e1, e2, hp⟩ := hp
      rw [e1, e2]
      clear e1 e2
      obtain ⟨r41, e1, h⟩ := h rv I40 hp
      rw [e1]
      clear e1
      change J 70 [jy r41] _ (0, 0) _ _ _
      refine jy_istore_n hS rfl (Nat.le_of_ble_eq_true rfl) (L' := [some (.ref a0), some (.ref a1), some (jy a2), some (jy r41)]) rfl ?_
      refine jy_aload_n hS rfl rfl ?_
      refine jy_iload_n hS rfl rfl ?_
      obtain ⟨g42, h⟩ := h
      obtain ⟨g44, h⟩ := h
      obtain ⟨Q43, h⟩ := h
      obtain ⟨g45, h⟩ := h
      refine jy_callV hS rfl rfl rfl (Nat.le_of_ble_eq_true rfl) (Or.inl g42) g45 g44 ⟨by decide, by decide⟩ (Nat.le_of_ble_eq_true rfl) ?_ ?_
      rotate_left
      · exact fun Ex Xx Ix Rx hp => hp.2.2.2.elim
      intro rv Xx I46 Rx hp
      obtain ⟨e1, e2, hp⟩ := hp
      rw [e1, e2]
      clear e1 e2
      obtain ⟨e1, h⟩ := h rv I46 hp
      rw [e1]
      clear e1
      change J 76 [] _ (0, 0) _ _ _
      refine jy_iload_n hS rfl rfl ?_
      obtain ⟨g48, h⟩ := h
      refine jy_if_lt hS rfl g48 (fun hq => ?_) (fun hq => ?_)
      · have h := h.1 hq
        refine jy_iconst hS rfl ?_
        exact jy_iret hS rfl rfl ⟨rfl, rfl, h⟩
      · have h := h.2 hq
        refine jy_iconst hS rfl ?_
        refine jy_goto hS rfl ?_
        exact jy_iret hS rfl rfl ⟨rfl, rfl, h⟩
  · have h := h.2 hq
    refine jy_iload_n hS rfl rfl ?_
    refine jy_bipush hS rfl (by decide) ?_
    refine jy_icmp_lt hS rfl ⟨r_a2, ⟨by decide, by decide⟩⟩ (fun hq => ?_) (fun hq => ?_)
    · have h := h.1 hq
      refine jy_aload_n hS rfl rfl ?_
      refine jy_bipush hS rfl (by decide) ?_
      obtain ⟨g50, h⟩ := h
      obtain ⟨Q49, h⟩ := h
      obtain ⟨g51, h⟩ := h
      refine jy_callV hS rfl rfl rfl (Nat.le_of_ble_eq_true rfl) (Or.inl g1) g51 g50 ⟨by decide, by decide⟩ (Nat.le_of_ble_eq_true rfl) ?_ ?_
      rotate_left
      · exact fun Ex Xx Ix Rx hp => hp.2.2.2.elim
      intro rv Xx I52 Rx hp
      obtain ⟨e1, e2, hp⟩ := hp
      rw [e1, e2]
      clear e1 e2
      obtain ⟨r53, e1, h⟩ := h rv I52 hp
      rw [e1]
      clear e1
      change J 27 [jy r53] _ (0, 0) _ _ _
      obtain ⟨g54, h⟩ := h
      refine jy_if_eq hS rfl g54 (fun hq => ?_) (fun hq => ?_)
      · have h := h.1 hq
        refine jy_iconst hS rfl ?_
        exact jy_iret hS rfl rfl ⟨rfl, rfl, h⟩
      · have h := h.2 hq
        refine jy_aload_n hS rfl rfl ?_
        refine jy_aload_n hS rfl rfl ?_
        refine jy_iload_n hS rfl rfl ?_
        refine jy_iconst hS rfl ?_
        refine jy_iadd hS rfl ?_
        obtain ⟨g55, h⟩ := h
        obtain ⟨d57, g58, h⟩ := h
        obtain ⟨Q56, h⟩ := h
        obtain ⟨g59, h⟩ := h
        refine jy_callV hS rfl rfl rfl (Nat.le_of_ble_eq_true rfl) (Or.inl g55) g59 g58 ⟨by decide, by decide⟩ (Nat.le_of_ble_eq_true rfl) ?_ ?_
        rotate_left
        · exact fun Ex Xx Ix Rx hp => hp.2.2.2.elim
        intro rv Xx I60 Rx hp
        obtain ⟨e1, e2, hp⟩ := hp
        rw [e1, e2]
        clear e1 e2
        obtain ⟨r61, e1, h⟩ := h rv I60 hp
        rw [e1]
        clear e1
        change J 38 [jy r61] _ (0, 0) _ _ _
        obtain ⟨g62, h⟩ := h
        refine jy_if_eq hS rfl g62 (fun hq => ?_) (fun hq => ?_)
        · have h := h.1 hq
          refine jy_iconst hS rfl ?_
          exact jy_iret hS rfl rfl ⟨rfl, rfl, h⟩
        · have h := h.2 hq
          refine jy_aload_n hS rfl rfl ?_
          refine jy_bipush hS rfl (by decide) ?_
          obtain ⟨g64, h⟩ := h
          obtain ⟨Q63, h⟩ := h
          obtain ⟨g65, h⟩ := h
          refine jy_callV hS rfl rfl rfl (Nat.le_of_ble_eq_true rfl) (Or.inl g1) g65 g64 ⟨by decide, by decide⟩ (Nat.le_of_ble_eq_true rfl) ?_ ?_
          rotate_left
          · exact fun Ex Xx Ix Rx hp => hp.2.2.2.elim
          intro rv Xx I66 Rx hp
          obtain ⟨e1, e2, hp⟩ := hp
          rw [e1, e2]
          clear e1 e2
          obtain ⟨r67, e1, h⟩ := h rv I66 hp
          rw [e1]
          clear e1
          change J 47 [jy r67] _ (0, 0) _ _ _
          obtain ⟨g68, h⟩ := h
          refine jy_if_eq hS rfl g68 (fun hq => ?_) (fun hq => ?_)
          · have h := h.1 hq
            refine jy_iconst hS rfl ?_
            exact jy_iret hS rfl rfl ⟨rfl, rfl, h⟩
          · have h := h.2 hq
            refine jy_iconst hS rfl ?_
            refine jy_goto hS rfl ?_
            exact jy_iret hS rfl rfl ⟨rfl, rfl, h⟩
    · have h := h.2 hq
      refine jy_aload_n hS rfl rfl ?_
      refine jy_iconst hS rfl ?_
      obtain ⟨g70, h⟩ := h
      obtain ⟨Q69, h⟩ := h
      obtain ⟨g71, h⟩ := h
      refine jy_callV hS rfl rfl rfl (Nat.le_of_ble_eq_true rfl) (Or.inl g1) g71 g70 ⟨by decide, by decide⟩ (Nat.le_of_ble_eq_true rfl) ?_ ?_
      rotate_left
      · exact fun Ex Xx Ix Rx hp => hp.2.2.2.elim
      intro rv Xx I72 Rx hp
      obtain ⟨e1, e2, hp⟩ := hp
      rw [e1, e2]
      clear e1 e2
      obtain ⟨r73, e1, h⟩ := h rv I72 hp
      rw [e1]
      clear e1
      change J 20 [jy r73] _ (0, 0) _ _ _
      obtain ⟨g74, h⟩ := h
      exact jy_iret hS rfl (by rcases g74 with q | q <;> rw [q] <;> rfl) ⟨rfl, rfl, h⟩
theorem jt_49 : jx_ml 49 = 2 ∧ jx_rt 49 = some .int ∧ jx_hz 49 = [] ∧ decide ((jx_nm 49).name = "<init>") = false ∧ jx_code 49 = jx_c49 := by decide +kernel
/-- GC$Law.valueOfWord -/
def wz_49 (V : jx_V) (X : jx_X) (R : jx_R) (Q : Option Value → jx_I → Prop) (QE : String → jx_I → Prop)  (a0 : Nat) (a1 : Nat) (I : jx_I) : Prop :=
  (X.2.1 a1 = some (8, 0)) ∧ (
  ∃ Q2 : Option Value → jx_I → Prop, (
  (jc V 5 117 (0, 0) [.ref a1, .ref (V.2.2.2.1 8)] X I R Q2 (fun _ _ => False)) ∧ (
  ∀ rv I4, Q2 rv I4 → ∃ r5 : Int, rv = some (jy r5) ∧ (
  (-2147483648 ≤ r5 ∧ r5 < 2147483648) ∧ (
  (r5 = 0 → (
    ∃ Q7 : Option Value → jx_I → Prop, (
    (jc V 5 117 (0, 0) [.ref a1, .ref (V.2.2.2.1 9)] X I4 R Q7 (fun _ _ => False)) ∧ (
    ∀ rv I9, Q7 rv I9 → ∃ r10 : Int, rv = some (jy r10) ∧ (
    (-2147483648 ≤ r10 ∧ r10 < 2147483648) ∧ (
    (r10 = 0 → (
      ∃ Q12 : Option Value → jx_I → Prop, (
      (jc V 5 117 (0, 0) [.ref a1, .ref (V.2.2.2.1 10)] X I9 R Q12 (fun _ _ => False)) ∧ (
      ∀ rv I14, Q12 rv I14 → ∃ r15 : Int, rv = some (jy r15) ∧ (
      (-2147483648 ≤ r15 ∧ r15 < 2147483648) ∧ (
      (r15 = 0 → (
        ∃ Q17 : Option Value → jx_I → Prop, (
        (jc V 5 117 (0, 0) [.ref a1, .ref (V.2.2.2.1 11)] X I14 R Q17 (fun _ _ => False)) ∧ (
        ∀ rv I19, Q17 rv I19 → ∃ r20 : Int, rv = some (jy r20) ∧ (
        (-2147483648 ≤ r20 ∧ r20 < 2147483648) ∧ (
        (r20 = 0 → (
          ∃ Q22 : Option Value → jx_I → Prop, (
          (jc V 5 117 (0, 0) [.ref a1, .ref (V.2.2.2.1 12)] X I19 R Q22 (fun _ _ => False)) ∧ (
          ∀ rv I24, Q22 rv I24 → ∃ r25 : Int, rv = some (jy r25) ∧ (
          (-2147483648 ≤ r25 ∧ r25 < 2147483648) ∧ (
          (r25 = 0 → (
            Q (some (jy (-1))) I24
          )) ∧ (¬ r25 = 0 → (
            Q (some (jy 4)) I24
          ))))))
        )) ∧ (¬ r20 = 0 → (
          Q (some (jy 3)) I19
        ))))))
      )) ∧ (¬ r15 = 0 → (
        Q (some (jy 2)) I14
      ))))))
    )) ∧ (¬ r10 = 0 → (
      Q (some (jy 1)) I9
    ))))))
  )) ∧ (¬ r5 = 0 → (
    Q (some (jy 0)) I4
  )))))))
set_option maxRecDepth 20000 in
theorem wm_49 {V : jx_V} (hV : V.1.stackTraces = false) {X : jx_X} {R : jx_R} {I : jx_I} {Q : Option Value → jx_I → Prop} {QE : String → jx_I → Prop} {a0 : Nat} {a1 : Nat}  
    (h : wz_49 V X R Q QE  a0 a1 I) : jc V 6 49 (0, 0) [.ref a0, .ref a1] X I R Q QE := by
  refine jy_met hV (by decide) (n := 2) (rt := some .int) (hh := []) (ini := false) (C := jx_c49) (L := [some (.ref a0), some (.ref a1)]) jt_49 (Nat.le_of_ble_eq_true rfl) rfl ?_
  intro J hS
  unfold wz_49 at h
  refine jy_aload_n hS rfl rfl ?_
  refine jy_ldcS hS rfl ?_
  obtain ⟨g1, h⟩ := h
  obtain ⟨Q2, h⟩ := h
  obtain ⟨g3, h⟩ := h
  refine jy_callV hS rfl rfl rfl (Nat.le_of_ble_eq_true rfl) (Or.inl g1) g3 (by decide) ⟨by decide, by decide⟩ (Nat.le_of_ble_eq_true rfl) ?_ ?_
  rotate_left
  · exact fun Ex Xx Ix Rx hp => hp.2.2.2.elim
  intro rv Xx I4 Rx hp
  obtain ⟨e1, e2, hp⟩ := hp
  rw [e1, e2]
  clear e1 e2
  obtain ⟨r5, e1, h⟩ := h rv I4 hp
  rw [e1]
  clear e1
  change J 6 [jy r5] _ (0, 0) _ _ _
  obtain ⟨g6, h⟩ := h
  refine jy_if_eq hS rfl g6 (fun hq => ?_) (fun hq => ?_)
  · have h := h.1 hq
    refine jy_aload_n hS rfl rfl ?_
    refine jy_ldcS hS rfl ?_
    obtain ⟨Q7, h⟩ := h
    obtain ⟨g8, h⟩ := h
    refine jy_callV hS rfl rfl rfl (Nat.le_of_ble_eq_true rfl) (Or.inl g1) g8 (by decide) ⟨by decide, by decide⟩ (Nat.le_of_ble_eq_true rfl) ?_ ?_
    rotate_left
    · exact fun Ex Xx Ix Rx hp => hp.2.2.2.elim
    intro rv Xx I9 Rx hp
    obtain ⟨e1, e2, hp⟩ := hp
    rw [e1, e2]
    clear e1 e2
    obtain ⟨r10, e1, h⟩ := h rv I9 hp
    rw [e1]
    clear e1
    change J 17 [jy r10] _ (0, 0) _ _ _
    obtain ⟨g11, h⟩ := h
    refine jy_if_eq hS rfl g11 (fun hq => ?_) (fun hq => ?_)
    · have h := h.1 hq
      refine jy_aload_n hS rfl rfl ?_
      refine jy_ldcS hS rfl ?_
      obtain ⟨Q12, h⟩ := h
      obtain ⟨g13, h⟩ := h
      refine jy_callV hS rfl rfl rfl (Nat.le_of_ble_eq_true rfl) (Or.inl g1) g13 (by decide) ⟨by decide, by decide⟩ (Nat.le_of_ble_eq_true rfl) ?_ ?_
      rotate_left
      · exact fun Ex Xx Ix Rx hp => hp.2.2.2.elim
      intro rv Xx I14 Rx hp
      obtain ⟨e1, e2, hp⟩ := hp
      rw [e1, e2]
      clear e1 e2
      obtain ⟨r15, e1, h⟩ := h rv I14 hp
      rw [e1]
      clear e1
      change J 28 [jy r15] _ (0, 0) _ _ _
      obtain ⟨g16, h⟩ := h
      refine jy_if_eq hS rfl g16 (fun hq => ?_) (fun hq => ?_)
      · have h := h.1 hq
        refine jy_aload_n hS rfl rfl ?_
        refine jy_ldcS hS rfl ?_
        obtain ⟨Q17, h⟩ := h
        obtain ⟨g18, h⟩ := h
        refine jy_callV hS rfl rfl rfl (Nat.le_of_ble_eq_true rfl) (Or.inl g1) g18 (by decide) ⟨by decide, by decide⟩ (Nat.le_of_ble_eq_true rfl) ?_ ?_
        rotate_left
        · exact fun Ex Xx Ix Rx hp => hp.2.2.2.elim
        intro rv Xx I19 Rx hp
        obtain ⟨e1, e2, hp⟩ := hp
        rw [e1, e2]
        clear e1 e2
        obtain ⟨r20, e1, h⟩ := h rv I19 hp
        rw [e1]
        clear e1
        change J 39 [jy r20] _ (0, 0) _ _ _
        obtain ⟨g21, h⟩ := h
        refine jy_if_eq hS rfl g21 (fun hq => ?_) (fun hq => ?_)
        · have h := h.1 hq
          refine jy_aload_n hS rfl rfl ?_
          refine jy_ldcS hS rfl ?_
          obtain ⟨Q22, h⟩ := h
          obtain ⟨g23, h⟩ := h
          refine jy_callV hS rfl rfl rfl (Nat.le_of_ble_eq_true rfl) (Or.inl g1) g23 (by decide) ⟨by decide, by decide⟩ (Nat.le_of_ble_eq_true rfl) ?_ ?_
          rotate_left
          · exact fun Ex Xx Ix Rx hp => hp.2.2.2.elim
          intro rv Xx I24 Rx hp
          obtain ⟨e1, e2, hp⟩ := hp
          rw [e1, e2]
          clear e1 e2
          obtain ⟨r25, e1, h⟩ := h rv I24 hp
          rw [e1]
          clear e1
          change J 50 [jy r25] _ (0, 0) _ _ _
          obtain ⟨g26, h⟩ := h
          refine jy_if_eq hS rfl g26 (fun hq => ?_) (fun hq => ?_)
          · have h := h.1 hq
            refine jy_iconst hS rfl ?_
            exact jy_iret hS rfl rfl ⟨rfl, rfl, h⟩
          · have h := h.2 hq
            refine jy_iconst hS rfl ?_
            refine jy_goto hS rfl ?_
            exact jy_iret hS rfl rfl ⟨rfl, rfl, h⟩
        · have h := h.2 hq
          refine jy_iconst hS rfl ?_
          exact jy_iret hS rfl rfl ⟨rfl, rfl, h⟩
      · have h := h.2 hq
        refine jy_iconst hS rfl ?_
        exact jy_iret hS rfl rfl ⟨rfl, rfl, h⟩
    · have h := h.2 hq
      refine jy_iconst hS rfl ?_
      exact jy_iret hS rfl rfl ⟨rfl, rfl, h⟩
  · have h := h.2 hq
    refine jy_iconst hS rfl ?_
    exact jy_iret hS rfl rfl ⟨rfl, rfl, h⟩
theorem jt_50 : jx_ml 50 = 2 ∧ jx_rt 50 = none ∧ jx_hz 50 = [] ∧ decide ((jx_nm 50).name = "<init>") = false ∧ jx_code 50 = jx_c50 := by decide +kernel
/-- GC$Law.emit -/
def wz_50 (V : jx_V) (X : jx_X) (R : jx_R) (Q : Option Value → jx_I → Prop) (QE : String → jx_I → Prop)  (a0 : Nat) (a1 : Int) (I : jx_I) : Prop :=
  (X.2.1 a0 = some (3, 0)) ∧ (
  (600 ≤ (I a0 3).toInt → (
    Q none I
  )) ∧ (¬ 600 ≤ (I a0 3).toInt → (
    ∃ q2 : Nat, (
    (R a0 0 = some q2) ∧ (
    ∃ n4 : Nat, (
    (X.2.1 q2 = some (100, n4) ∧ n4 < 2147483648) ∧ (
    (0 ≤ (I a0 3).toInt ∧ (I a0 3).toInt < n4) ∧ (
    ∀ I7 : jx_I, I7 = jx_u I q2 ((I a0 3).toInt).toNat (Int32.ofInt a1) → (
    ∀ I8 : jx_I, I8 = jx_u I7 a0 3 (Int32.ofInt ((I7 a0 3).toInt + 1)) → (
    Q none I8)))))))
  )))
set_option maxRecDepth 20000 in
theorem wm_50 {V : jx_V} (hV : V.1.stackTraces = false) {X : jx_X} {R : jx_R} {I : jx_I} {Q : Option Value → jx_I → Prop} {QE : String → jx_I → Prop} {a0 : Nat} {a1 : Int} (r_a1 : -2147483648 ≤ a1 ∧ a1 < 2147483648) 
    (h : wz_50 V X R Q QE  a0 a1 I) : jc V 1 50 (0, 0) [.ref a0, jy a1] X I R Q QE := by
  refine jy_met hV (by decide) (n := 2) (rt := none) (hh := []) (ini := false) (C := jx_c50) (L := [some (.ref a0), some (jy a1)]) jt_50 (Nat.le_of_ble_eq_true rfl) rfl ?_
  intro J hS
  unfold wz_50 at h
  refine jy_aload_n hS rfl rfl ?_
  obtain ⟨g1, h⟩ := h
  refine jy_getI hS rfl (by decide) g1 ?_
  refine jy_sipush hS rfl (by decide) ?_
  refine jy_icmp_ge hS rfl ⟨(jy_rng _), ⟨by decide, by decide⟩⟩ (fun hq => ?_) (fun hq => ?_)
  · have h := h.1 hq
    exact jy_ret hS rfl rfl ⟨rfl, rfl, h⟩
  · have h := h.2 hq
    refine jy_aload_n hS rfl rfl ?_
    obtain ⟨q2, h⟩ := h
    obtain ⟨g3, h⟩ := h
    refine jy_getR hS rfl (by decide) g1 g3 ?_
    refine jy_aload_n hS rfl rfl ?_
    refine jy_getI hS rfl (by decide) g1 ?_
    refine jy_iload_n hS rfl rfl ?_
    obtain ⟨n4, h⟩ := h
    obtain ⟨g5, h⟩ := h
    obtain ⟨g6, h⟩ := h
    refine jy_iast hS rfl g5.1 (Nat.le_of_lt g5.2) g6 ?_
    intro I7 e9
    have h := h I7 e9
    clear e9
    refine jy_aload_n hS rfl rfl ?_
    refine jy_dup hS rfl rfl ?_
    refine jy_getI hS rfl (by decide) g1 ?_
    refine jy_iconst hS rfl ?_
    refine jy_iadd hS rfl ?_
    refine jy_putI hS rfl (by decide) g1 ?_
    intro I8 e9
    have h := h I8 e9
    clear e9
    exact jy_ret hS rfl rfl ⟨rfl, rfl, h⟩
