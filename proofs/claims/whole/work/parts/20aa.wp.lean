theorem jt_1 : jx_ml 1 = 3 ∧ jx_rt 1 = none ∧ jx_hz 1 = [] ∧ decide ((jx_nm 1).name = "<init>") = false ∧ jx_code 1 = jx_c1 := by decide +kernel
/-- GC$Explainer.explainAll, from 63 -/
def wz_1_63 (V : jx_V) (X : jx_X) (Q : Option Value → jx_I → jx_R → Prop) (QE : String → jx_I → jx_R → Prop) (J63 : Int → jx_I → jx_R → Prop) (a0 : Nat) (a1 : Nat) (l2 : Int) (I : jx_I) (R : jx_R) : Prop :=
  (X.2.1 a0 = some (0, 0)) ∧ (
  ∃ q17 : Nat, (
  (R a0 4 = some q17) ∧ (
  (X.2.1 q17 = some (7, 0)) ∧ (
  (-2147483648 ≤ l2 ∧ l2 < 2147483648) ∧ (
  ((I q17 6).toInt ≤ l2 → (
    ∃ Q21 : Option Value → jx_I → Prop, (
    (jc V 4 6 (0, 0) [.ref a0, jy (-1)] X I R Q21 (fun _ _ => False)) ∧ (
    ∀ rv I23, Q21 rv I23 → ∃ r24 : Int, rv = some (jy r24) ∧ (
    (-2147483648 ≤ r24 ∧ r24 < 2147483648) ∧ (
    (r24 = 0 → (
      Q none I23 R
    )) ∧ (¬ r24 = 0 → (
      ∃ d27 : Nat, d27 < 201 ∧ (
      ∃ Q26 : Option Value → jx_I → Prop, (
      (jc V d27 5 (0, 0) [.ref a0, jy 0, jy 0] X I23 R Q26 (fun _ _ => False)) ∧ (
      ∀ rv I30, Q26 rv I30 → rv = none ∧ (
      Q none I30 R))))
    ))))))
  )) ∧ (¬ (I q17 6).toInt ≤ l2 → (
    ∃ q32 : Nat, (
    (R a0 0 = some q32) ∧ (
    ∃ n34 : Nat, (
    (X.2.1 q32 = some (102, n34) ∧ n34 < 2147483648) ∧ (
    (0 ≤ l2 ∧ l2 < n34) ∧ (
    ∃ q37 : Nat, (
    (R q32 l2.toNat = some q37) ∧ (
    ∃ q39 : Nat, (
    (R q17 3 = some q39) ∧ (
    ∃ n41 : Nat, (
    (X.2.1 q39 = some (100, n41) ∧ n41 < 2147483648) ∧ (
    (0 ≤ l2 ∧ l2 < n41) ∧ (
    (X.2.1 q37 = some (5, 0)) ∧ (
    ∃ Q45 : Option Value → jx_I → Prop, (
    (jc V 2 76 (0, 0) [.ref q37, jy ((I q39 l2.toNat).toInt)] X I R Q45 (fun _ _ => False)) ∧ (
    ∀ rv I47, Q45 rv I47 → rv = none ∧ (
    ∃ q49 : Nat, (
    (R a0 1 = some q49) ∧ (
    (0 ≤ l2 ∧ l2 < n34) ∧ (
    ∃ q52 : Nat, (
    (R q32 l2.toNat = some q52) ∧ (
    ∃ Q54 : Option Value → jx_I → Prop, (
    (jc V 1 4 (0, 0) [.ref a0, .ref q52] X I47 R Q54 (fun _ _ => False)) ∧ (
    ∀ rv I56, Q54 rv I56 → ∃ r57 : Int, rv = some (jy r57) ∧ (
    ∃ n58 : Nat, (
    (X.2.1 q49 = some (100, n58) ∧ n58 < 2147483648) ∧ (
    (0 ≤ l2 ∧ l2 < n58) ∧ (
    ∀ I61 : jx_I, I61 = jx_u I56 q49 l2.toNat (Int32.ofInt r57) → (
    J63 (l2 + 1) I61 R))))))))))))))))))))))))))))
  )))))))
/-- GC$Explainer.explainAll -/
def wz_1 (V : jx_V) (X : jx_X) (Q : Option Value → jx_I → jx_R → Prop) (QE : String → jx_I → jx_R → Prop) (J63 : Int → jx_I → jx_R → Prop) (a0 : Nat) (a1 : Nat) (I : jx_I) (R : jx_R) : Prop :=
  (X.2.1 a0 = some (0, 0)) ∧ (
  ((I a0 6).toInt ≠ 0 → (
    ∀ I2 : jx_I, I2 = jx_u I a0 6 (Int32.ofInt 0) → (
    ∀ R3 : jx_R, R3 = jx_u R a0 3 (some a1) → (
    ∃ q4 : Nat, (
    (R3 a0 3 = some q4) ∧ (
    (X.2.1 q4 = some (2, 0)) ∧ (
    ∃ Q7 : Option Value → jx_I → Prop, (
    (jc V 1 329 (0, 0) [jy 6, jy ((I2 q4 8).toInt)] X I2 R3 Q7 (fun _ _ => False)) ∧ (
    ∀ rv I9, Q7 rv I9 → ∃ r10 : Int, rv = some (jy r10) ∧ (
    ∀ I11 : jx_I, I11 = jx_u I9 a0 5 (Int32.ofInt r10) → (
    ∀ I12 : jx_I, I12 = jx_u I11 a0 7 (Int32.ofInt 0) → (
    ∀ I13 : jx_I, I13 = jx_u I12 a0 8 (Int32.ofInt (-1)) → (
    ∀ I14 : jx_I, I14 = jx_u I13 a0 9 (Int32.ofInt ((Int32.ofInt 1 <<< (Int32.ofInt ((I13 a0 5).toInt) &&& 31)).toInt - 1)) → (
    ∀ I15 : jx_I, I15 = jx_u I14 a0 10 (Int32.ofInt 0) → (
    J63 0 I15 R3)))))))))))))
  )) ∧ ((I a0 6).toInt = 0 → (
    Q none I R
  )))
set_option maxRecDepth 20000 in
theorem wm_1 {V : jx_V} (hV : V.1.stackTraces = false) {X : jx_X} {R : jx_R} {I : jx_I} {Q : Option Value → jx_I → jx_R → Prop} {QE : String → jx_I → jx_R → Prop} {a0 : Nat} {a1 : Nat}  
    (h : ∀ (J63 : Int → jx_I → jx_R → Prop), ((∀ (l2 : Int) I R, wz_1_63 V X Q QE J63 a0 a1 l2 I R → J63 l2 I R)) → wz_1 V X Q QE J63 a0 a1 I R) : jd V 201 1 (0, 0) [.ref a0, .ref a1] X I R Q QE := by
  refine jy_met hV (by decide) (n := 3) (rt := none) (hh := []) (ini := false) (C := jx_c1) (L := [some (.ref a0), some (.ref a1), none]) jt_1 (Nat.le_of_ble_eq_true rfl) rfl ?_
  intro J hS
  have h := h (fun l2 I R => J 63 [] [some (.ref a0), none, some (jy l2)] (0, 0) X I R) ?_
  · unfold wz_1 at h
    refine jy_aload_n hS rfl rfl ?_
    obtain ⟨g1, h⟩ := h
    refine jy_getI hS rfl (by decide) g1 ?_
    refine jy_if_ne hS rfl (jy_rng _) (fun hq => ?_) (fun hq => ?_)
    · have h := h.1 hq
      refine jy_aload_n hS rfl rfl ?_
      refine jy_iconst hS rfl ?_
      refine jy_putB hS rfl (by decide) (Or.inl rfl) g1 ?_
      intro I2 e9
      have h := h I2 e9
      clear e9
      refine jy_aload_n hS rfl rfl ?_
      refine jy_aload_n hS rfl rfl ?_
      refine jy_putR hS rfl (by decide) (by decide) g1 ?_
      intro R3 e9
      have h := h R3 e9
      clear e9
      refine jy_aload_n hS rfl rfl ?_
      refine jy_bipush hS rfl (by decide) ?_
      refine jy_aload_n hS rfl rfl ?_
      obtain ⟨q4, h⟩ := h
      obtain ⟨g5, h⟩ := h
      refine jy_getR hS rfl (by decide) g1 g5 ?_
      obtain ⟨g6, h⟩ := h
      refine jy_getI hS rfl (by decide) g6 ?_
      obtain ⟨Q7, h⟩ := h
      obtain ⟨g8, h⟩ := h
      refine jy_callS hS rfl rfl rfl (Nat.le_of_ble_eq_true rfl) g8 (by decide) ⟨by decide, by decide⟩ (Nat.le_of_ble_eq_true rfl) ?_ ?_
      rotate_left
      · exact fun Ex Xx Ix Rx hp => hp.2.2.2.elim
      intro rv Xx I9 Rx hp
      obtain ⟨e1, e2, hp⟩ := hp
      rw [e1, e2]
      clear e1 e2
      obtain ⟨r10, e1, h⟩ := h rv I9 hp
      rw [e1]
      clear e1
      change J 31 [jy r10, .ref a0] _ (0, 0) _ _ _
      refine jy_putI hS rfl (by decide) g1 ?_
      intro I11 e9
      have h := h I11 e9
      clear e9
      refine jy_aload_n hS rfl rfl ?_
      refine jy_iconst hS rfl ?_
      refine jy_putI hS rfl (by decide) g1 ?_
      intro I12 e9
      have h := h I12 e9
      clear e9
      refine jy_aload_n hS rfl rfl ?_
      refine jy_iconst hS rfl ?_
      refine jy_putI hS rfl (by decide) g1 ?_
      intro I13 e9
      have h := h I13 e9
      clear e9
      refine jy_aload_n hS rfl rfl ?_
      refine jy_iconst hS rfl ?_
      refine jy_aload_n hS rfl rfl ?_
      refine jy_getI hS rfl (by decide) g1 ?_
      refine jy_ishlX hS rfl rfl ?_
      refine jy_iconst hS rfl ?_
      refine jy_isub hS rfl ?_
      refine jy_putI hS rfl (by decide) g1 ?_
      intro I14 e9
      have h := h I14 e9
      clear e9
      refine jy_aload_n hS rfl rfl ?_
      refine jy_iconst hS rfl ?_
      refine jy_putI hS rfl (by decide) g1 ?_
      intro I15 e9
      have h := h I15 e9
      clear e9
      refine jy_iconst hS rfl ?_
      refine jy_istore_n hS rfl (Nat.le_of_ble_eq_true rfl) (L' := [some (.ref a0), some (.ref a1), some (jy 0)]) rfl ?_
      exact jy_join hS h rfl (jy_sub_s (jy_sub_n (jy_sub_s jy_sub_0)))
    · have h := h.2 hq
      exact jy_ret hS rfl rfl ⟨rfl, h⟩
  · intro l2 I R h
    unfold wz_1_63 at h
    refine jy_iload_n hS rfl rfl ?_
    refine jy_aload_n hS rfl rfl ?_
    obtain ⟨g16, h⟩ := h
    obtain ⟨q17, h⟩ := h
    obtain ⟨g18, h⟩ := h
    refine jy_getR hS rfl (by decide) g16 g18 ?_
    obtain ⟨g19, h⟩ := h
    refine jy_getI hS rfl (by decide) g19 ?_
    obtain ⟨g20, h⟩ := h
    refine jy_icmp_ge hS rfl ⟨g20, (jy_rng _)⟩ (fun hq => ?_) (fun hq => ?_)
    · have h := h.1 hq
      refine jy_aload_n hS rfl rfl ?_
      refine jy_iconst hS rfl ?_
      obtain ⟨Q21, h⟩ := h
      obtain ⟨g22, h⟩ := h
      refine jy_callV hS rfl rfl rfl (Nat.le_of_ble_eq_true rfl) (Or.inl g16) g22 (by decide) ⟨by decide, by decide⟩ (Nat.le_of_ble_eq_true rfl) ?_ ?_
      rotate_left
      · exact fun Ex Xx Ix Rx hp => hp.2.2.2.elim
      intro rv Xx I23 Rx hp
      obtain ⟨e1, e2, hp⟩ := hp
      rw [e1, e2]
      clear e1 e2
      obtain ⟨r24, e1, h⟩ := h rv I23 hp
      rw [e1]
      clear e1
      change J 119 [jy r24] _ (0, 0) _ _ _
      obtain ⟨g25, h⟩ := h
      refine jy_if_eq hS rfl g25 (fun hq => ?_) (fun hq => ?_)
      · have h := h.1 hq
        exact jy_ret hS rfl rfl ⟨rfl, h⟩
      · have h := h.2 hq
        refine jy_aload_n hS rfl rfl ?_
        refine jy_iconst hS rfl ?_
        refine jy_iconst hS rfl ?_
        obtain ⟨d27, g28, h⟩ := h
        obtain ⟨Q26, h⟩ := h
        obtain ⟨g29, h⟩ := h
        refine jy_callV hS rfl rfl rfl (Nat.le_of_ble_eq_true rfl) (Or.inl g16) g29 g28 ⟨by decide, by decide⟩ (Nat.le_of_ble_eq_true rfl) ?_ ?_
        rotate_left
        · exact fun Ex Xx Ix Rx hp => hp.2.2.2.elim
        intro rv Xx I30 Rx hp
        obtain ⟨e1, e2, hp⟩ := hp
        rw [e1, e2]
        clear e1 e2
        obtain ⟨e1, h⟩ := h rv I30 hp
        rw [e1]
        clear e1
        change J 128 [] _ (0, 0) _ _ _
        exact jy_ret hS rfl rfl ⟨rfl, h⟩
    · have h := h.2 hq
      refine jy_aload_n hS rfl rfl ?_
      obtain ⟨q32, h⟩ := h
      obtain ⟨g33, h⟩ := h
      refine jy_getR hS rfl (by decide) g16 g33 ?_
      refine jy_iload_n hS rfl rfl ?_
      obtain ⟨n34, h⟩ := h
      obtain ⟨g35, h⟩ := h
      obtain ⟨g36, h⟩ := h
      obtain ⟨q37, h⟩ := h
      obtain ⟨g38, h⟩ := h
      refine jy_aald hS rfl g35.1 (by decide) (Nat.le_of_lt g35.2) g36 g38 ?_
      refine jy_aload_n hS rfl rfl ?_
      refine jy_getR hS rfl (by decide) g16 g18 ?_
      obtain ⟨q39, h⟩ := h
      obtain ⟨g40, h⟩ := h
      refine jy_getR hS rfl (by decide) g19 g40 ?_
      refine jy_iload_n hS rfl rfl ?_
      obtain ⟨n41, h⟩ := h
      obtain ⟨g42, h⟩ := h
      obtain ⟨g43, h⟩ := h
      refine jy_iald hS rfl g42.1 (Nat.le_of_lt g42.2) g43 ?_
      obtain ⟨g44, h⟩ := h
      obtain ⟨Q45, h⟩ := h
      obtain ⟨g46, h⟩ := h
      refine jy_callV hS rfl rfl rfl (Nat.le_of_ble_eq_true rfl) (Or.inl g44) g46 (by decide) ⟨by decide, by decide⟩ (Nat.le_of_ble_eq_true rfl) ?_ ?_
      rotate_left
      · exact fun Ex Xx Ix Rx hp => hp.2.2.2.elim
      intro rv Xx I47 Rx hp
      obtain ⟨e1, e2, hp⟩ := hp
      rw [e1, e2]
      clear e1 e2
      obtain ⟨e1, h⟩ := h rv I47 hp
      rw [e1]
      clear e1
      change J 92 [] _ (0, 0) _ _ _
      refine jy_aload_n hS rfl rfl ?_
      obtain ⟨q49, h⟩ := h
      obtain ⟨g50, h⟩ := h
      refine jy_getR hS rfl (by decide) g16 g50 ?_
      refine jy_iload_n hS rfl rfl ?_
      refine jy_aload_n hS rfl rfl ?_
      refine jy_aload_n hS rfl rfl ?_
      refine jy_getR hS rfl (by decide) g16 g33 ?_
      refine jy_iload_n hS rfl rfl ?_
      obtain ⟨g51, h⟩ := h
      obtain ⟨q52, h⟩ := h
      obtain ⟨g53, h⟩ := h
      refine jy_aald hS rfl g35.1 (by decide) (Nat.le_of_lt g35.2) g51 g53 ?_
      obtain ⟨Q54, h⟩ := h
      obtain ⟨g55, h⟩ := h
      refine jy_callV hS rfl rfl rfl (Nat.le_of_ble_eq_true rfl) (Or.inl g16) g55 (by decide) ⟨by decide, by decide⟩ (Nat.le_of_ble_eq_true rfl) ?_ ?_
      rotate_left
      · exact fun Ex Xx Ix Rx hp => hp.2.2.2.elim
      intro rv Xx I56 Rx hp
      obtain ⟨e1, e2, hp⟩ := hp
      rw [e1, e2]
      clear e1 e2
      obtain ⟨r57, e1, h⟩ := h rv I56 hp
      rw [e1]
      clear e1
      change J 107 [jy r57, jy l2, .ref q49] _ (0, 0) _ _ _
      obtain ⟨n58, h⟩ := h
      obtain ⟨g59, h⟩ := h
      obtain ⟨g60, h⟩ := h
      refine jy_iast hS rfl g59.1 (Nat.le_of_lt g59.2) g60 ?_
      intro I61 e9
      have h := h I61 e9
      clear e9
      refine jy_iinc hS rfl rfl (L' := [some (.ref a0), none, some (jy (l2 + 1))]) rfl ?_
      refine jy_goto hS rfl ?_
      exact jy_join hS h rfl (jy_sub_s (jy_sub_n (jy_sub_s jy_sub_0)))
theorem jt_2 : jx_ml 2 = 1 ∧ jx_rt 2 = some .int ∧ jx_hz 2 = [] ∧ decide ((jx_nm 2).name = "<init>") = false ∧ jx_code 2 = jx_c2 := by decide +kernel
/-- GC$Explainer.sureBits -/
def wz_2 (V : jx_V) (X : jx_X) (R : jx_R) (Q : Option Value → jx_I → Prop) (QE : String → jx_I → Prop)  (a0 : Nat) (I : jx_I) : Prop :=
  (X.2.1 a0 = some (0, 0)) ∧ (
  ((I a0 7).toInt ≤ 0 → (
    Q (some (jy 0)) I
  )) ∧ (¬ (I a0 7).toInt ≤ 0 → (
    Q (some (jy ((I a0 9).toInt))) I
  )))
set_option maxRecDepth 20000 in
theorem wm_2 {V : jx_V} (hV : V.1.stackTraces = false) {X : jx_X} {R : jx_R} {I : jx_I} {Q : Option Value → jx_I → Prop} {QE : String → jx_I → Prop} {a0 : Nat}  
    (h : wz_2 V X R Q QE  a0 I) : jc V 1 2 (0, 0) [.ref a0] X I R Q QE := by
  refine jy_met hV (by decide) (n := 1) (rt := some .int) (hh := []) (ini := false) (C := jx_c2) (L := [some (.ref a0)]) jt_2 (Nat.le_of_ble_eq_true rfl) rfl ?_
  intro J hS
  unfold wz_2 at h
  refine jy_aload_n hS rfl rfl ?_
  obtain ⟨g1, h⟩ := h
  refine jy_getI hS rfl (by decide) g1 ?_
  refine jy_if_le hS rfl (jy_rng _) (fun hq => ?_) (fun hq => ?_)
  · have h := h.1 hq
    refine jy_iconst hS rfl ?_
    exact jy_iret hS rfl rfl ⟨rfl, rfl, h⟩
  · have h := h.2 hq
    refine jy_aload_n hS rfl rfl ?_
    refine jy_getI hS rfl (by decide) g1 ?_
    refine jy_goto hS rfl ?_
    exact jy_iret hS rfl rfl ⟨rfl, rfl, h⟩
theorem jt_3 : jx_ml 3 = 1 ∧ jx_rt 3 = some .int ∧ jx_hz 3 = [] ∧ decide ((jx_nm 3).name = "<init>") = false ∧ jx_code 3 = jx_c3 := by decide +kernel
/-- GC$Explainer.clearBits -/
def wz_3 (V : jx_V) (X : jx_X) (R : jx_R) (Q : Option Value → jx_I → Prop) (QE : String → jx_I → Prop)  (a0 : Nat) (I : jx_I) : Prop :=
  (X.2.1 a0 = some (0, 0)) ∧ (
  ((I a0 7).toInt ≤ 0 → (
    Q (some (jy 0)) I
  )) ∧ (¬ (I a0 7).toInt ≤ 0 → (
    Q (some (jy ((Int32.ofInt ((Int32.ofInt 1 <<< (Int32.ofInt ((I a0 5).toInt) &&& 31)).toInt - 1) &&& Int32.ofInt ((Int32.ofInt ((I a0 10).toInt) ^^^ Int32.ofInt (-1)).toInt)).toInt))) I
  )))
set_option maxRecDepth 20000 in
theorem wm_3 {V : jx_V} (hV : V.1.stackTraces = false) {X : jx_X} {R : jx_R} {I : jx_I} {Q : Option Value → jx_I → Prop} {QE : String → jx_I → Prop} {a0 : Nat}  
    (h : wz_3 V X R Q QE  a0 I) : jc V 1 3 (0, 0) [.ref a0] X I R Q QE := by
  refine jy_met hV (by decide) (n := 1) (rt := some .int) (hh := []) (ini := false) (C := jx_c3) (L := [some (.ref a0)]) jt_3 (Nat.le_of_ble_eq_true rfl) rfl ?_
  intro J hS
  unfold wz_3 at h
  refine jy_aload_n hS rfl rfl ?_
  obtain ⟨g1, h⟩ := h
  refine jy_getI hS rfl (by decide) g1 ?_
  refine jy_if_le hS rfl (jy_rng _) (fun hq => ?_) (fun hq => ?_)
  · have h := h.1 hq
    refine jy_iconst hS rfl ?_
    exact jy_iret hS rfl rfl ⟨rfl, rfl, h⟩
  · have h := h.2 hq
    refine jy_iconst hS rfl ?_
    refine jy_aload_n hS rfl rfl ?_
    refine jy_getI hS rfl (by decide) g1 ?_
    refine jy_ishlX hS rfl rfl ?_
    refine jy_iconst hS rfl ?_
    refine jy_isub hS rfl ?_
    refine jy_aload_n hS rfl rfl ?_
    refine jy_getI hS rfl (by decide) g1 ?_
    refine jy_iconst hS rfl ?_
    refine jy_ixorX hS rfl rfl ?_
    refine jy_iandX hS rfl rfl ?_
    refine jy_goto hS rfl ?_
    exact jy_iret hS rfl rfl ⟨rfl, rfl, h⟩
theorem jt_4 : jx_ml 4 = 4 ∧ jx_rt 4 = some .int ∧ jx_hz 4 = [] ∧ decide ((jx_nm 4).name = "<init>") = false ∧ jx_code 4 = jx_c4 := by decide +kernel
/-- GC$Explainer.lastGuessed, from 4 -/
def wz_4_4 (V : jx_V) (X : jx_X) (R : jx_R) (Q : Option Value → jx_I → Prop) (QE : String → jx_I → Prop) (J4 : Int → Int → jx_I → Prop) (J32 : Int → Int → jx_I → Prop) (a0 : Nat) (a1 : Nat) (l2 : Int) (l3 : Int) (I : jx_I) : Prop :=
  (X.2.1 a1 = some (5, 0)) ∧ (
  (-2147483648 ≤ l3 ∧ l3 < 2147483648) ∧ (
  ((I a1 1).toInt ≤ l3 → (
    Q (some (jy l2)) I
  )) ∧ (¬ (I a1 1).toInt ≤ l3 → (
    ∃ q3 : Nat, (
    (R a1 0 = some q3) ∧ (
    ∃ n5 : Nat, (
    (X.2.1 q3 = some (100, n5) ∧ n5 < 2147483648) ∧ (
    (0 ≤ l3 ∧ l3 < n5) ∧ (
    (X.2.1 a0 = some (0, 0)) ∧ (
    ((I a0 5).toInt ≤ (I q3 l3.toNat).toInt → (
      J4 l2 (l3 + 1) I
    )) ∧ (¬ (I a0 5).toInt ≤ (I q3 l3.toNat).toInt → (
      (0 ≤ l3 ∧ l3 < n5) ∧ (
      J32 ((I q3 l3.toNat).toInt) l3 I)
    ))))))))
  ))))
/-- GC$Explainer.lastGuessed, from 32 -/
def wz_4_32 (V : jx_V) (X : jx_X) (R : jx_R) (Q : Option Value → jx_I → Prop) (QE : String → jx_I → Prop) (J4 : Int → Int → jx_I → Prop) (J32 : Int → Int → jx_I → Prop) (a0 : Nat) (a1 : Nat) (l2 : Int) (l3 : Int) (I : jx_I) : Prop :=
  J4 l2 (l3 + 1) I
/-- GC$Explainer.lastGuessed -/
def wz_4 (V : jx_V) (X : jx_X) (R : jx_R) (Q : Option Value → jx_I → Prop) (QE : String → jx_I → Prop) (J4 : Int → Int → jx_I → Prop) (J32 : Int → Int → jx_I → Prop) (a0 : Nat) (a1 : Nat) (I : jx_I) : Prop :=
  J4 (-1) 0 I
set_option maxRecDepth 20000 in
theorem wm_4 {V : jx_V} (hV : V.1.stackTraces = false) {X : jx_X} {R : jx_R} {I : jx_I} {Q : Option Value → jx_I → Prop} {QE : String → jx_I → Prop} {a0 : Nat} {a1 : Nat}  
    (h : ∀ (J4 : Int → Int → jx_I → Prop) (J32 : Int → Int → jx_I → Prop), ((∀ (l2 : Int) (l3 : Int) I, wz_4_4 V X R Q QE J4 J32 a0 a1 l2 l3 I → J4 l2 l3 I) ∧ (∀ (l2 : Int) (l3 : Int) I, wz_4_32 V X R Q QE J4 J32 a0 a1 l2 l3 I → J32 l2 l3 I)) → wz_4 V X R Q QE J4 J32 a0 a1 I) : jc V 1 4 (0, 0) [.ref a0, .ref a1] X I R Q QE := by
  refine jy_met hV (by decide) (n := 4) (rt := some .int) (hh := []) (ini := false) (C := jx_c4) (L := [some (.ref a0), some (.ref a1), none, none]) jt_4 (Nat.le_of_ble_eq_true rfl) rfl ?_
  intro J hS
  have h := h (fun l2 l3 I => J 4 [] [some (.ref a0), some (.ref a1), some (jy l2), some (jy l3)] (0, 0) X I R) (fun l2 l3 I => J 32 [] [some (.ref a0), some (.ref a1), some (jy l2), some (jy l3)] (0, 0) X I R) ?_
  · unfold wz_4 at h
    refine jy_iconst hS rfl ?_
    refine jy_istore_n hS rfl (Nat.le_of_ble_eq_true rfl) (L' := [some (.ref a0), some (.ref a1), some (jy (-1)), none]) rfl ?_
    refine jy_iconst hS rfl ?_
    refine jy_istore_n hS rfl (Nat.le_of_ble_eq_true rfl) (L' := [some (.ref a0), some (.ref a1), some (jy (-1)), some (jy 0)]) rfl ?_
    exact jy_join hS h rfl (jy_sub_s (jy_sub_s (jy_sub_s (jy_sub_s jy_sub_0))))
  refine ⟨?_, ?_⟩
  · intro l2 l3 I h
    unfold wz_4_4 at h
    refine jy_iload_n hS rfl rfl ?_
    refine jy_aload_n hS rfl rfl ?_
    obtain ⟨g1, h⟩ := h
    refine jy_getI hS rfl (by decide) g1 ?_
    obtain ⟨g2, h⟩ := h
    refine jy_icmp_ge hS rfl ⟨g2, (jy_rng _)⟩ (fun hq => ?_) (fun hq => ?_)
    · have h := h.1 hq
      refine jy_iload_n hS rfl rfl ?_
      exact jy_iret hS rfl rfl ⟨rfl, rfl, h⟩
    · have h := h.2 hq
      refine jy_aload_n hS rfl rfl ?_
      obtain ⟨q3, h⟩ := h
      obtain ⟨g4, h⟩ := h
      refine jy_getR hS rfl (by decide) g1 g4 ?_
      refine jy_iload_n hS rfl rfl ?_
      obtain ⟨n5, h⟩ := h
      obtain ⟨g6, h⟩ := h
      obtain ⟨g7, h⟩ := h
      refine jy_iald hS rfl g6.1 (Nat.le_of_lt g6.2) g7 ?_
      refine jy_aload_n hS rfl rfl ?_
      obtain ⟨g8, h⟩ := h
      refine jy_getI hS rfl (by decide) g8 ?_
      refine jy_icmp_ge hS rfl ⟨(jy_rng _), (jy_rng _)⟩ (fun hq => ?_) (fun hq => ?_)
      · have h := h.1 hq
        refine jy_iinc hS rfl rfl (L' := [some (.ref a0), some (.ref a1), some (jy l2), some (jy (l3 + 1))]) rfl ?_
        refine jy_goto hS rfl ?_
        exact jy_join hS h rfl (jy_sub_s (jy_sub_s (jy_sub_s (jy_sub_s jy_sub_0))))
      · have h := h.2 hq
        refine jy_aload_n hS rfl rfl ?_
        refine jy_getR hS rfl (by decide) g1 g4 ?_
        refine jy_iload_n hS rfl rfl ?_
        obtain ⟨g9, h⟩ := h
        refine jy_iald hS rfl g6.1 (Nat.le_of_lt g6.2) g9 ?_
        refine jy_istore_n hS rfl (Nat.le_of_ble_eq_true rfl) (L' := [some (.ref a0), some (.ref a1), some (jy ((I q3 l3.toNat).toInt)), some (jy l3)]) rfl ?_
        exact jy_join hS h rfl (jy_sub_s (jy_sub_s (jy_sub_s (jy_sub_s jy_sub_0))))
  · intro l2 l3 I h
    unfold wz_4_32 at h
    refine jy_iinc hS rfl rfl (L' := [some (.ref a0), some (.ref a1), some (jy l2), some (jy (l3 + 1))]) rfl ?_
    refine jy_goto hS rfl ?_
    exact jy_join hS h rfl (jy_sub_s (jy_sub_s (jy_sub_s (jy_sub_s jy_sub_0))))
theorem jt_5 : jx_ml 5 = 4 ∧ jx_rt 5 = none ∧ jx_hz 5 = [] ∧ decide ((jx_nm 5).name = "<init>") = false ∧ jx_code 5 = jx_c5 := by decide +kernel
/-- GC$Explainer.guessFrom, from 16 -/
def wz_5_16 (d : Nat) (V : jx_V) (X : jx_X) (R : jx_R) (Q : Option Value → jx_I → Prop) (QE : String → jx_I → Prop) (J16 : Int → jx_I → Prop) (J49 : Int → jx_I → Prop) (a0 : Nat) (a1 : Int) (a2 : Int) (l3 : Int) (I : jx_I) : Prop :=
  (-2147483648 ≤ l3 ∧ l3 < 2147483648) ∧ (
  (5 < l3 → (
    Q none I
  )) ∧ (¬ 5 < l3 → (
    (X.2.1 a0 = some (0, 0)) ∧ (
    ∃ q9 : Nat, (
    (R a0 2 = some q9) ∧ (
    ∃ n11 : Nat, (
    (X.2.1 q9 = some (100, n11) ∧ n11 < 2147483648) ∧ (
    (0 ≤ a1 ∧ a1 < n11) ∧ (
    ∀ I14 : jx_I, I14 = jx_u I q9 a1.toNat (Int32.ofInt l3) → (
    (4 < d) ∧ (
    ∃ Q15 : Option Value → jx_I → Prop, (
    (jc V 4 6 (0, 0) [.ref a0, jy a1] X I14 R Q15 (fun _ _ => False)) ∧ (
    ∀ rv I18, Q15 rv I18 → ∃ r19 : Int, rv = some (jy r19) ∧ (
    (-2147483648 ≤ r19 ∧ r19 < 2147483648) ∧ (
    (r19 = 0 → (
      J16 (l3 + 1) I18
    )) ∧ (¬ r19 = 0 → (
      ∃ d22 : Nat, d22 < d ∧ (
      ∃ Q21 : Option Value → jx_I → Prop, (
      (jc V d22 5 (0, 0) [.ref a0, jy (a1 + 1), jy ((a2 * 6) + l3)] X I18 R Q21 (fun _ _ => False)) ∧ (
      ∀ rv I25, Q21 rv I25 → rv = none ∧ (
      J49 l3 I25))))
    ))))))))))))))
  )))
/-- GC$Explainer.guessFrom, from 49 -/
def wz_5_49 (d : Nat) (V : jx_V) (X : jx_X) (R : jx_R) (Q : Option Value → jx_I → Prop) (QE : String → jx_I → Prop) (J16 : Int → jx_I → Prop) (J49 : Int → jx_I → Prop) (a0 : Nat) (a1 : Int) (a2 : Int) (l3 : Int) (I : jx_I) : Prop :=
  J16 (l3 + 1) I
/-- GC$Explainer.guessFrom -/
def wz_5 (d : Nat) (V : jx_V) (X : jx_X) (R : jx_R) (Q : Option Value → jx_I → Prop) (QE : String → jx_I → Prop) (J16 : Int → jx_I → Prop) (J49 : Int → jx_I → Prop) (a0 : Nat) (a1 : Int) (a2 : Int) (I : jx_I) : Prop :=
  (X.2.1 a0 = some (0, 0)) ∧ (
  (a1 < (I a0 5).toInt → (
    J16 0 I
  )) ∧ (¬ a1 < (I a0 5).toInt → (
    (1 < d) ∧ (
    ∃ Q2 : Option Value → jx_I → Prop, (
    (jc V 1 7 (0, 0) [.ref a0, jy a2] X I R Q2 (fun _ _ => False)) ∧ (
    ∀ rv I5, Q2 rv I5 → rv = none ∧ (
    Q none I5))))
  )))
set_option maxRecDepth 20000 in
theorem wm_5 {V : jx_V} (hV : V.1.stackTraces = false) {d : Nat} {X : jx_X} {R : jx_R} {I : jx_I} {Q : Option Value → jx_I → Prop} {QE : String → jx_I → Prop} {a0 : Nat} {a1 : Int} {a2 : Int} (r_a1 : -2147483648 ≤ a1 ∧ a1 < 2147483648) (r_a2 : -2147483648 ≤ a2 ∧ a2 < 2147483648) 
    (h : ∀ (J16 : Int → jx_I → Prop) (J49 : Int → jx_I → Prop), ((∀ (l3 : Int) I, wz_5_16 d V X R Q QE J16 J49 a0 a1 a2 l3 I → J16 l3 I) ∧ (∀ (l3 : Int) I, wz_5_49 d V X R Q QE J16 J49 a0 a1 a2 l3 I → J49 l3 I)) → wz_5 d V X R Q QE J16 J49 a0 a1 a2 I) : jc V d 5 (0, 0) [.ref a0, jy a1, jy a2] X I R Q QE := by
  refine jy_met hV (by decide) (n := 4) (rt := none) (hh := []) (ini := false) (C := jx_c5) (L := [some (.ref a0), some (jy a1), some (jy a2), none]) jt_5 (Nat.le_of_ble_eq_true rfl) rfl ?_
  intro J hS
  have h := h (fun l3 I => J 16 [] [some (.ref a0), some (jy a1), some (jy a2), some (jy l3)] (0, 0) X I R) (fun l3 I => J 49 [] [some (.ref a0), some (jy a1), some (jy a2), some (jy l3)] (0, 0) X I R) ?_
  · unfold wz_5 at h
    refine jy_iload_n hS rfl rfl ?_
    refine jy_aload_n hS rfl rfl ?_
    obtain ⟨g1, h⟩ := h
    refine jy_getI hS rfl (by decide) g1 ?_
    refine jy_icmp_lt hS rfl ⟨r_a1, (jy_rng _)⟩ (fun hq => ?_) (fun hq => ?_)
    · have h := h.1 hq
      refine jy_iconst hS rfl ?_
      refine jy_istore_n hS rfl (Nat.le_of_ble_eq_true rfl) (L' := [some (.ref a0), some (jy a1), some (jy a2), some (jy 0)]) rfl ?_
      exact jy_join hS h rfl (jy_sub_s (jy_sub_s (jy_sub_s (jy_sub_s jy_sub_0))))
    · have h := h.2 hq
      refine jy_aload_n hS rfl rfl ?_
      refine jy_iload_n hS rfl rfl ?_
      obtain ⟨g3, h⟩ := h
      obtain ⟨Q2, h⟩ := h
      obtain ⟨g4, h⟩ := h
      refine jy_callV hS rfl rfl rfl (Nat.le_of_ble_eq_true rfl) (Or.inl g1) g4 g3 ⟨by decide, by decide⟩ (Nat.le_of_ble_eq_true rfl) ?_ ?_
      rotate_left
      · exact fun Ex Xx Ix Rx hp => hp.2.2.2.elim
      intro rv Xx I5 Rx hp
      obtain ⟨e1, e2, hp⟩ := hp
      rw [e1, e2]
      clear e1 e2
      obtain ⟨e1, h⟩ := h rv I5 hp
      rw [e1]
      clear e1
      change J 13 [] _ (0, 0) _ _ _
      exact jy_ret hS rfl rfl ⟨rfl, rfl, h⟩
  refine ⟨?_, ?_⟩
  · intro l3 I h
    unfold wz_5_16 at h
    refine jy_iload_n hS rfl rfl ?_
    refine jy_iconst hS rfl ?_
    obtain ⟨g7, h⟩ := h
    refine jy_icmp_gt hS rfl ⟨g7, ⟨by decide, by decide⟩⟩ (fun hq => ?_) (fun hq => ?_)
    · have h := h.1 hq
      exact jy_ret hS rfl rfl ⟨rfl, rfl, h⟩
    · have h := h.2 hq
      refine jy_aload_n hS rfl rfl ?_
      obtain ⟨g8, h⟩ := h
      obtain ⟨q9, h⟩ := h
      obtain ⟨g10, h⟩ := h
      refine jy_getR hS rfl (by decide) g8 g10 ?_
      refine jy_iload_n hS rfl rfl ?_
      refine jy_iload_n hS rfl rfl ?_
      obtain ⟨n11, h⟩ := h
      obtain ⟨g12, h⟩ := h
      obtain ⟨g13, h⟩ := h
      refine jy_iast hS rfl g12.1 (Nat.le_of_lt g12.2) g13 ?_
      intro I14 e9
      have h := h I14 e9
      clear e9
      refine jy_aload_n hS rfl rfl ?_
      refine jy_iload_n hS rfl rfl ?_
      obtain ⟨g16, h⟩ := h
      obtain ⟨Q15, h⟩ := h
      obtain ⟨g17, h⟩ := h
      refine jy_callV hS rfl rfl rfl (Nat.le_of_ble_eq_true rfl) (Or.inl g8) g17 g16 ⟨by decide, by decide⟩ (Nat.le_of_ble_eq_true rfl) ?_ ?_
      rotate_left
      · exact fun Ex Xx Ix Rx hp => hp.2.2.2.elim
      intro rv Xx I18 Rx hp
      obtain ⟨e1, e2, hp⟩ := hp
      rw [e1, e2]
      clear e1 e2
      obtain ⟨r19, e1, h⟩ := h rv I18 hp
      rw [e1]
      clear e1
      change J 33 [jy r19] _ (0, 0) _ _ _
      obtain ⟨g20, h⟩ := h
      refine jy_if_eq hS rfl g20 (fun hq => ?_) (fun hq => ?_)
      · have h := h.1 hq
        refine jy_iinc hS rfl rfl (L' := [some (.ref a0), some (jy a1), some (jy a2), some (jy (l3 + 1))]) rfl ?_
        refine jy_goto hS rfl ?_
        exact jy_join hS h rfl (jy_sub_s (jy_sub_s (jy_sub_s (jy_sub_s jy_sub_0))))
      · have h := h.2 hq
        refine jy_aload_n hS rfl rfl ?_
        refine jy_iload_n hS rfl rfl ?_
        refine jy_iconst hS rfl ?_
        refine jy_iadd hS rfl ?_
        refine jy_iload_n hS rfl rfl ?_
        refine jy_bipush hS rfl (by decide) ?_
        refine jy_imul hS rfl ?_
        refine jy_iload_n hS rfl rfl ?_
        refine jy_iadd hS rfl ?_
        obtain ⟨d22, g23, h⟩ := h
        obtain ⟨Q21, h⟩ := h
        obtain ⟨g24, h⟩ := h
        refine jy_callV hS rfl rfl rfl (Nat.le_of_ble_eq_true rfl) (Or.inl g8) g24 g23 ⟨by decide, by decide⟩ (Nat.le_of_ble_eq_true rfl) ?_ ?_
        rotate_left
        · exact fun Ex Xx Ix Rx hp => hp.2.2.2.elim
        intro rv Xx I25 Rx hp
        obtain ⟨e1, e2, hp⟩ := hp
        rw [e1, e2]
        clear e1 e2
        obtain ⟨e1, h⟩ := h rv I25 hp
        rw [e1]
        clear e1
        change J 49 [] _ (0, 0) _ _ _
        exact jy_join hS h rfl (jy_sub_s (jy_sub_s (jy_sub_s (jy_sub_s jy_sub_0))))
  · intro l3 I h
    unfold wz_5_49 at h
    refine jy_iinc hS rfl rfl (L' := [some (.ref a0), some (jy a1), some (jy a2), some (jy (l3 + 1))]) rfl ?_
    refine jy_goto hS rfl ?_
    exact jy_join hS h rfl (jy_sub_s (jy_sub_s (jy_sub_s (jy_sub_s jy_sub_0))))
theorem jt_6 : jx_ml 6 = 3 ∧ jx_rt 6 = some .boolean ∧ jx_hz 6 = [] ∧ decide ((jx_nm 6).name = "<init>") = false ∧ jx_code 6 = jx_c6 := by decide +kernel
/-- GC$Explainer.linesHold, from 2 -/
def wz_6_2 (V : jx_V) (X : jx_X) (R : jx_R) (Q : Option Value → jx_I → Prop) (QE : String → jx_I → Prop) (J2 : Int → jx_I → Prop) (a0 : Nat) (a1 : Int) (l2 : Int) (I : jx_I) : Prop :=
  (X.2.1 a0 = some (0, 0)) ∧ (
  ∃ q2 : Nat, (
  (R a0 4 = some q2) ∧ (
  (X.2.1 q2 = some (7, 0)) ∧ (
  (-2147483648 ≤ l2 ∧ l2 < 2147483648) ∧ (
  ((I q2 6).toInt ≤ l2 → (
    Q (some (jy 1)) I
  )) ∧ (¬ (I q2 6).toInt ≤ l2 → (
    ∃ q6 : Nat, (
    (R a0 1 = some q6) ∧ (
    ∃ n8 : Nat, (
    (X.2.1 q6 = some (100, n8) ∧ n8 < 2147483648) ∧ (
    (0 ≤ l2 ∧ l2 < n8) ∧ (
    ((I q6 l2.toNat).toInt ≠ a1 → (
      J2 (l2 + 1) I
    )) ∧ ((I q6 l2.toNat).toInt = a1 → (
      ∃ q11 : Nat, (
      (R a0 3 = some q11) ∧ (
      (X.2.1 q11 = some (2, 0)) ∧ (
      ∃ q14 : Nat, (
      (R q11 6 = some q14) ∧ (
      ∃ q16 : Nat, (
      (R a0 0 = some q16) ∧ (
      ∃ n18 : Nat, (
      (X.2.1 q16 = some (102, n18) ∧ n18 < 2147483648) ∧ (
      (0 ≤ l2 ∧ l2 < n18) ∧ (
      ∃ q21 : Nat, (
      (R q16 l2.toNat = some q21) ∧ (
      ∃ q23 : Nat, (
      (R a0 2 = some q23) ∧ (
      (X.2.1 q14 = some (3, 0)) ∧ (
      ∃ Q26 : Option Value → jx_I → Prop, (
      (jc V 3 52 (0, 0) [.ref q14, .ref q21, .ref q23, jy 0, jy 1] X I R Q26 (fun _ _ => False)) ∧ (
      ∀ rv I28, Q26 rv I28 → ∃ r29 : Int, rv = some (jy r29) ∧ (
      ∃ q30 : Nat, (
      (R q2 4 = some q30) ∧ (
      ∃ n32 : Nat, (
      (X.2.1 q30 = some (100, n32) ∧ n32 < 2147483648) ∧ (
      (0 ≤ l2 ∧ l2 < n32) ∧ (
      (-2147483648 ≤ r29 ∧ r29 < 2147483648) ∧ (
      (r29 = (I28 q30 l2.toNat).toInt → (
        J2 (l2 + 1) I28
      )) ∧ (¬ r29 = (I28 q30 l2.toNat).toInt → (
        Q (some (jy 0)) I28
      ))))))))))))))))))))))))))
    )))))))
  )))))))
/-- GC$Explainer.linesHold -/
def wz_6 (V : jx_V) (X : jx_X) (R : jx_R) (Q : Option Value → jx_I → Prop) (QE : String → jx_I → Prop) (J2 : Int → jx_I → Prop) (a0 : Nat) (a1 : Int) (I : jx_I) : Prop :=
  J2 0 I
set_option maxRecDepth 20000 in
theorem wm_6 {V : jx_V} (hV : V.1.stackTraces = false) {X : jx_X} {R : jx_R} {I : jx_I} {Q : Option Value → jx_I → Prop} {QE : String → jx_I → Prop} {a0 : Nat} {a1 : Int} (r_a1 : -2147483648 ≤ a1 ∧ a1 < 2147483648) 
    (h : ∀ (J2 : Int → jx_I → Prop), ((∀ (l2 : Int) I, wz_6_2 V X R Q QE J2 a0 a1 l2 I → J2 l2 I)) → wz_6 V X R Q QE J2 a0 a1 I) : jc V 4 6 (0, 0) [.ref a0, jy a1] X I R Q QE := by
  refine jy_met hV (by decide) (n := 3) (rt := some .boolean) (hh := []) (ini := false) (C := jx_c6) (L := [some (.ref a0), some (jy a1), none]) jt_6 (Nat.le_of_ble_eq_true rfl) rfl ?_
  intro J hS
  have h := h (fun l2 I => J 2 [] [some (.ref a0), some (jy a1), some (jy l2)] (0, 0) X I R) ?_
  · unfold wz_6 at h
    refine jy_iconst hS rfl ?_
    refine jy_istore_n hS rfl (Nat.le_of_ble_eq_true rfl) (L' := [some (.ref a0), some (jy a1), some (jy 0)]) rfl ?_
    exact jy_join hS h rfl (jy_sub_s (jy_sub_s (jy_sub_s jy_sub_0)))
  · intro l2 I h
    unfold wz_6_2 at h
    refine jy_iload_n hS rfl rfl ?_
    refine jy_aload_n hS rfl rfl ?_
    obtain ⟨g1, h⟩ := h
    obtain ⟨q2, h⟩ := h
    obtain ⟨g3, h⟩ := h
    refine jy_getR hS rfl (by decide) g1 g3 ?_
    obtain ⟨g4, h⟩ := h
    refine jy_getI hS rfl (by decide) g4 ?_
    obtain ⟨g5, h⟩ := h
    refine jy_icmp_ge hS rfl ⟨g5, (jy_rng _)⟩ (fun hq => ?_) (fun hq => ?_)
    · have h := h.1 hq
      refine jy_iconst hS rfl ?_
      exact jy_iret hS rfl rfl ⟨rfl, rfl, h⟩
    · have h := h.2 hq
      refine jy_aload_n hS rfl rfl ?_
      obtain ⟨q6, h⟩ := h
      obtain ⟨g7, h⟩ := h
      refine jy_getR hS rfl (by decide) g1 g7 ?_
      refine jy_iload_n hS rfl rfl ?_
      obtain ⟨n8, h⟩ := h
      obtain ⟨g9, h⟩ := h
      obtain ⟨g10, h⟩ := h
      refine jy_iald hS rfl g9.1 (Nat.le_of_lt g9.2) g10 ?_
      refine jy_iload_n hS rfl rfl ?_
      refine jy_icmp_ne hS rfl ⟨(jy_rng _), r_a1⟩ (fun hq => ?_) (fun hq => ?_)
      · have h := h.1 hq
        refine jy_iinc hS rfl rfl (L' := [some (.ref a0), some (jy a1), some (jy (l2 + 1))]) rfl ?_
        refine jy_goto hS rfl ?_
        exact jy_join hS h rfl (jy_sub_s (jy_sub_s (jy_sub_s jy_sub_0)))
      · have h := h.2 hq
        refine jy_aload_n hS rfl rfl ?_
        obtain ⟨q11, h⟩ := h
        obtain ⟨g12, h⟩ := h
        refine jy_getR hS rfl (by decide) g1 g12 ?_
        obtain ⟨g13, h⟩ := h
        obtain ⟨q14, h⟩ := h
        obtain ⟨g15, h⟩ := h
        refine jy_getR hS rfl (by decide) g13 g15 ?_
        refine jy_aload_n hS rfl rfl ?_
        obtain ⟨q16, h⟩ := h
        obtain ⟨g17, h⟩ := h
        refine jy_getR hS rfl (by decide) g1 g17 ?_
        refine jy_iload_n hS rfl rfl ?_
        obtain ⟨n18, h⟩ := h
        obtain ⟨g19, h⟩ := h
        obtain ⟨g20, h⟩ := h
        obtain ⟨q21, h⟩ := h
        obtain ⟨g22, h⟩ := h
        refine jy_aald hS rfl g19.1 (by decide) (Nat.le_of_lt g19.2) g20 g22 ?_
        refine jy_aload_n hS rfl rfl ?_
        obtain ⟨q23, h⟩ := h
        obtain ⟨g24, h⟩ := h
        refine jy_getR hS rfl (by decide) g1 g24 ?_
        refine jy_iconst hS rfl ?_
        refine jy_iconst hS rfl ?_
        obtain ⟨g25, h⟩ := h
        obtain ⟨Q26, h⟩ := h
        obtain ⟨g27, h⟩ := h
        refine jy_callV hS rfl rfl rfl (Nat.le_of_ble_eq_true rfl) (Or.inl g25) g27 (by decide) ⟨by decide, by decide⟩ (Nat.le_of_ble_eq_true rfl) ?_ ?_
        rotate_left
        · exact fun Ex Xx Ix Rx hp => hp.2.2.2.elim
        intro rv Xx I28 Rx hp
        obtain ⟨e1, e2, hp⟩ := hp
        rw [e1, e2]
        clear e1 e2
        obtain ⟨r29, e1, h⟩ := h rv I28 hp
        rw [e1]
        clear e1
        change J 45 [jy r29] _ (0, 0) _ _ _
        refine jy_aload_n hS rfl rfl ?_
        refine jy_getR hS rfl (by decide) g1 g3 ?_
        obtain ⟨q30, h⟩ := h
        obtain ⟨g31, h⟩ := h
        refine jy_getR hS rfl (by decide) g4 g31 ?_
        refine jy_iload_n hS rfl rfl ?_
        obtain ⟨n32, h⟩ := h
        obtain ⟨g33, h⟩ := h
        obtain ⟨g34, h⟩ := h
        refine jy_iald hS rfl g33.1 (Nat.le_of_lt g33.2) g34 ?_
        obtain ⟨g35, h⟩ := h
        refine jy_icmp_eq hS rfl ⟨g35, (jy_rng _)⟩ (fun hq => ?_) (fun hq => ?_)
        · have h := h.1 hq
          refine jy_iinc hS rfl rfl (L' := [some (.ref a0), some (jy a1), some (jy (l2 + 1))]) rfl ?_
          refine jy_goto hS rfl ?_
          exact jy_join hS h rfl (jy_sub_s (jy_sub_s (jy_sub_s jy_sub_0)))
        · have h := h.2 hq
          refine jy_iconst hS rfl ?_
          exact jy_iret hS rfl rfl ⟨rfl, rfl, h⟩
theorem jt_7 : jx_ml 7 = 4 ∧ jx_rt 7 = none ∧ jx_hz 7 = [] ∧ decide ((jx_nm 7).name = "<init>") = false ∧ jx_code 7 = jx_c7 := by decide +kernel
/-- GC$Explainer.noteWay, from 12 -/
def wz_7_12 (V : jx_V) (X : jx_X) (R : jx_R) (Q : Option Value → jx_I → Prop) (QE : String → jx_I → Prop) (J12 : jx_I → Prop) (J26 : Int → Int → jx_I → Prop) (J49 : Int → Int → jx_I → Prop) (a0 : Nat) (a1 : Int)  (I : jx_I) : Prop :=
  (X.2.1 a0 = some (0, 0)) ∧ (
  ∀ I5 : jx_I, I5 = jx_u I a0 7 (Int32.ofInt ((I a0 7).toInt + 1)) → (
  J26 0 0 I5))
/-- GC$Explainer.noteWay, from 26 -/
def wz_7_26 (V : jx_V) (X : jx_X) (R : jx_R) (Q : Option Value → jx_I → Prop) (QE : String → jx_I → Prop) (J12 : jx_I → Prop) (J26 : Int → Int → jx_I → Prop) (J49 : Int → Int → jx_I → Prop) (a0 : Nat) (a1 : Int) (l2 : Int) (l3 : Int) (I : jx_I) : Prop :=
  (X.2.1 a0 = some (0, 0)) ∧ (
  (-2147483648 ≤ l3 ∧ l3 < 2147483648) ∧ (
  ((I a0 5).toInt ≤ l3 → (
    ∀ I8 : jx_I, I8 = jx_u I a0 9 (Int32.ofInt ((Int32.ofInt ((I a0 9).toInt) &&& Int32.ofInt l2).toInt)) → (
    ∀ I9 : jx_I, I9 = jx_u I8 a0 10 (Int32.ofInt ((Int32.ofInt ((I8 a0 10).toInt) ||| Int32.ofInt l2).toInt)) → (
    Q none I9))
  )) ∧ (¬ (I a0 5).toInt ≤ l3 → (
    ∃ q10 : Nat, (
    (R a0 2 = some q10) ∧ (
    ∃ n12 : Nat, (
    (X.2.1 q10 = some (100, n12) ∧ n12 < 2147483648) ∧ (
    (0 ≤ l3 ∧ l3 < n12) ∧ (
    ((I q10 l3.toNat).toInt ≤ 0 → (
      J26 l2 (l3 + 1) I
    )) ∧ (¬ (I q10 l3.toNat).toInt ≤ 0 → (
      J49 ((Int32.ofInt l2 ||| Int32.ofInt ((Int32.ofInt 1 <<< (Int32.ofInt l3 &&& 31)).toInt)).toInt) l3 I
    )))))))
  ))))
/-- GC$Explainer.noteWay, from 49 -/
def wz_7_49 (V : jx_V) (X : jx_X) (R : jx_R) (Q : Option Value → jx_I → Prop) (QE : String → jx_I → Prop) (J12 : jx_I → Prop) (J26 : Int → Int → jx_I → Prop) (J49 : Int → Int → jx_I → Prop) (a0 : Nat) (a1 : Int) (l2 : Int) (l3 : Int) (I : jx_I) : Prop :=
  J26 l2 (l3 + 1) I
/-- GC$Explainer.noteWay -/
def wz_7 (V : jx_V) (X : jx_X) (R : jx_R) (Q : Option Value → jx_I → Prop) (QE : String → jx_I → Prop) (J12 : jx_I → Prop) (J26 : Int → Int → jx_I → Prop) (J49 : Int → Int → jx_I → Prop) (a0 : Nat) (a1 : Int) (I : jx_I) : Prop :=
  (X.2.1 a0 = some (0, 0)) ∧ (
  ((I a0 7).toInt ≠ 0 → (
    ∀ I2 : jx_I, I2 = jx_u I a0 7 (Int32.ofInt ((I a0 7).toInt + 1)) → (
    J26 0 0 I2)
  )) ∧ ((I a0 7).toInt = 0 → (
    ∀ I3 : jx_I, I3 = jx_u I a0 8 (Int32.ofInt a1) → (
    J12 I3)
  )))
set_option maxRecDepth 20000 in
theorem wm_7 {V : jx_V} (hV : V.1.stackTraces = false) {X : jx_X} {R : jx_R} {I : jx_I} {Q : Option Value → jx_I → Prop} {QE : String → jx_I → Prop} {a0 : Nat} {a1 : Int} (r_a1 : -2147483648 ≤ a1 ∧ a1 < 2147483648) 
    (h : ∀ (J12 : jx_I → Prop) (J26 : Int → Int → jx_I → Prop) (J49 : Int → Int → jx_I → Prop), ((∀  I, wz_7_12 V X R Q QE J12 J26 J49 a0 a1  I → J12  I) ∧ (∀ (l2 : Int) (l3 : Int) I, wz_7_26 V X R Q QE J12 J26 J49 a0 a1 l2 l3 I → J26 l2 l3 I) ∧ (∀ (l2 : Int) (l3 : Int) I, wz_7_49 V X R Q QE J12 J26 J49 a0 a1 l2 l3 I → J49 l2 l3 I)) → wz_7 V X R Q QE J12 J26 J49 a0 a1 I) : jc V 1 7 (0, 0) [.ref a0, jy a1] X I R Q QE := by
  refine jy_met hV (by decide) (n := 4) (rt := none) (hh := []) (ini := false) (C := jx_c7) (L := [some (.ref a0), some (jy a1), none, none]) jt_7 (Nat.le_of_ble_eq_true rfl) rfl ?_
  intro J hS
  have h := h (fun  I => J 12 [] [some (.ref a0), none, none, none] (0, 0) X I R) (fun l2 l3 I => J 26 [] [some (.ref a0), none, some (jy l2), some (jy l3)] (0, 0) X I R) (fun l2 l3 I => J 49 [] [some (.ref a0), none, some (jy l2), some (jy l3)] (0, 0) X I R) ?_
  · unfold wz_7 at h
    refine jy_aload_n hS rfl rfl ?_
    obtain ⟨g1, h⟩ := h
    refine jy_getI hS rfl (by decide) g1 ?_
    refine jy_if_ne hS rfl (jy_rng _) (fun hq => ?_) (fun hq => ?_)
    · have h := h.1 hq
      refine jy_aload_n hS rfl rfl ?_
      refine jy_dup hS rfl rfl ?_
      refine jy_getI hS rfl (by decide) g1 ?_
      refine jy_iconst hS rfl ?_
      refine jy_iadd hS rfl ?_
      refine jy_putI hS rfl (by decide) g1 ?_
      intro I2 e9
      have h := h I2 e9
      clear e9
      refine jy_iconst hS rfl ?_
      refine jy_istore_n hS rfl (Nat.le_of_ble_eq_true rfl) (L' := [some (.ref a0), some (jy a1), some (jy 0), none]) rfl ?_
      refine jy_iconst hS rfl ?_
      refine jy_istore_n hS rfl (Nat.le_of_ble_eq_true rfl) (L' := [some (.ref a0), some (jy a1), some (jy 0), some (jy 0)]) rfl ?_
      exact jy_join hS h rfl (jy_sub_s (jy_sub_n (jy_sub_s (jy_sub_s jy_sub_0))))
    · have h := h.2 hq
      refine jy_aload_n hS rfl rfl ?_
      refine jy_iload_n hS rfl rfl ?_
      refine jy_putI hS rfl (by decide) g1 ?_
      intro I3 e9
      have h := h I3 e9
      clear e9
      exact jy_join hS h rfl (jy_sub_s (jy_sub_n (jy_sub_n (jy_sub_n jy_sub_0))))
  refine ⟨?_, ?_, ?_⟩
  · intro  I h
    unfold wz_7_12 at h
    refine jy_aload_n hS rfl rfl ?_
    refine jy_dup hS rfl rfl ?_
    obtain ⟨g4, h⟩ := h
    refine jy_getI hS rfl (by decide) g4 ?_
    refine jy_iconst hS rfl ?_
    refine jy_iadd hS rfl ?_
    refine jy_putI hS rfl (by decide) g4 ?_
    intro I5 e9
    have h := h I5 e9
    clear e9
    refine jy_iconst hS rfl ?_
    refine jy_istore_n hS rfl (Nat.le_of_ble_eq_true rfl) (L' := [some (.ref a0), none, some (jy 0), none]) rfl ?_
    refine jy_iconst hS rfl ?_
    refine jy_istore_n hS rfl (Nat.le_of_ble_eq_true rfl) (L' := [some (.ref a0), none, some (jy 0), some (jy 0)]) rfl ?_
    exact jy_join hS h rfl (jy_sub_s (jy_sub_n (jy_sub_s (jy_sub_s jy_sub_0))))
  · intro l2 l3 I h
    unfold wz_7_26 at h
    refine jy_iload_n hS rfl rfl ?_
    refine jy_aload_n hS rfl rfl ?_
    obtain ⟨g6, h⟩ := h
    refine jy_getI hS rfl (by decide) g6 ?_
    obtain ⟨g7, h⟩ := h
    refine jy_icmp_ge hS rfl ⟨g7, (jy_rng _)⟩ (fun hq => ?_) (fun hq => ?_)
    · have h := h.1 hq
      refine jy_aload_n hS rfl rfl ?_
      refine jy_dup hS rfl rfl ?_
      refine jy_getI hS rfl (by decide) g6 ?_
      refine jy_iload_n hS rfl rfl ?_
      refine jy_iandX hS rfl rfl ?_
      refine jy_putI hS rfl (by decide) g6 ?_
      intro I8 e9
      have h := h I8 e9
      clear e9
      refine jy_aload_n hS rfl rfl ?_
      refine jy_dup hS rfl rfl ?_
      refine jy_getI hS rfl (by decide) g6 ?_
      refine jy_iload_n hS rfl rfl ?_
      refine jy_iorX hS rfl rfl ?_
      refine jy_putI hS rfl (by decide) g6 ?_
      intro I9 e9
      have h := h I9 e9
      clear e9
      exact jy_ret hS rfl rfl ⟨rfl, rfl, h⟩
    · have h := h.2 hq
      refine jy_aload_n hS rfl rfl ?_
      obtain ⟨q10, h⟩ := h
      obtain ⟨g11, h⟩ := h
      refine jy_getR hS rfl (by decide) g6 g11 ?_
      refine jy_iload_n hS rfl rfl ?_
      obtain ⟨n12, h⟩ := h
      obtain ⟨g13, h⟩ := h
      obtain ⟨g14, h⟩ := h
      refine jy_iald hS rfl g13.1 (Nat.le_of_lt g13.2) g14 ?_
      refine jy_if_le hS rfl (jy_rng _) (fun hq => ?_) (fun hq => ?_)
      · have h := h.1 hq
        refine jy_iinc hS rfl rfl (L' := [some (.ref a0), none, some (jy l2), some (jy (l3 + 1))]) rfl ?_
        refine jy_goto hS rfl ?_
        exact jy_join hS h rfl (jy_sub_s (jy_sub_n (jy_sub_s (jy_sub_s jy_sub_0))))
      · have h := h.2 hq
        refine jy_iload_n hS rfl rfl ?_
        refine jy_iconst hS rfl ?_
        refine jy_iload_n hS rfl rfl ?_
        refine jy_ishlX hS rfl rfl ?_
        refine jy_iorX hS rfl rfl ?_
        refine jy_istore_n hS rfl (Nat.le_of_ble_eq_true rfl) (L' := [some (.ref a0), none, some (jy ((Int32.ofInt l2 ||| Int32.ofInt ((Int32.ofInt 1 <<< (Int32.ofInt l3 &&& 31)).toInt)).toInt)), some (jy l3)]) rfl ?_
        exact jy_join hS h rfl (jy_sub_s (jy_sub_n (jy_sub_s (jy_sub_s jy_sub_0))))
  · intro l2 l3 I h
    unfold wz_7_49 at h
    refine jy_iinc hS rfl rfl (L' := [some (.ref a0), none, some (jy l2), some (jy (l3 + 1))]) rfl ?_
    refine jy_goto hS rfl ?_
    exact jy_join hS h rfl (jy_sub_s (jy_sub_n (jy_sub_s (jy_sub_s jy_sub_0))))
theorem jt_9 : jx_ml 9 = 2 ∧ jx_rt 9 = none ∧ jx_hz 9 = [] ∧ decide ((jx_nm 9).name = "<init>") = false ∧ jx_code 9 = jx_c9 := by decide +kernel
/-- GC$Herd.copyFrom -/
def wz_9 (V : jx_V) (X : jx_X) (R : jx_R) (Q : Option Value → jx_I → Prop) (QE : String → jx_I → Prop)  (a0 : Nat) (a1 : Nat) (I : jx_I) : Prop :=
  (X.2.1 a1 = some (1, 0)) ∧ (
  ∃ q2 : Nat, (
  (R a1 0 = some q2) ∧ (
  (X.2.1 a0 = some (1, 0)) ∧ (
  ∃ q5 : Nat, (
  (R a0 0 = some q5) ∧ (
  ∃ n7 : Nat, (
  (X.2.1 q2 = some (100, n7) ∧ n7 < 2147483648) ∧ (
  ∃ n9 : Nat, (
  (X.2.1 q5 = some (100, n9) ∧ n9 < 2147483648) ∧ (
  ((0 ≤ (0 : Int) ∧ (0 : Int) + (80 : Int) ≤ n7) ∧ (0 ≤ (0 : Int) ∧ (0 : Int) + (80 : Int) ≤ n9) ∧ 0 ≤ (80 : Int)) ∧ (
  ∀ I12 : jx_I, I12 = jx_cp I q2 q5 (0 : Int).toNat (0 : Int).toNat (80 : Int).toNat → (
  ∃ q13 : Nat, (
  (R a1 1 = some q13) ∧ (
  ∃ q15 : Nat, (
  (R a0 1 = some q15) ∧ (
  ∃ n17 : Nat, (
  (X.2.1 q13 = some (100, n17) ∧ n17 < 2147483648) ∧ (
  ∃ n19 : Nat, (
  (X.2.1 q15 = some (100, n19) ∧ n19 < 2147483648) ∧ (
  ((0 ≤ (0 : Int) ∧ (0 : Int) + (80 : Int) ≤ n17) ∧ (0 ≤ (0 : Int) ∧ (0 : Int) + (80 : Int) ≤ n19) ∧ 0 ≤ (80 : Int)) ∧ (
  ∀ I22 : jx_I, I22 = jx_cp I12 q13 q15 (0 : Int).toNat (0 : Int).toNat (80 : Int).toNat → (
  Q none I22))))))))))))))))))))))
set_option maxRecDepth 20000 in
theorem wm_9 {V : jx_V} (hV : V.1.stackTraces = false) {X : jx_X} {R : jx_R} {I : jx_I} {Q : Option Value → jx_I → Prop} {QE : String → jx_I → Prop} {a0 : Nat} {a1 : Nat}  
    (h : wz_9 V X R Q QE  a0 a1 I) : jc V 1 9 (0, 0) [.ref a0, .ref a1] X I R Q QE := by
  refine jy_met hV (by decide) (n := 2) (rt := none) (hh := []) (ini := false) (C := jx_c9) (L := [some (.ref a0), some (.ref a1)]) jt_9 (Nat.le_of_ble_eq_true rfl) rfl ?_
  intro J hS
  unfold wz_9 at h
  refine jy_aload_n hS rfl rfl ?_
  obtain ⟨g1, h⟩ := h
  obtain ⟨q2, h⟩ := h
  obtain ⟨g3, h⟩ := h
  refine jy_getR hS rfl (by decide) g1 g3 ?_
  refine jy_iconst hS rfl ?_
  refine jy_aload_n hS rfl rfl ?_
  obtain ⟨g4, h⟩ := h
  obtain ⟨q5, h⟩ := h
  obtain ⟨g6, h⟩ := h
  refine jy_getR hS rfl (by decide) g4 g6 ?_
  refine jy_iconst hS rfl ?_
  refine jy_bipush hS rfl (by decide) ?_
  obtain ⟨n7, h⟩ := h
  obtain ⟨g8, h⟩ := h
  obtain ⟨n9, h⟩ := h
  obtain ⟨g10, h⟩ := h
  obtain ⟨g11, h⟩ := h
  refine jy_copy hS rfl (by decide) g8 g10 g11 (Nat.le_of_ble_eq_true rfl) ?_
  intro I12 e9
  have h := h I12 e9
  clear e9
  refine jy_aload_n hS rfl rfl ?_
  obtain ⟨q13, h⟩ := h
  obtain ⟨g14, h⟩ := h
  refine jy_getR hS rfl (by decide) g1 g14 ?_
  refine jy_iconst hS rfl ?_
  refine jy_aload_n hS rfl rfl ?_
  obtain ⟨q15, h⟩ := h
  obtain ⟨g16, h⟩ := h
  refine jy_getR hS rfl (by decide) g4 g16 ?_
  refine jy_iconst hS rfl ?_
  refine jy_bipush hS rfl (by decide) ?_
  obtain ⟨n17, h⟩ := h
  obtain ⟨g18, h⟩ := h
  obtain ⟨n19, h⟩ := h
  obtain ⟨g20, h⟩ := h
  obtain ⟨g21, h⟩ := h
  refine jy_copy hS rfl (by decide) g18 g20 g21 (Nat.le_of_ble_eq_true rfl) ?_
  intro I22 e9
  have h := h I22 e9
  clear e9
  exact jy_ret hS rfl rfl ⟨rfl, rfl, h⟩
theorem jt_10 : jx_ml 10 = 2 ∧ jx_rt 10 = none ∧ jx_hz 10 = [] ∧ decide ((jx_nm 10).name = "<init>") = false ∧ jx_code 10 = jx_c10 := by decide +kernel
/-- GC$Herd.beginIn -/
def wz_10 (V : jx_V) (X : jx_X) (R : jx_R) (Q : Option Value → jx_I → Prop) (QE : String → jx_I → Prop)  (a0 : Nat) (a1 : Nat) (I : jx_I) : Prop :=
  (X.2.1 a1 = some (2, 0)) ∧ (
  ∃ q2 : Nat, (
  (R a1 5 = some q2) ∧ (
  (X.2.1 a0 = some (1, 0)) ∧ (
  ∃ q5 : Nat, (
  (R a0 0 = some q5) ∧ (
  ∃ n7 : Nat, (
  (X.2.1 q2 = some (100, n7) ∧ n7 < 2147483648) ∧ (
  ∃ n9 : Nat, (
  (X.2.1 q5 = some (100, n9) ∧ n9 < 2147483648) ∧ (
  ((0 ≤ (0 : Int) ∧ (0 : Int) + (80 : Int) ≤ n7) ∧ (0 ≤ (0 : Int) ∧ (0 : Int) + (80 : Int) ≤ n9) ∧ 0 ≤ (80 : Int)) ∧ (
  ∀ I12 : jx_I, I12 = jx_cp I q2 q5 (0 : Int).toNat (0 : Int).toNat (80 : Int).toNat → (
  ∃ q13 : Nat, (
  (R a0 1 = some q13) ∧ (
  ∃ n15 : Nat, (
  (X.2.1 q13 = some (100, n15) ∧ n15 < 2147483648) ∧ (
  ((0 ≤ (0 : Int) ∧ (0 : Int) + (80 : Int) ≤ n7) ∧ (0 ≤ (0 : Int) ∧ (0 : Int) + (80 : Int) ≤ n15) ∧ 0 ≤ (80 : Int)) ∧ (
  ∀ I18 : jx_I, I18 = jx_cp I12 q2 q13 (0 : Int).toNat (0 : Int).toNat (80 : Int).toNat → (
  Q none I18))))))))))))))))))
set_option maxRecDepth 20000 in
theorem wm_10 {V : jx_V} (hV : V.1.stackTraces = false) {X : jx_X} {R : jx_R} {I : jx_I} {Q : Option Value → jx_I → Prop} {QE : String → jx_I → Prop} {a0 : Nat} {a1 : Nat}  
    (h : wz_10 V X R Q QE  a0 a1 I) : jc V 1 10 (0, 0) [.ref a0, .ref a1] X I R Q QE := by
  refine jy_met hV (by decide) (n := 2) (rt := none) (hh := []) (ini := false) (C := jx_c10) (L := [some (.ref a0), some (.ref a1)]) jt_10 (Nat.le_of_ble_eq_true rfl) rfl ?_
  intro J hS
  unfold wz_10 at h
  refine jy_aload_n hS rfl rfl ?_
  obtain ⟨g1, h⟩ := h
  obtain ⟨q2, h⟩ := h
  obtain ⟨g3, h⟩ := h
  refine jy_getR hS rfl (by decide) g1 g3 ?_
  refine jy_iconst hS rfl ?_
  refine jy_aload_n hS rfl rfl ?_
  obtain ⟨g4, h⟩ := h
  obtain ⟨q5, h⟩ := h
  obtain ⟨g6, h⟩ := h
  refine jy_getR hS rfl (by decide) g4 g6 ?_
  refine jy_iconst hS rfl ?_
  refine jy_bipush hS rfl (by decide) ?_
  obtain ⟨n7, h⟩ := h
  obtain ⟨g8, h⟩ := h
  obtain ⟨n9, h⟩ := h
  obtain ⟨g10, h⟩ := h
  obtain ⟨g11, h⟩ := h
  refine jy_copy hS rfl (by decide) g8 g10 g11 (Nat.le_of_ble_eq_true rfl) ?_
  intro I12 e9
  have h := h I12 e9
  clear e9
  refine jy_aload_n hS rfl rfl ?_
  refine jy_getR hS rfl (by decide) g1 g3 ?_
  refine jy_iconst hS rfl ?_
  refine jy_aload_n hS rfl rfl ?_
  obtain ⟨q13, h⟩ := h
  obtain ⟨g14, h⟩ := h
  refine jy_getR hS rfl (by decide) g4 g14 ?_
  refine jy_iconst hS rfl ?_
  refine jy_bipush hS rfl (by decide) ?_
  obtain ⟨n15, h⟩ := h
  obtain ⟨g16, h⟩ := h
  obtain ⟨g17, h⟩ := h
  refine jy_copy hS rfl (by decide) g8 g16 g17 (Nat.le_of_ble_eq_true rfl) ?_
  intro I18 e9
  have h := h I18 e9
  clear e9
  exact jy_ret hS rfl rfl ⟨rfl, rfl, h⟩
theorem jt_11 : jx_ml 11 = 3 ∧ jx_rt 11 = some .int ∧ jx_hz 11 = [] ∧ decide ((jx_nm 11).name = "<init>") = false ∧ jx_code 11 = jx_c11 := by decide +kernel
/-- GC$Herd.griefAt -/
def wz_11 (V : jx_V) (X : jx_X) (R : jx_R) (Q : Option Value → jx_I → Prop) (QE : String → jx_I → Prop)  (a0 : Nat) (a1 : Int) (a2 : Int) (I : jx_I) : Prop :=
  (X.2.1 a0 = some (1, 0)) ∧ (
  ∃ q2 : Nat, (
  (R a0 0 = some q2) ∧ (
  ∃ n4 : Nat, (
  (X.2.1 q2 = some (100, n4) ∧ n4 < 2147483648) ∧ (
  (0 ≤ ((a1 * 8) + a2) ∧ ((a1 * 8) + a2) < n4) ∧ (
  Q (some (jy ((I q2 ((a1 * 8) + a2).toNat).toInt))) I))))))
set_option maxRecDepth 20000 in
theorem wm_11 {V : jx_V} (hV : V.1.stackTraces = false) {X : jx_X} {R : jx_R} {I : jx_I} {Q : Option Value → jx_I → Prop} {QE : String → jx_I → Prop} {a0 : Nat} {a1 : Int} {a2 : Int} (r_a1 : -2147483648 ≤ a1 ∧ a1 < 2147483648) (r_a2 : -2147483648 ≤ a2 ∧ a2 < 2147483648) 
    (h : wz_11 V X R Q QE  a0 a1 a2 I) : jc V 1 11 (0, 0) [.ref a0, jy a1, jy a2] X I R Q QE := by
  refine jy_met hV (by decide) (n := 3) (rt := some .int) (hh := []) (ini := false) (C := jx_c11) (L := [some (.ref a0), some (jy a1), some (jy a2)]) jt_11 (Nat.le_of_ble_eq_true rfl) rfl ?_
  intro J hS
  unfold wz_11 at h
  refine jy_aload_n hS rfl rfl ?_
  obtain ⟨g1, h⟩ := h
  obtain ⟨q2, h⟩ := h
  obtain ⟨g3, h⟩ := h
  refine jy_getR hS rfl (by decide) g1 g3 ?_
  refine jy_iload_n hS rfl rfl ?_
  refine jy_bipush hS rfl (by decide) ?_
  refine jy_imul hS rfl ?_
  refine jy_iload_n hS rfl rfl ?_
  refine jy_iadd hS rfl ?_
  obtain ⟨n4, h⟩ := h
  obtain ⟨g5, h⟩ := h
  obtain ⟨g6, h⟩ := h
  refine jy_iald hS rfl g5.1 (Nat.le_of_lt g5.2) g6 ?_
  exact jy_iret hS rfl rfl ⟨rfl, rfl, h⟩
theorem jt_12 : jx_ml 12 = 3 ∧ jx_rt 12 = some .int ∧ jx_hz 12 = [] ∧ decide ((jx_nm 12).name = "<init>") = false ∧ jx_code 12 = jx_c12 := by decide +kernel
/-- GC$Herd.depthAt -/
def wz_12 (V : jx_V) (X : jx_X) (R : jx_R) (Q : Option Value → jx_I → Prop) (QE : String → jx_I → Prop)  (a0 : Nat) (a1 : Int) (a2 : Int) (I : jx_I) : Prop :=
  (X.2.1 a0 = some (1, 0)) ∧ (
  ∃ q2 : Nat, (
  (R a0 1 = some q2) ∧ (
  ∃ n4 : Nat, (
  (X.2.1 q2 = some (100, n4) ∧ n4 < 2147483648) ∧ (
  (0 ≤ ((a1 * 8) + a2) ∧ ((a1 * 8) + a2) < n4) ∧ (
  Q (some (jy ((I q2 ((a1 * 8) + a2).toNat).toInt))) I))))))
set_option maxRecDepth 20000 in
theorem wm_12 {V : jx_V} (hV : V.1.stackTraces = false) {X : jx_X} {R : jx_R} {I : jx_I} {Q : Option Value → jx_I → Prop} {QE : String → jx_I → Prop} {a0 : Nat} {a1 : Int} {a2 : Int} (r_a1 : -2147483648 ≤ a1 ∧ a1 < 2147483648) (r_a2 : -2147483648 ≤ a2 ∧ a2 < 2147483648) 
    (h : wz_12 V X R Q QE  a0 a1 a2 I) : jc V 1 12 (0, 0) [.ref a0, jy a1, jy a2] X I R Q QE := by
  refine jy_met hV (by decide) (n := 3) (rt := some .int) (hh := []) (ini := false) (C := jx_c12) (L := [some (.ref a0), some (jy a1), some (jy a2)]) jt_12 (Nat.le_of_ble_eq_true rfl) rfl ?_
  intro J hS
  unfold wz_12 at h
  refine jy_aload_n hS rfl rfl ?_
  obtain ⟨g1, h⟩ := h
  obtain ⟨q2, h⟩ := h
  obtain ⟨g3, h⟩ := h
  refine jy_getR hS rfl (by decide) g1 g3 ?_
  refine jy_iload_n hS rfl rfl ?_
  refine jy_bipush hS rfl (by decide) ?_
  refine jy_imul hS rfl ?_
  refine jy_iload_n hS rfl rfl ?_
  refine jy_iadd hS rfl ?_
  obtain ⟨n4, h⟩ := h
  obtain ⟨g5, h⟩ := h
  obtain ⟨g6, h⟩ := h
  refine jy_iald hS rfl g5.1 (Nat.le_of_lt g5.2) g6 ?_
  exact jy_iret hS rfl rfl ⟨rfl, rfl, h⟩
theorem jt_13 : jx_ml 13 = 5 ∧ jx_rt 13 = none ∧ jx_hz 13 = [] ∧ decide ((jx_nm 13).name = "<init>") = false ∧ jx_code 13 = jx_c13 := by decide +kernel
/-- GC$Herd.suffer -/
def wz_13 (V : jx_V) (X : jx_X) (R : jx_R) (Q : Option Value → jx_I → Prop) (QE : String → jx_I → Prop)  (a0 : Nat) (a1 : Int) (a2 : Int) (a3 : Int) (I : jx_I) : Prop :=
  (X.2.1 a0 = some (1, 0)) ∧ (
  ∃ q2 : Nat, (
  (R a0 0 = some q2) ∧ (
  ∃ n4 : Nat, (
  (X.2.1 q2 = some (100, n4) ∧ n4 < 2147483648) ∧ (
  (0 ≤ ((a1 * 8) + a2) ∧ ((a1 * 8) + a2) < n4) ∧ (
  ∃ Q7 : Option Value → jx_I → Prop, (
  (jc V 1 329 (0, 0) [jy 20, jy ((I q2 ((a1 * 8) + a2).toNat).toInt + a3)] X I R Q7 (fun _ _ => False)) ∧ (
  ∀ rv I9, Q7 rv I9 → ∃ r10 : Int, rv = some (jy r10) ∧ (
  (0 ≤ ((a1 * 8) + a2) ∧ ((a1 * 8) + a2) < n4) ∧ (
  ∀ I12 : jx_I, I12 = jx_u I9 q2 ((a1 * 8) + a2).toNat (Int32.ofInt r10) → (
  ∃ q13 : Nat, (
  (R a0 1 = some q13) ∧ (
  ∃ n15 : Nat, (
  (X.2.1 q13 = some (100, n15) ∧ n15 < 2147483648) ∧ (
  (0 ≤ ((a1 * 8) + a2) ∧ ((a1 * 8) + a2) < n15) ∧ (
  ∃ Q18 : Option Value → jx_I → Prop, (
  (jc V 1 329 (0, 0) [jy 20, jy ((I12 q13 ((a1 * 8) + a2).toNat).toInt + a3)] X I12 R Q18 (fun _ _ => False)) ∧ (
  ∀ rv I20, Q18 rv I20 → ∃ r21 : Int, rv = some (jy r21) ∧ (
  (0 ≤ ((a1 * 8) + a2) ∧ ((a1 * 8) + a2) < n15) ∧ (
  ∀ I23 : jx_I, I23 = jx_u I20 q13 ((a1 * 8) + a2).toNat (Int32.ofInt r21) → (
  Q none I23)))))))))))))))))))))
set_option maxRecDepth 20000 in
theorem wm_13 {V : jx_V} (hV : V.1.stackTraces = false) {X : jx_X} {R : jx_R} {I : jx_I} {Q : Option Value → jx_I → Prop} {QE : String → jx_I → Prop} {a0 : Nat} {a1 : Int} {a2 : Int} {a3 : Int} (r_a1 : -2147483648 ≤ a1 ∧ a1 < 2147483648) (r_a2 : -2147483648 ≤ a2 ∧ a2 < 2147483648) (r_a3 : -2147483648 ≤ a3 ∧ a3 < 2147483648) 
    (h : wz_13 V X R Q QE  a0 a1 a2 a3 I) : jc V 2 13 (0, 0) [.ref a0, jy a1, jy a2, jy a3] X I R Q QE := by
  refine jy_met hV (by decide) (n := 5) (rt := none) (hh := []) (ini := false) (C := jx_c13) (L := [some (.ref a0), some (jy a1), some (jy a2), some (jy a3), none]) jt_13 (Nat.le_of_ble_eq_true rfl) rfl ?_
  intro J hS
  unfold wz_13 at h
  refine jy_iload_n hS rfl rfl ?_
  refine jy_bipush hS rfl (by decide) ?_
  refine jy_imul hS rfl ?_
  refine jy_iload_n hS rfl rfl ?_
  refine jy_iadd hS rfl ?_
  refine jy_istore hS rfl (Nat.le_of_ble_eq_true rfl) (L' := [some (.ref a0), some (jy a1), some (jy a2), some (jy a3), some (jy ((a1 * 8) + a2))]) rfl ?_
  refine jy_aload_n hS rfl rfl ?_
  obtain ⟨g1, h⟩ := h
  obtain ⟨q2, h⟩ := h
  obtain ⟨g3, h⟩ := h
  refine jy_getR hS rfl (by decide) g1 g3 ?_
  refine jy_iload hS rfl rfl ?_
  refine jy_bipush hS rfl (by decide) ?_
  refine jy_aload_n hS rfl rfl ?_
  refine jy_getR hS rfl (by decide) g1 g3 ?_
  refine jy_iload hS rfl rfl ?_
  obtain ⟨n4, h⟩ := h
  obtain ⟨g5, h⟩ := h
  obtain ⟨g6, h⟩ := h
  refine jy_iald hS rfl g5.1 (Nat.le_of_lt g5.2) g6 ?_
  refine jy_iload_n hS rfl rfl ?_
  refine jy_iadd hS rfl ?_
  obtain ⟨Q7, h⟩ := h
  obtain ⟨g8, h⟩ := h
  refine jy_callS hS rfl rfl rfl (Nat.le_of_ble_eq_true rfl) g8 (by decide) ⟨by decide, by decide⟩ (Nat.le_of_ble_eq_true rfl) ?_ ?_
  rotate_left
  · exact fun Ex Xx Ix Rx hp => hp.2.2.2.elim
  intro rv Xx I9 Rx hp
  obtain ⟨e1, e2, hp⟩ := hp
  rw [e1, e2]
  clear e1 e2
  obtain ⟨r10, e1, h⟩ := h rv I9 hp
  rw [e1]
  clear e1
  change J 28 [jy r10, jy ((a1 * 8) + a2), .ref q2] _ (0, 0) _ _ _
  obtain ⟨g11, h⟩ := h
  refine jy_iast hS rfl g5.1 (Nat.le_of_lt g5.2) g11 ?_
  intro I12 e9
  have h := h I12 e9
  clear e9
  refine jy_aload_n hS rfl rfl ?_
  obtain ⟨q13, h⟩ := h
  obtain ⟨g14, h⟩ := h
  refine jy_getR hS rfl (by decide) g1 g14 ?_
  refine jy_iload hS rfl rfl ?_
  refine jy_bipush hS rfl (by decide) ?_
  refine jy_aload_n hS rfl rfl ?_
  refine jy_getR hS rfl (by decide) g1 g14 ?_
  refine jy_iload hS rfl rfl ?_
  obtain ⟨n15, h⟩ := h
  obtain ⟨g16, h⟩ := h
  obtain ⟨g17, h⟩ := h
  refine jy_iald hS rfl g16.1 (Nat.le_of_lt g16.2) g17 ?_
  refine jy_iload_n hS rfl rfl ?_
  refine jy_iadd hS rfl ?_
  obtain ⟨Q18, h⟩ := h
  obtain ⟨g19, h⟩ := h
  refine jy_callS hS rfl rfl rfl (Nat.le_of_ble_eq_true rfl) g19 (by decide) ⟨by decide, by decide⟩ (Nat.le_of_ble_eq_true rfl) ?_ ?_
  rotate_left
  · exact fun Ex Xx Ix Rx hp => hp.2.2.2.elim
  intro rv Xx I20 Rx hp
  obtain ⟨e1, e2, hp⟩ := hp
  rw [e1, e2]
  clear e1 e2
  obtain ⟨r21, e1, h⟩ := h rv I20 hp
  rw [e1]
  clear e1
  change J 49 [jy r21, jy ((a1 * 8) + a2), .ref q13] _ (0, 0) _ _ _
  obtain ⟨g22, h⟩ := h
  refine jy_iast hS rfl g16.1 (Nat.le_of_lt g16.2) g22 ?_
  intro I23 e9
  have h := h I23 e9
  clear e9
  exact jy_ret hS rfl rfl ⟨rfl, rfl, h⟩
theorem jt_14 : jx_ml 14 = 3 ∧ jx_rt 14 = none ∧ jx_hz 14 = [] ∧ decide ((jx_nm 14).name = "<init>") = false ∧ jx_code 14 = jx_c14 := by decide +kernel
/-- GC$Herd.comfort -/
def wz_14 (V : jx_V) (X : jx_X) (R : jx_R) (Q : Option Value → jx_I → Prop) (QE : String → jx_I → Prop)  (a0 : Nat) (a1 : Int) (a2 : Int) (I : jx_I) : Prop :=
  (X.2.1 a0 = some (1, 0)) ∧ (
  ∃ q2 : Nat, (
  (R a0 0 = some q2) ∧ (
  ∃ n4 : Nat, (
  (X.2.1 q2 = some (100, n4) ∧ n4 < 2147483648) ∧ (
  (0 ≤ ((a1 * 8) + a2) ∧ ((a1 * 8) + a2) < n4) ∧ (
  ∀ I7 : jx_I, I7 = jx_u I q2 ((a1 * 8) + a2).toNat (Int32.ofInt 0) → (
  Q none I7)))))))
set_option maxRecDepth 20000 in
theorem wm_14 {V : jx_V} (hV : V.1.stackTraces = false) {X : jx_X} {R : jx_R} {I : jx_I} {Q : Option Value → jx_I → Prop} {QE : String → jx_I → Prop} {a0 : Nat} {a1 : Int} {a2 : Int} (r_a1 : -2147483648 ≤ a1 ∧ a1 < 2147483648) (r_a2 : -2147483648 ≤ a2 ∧ a2 < 2147483648) 
    (h : wz_14 V X R Q QE  a0 a1 a2 I) : jc V 1 14 (0, 0) [.ref a0, jy a1, jy a2] X I R Q QE := by
  refine jy_met hV (by decide) (n := 3) (rt := none) (hh := []) (ini := false) (C := jx_c14) (L := [some (.ref a0), some (jy a1), some (jy a2)]) jt_14 (Nat.le_of_ble_eq_true rfl) rfl ?_
  intro J hS
  unfold wz_14 at h
  refine jy_aload_n hS rfl rfl ?_
  obtain ⟨g1, h⟩ := h
  obtain ⟨q2, h⟩ := h
  obtain ⟨g3, h⟩ := h
  refine jy_getR hS rfl (by decide) g1 g3 ?_
  refine jy_iload_n hS rfl rfl ?_
  refine jy_bipush hS rfl (by decide) ?_
  refine jy_imul hS rfl ?_
  refine jy_iload_n hS rfl rfl ?_
  refine jy_iadd hS rfl ?_
  refine jy_iconst hS rfl ?_
  obtain ⟨n4, h⟩ := h
  obtain ⟨g5, h⟩ := h
  obtain ⟨g6, h⟩ := h
  refine jy_iast hS rfl g5.1 (Nat.le_of_lt g5.2) g6 ?_
  intro I7 e9
  have h := h I7 e9
  clear e9
  exact jy_ret hS rfl rfl ⟨rfl, rfl, h⟩
theorem jt_15 : jx_ml 15 = 3 ∧ jx_rt 15 = none ∧ jx_hz 15 = [] ∧ decide ((jx_nm 15).name = "<init>") = false ∧ jx_code 15 = jx_c15 := by decide +kernel
/-- GC$Herd.healAt, from 2 -/
def wz_15_2 (V : jx_V) (X : jx_X) (R : jx_R) (Q : Option Value → jx_I → Prop) (QE : String → jx_I → Prop) (J2 : Int → jx_I → Prop) (a0 : Nat) (a1 : Int) (l2 : Int) (I : jx_I) : Prop :=
  (-2147483648 ≤ l2 ∧ l2 < 2147483648) ∧ (
  (8 ≤ l2 → (
    Q none I
  )) ∧ (¬ 8 ≤ l2 → (
    (X.2.1 a0 = some (1, 0)) ∧ (
    ∃ Q3 : Option Value → jx_I → Prop, (
    (jc V 1 14 (0, 0) [.ref a0, jy a1, jy l2] X I R Q3 (fun _ _ => False)) ∧ (
    ∀ rv I5, Q3 rv I5 → rv = none ∧ (
    J2 (l2 + 1) I5))))
  )))
/-- GC$Herd.healAt -/
def wz_15 (V : jx_V) (X : jx_X) (R : jx_R) (Q : Option Value → jx_I → Prop) (QE : String → jx_I → Prop) (J2 : Int → jx_I → Prop) (a0 : Nat) (a1 : Int) (I : jx_I) : Prop :=
  J2 0 I
set_option maxRecDepth 20000 in
theorem wm_15 {V : jx_V} (hV : V.1.stackTraces = false) {X : jx_X} {R : jx_R} {I : jx_I} {Q : Option Value → jx_I → Prop} {QE : String → jx_I → Prop} {a0 : Nat} {a1 : Int} (r_a1 : -2147483648 ≤ a1 ∧ a1 < 2147483648) 
    (h : ∀ (J2 : Int → jx_I → Prop), ((∀ (l2 : Int) I, wz_15_2 V X R Q QE J2 a0 a1 l2 I → J2 l2 I)) → wz_15 V X R Q QE J2 a0 a1 I) : jc V 2 15 (0, 0) [.ref a0, jy a1] X I R Q QE := by
  refine jy_met hV (by decide) (n := 3) (rt := none) (hh := []) (ini := false) (C := jx_c15) (L := [some (.ref a0), some (jy a1), none]) jt_15 (Nat.le_of_ble_eq_true rfl) rfl ?_
  intro J hS
  have h := h (fun l2 I => J 2 [] [some (.ref a0), some (jy a1), some (jy l2)] (0, 0) X I R) ?_
  · unfold wz_15 at h
    refine jy_iconst hS rfl ?_
    refine jy_istore_n hS rfl (Nat.le_of_ble_eq_true rfl) (L' := [some (.ref a0), some (jy a1), some (jy 0)]) rfl ?_
    exact jy_join hS h rfl (jy_sub_s (jy_sub_s (jy_sub_s jy_sub_0)))
  · intro l2 I h
    unfold wz_15_2 at h
    refine jy_iload_n hS rfl rfl ?_
    refine jy_bipush hS rfl (by decide) ?_
    obtain ⟨g1, h⟩ := h
    refine jy_icmp_ge hS rfl ⟨g1, ⟨by decide, by decide⟩⟩ (fun hq => ?_) (fun hq => ?_)
    · have h := h.1 hq
      exact jy_ret hS rfl rfl ⟨rfl, rfl, h⟩
    · have h := h.2 hq
      refine jy_aload_n hS rfl rfl ?_
      refine jy_iload_n hS rfl rfl ?_
      refine jy_iload_n hS rfl rfl ?_
      obtain ⟨g2, h⟩ := h
      obtain ⟨Q3, h⟩ := h
      obtain ⟨g4, h⟩ := h
      refine jy_callV hS rfl rfl rfl (Nat.le_of_ble_eq_true rfl) (Or.inl g2) g4 (by decide) ⟨by decide, by decide⟩ (Nat.le_of_ble_eq_true rfl) ?_ ?_
      rotate_left
      · exact fun Ex Xx Ix Rx hp => hp.2.2.2.elim
      intro rv Xx I5 Rx hp
      obtain ⟨e1, e2, hp⟩ := hp
      rw [e1, e2]
      clear e1 e2
      obtain ⟨e1, h⟩ := h rv I5 hp
      rw [e1]
      clear e1
      change J 14 [] _ (0, 0) _ _ _
      refine jy_iinc hS rfl rfl (L' := [some (.ref a0), some (jy a1), some (jy (l2 + 1))]) rfl ?_
      refine jy_goto hS rfl ?_
      exact jy_join hS h rfl (jy_sub_s (jy_sub_s (jy_sub_s jy_sub_0)))
theorem jt_16 : jx_ml 16 = 4 ∧ jx_rt 16 = none ∧ jx_hz 16 = [] ∧ decide ((jx_nm 16).name = "<init>") = false ∧ jx_code 16 = jx_c16 := by decide +kernel
/-- GC$Herd.comesTo, from 22 -/
def wz_16_22 (V : jx_V) (X : jx_X) (R : jx_R) (Q : Option Value → jx_I → Prop) (QE : String → jx_I → Prop) (J22 : jx_I → Prop) (a0 : Nat) (a1 : Nat) (a2 : Int) (a3 : Nat)  (I : jx_I) : Prop :=
  (X.2.1 a1 = some (2, 0)) ∧ (
  ∃ q22 : Nat, (
  (R a1 0 = some q22) ∧ (
  ∃ n24 : Nat, (
  (X.2.1 q22 = some (100, n24) ∧ n24 < 2147483648) ∧ (
  (0 ≤ a2 ∧ a2 < n24) ∧ (
  ((I q22 a2.toNat).toInt ≠ 2 → (
    Q none I
  )) ∧ ((I q22 a2.toNat).toInt = 2 → (
    (X.2.1 a0 = some (1, 0)) ∧ (
    ∃ Q28 : Option Value → jx_I → Prop, (
    (jc V 1 19 (0, 0) [.ref a0, .ref a3] X I R Q28 (fun _ _ => False)) ∧ (
    ∀ rv I30, Q28 rv I30 → rv = none ∧ (
    Q none I30))))
  ))))))))
/-- GC$Herd.comesTo -/
def wz_16 (V : jx_V) (X : jx_X) (R : jx_R) (Q : Option Value → jx_I → Prop) (QE : String → jx_I → Prop) (J22 : jx_I → Prop) (a0 : Nat) (a1 : Nat) (a2 : Int) (a3 : Nat) (I : jx_I) : Prop :=
  (X.2.1 a0 = some (1, 0)) ∧ (
  ∃ Q2 : Option Value → jx_I → Prop, (
  (jc V 2 17 (0, 0) [.ref a0, .ref a1, jy a2, .ref a3] X I R Q2 (fun _ _ => False)) ∧ (
  ∀ rv I4, Q2 rv I4 → rv = none ∧ (
  (X.2.1 a1 = some (2, 0)) ∧ (
  ∃ q7 : Nat, (
  (R a1 0 = some q7) ∧ (
  ∃ n9 : Nat, (
  (X.2.1 q7 = some (100, n9) ∧ n9 < 2147483648) ∧ (
  (0 ≤ a2 ∧ a2 < n9) ∧ (
  ((I4 q7 a2.toNat).toInt ≠ 1 → (
    (0 ≤ a2 ∧ a2 < n9) ∧ (
    ((I4 q7 a2.toNat).toInt ≠ 2 → (
      Q none I4
    )) ∧ ((I4 q7 a2.toNat).toInt = 2 → (
      ∃ Q13 : Option Value → jx_I → Prop, (
      (jc V 1 19 (0, 0) [.ref a0, .ref a3] X I4 R Q13 (fun _ _ => False)) ∧ (
      ∀ rv I15, Q13 rv I15 → rv = none ∧ (
      Q none I15)))
    )))
  )) ∧ ((I4 q7 a2.toNat).toInt = 1 → (
    ∃ Q17 : Option Value → jx_I → Prop, (
    (jc V 2 18 (0, 0) [.ref a0, .ref a3] X I4 R Q17 (fun _ _ => False)) ∧ (
    ∀ rv I19, Q17 rv I19 → rv = none ∧ (
    J22 I19)))
  ))))))))))))
set_option maxRecDepth 20000 in
theorem wm_16 {V : jx_V} (hV : V.1.stackTraces = false) {X : jx_X} {R : jx_R} {I : jx_I} {Q : Option Value → jx_I → Prop} {QE : String → jx_I → Prop} {a0 : Nat} {a1 : Nat} {a2 : Int} {a3 : Nat} (r_a2 : -2147483648 ≤ a2 ∧ a2 < 2147483648) 
    (h : ∀ (J22 : jx_I → Prop), ((∀  I, wz_16_22 V X R Q QE J22 a0 a1 a2 a3  I → J22  I)) → wz_16 V X R Q QE J22 a0 a1 a2 a3 I) : jc V 3 16 (0, 0) [.ref a0, .ref a1, jy a2, .ref a3] X I R Q QE := by
  refine jy_met hV (by decide) (n := 4) (rt := none) (hh := []) (ini := false) (C := jx_c16) (L := [some (.ref a0), some (.ref a1), some (jy a2), some (.ref a3)]) jt_16 (Nat.le_of_ble_eq_true rfl) rfl ?_
  intro J hS
  have h := h (fun  I => J 22 [] [some (.ref a0), some (.ref a1), some (jy a2), some (.ref a3)] (0, 0) X I R) ?_
  · unfold wz_16 at h
    refine jy_aload_n hS rfl rfl ?_
    refine jy_aload_n hS rfl rfl ?_
    refine jy_iload_n hS rfl rfl ?_
    refine jy_aload_n hS rfl rfl ?_
    obtain ⟨g1, h⟩ := h
    obtain ⟨Q2, h⟩ := h
    obtain ⟨g3, h⟩ := h
    refine jy_callV hS rfl rfl rfl (Nat.le_of_ble_eq_true rfl) (Or.inl g1) g3 (by decide) ⟨by decide, by decide⟩ (Nat.le_of_ble_eq_true rfl) ?_ ?_
    rotate_left
    · exact fun Ex Xx Ix Rx hp => hp.2.2.2.elim
    intro rv Xx I4 Rx hp
    obtain ⟨e1, e2, hp⟩ := hp
    rw [e1, e2]
    clear e1 e2
    obtain ⟨e1, h⟩ := h rv I4 hp
    rw [e1]
    clear e1
    change J 7 [] _ (0, 0) _ _ _
    refine jy_aload_n hS rfl rfl ?_
    obtain ⟨g6, h⟩ := h
    obtain ⟨q7, h⟩ := h
    obtain ⟨g8, h⟩ := h
    refine jy_getR hS rfl (by decide) g6 g8 ?_
    refine jy_iload_n hS rfl rfl ?_
    obtain ⟨n9, h⟩ := h
    obtain ⟨g10, h⟩ := h
    obtain ⟨g11, h⟩ := h
    refine jy_iald hS rfl g10.1 (Nat.le_of_lt g10.2) g11 ?_
    refine jy_iconst hS rfl ?_
    refine jy_icmp_ne hS rfl ⟨(jy_rng _), ⟨by decide, by decide⟩⟩ (fun hq => ?_) (fun hq => ?_)
    · have h := h.1 hq
      refine jy_aload_n hS rfl rfl ?_
      refine jy_getR hS rfl (by decide) g6 g8 ?_
      refine jy_iload_n hS rfl rfl ?_
      obtain ⟨g12, h⟩ := h
      refine jy_iald hS rfl g10.1 (Nat.le_of_lt g10.2) g12 ?_
      refine jy_iconst hS rfl ?_
      refine jy_icmp_ne hS rfl ⟨(jy_rng _), ⟨by decide, by decide⟩⟩ (fun hq => ?_) (fun hq => ?_)
      · have h := h.1 hq
        exact jy_ret hS rfl rfl ⟨rfl, rfl, h⟩
      · have h := h.2 hq
        refine jy_aload_n hS rfl rfl ?_
        refine jy_aload_n hS rfl rfl ?_
        obtain ⟨Q13, h⟩ := h
        obtain ⟨g14, h⟩ := h
        refine jy_callV hS rfl rfl rfl (Nat.le_of_ble_eq_true rfl) (Or.inl g1) g14 (by decide) ⟨by decide, by decide⟩ (Nat.le_of_ble_eq_true rfl) ?_ ?_
        rotate_left
        · exact fun Ex Xx Ix Rx hp => hp.2.2.2.elim
        intro rv Xx I15 Rx hp
        obtain ⟨e1, e2, hp⟩ := hp
        rw [e1, e2]
        clear e1 e2
        obtain ⟨e1, h⟩ := h rv I15 hp
        rw [e1]
        clear e1
        change J 37 [] _ (0, 0) _ _ _
        exact jy_ret hS rfl rfl ⟨rfl, rfl, h⟩
    · have h := h.2 hq
      refine jy_aload_n hS rfl rfl ?_
      refine jy_aload_n hS rfl rfl ?_
      obtain ⟨Q17, h⟩ := h
      obtain ⟨g18, h⟩ := h
      refine jy_callV hS rfl rfl rfl (Nat.le_of_ble_eq_true rfl) (Or.inl g1) g18 (by decide) ⟨by decide, by decide⟩ (Nat.le_of_ble_eq_true rfl) ?_ ?_
      rotate_left
      · exact fun Ex Xx Ix Rx hp => hp.2.2.2.elim
      intro rv Xx I19 Rx hp
      obtain ⟨e1, e2, hp⟩ := hp
      rw [e1, e2]
      clear e1 e2
      obtain ⟨e1, h⟩ := h rv I19 hp
      rw [e1]
      clear e1
      change J 22 [] _ (0, 0) _ _ _
      exact jy_join hS h rfl (jy_sub_s (jy_sub_s (jy_sub_s (jy_sub_s jy_sub_0))))
  · intro  I h
    unfold wz_16_22 at h
    refine jy_aload_n hS rfl rfl ?_
    obtain ⟨g21, h⟩ := h
    obtain ⟨q22, h⟩ := h
    obtain ⟨g23, h⟩ := h
    refine jy_getR hS rfl (by decide) g21 g23 ?_
    refine jy_iload_n hS rfl rfl ?_
    obtain ⟨n24, h⟩ := h
    obtain ⟨g25, h⟩ := h
    obtain ⟨g26, h⟩ := h
    refine jy_iald hS rfl g25.1 (Nat.le_of_lt g25.2) g26 ?_
    refine jy_iconst hS rfl ?_
    refine jy_icmp_ne hS rfl ⟨(jy_rng _), ⟨by decide, by decide⟩⟩ (fun hq => ?_) (fun hq => ?_)
    · have h := h.1 hq
      exact jy_ret hS rfl rfl ⟨rfl, rfl, h⟩
    · have h := h.2 hq
      refine jy_aload_n hS rfl rfl ?_
      refine jy_aload_n hS rfl rfl ?_
      obtain ⟨g27, h⟩ := h
      obtain ⟨Q28, h⟩ := h
      obtain ⟨g29, h⟩ := h
      refine jy_callV hS rfl rfl rfl (Nat.le_of_ble_eq_true rfl) (Or.inl g27) g29 (by decide) ⟨by decide, by decide⟩ (Nat.le_of_ble_eq_true rfl) ?_ ?_
      rotate_left
      · exact fun Ex Xx Ix Rx hp => hp.2.2.2.elim
      intro rv Xx I30 Rx hp
      obtain ⟨e1, e2, hp⟩ := hp
      rw [e1, e2]
      clear e1 e2
      obtain ⟨e1, h⟩ := h rv I30 hp
      rw [e1]
      clear e1
      change J 37 [] _ (0, 0) _ _ _
      exact jy_ret hS rfl rfl ⟨rfl, rfl, h⟩
theorem jt_17 : jx_ml 17 = 8 ∧ jx_rt 17 = none ∧ jx_hz 17 = [] ∧ decide ((jx_nm 17).name = "<init>") = false ∧ jx_code 17 = jx_c17 := by decide +kernel
/-- GC$Herd.teachCalves, from 25 -/
def wz_17_25 (V : jx_V) (X : jx_X) (R : jx_R) (Q : Option Value → jx_I → Prop) (QE : String → jx_I → Prop) (J25 : Int → Int → jx_I → Prop) (J136 : Int → Int → jx_I → Prop) (a0 : Nat) (a1 : Nat) (a2 : Int) (a3 : Nat) (l4 : Int) (l5 : Int) (I : jx_I) : Prop :=
  (X.2.1 a3 = some (5, 0)) ∧ (
  (-2147483648 ≤ l5 ∧ l5 < 2147483648) ∧ (
  ((I a3 1).toInt ≤ l5 → (
    Q none I
  )) ∧ (¬ (I a3 1).toInt ≤ l5 → (
    ∃ q14 : Nat, (
    (R a3 0 = some q14) ∧ (
    ∃ n16 : Nat, (
    (X.2.1 q14 = some (100, n16) ∧ n16 < 2147483648) ∧ (
    (0 ≤ l5 ∧ l5 < n16) ∧ (
    (X.2.1 a1 = some (2, 0)) ∧ (
    ∃ q20 : Nat, (
    (R a1 3 = some q20) ∧ (
    ∃ n22 : Nat, (
    (X.2.1 q20 = some (100, n22) ∧ n22 < 2147483648) ∧ (
    (0 ≤ (I q14 l5.toNat).toInt ∧ (I q14 l5.toNat).toInt < n22) ∧ (
    ((I q20 ((I q14 l5.toNat).toInt).toNat).toInt < 0 → (
      J25 l4 (l5 + 1) I
    )) ∧ (¬ (I q20 ((I q14 l5.toNat).toInt).toNat).toInt < 0 → (
      ∃ Q25 : Option Value → jx_I → Prop, (
      (jc V 1 72 (0, 0) [.ref a3, jy ((I q20 ((I q14 l5.toNat).toInt).toNat).toInt)] X I R Q25 (fun _ _ => False)) ∧ (
      ∀ rv I27, Q25 rv I27 → ∃ r28 : Int, rv = some (jy r28) ∧ (
      (-2147483648 ≤ r28 ∧ r28 < 2147483648) ∧ (
      (r28 = 0 → (
        J25 l4 (l5 + 1) I27
      )) ∧ (¬ r28 = 0 → (
        (X.2.1 a0 = some (1, 0)) ∧ (
        ∃ q31 : Nat, (
        (R a0 2 = some q31) ∧ (
        ∃ n33 : Nat, (
        (X.2.1 q31 = some (100, n33) ∧ n33 < 2147483648) ∧ (
        (0 ≤ (I q20 ((I q14 l5.toNat).toInt).toNat).toInt ∧ (I q20 ((I q14 l5.toNat).toInt).toNat).toInt < n33) ∧ (
        (0 ≤ (I q14 l5.toNat).toInt ∧ (I q14 l5.toNat).toInt < n33) ∧ (
        ((Int32.ofInt ((I27 q31 ((I q20 ((I q14 l5.toNat).toInt).toNat).toInt).toNat).toInt) / Int32.ofInt 2).toInt ≤ (I27 q31 ((I q14 l5.toNat).toInt).toNat).toInt → (
          J25 l4 (l5 + 1) I27
        )) ∧ (¬ (Int32.ofInt ((I27 q31 ((I q20 ((I q14 l5.toNat).toInt).toNat).toInt).toNat).toInt) / Int32.ofInt 2).toInt ≤ (I27 q31 ((I q14 l5.toNat).toInt).toNat).toInt → (
          ∃ q37 : Nat, (
          (R a0 0 = some q37) ∧ (
          (0 ≤ (I q20 ((I q14 l5.toNat).toInt).toNat).toInt ∧ (I q20 ((I q14 l5.toNat).toInt).toNat).toInt < n33) ∧ (
          ∃ n40 : Nat, (
          (X.2.1 q37 = some (100, n40) ∧ n40 < 2147483648) ∧ (
          (0 ≤ (l4 + (I q14 l5.toNat).toInt) ∧ (l4 + (I q14 l5.toNat).toInt) < n40) ∧ (
          ∀ I43 : jx_I, I43 = jx_u I27 q37 (l4 + (I q14 l5.toNat).toInt).toNat (Int32.ofInt ((Int32.ofInt ((I27 q31 ((I q20 ((I q14 l5.toNat).toInt).toNat).toInt).toNat).toInt) / Int32.ofInt 2).toInt)) → (
          ∃ q44 : Nat, (
          (R a0 1 = some q44) ∧ (
          ∃ n46 : Nat, (
          (X.2.1 q44 = some (100, n46) ∧ n46 < 2147483648) ∧ (
          (0 ≤ (l4 + (I q14 l5.toNat).toInt) ∧ (l4 + (I q14 l5.toNat).toInt) < n46) ∧ (
          (0 ≤ (I q20 ((I q14 l5.toNat).toInt).toNat).toInt ∧ (I q20 ((I q14 l5.toNat).toInt).toNat).toInt < n33) ∧ (
          ∃ Q50 : Option Value → jx_I → Prop, (
          (jc V 1 328 (0, 0) [jy ((I43 q44 (l4 + (I q14 l5.toNat).toInt).toNat).toInt), jy ((Int32.ofInt ((I43 q31 ((I q20 ((I q14 l5.toNat).toInt).toNat).toInt).toNat).toInt) / Int32.ofInt 2).toInt)] X I43 R Q50 (fun _ _ => False)) ∧ (
          ∀ rv I52, Q50 rv I52 → ∃ r53 : Int, rv = some (jy r53) ∧ (
          (0 ≤ (l4 + (I q14 l5.toNat).toInt) ∧ (l4 + (I q14 l5.toNat).toInt) < n46) ∧ (
          ∀ I55 : jx_I, I55 = jx_u I52 q44 (l4 + (I q14 l5.toNat).toInt).toNat (Int32.ofInt r53) → (
          J136 l4 l5 I55))))))))))))))))))
        )))))))))
      ))))))
    )))))))))))))
  ))))
/-- GC$Herd.teachCalves, from 136 -/
def wz_17_136 (V : jx_V) (X : jx_X) (R : jx_R) (Q : Option Value → jx_I → Prop) (QE : String → jx_I → Prop) (J25 : Int → Int → jx_I → Prop) (J136 : Int → Int → jx_I → Prop) (a0 : Nat) (a1 : Nat) (a2 : Int) (a3 : Nat) (l4 : Int) (l5 : Int) (I : jx_I) : Prop :=
  J25 l4 (l5 + 1) I
/-- GC$Herd.teachCalves -/
def wz_17 (V : jx_V) (X : jx_X) (R : jx_R) (Q : Option Value → jx_I → Prop) (QE : String → jx_I → Prop) (J25 : Int → Int → jx_I → Prop) (J136 : Int → Int → jx_I → Prop) (a0 : Nat) (a1 : Nat) (a2 : Int) (a3 : Nat) (I : jx_I) : Prop :=
  (X.2.1 a0 = some (1, 0)) ∧ (
  ∃ q2 : Nat, (
  (R a0 0 = some q2) ∧ (
  ∃ q4 : Nat, (
  (R a0 2 = some q4) ∧ (
  ∃ n6 : Nat, (
  (X.2.1 q2 = some (100, n6) ∧ n6 < 2147483648) ∧ (
  ∃ n8 : Nat, (
  (X.2.1 q4 = some (100, n8) ∧ n8 < 2147483648) ∧ (
  ((0 ≤ (a2 * 8) ∧ (a2 * 8) + (8 : Int) ≤ n6) ∧ (0 ≤ (0 : Int) ∧ (0 : Int) + (8 : Int) ≤ n8) ∧ 0 ≤ (8 : Int)) ∧ (
  ∀ I11 : jx_I, I11 = jx_cp I q2 q4 ((a2 * 8) : Int).toNat (0 : Int).toNat (8 : Int).toNat → (
  J25 (a2 * 8) 0 I11)))))))))))
set_option maxRecDepth 20000 in
theorem wm_17 {V : jx_V} (hV : V.1.stackTraces = false) {X : jx_X} {R : jx_R} {I : jx_I} {Q : Option Value → jx_I → Prop} {QE : String → jx_I → Prop} {a0 : Nat} {a1 : Nat} {a2 : Int} {a3 : Nat} (r_a2 : -2147483648 ≤ a2 ∧ a2 < 2147483648) 
    (h : ∀ (J25 : Int → Int → jx_I → Prop) (J136 : Int → Int → jx_I → Prop), ((∀ (l4 : Int) (l5 : Int) I, wz_17_25 V X R Q QE J25 J136 a0 a1 a2 a3 l4 l5 I → J25 l4 l5 I) ∧ (∀ (l4 : Int) (l5 : Int) I, wz_17_136 V X R Q QE J25 J136 a0 a1 a2 a3 l4 l5 I → J136 l4 l5 I)) → wz_17 V X R Q QE J25 J136 a0 a1 a2 a3 I) : jc V 2 17 (0, 0) [.ref a0, .ref a1, jy a2, .ref a3] X I R Q QE := by
  refine jy_met hV (by decide) (n := 8) (rt := none) (hh := []) (ini := false) (C := jx_c17) (L := [some (.ref a0), some (.ref a1), some (jy a2), some (.ref a3), none, none, none, none]) jt_17 (Nat.le_of_ble_eq_true rfl) rfl ?_
  intro J hS
  have h := h (fun l4 l5 I => J 25 [] [some (.ref a0), some (.ref a1), none, some (.ref a3), some (jy l4), some (jy l5), none, none] (0, 0) X I R) (fun l4 l5 I => J 136 [] [some (.ref a0), some (.ref a1), none, some (.ref a3), some (jy l4), some (jy l5), none, none] (0, 0) X I R) ?_
  · unfold wz_17 at h
    refine jy_iload_n hS rfl rfl ?_
    refine jy_bipush hS rfl (by decide) ?_
    refine jy_imul hS rfl ?_
    refine jy_istore hS rfl (Nat.le_of_ble_eq_true rfl) (L' := [some (.ref a0), some (.ref a1), some (jy a2), some (.ref a3), some (jy (a2 * 8)), none, none, none]) rfl ?_
    refine jy_aload_n hS rfl rfl ?_
    obtain ⟨g1, h⟩ := h
    obtain ⟨q2, h⟩ := h
    obtain ⟨g3, h⟩ := h
    refine jy_getR hS rfl (by decide) g1 g3 ?_
    refine jy_iload hS rfl rfl ?_
    refine jy_aload_n hS rfl rfl ?_
    obtain ⟨q4, h⟩ := h
    obtain ⟨g5, h⟩ := h
    refine jy_getR hS rfl (by decide) g1 g5 ?_
    refine jy_iconst hS rfl ?_
    refine jy_bipush hS rfl (by decide) ?_
    obtain ⟨n6, h⟩ := h
    obtain ⟨g7, h⟩ := h
    obtain ⟨n8, h⟩ := h
    obtain ⟨g9, h⟩ := h
    obtain ⟨g10, h⟩ := h
    refine jy_copy hS rfl (by decide) g7 g9 g10 (Nat.le_of_ble_eq_true rfl) ?_
    intro I11 e9
    have h := h I11 e9
    clear e9
    refine jy_iconst hS rfl ?_
    refine jy_istore hS rfl (Nat.le_of_ble_eq_true rfl) (L' := [some (.ref a0), some (.ref a1), some (jy a2), some (.ref a3), some (jy (a2 * 8)), some (jy 0), none, none]) rfl ?_
    exact jy_join hS h rfl (jy_sub_s (jy_sub_s (jy_sub_n (jy_sub_s (jy_sub_s (jy_sub_s (jy_sub_n (jy_sub_n jy_sub_0))))))))
  refine ⟨?_, ?_⟩
  · intro l4 l5 I h
    unfold wz_17_25 at h
    refine jy_iload hS rfl rfl ?_
    refine jy_aload_n hS rfl rfl ?_
    obtain ⟨g12, h⟩ := h
    refine jy_getI hS rfl (by decide) g12 ?_
    obtain ⟨g13, h⟩ := h
    refine jy_icmp_ge hS rfl ⟨g13, (jy_rng _)⟩ (fun hq => ?_) (fun hq => ?_)
    · have h := h.1 hq
      exact jy_ret hS rfl rfl ⟨rfl, rfl, h⟩
    · have h := h.2 hq
      refine jy_aload_n hS rfl rfl ?_
      obtain ⟨q14, h⟩ := h
      obtain ⟨g15, h⟩ := h
      refine jy_getR hS rfl (by decide) g12 g15 ?_
      refine jy_iload hS rfl rfl ?_
      obtain ⟨n16, h⟩ := h
      obtain ⟨g17, h⟩ := h
      obtain ⟨g18, h⟩ := h
      refine jy_iald hS rfl g17.1 (Nat.le_of_lt g17.2) g18 ?_
      refine jy_istore hS rfl (Nat.le_of_ble_eq_true rfl) (L' := [some (.ref a0), some (.ref a1), none, some (.ref a3), some (jy l4), some (jy l5), some (jy ((I q14 l5.toNat).toInt)), none]) rfl ?_
      refine jy_aload_n hS rfl rfl ?_
      obtain ⟨g19, h⟩ := h
      obtain ⟨q20, h⟩ := h
      obtain ⟨g21, h⟩ := h
      refine jy_getR hS rfl (by decide) g19 g21 ?_
      refine jy_iload hS rfl rfl ?_
      obtain ⟨n22, h⟩ := h
      obtain ⟨g23, h⟩ := h
      obtain ⟨g24, h⟩ := h
      refine jy_iald hS rfl g23.1 (Nat.le_of_lt g23.2) g24 ?_
      refine jy_istore hS rfl (Nat.le_of_ble_eq_true rfl) (L' := [some (.ref a0), some (.ref a1), none, some (.ref a3), some (jy l4), some (jy l5), some (jy ((I q14 l5.toNat).toInt)), some (jy ((I q20 ((I q14 l5.toNat).toInt).toNat).toInt))]) rfl ?_
      refine jy_iload hS rfl rfl ?_
      refine jy_if_lt hS rfl (jy_rng _) (fun hq => ?_) (fun hq => ?_)
      · have h := h.1 hq
        refine jy_iinc hS rfl rfl (L' := [some (.ref a0), some (.ref a1), none, some (.ref a3), some (jy l4), some (jy (l5 + 1)), some (jy ((I q14 l5.toNat).toInt)), some (jy ((I q20 ((I q14 l5.toNat).toInt).toNat).toInt))]) rfl ?_
        refine jy_goto hS rfl ?_
        exact jy_join hS h rfl (jy_sub_s (jy_sub_s (jy_sub_n (jy_sub_s (jy_sub_s (jy_sub_s (jy_sub_n (jy_sub_n jy_sub_0))))))))
      · have h := h.2 hq
        refine jy_aload_n hS rfl rfl ?_
        refine jy_iload hS rfl rfl ?_
        obtain ⟨Q25, h⟩ := h
        obtain ⟨g26, h⟩ := h
        refine jy_callV hS rfl rfl rfl (Nat.le_of_ble_eq_true rfl) (Or.inl g12) g26 (by decide) ⟨by decide, by decide⟩ (Nat.le_of_ble_eq_true rfl) ?_ ?_
        rotate_left
        · exact fun Ex Xx Ix Rx hp => hp.2.2.2.elim
        intro rv Xx I27 Rx hp
        obtain ⟨e1, e2, hp⟩ := hp
        rw [e1, e2]
        clear e1 e2
        obtain ⟨r28, e1, h⟩ := h rv I27 hp
        rw [e1]
        clear e1
        change J 63 [jy r28] _ (0, 0) _ _ _
        obtain ⟨g29, h⟩ := h
        refine jy_if_eq hS rfl g29 (fun hq => ?_) (fun hq => ?_)
        · have h := h.1 hq
          refine jy_iinc hS rfl rfl (L' := [some (.ref a0), some (.ref a1), none, some (.ref a3), some (jy l4), some (jy (l5 + 1)), some (jy ((I q14 l5.toNat).toInt)), some (jy ((I q20 ((I q14 l5.toNat).toInt).toNat).toInt))]) rfl ?_
          refine jy_goto hS rfl ?_
          exact jy_join hS h rfl (jy_sub_s (jy_sub_s (jy_sub_n (jy_sub_s (jy_sub_s (jy_sub_s (jy_sub_n (jy_sub_n jy_sub_0))))))))
        · have h := h.2 hq
          refine jy_aload_n hS rfl rfl ?_
          obtain ⟨g30, h⟩ := h
          obtain ⟨q31, h⟩ := h
          obtain ⟨g32, h⟩ := h
          refine jy_getR hS rfl (by decide) g30 g32 ?_
          refine jy_iload hS rfl rfl ?_
          obtain ⟨n33, h⟩ := h
          obtain ⟨g34, h⟩ := h
          obtain ⟨g35, h⟩ := h
          refine jy_iald hS rfl g34.1 (Nat.le_of_lt g34.2) g35 ?_
          refine jy_iconst hS rfl ?_
          refine jy_idivX hS rfl ⟨⟨by decide, by decide⟩, by decide⟩ rfl ?_
          refine jy_aload_n hS rfl rfl ?_
          refine jy_getR hS rfl (by decide) g30 g32 ?_
          refine jy_iload hS rfl rfl ?_
          obtain ⟨g36, h⟩ := h
          refine jy_iald hS rfl g34.1 (Nat.le_of_lt g34.2) g36 ?_
          refine jy_icmp_le hS rfl ⟨(jy_rng _), (jy_rng _)⟩ (fun hq => ?_) (fun hq => ?_)
          · have h := h.1 hq
            refine jy_iinc hS rfl rfl (L' := [some (.ref a0), some (.ref a1), none, some (.ref a3), some (jy l4), some (jy (l5 + 1)), some (jy ((I q14 l5.toNat).toInt)), some (jy ((I q20 ((I q14 l5.toNat).toInt).toNat).toInt))]) rfl ?_
            refine jy_goto hS rfl ?_
            exact jy_join hS h rfl (jy_sub_s (jy_sub_s (jy_sub_n (jy_sub_s (jy_sub_s (jy_sub_s (jy_sub_n (jy_sub_n jy_sub_0))))))))
          · have h := h.2 hq
            refine jy_aload_n hS rfl rfl ?_
            obtain ⟨q37, h⟩ := h
            obtain ⟨g38, h⟩ := h
            refine jy_getR hS rfl (by decide) g30 g38 ?_
            refine jy_iload hS rfl rfl ?_
            refine jy_iload hS rfl rfl ?_
            refine jy_iadd hS rfl ?_
            refine jy_aload_n hS rfl rfl ?_
            refine jy_getR hS rfl (by decide) g30 g32 ?_
            refine jy_iload hS rfl rfl ?_
            obtain ⟨g39, h⟩ := h
            refine jy_iald hS rfl g34.1 (Nat.le_of_lt g34.2) g39 ?_
            refine jy_iconst hS rfl ?_
            refine jy_idivX hS rfl ⟨⟨by decide, by decide⟩, by decide⟩ rfl ?_
            obtain ⟨n40, h⟩ := h
            obtain ⟨g41, h⟩ := h
            obtain ⟨g42, h⟩ := h
            refine jy_iast hS rfl g41.1 (Nat.le_of_lt g41.2) g42 ?_
            intro I43 e9
            have h := h I43 e9
            clear e9
            refine jy_aload_n hS rfl rfl ?_
            obtain ⟨q44, h⟩ := h
            obtain ⟨g45, h⟩ := h
            refine jy_getR hS rfl (by decide) g30 g45 ?_
            refine jy_iload hS rfl rfl ?_
            refine jy_iload hS rfl rfl ?_
            refine jy_iadd hS rfl ?_
            refine jy_aload_n hS rfl rfl ?_
            refine jy_getR hS rfl (by decide) g30 g45 ?_
            refine jy_iload hS rfl rfl ?_
            refine jy_iload hS rfl rfl ?_
            refine jy_iadd hS rfl ?_
            obtain ⟨n46, h⟩ := h
            obtain ⟨g47, h⟩ := h
            obtain ⟨g48, h⟩ := h
            refine jy_iald hS rfl g47.1 (Nat.le_of_lt g47.2) g48 ?_
            refine jy_aload_n hS rfl rfl ?_
            refine jy_getR hS rfl (by decide) g30 g32 ?_
            refine jy_iload hS rfl rfl ?_
            obtain ⟨g49, h⟩ := h
            refine jy_iald hS rfl g34.1 (Nat.le_of_lt g34.2) g49 ?_
            refine jy_iconst hS rfl ?_
            refine jy_idivX hS rfl ⟨⟨by decide, by decide⟩, by decide⟩ rfl ?_
            obtain ⟨Q50, h⟩ := h
            obtain ⟨g51, h⟩ := h
            refine jy_callS hS rfl rfl rfl (Nat.le_of_ble_eq_true rfl) g51 (by decide) ⟨by decide, by decide⟩ (Nat.le_of_ble_eq_true rfl) ?_ ?_
            rotate_left
            · exact fun Ex Xx Ix Rx hp => hp.2.2.2.elim
            intro rv Xx I52 Rx hp
            obtain ⟨e1, e2, hp⟩ := hp
            rw [e1, e2]
            clear e1 e2
            obtain ⟨r53, e1, h⟩ := h rv I52 hp
            rw [e1]
            clear e1
            change J 135 [jy r53, jy (l4 + (I q14 l5.toNat).toInt), .ref q44] _ (0, 0) _ _ _
            obtain ⟨g54, h⟩ := h
            refine jy_iast hS rfl g47.1 (Nat.le_of_lt g47.2) g54 ?_
            intro I55 e9
            have h := h I55 e9
            clear e9
            exact jy_join hS h rfl (jy_sub_s (jy_sub_s (jy_sub_n (jy_sub_s (jy_sub_s (jy_sub_s (jy_sub_n (jy_sub_n jy_sub_0))))))))
  · intro l4 l5 I h
    unfold wz_17_136 at h
    refine jy_iinc hS rfl rfl (L' := [some (.ref a0), some (.ref a1), none, some (.ref a3), some (jy l4), some (jy (l5 + 1)), none, none]) rfl ?_
    refine jy_goto hS rfl ?_
    exact jy_join hS h rfl (jy_sub_s (jy_sub_s (jy_sub_n (jy_sub_s (jy_sub_s (jy_sub_s (jy_sub_n (jy_sub_n jy_sub_0))))))))
theorem jt_18 : jx_ml 18 = 5 ∧ jx_rt 18 = none ∧ jx_hz 18 = [] ∧ decide ((jx_nm 18).name = "<init>") = false ∧ jx_code 18 = jx_c18 := by decide +kernel
/-- GC$Herd.forgetSome, from 2 -/
def wz_18_2 (V : jx_V) (X : jx_X) (R : jx_R) (Q : Option Value → jx_I → Prop) (QE : String → jx_I → Prop) (J2 : Int → jx_I → Prop) (J10 : Int → Int → jx_I → Prop) (a0 : Nat) (a1 : Nat) (l2 : Int) (I : jx_I) : Prop :=
  (-2147483648 ≤ l2 ∧ l2 < 2147483648) ∧ (
  (10 ≤ l2 → (
    Q none I
  )) ∧ (¬ 10 ≤ l2 → (
    J10 l2 0 I
  )))
/-- GC$Herd.forgetSome, from 10 -/
def wz_18_10 (V : jx_V) (X : jx_X) (R : jx_R) (Q : Option Value → jx_I → Prop) (QE : String → jx_I → Prop) (J2 : Int → jx_I → Prop) (J10 : Int → Int → jx_I → Prop) (a0 : Nat) (a1 : Nat) (l2 : Int) (l3 : Int) (I : jx_I) : Prop :=
  (X.2.1 a1 = some (5, 0)) ∧ (
  (-2147483648 ≤ l3 ∧ l3 < 2147483648) ∧ (
  ((I a1 1).toInt ≤ l3 → (
    J2 (l2 + 1) I
  )) ∧ (¬ (I a1 1).toInt ≤ l3 → (
    ∃ q4 : Nat, (
    (R a1 0 = some q4) ∧ (
    ∃ n6 : Nat, (
    (X.2.1 q4 = some (100, n6) ∧ n6 < 2147483648) ∧ (
    (0 ≤ l3 ∧ l3 < n6) ∧ (
    (X.2.1 a0 = some (1, 0)) ∧ (
    ∃ q10 : Nat, (
    (R a0 0 = some q10) ∧ (
    ∃ n12 : Nat, (
    (X.2.1 q10 = some (100, n12) ∧ n12 < 2147483648) ∧ (
    (0 ≤ ((l2 * 8) + (I q4 l3.toNat).toInt) ∧ ((l2 * 8) + (I q4 l3.toNat).toInt) < n12) ∧ (
    ∃ Q15 : Option Value → jx_I → Prop, (
    (jc V 1 328 (0, 0) [jy 0, jy ((I q10 ((l2 * 8) + (I q4 l3.toNat).toInt).toNat).toInt - 1)] X I R Q15 (fun _ _ => False)) ∧ (
    ∀ rv I17, Q15 rv I17 → ∃ r18 : Int, rv = some (jy r18) ∧ (
    (0 ≤ ((l2 * 8) + (I q4 l3.toNat).toInt) ∧ ((l2 * 8) + (I q4 l3.toNat).toInt) < n12) ∧ (
    ∀ I20 : jx_I, I20 = jx_u I17 q10 ((l2 * 8) + (I q4 l3.toNat).toInt).toNat (Int32.ofInt r18) → (
    J10 l2 (l3 + 1) I20))))))))))))))))
  ))))
/-- GC$Herd.forgetSome -/
def wz_18 (V : jx_V) (X : jx_X) (R : jx_R) (Q : Option Value → jx_I → Prop) (QE : String → jx_I → Prop) (J2 : Int → jx_I → Prop) (J10 : Int → Int → jx_I → Prop) (a0 : Nat) (a1 : Nat) (I : jx_I) : Prop :=
  J2 0 I
set_option maxRecDepth 20000 in
theorem wm_18 {V : jx_V} (hV : V.1.stackTraces = false) {X : jx_X} {R : jx_R} {I : jx_I} {Q : Option Value → jx_I → Prop} {QE : String → jx_I → Prop} {a0 : Nat} {a1 : Nat}  
    (h : ∀ (J2 : Int → jx_I → Prop) (J10 : Int → Int → jx_I → Prop), ((∀ (l2 : Int) I, wz_18_2 V X R Q QE J2 J10 a0 a1 l2 I → J2 l2 I) ∧ (∀ (l2 : Int) (l3 : Int) I, wz_18_10 V X R Q QE J2 J10 a0 a1 l2 l3 I → J10 l2 l3 I)) → wz_18 V X R Q QE J2 J10 a0 a1 I) : jc V 2 18 (0, 0) [.ref a0, .ref a1] X I R Q QE := by
  refine jy_met hV (by decide) (n := 5) (rt := none) (hh := []) (ini := false) (C := jx_c18) (L := [some (.ref a0), some (.ref a1), none, none, none]) jt_18 (Nat.le_of_ble_eq_true rfl) rfl ?_
  intro J hS
  have h := h (fun l2 I => J 2 [] [some (.ref a0), some (.ref a1), some (jy l2), none, none] (0, 0) X I R) (fun l2 l3 I => J 10 [] [some (.ref a0), some (.ref a1), some (jy l2), some (jy l3), none] (0, 0) X I R) ?_
  · unfold wz_18 at h
    refine jy_iconst hS rfl ?_
    refine jy_istore_n hS rfl (Nat.le_of_ble_eq_true rfl) (L' := [some (.ref a0), some (.ref a1), some (jy 0), none, none]) rfl ?_
    exact jy_join hS h rfl (jy_sub_s (jy_sub_s (jy_sub_s (jy_sub_n (jy_sub_n jy_sub_0)))))
  refine ⟨?_, ?_⟩
  · intro l2 I h
    unfold wz_18_2 at h
    refine jy_iload_n hS rfl rfl ?_
    refine jy_bipush hS rfl (by decide) ?_
    obtain ⟨g1, h⟩ := h
    refine jy_icmp_ge hS rfl ⟨g1, ⟨by decide, by decide⟩⟩ (fun hq => ?_) (fun hq => ?_)
    · have h := h.1 hq
      exact jy_ret hS rfl rfl ⟨rfl, rfl, h⟩
    · have h := h.2 hq
      refine jy_iconst hS rfl ?_
      refine jy_istore_n hS rfl (Nat.le_of_ble_eq_true rfl) (L' := [some (.ref a0), some (.ref a1), some (jy l2), some (jy 0), none]) rfl ?_
      exact jy_join hS h rfl (jy_sub_s (jy_sub_s (jy_sub_s (jy_sub_s (jy_sub_n jy_sub_0)))))
  · intro l2 l3 I h
    unfold wz_18_10 at h
    refine jy_iload_n hS rfl rfl ?_
    refine jy_aload_n hS rfl rfl ?_
    obtain ⟨g2, h⟩ := h
    refine jy_getI hS rfl (by decide) g2 ?_
    obtain ⟨g3, h⟩ := h
    refine jy_icmp_ge hS rfl ⟨g3, (jy_rng _)⟩ (fun hq => ?_) (fun hq => ?_)
    · have h := h.1 hq
      refine jy_iinc hS rfl rfl (L' := [some (.ref a0), some (.ref a1), some (jy (l2 + 1)), some (jy l3), none]) rfl ?_
      refine jy_goto hS rfl ?_
      exact jy_join hS h rfl (jy_sub_s (jy_sub_s (jy_sub_s (jy_sub_n (jy_sub_n jy_sub_0)))))
    · have h := h.2 hq
      refine jy_iload_n hS rfl rfl ?_
      refine jy_bipush hS rfl (by decide) ?_
      refine jy_imul hS rfl ?_
      refine jy_aload_n hS rfl rfl ?_
      obtain ⟨q4, h⟩ := h
      obtain ⟨g5, h⟩ := h
      refine jy_getR hS rfl (by decide) g2 g5 ?_
      refine jy_iload_n hS rfl rfl ?_
      obtain ⟨n6, h⟩ := h
      obtain ⟨g7, h⟩ := h
      obtain ⟨g8, h⟩ := h
      refine jy_iald hS rfl g7.1 (Nat.le_of_lt g7.2) g8 ?_
      refine jy_iadd hS rfl ?_
      refine jy_istore hS rfl (Nat.le_of_ble_eq_true rfl) (L' := [some (.ref a0), some (.ref a1), some (jy l2), some (jy l3), some (jy ((l2 * 8) + (I q4 l3.toNat).toInt))]) rfl ?_
      refine jy_aload_n hS rfl rfl ?_
      obtain ⟨g9, h⟩ := h
      obtain ⟨q10, h⟩ := h
      obtain ⟨g11, h⟩ := h
      refine jy_getR hS rfl (by decide) g9 g11 ?_
      refine jy_iload hS rfl rfl ?_
      refine jy_iconst hS rfl ?_
      refine jy_aload_n hS rfl rfl ?_
      refine jy_getR hS rfl (by decide) g9 g11 ?_
      refine jy_iload hS rfl rfl ?_
      obtain ⟨n12, h⟩ := h
      obtain ⟨g13, h⟩ := h
      obtain ⟨g14, h⟩ := h
      refine jy_iald hS rfl g13.1 (Nat.le_of_lt g13.2) g14 ?_
      refine jy_iconst hS rfl ?_
      refine jy_isub hS rfl ?_
      obtain ⟨Q15, h⟩ := h
      obtain ⟨g16, h⟩ := h
      refine jy_callS hS rfl rfl rfl (Nat.le_of_ble_eq_true rfl) g16 (by decide) ⟨by decide, by decide⟩ (Nat.le_of_ble_eq_true rfl) ?_ ?_
      rotate_left
      · exact fun Ex Xx Ix Rx hp => hp.2.2.2.elim
      intro rv Xx I17 Rx hp
      obtain ⟨e1, e2, hp⟩ := hp
      rw [e1, e2]
      clear e1 e2
      obtain ⟨r18, e1, h⟩ := h rv I17 hp
      rw [e1]
      clear e1
      change J 50 [jy r18, jy ((l2 * 8) + (I q4 l3.toNat).toInt), .ref q10] _ (0, 0) _ _ _
      obtain ⟨g19, h⟩ := h
      refine jy_iast hS rfl g13.1 (Nat.le_of_lt g13.2) g19 ?_
      intro I20 e9
      have h := h I20 e9
      clear e9
      refine jy_iinc hS rfl rfl (L' := [some (.ref a0), some (.ref a1), some (jy l2), some (jy (l3 + 1)), some (jy ((l2 * 8) + (I q4 l3.toNat).toInt))]) rfl ?_
      refine jy_goto hS rfl ?_
      exact jy_join hS h rfl (jy_sub_s (jy_sub_s (jy_sub_s (jy_sub_s (jy_sub_n jy_sub_0)))))
theorem jt_19 : jx_ml 19 = 5 ∧ jx_rt 19 = none ∧ jx_hz 19 = [] ∧ decide ((jx_nm 19).name = "<init>") = false ∧ jx_code 19 = jx_c19 := by decide +kernel
/-- GC$Herd.remindSome, from 2 -/
def wz_19_2 (V : jx_V) (X : jx_X) (R : jx_R) (Q : Option Value → jx_I → Prop) (QE : String → jx_I → Prop) (J2 : Int → jx_I → Prop) (J10 : Int → Int → jx_I → Prop) (J69 : Int → Int → jx_I → Prop) (a0 : Nat) (a1 : Nat) (l2 : Int) (I : jx_I) : Prop :=
  (-2147483648 ≤ l2 ∧ l2 < 2147483648) ∧ (
  (10 ≤ l2 → (
    Q none I
  )) ∧ (¬ 10 ≤ l2 → (
    J10 l2 0 I
  )))
/-- GC$Herd.remindSome, from 10 -/
def wz_19_10 (V : jx_V) (X : jx_X) (R : jx_R) (Q : Option Value → jx_I → Prop) (QE : String → jx_I → Prop) (J2 : Int → jx_I → Prop) (J10 : Int → Int → jx_I → Prop) (J69 : Int → Int → jx_I → Prop) (a0 : Nat) (a1 : Nat) (l2 : Int) (l3 : Int) (I : jx_I) : Prop :=
  (X.2.1 a1 = some (5, 0)) ∧ (
  (-2147483648 ≤ l3 ∧ l3 < 2147483648) ∧ (
  ((I a1 1).toInt ≤ l3 → (
    J2 (l2 + 1) I
  )) ∧ (¬ (I a1 1).toInt ≤ l3 → (
    ∃ q4 : Nat, (
    (R a1 0 = some q4) ∧ (
    ∃ n6 : Nat, (
    (X.2.1 q4 = some (100, n6) ∧ n6 < 2147483648) ∧ (
    (0 ≤ l3 ∧ l3 < n6) ∧ (
    (X.2.1 a0 = some (1, 0)) ∧ (
    ∃ q10 : Nat, (
    (R a0 0 = some q10) ∧ (
    ∃ n12 : Nat, (
    (X.2.1 q10 = some (100, n12) ∧ n12 < 2147483648) ∧ (
    (0 ≤ ((l2 * 8) + (I q4 l3.toNat).toInt) ∧ ((l2 * 8) + (I q4 l3.toNat).toInt) < n12) ∧ (
    ((I q10 ((l2 * 8) + (I q4 l3.toNat).toInt).toNat).toInt ≤ 0 → (
      J10 l2 (l3 + 1) I
    )) ∧ (¬ (I q10 ((l2 * 8) + (I q4 l3.toNat).toInt).toNat).toInt ≤ 0 → (
      (0 ≤ ((l2 * 8) + (I q4 l3.toNat).toInt) ∧ ((l2 * 8) + (I q4 l3.toNat).toInt) < n12) ∧ (
      ∃ q16 : Nat, (
      (R a0 1 = some q16) ∧ (
      ∃ n18 : Nat, (
      (X.2.1 q16 = some (100, n18) ∧ n18 < 2147483648) ∧ (
      (0 ≤ ((l2 * 8) + (I q4 l3.toNat).toInt) ∧ ((l2 * 8) + (I q4 l3.toNat).toInt) < n18) ∧ (
      ((I q16 ((l2 * 8) + (I q4 l3.toNat).toInt).toNat).toInt ≤ (I q10 ((l2 * 8) + (I q4 l3.toNat).toInt).toNat).toInt → (
        J10 l2 (l3 + 1) I
      )) ∧ (¬ (I q16 ((l2 * 8) + (I q4 l3.toNat).toInt).toNat).toInt ≤ (I q10 ((l2 * 8) + (I q4 l3.toNat).toInt).toNat).toInt → (
        (0 ≤ ((l2 * 8) + (I q4 l3.toNat).toInt) ∧ ((l2 * 8) + (I q4 l3.toNat).toInt) < n12) ∧ (
        (0 ≤ ((l2 * 8) + (I q4 l3.toNat).toInt) ∧ ((l2 * 8) + (I q4 l3.toNat).toInt) < n12) ∧ (
        ∀ I23 : jx_I, I23 = jx_u I q10 ((l2 * 8) + (I q4 l3.toNat).toInt).toNat (Int32.ofInt ((I q10 ((l2 * 8) + (I q4 l3.toNat).toInt).toNat).toInt + 1)) → (
        J69 l2 l3 I23)))
      ))))))))
    )))))))))))))
  ))))
/-- GC$Herd.remindSome, from 69 -/
def wz_19_69 (V : jx_V) (X : jx_X) (R : jx_R) (Q : Option Value → jx_I → Prop) (QE : String → jx_I → Prop) (J2 : Int → jx_I → Prop) (J10 : Int → Int → jx_I → Prop) (J69 : Int → Int → jx_I → Prop) (a0 : Nat) (a1 : Nat) (l2 : Int) (l3 : Int) (I : jx_I) : Prop :=
  J10 l2 (l3 + 1) I
/-- GC$Herd.remindSome -/
def wz_19 (V : jx_V) (X : jx_X) (R : jx_R) (Q : Option Value → jx_I → Prop) (QE : String → jx_I → Prop) (J2 : Int → jx_I → Prop) (J10 : Int → Int → jx_I → Prop) (J69 : Int → Int → jx_I → Prop) (a0 : Nat) (a1 : Nat) (I : jx_I) : Prop :=
  J2 0 I
set_option maxRecDepth 20000 in
theorem wm_19 {V : jx_V} (hV : V.1.stackTraces = false) {X : jx_X} {R : jx_R} {I : jx_I} {Q : Option Value → jx_I → Prop} {QE : String → jx_I → Prop} {a0 : Nat} {a1 : Nat}  
    (h : ∀ (J2 : Int → jx_I → Prop) (J10 : Int → Int → jx_I → Prop) (J69 : Int → Int → jx_I → Prop), ((∀ (l2 : Int) I, wz_19_2 V X R Q QE J2 J10 J69 a0 a1 l2 I → J2 l2 I) ∧ (∀ (l2 : Int) (l3 : Int) I, wz_19_10 V X R Q QE J2 J10 J69 a0 a1 l2 l3 I → J10 l2 l3 I) ∧ (∀ (l2 : Int) (l3 : Int) I, wz_19_69 V X R Q QE J2 J10 J69 a0 a1 l2 l3 I → J69 l2 l3 I)) → wz_19 V X R Q QE J2 J10 J69 a0 a1 I) : jc V 1 19 (0, 0) [.ref a0, .ref a1] X I R Q QE := by
  refine jy_met hV (by decide) (n := 5) (rt := none) (hh := []) (ini := false) (C := jx_c19) (L := [some (.ref a0), some (.ref a1), none, none, none]) jt_19 (Nat.le_of_ble_eq_true rfl) rfl ?_
  intro J hS
  have h := h (fun l2 I => J 2 [] [some (.ref a0), some (.ref a1), some (jy l2), none, none] (0, 0) X I R) (fun l2 l3 I => J 10 [] [some (.ref a0), some (.ref a1), some (jy l2), some (jy l3), none] (0, 0) X I R) (fun l2 l3 I => J 69 [] [some (.ref a0), some (.ref a1), some (jy l2), some (jy l3), none] (0, 0) X I R) ?_
  · unfold wz_19 at h
    refine jy_iconst hS rfl ?_
    refine jy_istore_n hS rfl (Nat.le_of_ble_eq_true rfl) (L' := [some (.ref a0), some (.ref a1), some (jy 0), none, none]) rfl ?_
    exact jy_join hS h rfl (jy_sub_s (jy_sub_s (jy_sub_s (jy_sub_n (jy_sub_n jy_sub_0)))))
  refine ⟨?_, ?_, ?_⟩
  · intro l2 I h
    unfold wz_19_2 at h
    refine jy_iload_n hS rfl rfl ?_
    refine jy_bipush hS rfl (by decide) ?_
    obtain ⟨g1, h⟩ := h
    refine jy_icmp_ge hS rfl ⟨g1, ⟨by decide, by decide⟩⟩ (fun hq => ?_) (fun hq => ?_)
    · have h := h.1 hq
      exact jy_ret hS rfl rfl ⟨rfl, rfl, h⟩
    · have h := h.2 hq
      refine jy_iconst hS rfl ?_
      refine jy_istore_n hS rfl (Nat.le_of_ble_eq_true rfl) (L' := [some (.ref a0), some (.ref a1), some (jy l2), some (jy 0), none]) rfl ?_
      exact jy_join hS h rfl (jy_sub_s (jy_sub_s (jy_sub_s (jy_sub_s (jy_sub_n jy_sub_0)))))
  · intro l2 l3 I h
    unfold wz_19_10 at h
    refine jy_iload_n hS rfl rfl ?_
    refine jy_aload_n hS rfl rfl ?_
    obtain ⟨g2, h⟩ := h
    refine jy_getI hS rfl (by decide) g2 ?_
    obtain ⟨g3, h⟩ := h
    refine jy_icmp_ge hS rfl ⟨g3, (jy_rng _)⟩ (fun hq => ?_) (fun hq => ?_)
    · have h := h.1 hq
      refine jy_iinc hS rfl rfl (L' := [some (.ref a0), some (.ref a1), some (jy (l2 + 1)), some (jy l3), none]) rfl ?_
      refine jy_goto hS rfl ?_
      exact jy_join hS h rfl (jy_sub_s (jy_sub_s (jy_sub_s (jy_sub_n (jy_sub_n jy_sub_0)))))
    · have h := h.2 hq
      refine jy_iload_n hS rfl rfl ?_
      refine jy_bipush hS rfl (by decide) ?_
      refine jy_imul hS rfl ?_
      refine jy_aload_n hS rfl rfl ?_
      obtain ⟨q4, h⟩ := h
      obtain ⟨g5, h⟩ := h
      refine jy_getR hS rfl (by decide) g2 g5 ?_
      refine jy_iload_n hS rfl rfl ?_
      obtain ⟨n6, h⟩ := h
      obtain ⟨g7, h⟩ := h
      obtain ⟨g8, h⟩ := h
      refine jy_iald hS rfl g7.1 (Nat.le_of_lt g7.2) g8 ?_
      refine jy_iadd hS rfl ?_
      refine jy_istore hS rfl (Nat.le_of_ble_eq_true rfl) (L' := [some (.ref a0), some (.ref a1), some (jy l2), some (jy l3), some (jy ((l2 * 8) + (I q4 l3.toNat).toInt))]) rfl ?_
      refine jy_aload_n hS rfl rfl ?_
      obtain ⟨g9, h⟩ := h
      obtain ⟨q10, h⟩ := h
      obtain ⟨g11, h⟩ := h
      refine jy_getR hS rfl (by decide) g9 g11 ?_
      refine jy_iload hS rfl rfl ?_
      obtain ⟨n12, h⟩ := h
      obtain ⟨g13, h⟩ := h
      obtain ⟨g14, h⟩ := h
      refine jy_iald hS rfl g13.1 (Nat.le_of_lt g13.2) g14 ?_
      refine jy_if_le hS rfl (jy_rng _) (fun hq => ?_) (fun hq => ?_)
      · have h := h.1 hq
        refine jy_iinc hS rfl rfl (L' := [some (.ref a0), some (.ref a1), some (jy l2), some (jy (l3 + 1)), some (jy ((l2 * 8) + (I q4 l3.toNat).toInt))]) rfl ?_
        refine jy_goto hS rfl ?_
        exact jy_join hS h rfl (jy_sub_s (jy_sub_s (jy_sub_s (jy_sub_s (jy_sub_n jy_sub_0)))))
      · have h := h.2 hq
        refine jy_aload_n hS rfl rfl ?_
        refine jy_getR hS rfl (by decide) g9 g11 ?_
        refine jy_iload hS rfl rfl ?_
        obtain ⟨g15, h⟩ := h
        refine jy_iald hS rfl g13.1 (Nat.le_of_lt g13.2) g15 ?_
        refine jy_aload_n hS rfl rfl ?_
        obtain ⟨q16, h⟩ := h
        obtain ⟨g17, h⟩ := h
        refine jy_getR hS rfl (by decide) g9 g17 ?_
        refine jy_iload hS rfl rfl ?_
        obtain ⟨n18, h⟩ := h
        obtain ⟨g19, h⟩ := h
        obtain ⟨g20, h⟩ := h
        refine jy_iald hS rfl g19.1 (Nat.le_of_lt g19.2) g20 ?_
        refine jy_icmp_ge hS rfl ⟨(jy_rng _), (jy_rng _)⟩ (fun hq => ?_) (fun hq => ?_)
        · have h := h.1 hq
          refine jy_iinc hS rfl rfl (L' := [some (.ref a0), some (.ref a1), some (jy l2), some (jy (l3 + 1)), some (jy ((l2 * 8) + (I q4 l3.toNat).toInt))]) rfl ?_
          refine jy_goto hS rfl ?_
          exact jy_join hS h rfl (jy_sub_s (jy_sub_s (jy_sub_s (jy_sub_s (jy_sub_n jy_sub_0)))))
        · have h := h.2 hq
          refine jy_aload_n hS rfl rfl ?_
          refine jy_getR hS rfl (by decide) g9 g11 ?_
          refine jy_iload hS rfl rfl ?_
          refine jy_dup2 hS rfl rfl rfl ?_
          obtain ⟨g21, h⟩ := h
          refine jy_iald hS rfl g13.1 (Nat.le_of_lt g13.2) g21 ?_
          refine jy_iconst hS rfl ?_
          refine jy_iadd hS rfl ?_
          obtain ⟨g22, h⟩ := h
          refine jy_iast hS rfl g13.1 (Nat.le_of_lt g13.2) g22 ?_
          intro I23 e9
          have h := h I23 e9
          clear e9
          exact jy_join hS h rfl (jy_sub_s (jy_sub_s (jy_sub_s (jy_sub_s (jy_sub_n jy_sub_0)))))
  · intro l2 l3 I h
    unfold wz_19_69 at h
    refine jy_iinc hS rfl rfl (L' := [some (.ref a0), some (.ref a1), some (jy l2), some (jy (l3 + 1)), none]) rfl ?_
    refine jy_goto hS rfl ?_
    exact jy_join hS h rfl (jy_sub_s (jy_sub_s (jy_sub_s (jy_sub_s (jy_sub_n jy_sub_0)))))
theorem jt_20 : jx_ml 20 = 5 ∧ jx_rt 20 = some .int ∧ jx_hz 20 = [] ∧ decide ((jx_nm 20).name = "<init>") = false ∧ jx_code 20 = jx_c20 := by decide +kernel
/-- GC$Herd.greatestOf, from 5 -/
def wz_20_5 (V : jx_V) (X : jx_X) (R : jx_R) (Q : Option Value → jx_I → Prop) (QE : String → jx_I → Prop) (J5 : Int → Int → jx_I → Prop) (J33 : Int → Int → jx_I → Prop) (a0 : Nat) (a1 : Int) (a2 : Int) (l3 : Int) (l4 : Int) (I : jx_I) : Prop :=
  (-2147483648 ≤ l4 ∧ l4 < 2147483648) ∧ (
  (8 ≤ l4 → (
    Q (some (jy l3)) I
  )) ∧ (¬ 8 ≤ l4 → (
    ((Int32.ofInt ((Int32.ofInt a2 >>> (Int32.ofInt l4 &&& 31)).toInt) &&& Int32.ofInt 1).toInt = 0 → (
      J5 l3 (l4 + 1) I
    )) ∧ (¬ (Int32.ofInt ((Int32.ofInt a2 >>> (Int32.ofInt l4 &&& 31)).toInt) &&& Int32.ofInt 1).toInt = 0 → (
      (X.2.1 a0 = some (1, 0)) ∧ (
      ∃ Q3 : Option Value → jx_I → Prop, (
      (jc V 1 11 (0, 0) [.ref a0, jy a1, jy l4] X I R Q3 (fun _ _ => False)) ∧ (
      ∀ rv I5, Q3 rv I5 → ∃ r6 : Int, rv = some (jy r6) ∧ (
      ∃ Q7 : Option Value → jx_I → Prop, (
      (jc V 1 328 (0, 0) [jy l3, jy r6] X I5 R Q7 (fun _ _ => False)) ∧ (
      ∀ rv I9, Q7 rv I9 → ∃ r10 : Int, rv = some (jy r10) ∧ (
      J33 r10 l4 I9)))))))
    ))
  )))
/-- GC$Herd.greatestOf, from 33 -/
def wz_20_33 (V : jx_V) (X : jx_X) (R : jx_R) (Q : Option Value → jx_I → Prop) (QE : String → jx_I → Prop) (J5 : Int → Int → jx_I → Prop) (J33 : Int → Int → jx_I → Prop) (a0 : Nat) (a1 : Int) (a2 : Int) (l3 : Int) (l4 : Int) (I : jx_I) : Prop :=
  J5 l3 (l4 + 1) I
/-- GC$Herd.greatestOf -/
def wz_20 (V : jx_V) (X : jx_X) (R : jx_R) (Q : Option Value → jx_I → Prop) (QE : String → jx_I → Prop) (J5 : Int → Int → jx_I → Prop) (J33 : Int → Int → jx_I → Prop) (a0 : Nat) (a1 : Int) (a2 : Int) (I : jx_I) : Prop :=
  J5 0 0 I
set_option maxRecDepth 20000 in
theorem wm_20 {V : jx_V} (hV : V.1.stackTraces = false) {X : jx_X} {R : jx_R} {I : jx_I} {Q : Option Value → jx_I → Prop} {QE : String → jx_I → Prop} {a0 : Nat} {a1 : Int} {a2 : Int} (r_a1 : -2147483648 ≤ a1 ∧ a1 < 2147483648) (r_a2 : -2147483648 ≤ a2 ∧ a2 < 2147483648) 
    (h : ∀ (J5 : Int → Int → jx_I → Prop) (J33 : Int → Int → jx_I → Prop), ((∀ (l3 : Int) (l4 : Int) I, wz_20_5 V X R Q QE J5 J33 a0 a1 a2 l3 l4 I → J5 l3 l4 I) ∧ (∀ (l3 : Int) (l4 : Int) I, wz_20_33 V X R Q QE J5 J33 a0 a1 a2 l3 l4 I → J33 l3 l4 I)) → wz_20 V X R Q QE J5 J33 a0 a1 a2 I) : jc V 2 20 (0, 0) [.ref a0, jy a1, jy a2] X I R Q QE := by
  refine jy_met hV (by decide) (n := 5) (rt := some .int) (hh := []) (ini := false) (C := jx_c20) (L := [some (.ref a0), some (jy a1), some (jy a2), none, none]) jt_20 (Nat.le_of_ble_eq_true rfl) rfl ?_
  intro J hS
  have h := h (fun l3 l4 I => J 5 [] [some (.ref a0), some (jy a1), some (jy a2), some (jy l3), some (jy l4)] (0, 0) X I R) (fun l3 l4 I => J 33 [] [some (.ref a0), some (jy a1), some (jy a2), some (jy l3), some (jy l4)] (0, 0) X I R) ?_
  · unfold wz_20 at h
    refine jy_iconst hS rfl ?_
    refine jy_istore_n hS rfl (Nat.le_of_ble_eq_true rfl) (L' := [some (.ref a0), some (jy a1), some (jy a2), some (jy 0), none]) rfl ?_
    refine jy_iconst hS rfl ?_
    refine jy_istore hS rfl (Nat.le_of_ble_eq_true rfl) (L' := [some (.ref a0), some (jy a1), some (jy a2), some (jy 0), some (jy 0)]) rfl ?_
    exact jy_join hS h rfl (jy_sub_s (jy_sub_s (jy_sub_s (jy_sub_s (jy_sub_s jy_sub_0)))))
  refine ⟨?_, ?_⟩
  · intro l3 l4 I h
    unfold wz_20_5 at h
    refine jy_iload hS rfl rfl ?_
    refine jy_bipush hS rfl (by decide) ?_
    obtain ⟨g1, h⟩ := h
    refine jy_icmp_ge hS rfl ⟨g1, ⟨by decide, by decide⟩⟩ (fun hq => ?_) (fun hq => ?_)
    · have h := h.1 hq
      refine jy_iload_n hS rfl rfl ?_
      exact jy_iret hS rfl rfl ⟨rfl, rfl, h⟩
    · have h := h.2 hq
      refine jy_iload_n hS rfl rfl ?_
      refine jy_iload hS rfl rfl ?_
      refine jy_ishrX hS rfl rfl ?_
      refine jy_iconst hS rfl ?_
      refine jy_iandX hS rfl rfl ?_
      refine jy_if_eq hS rfl (jy_rng _) (fun hq => ?_) (fun hq => ?_)
      · have h := h.1 hq
        refine jy_iinc hS rfl rfl (L' := [some (.ref a0), some (jy a1), some (jy a2), some (jy l3), some (jy (l4 + 1))]) rfl ?_
        refine jy_goto hS rfl ?_
        exact jy_join hS h rfl (jy_sub_s (jy_sub_s (jy_sub_s (jy_sub_s (jy_sub_s jy_sub_0)))))
      · have h := h.2 hq
        refine jy_iload_n hS rfl rfl ?_
        refine jy_aload_n hS rfl rfl ?_
        refine jy_iload_n hS rfl rfl ?_
        refine jy_iload hS rfl rfl ?_
        obtain ⟨g2, h⟩ := h
        obtain ⟨Q3, h⟩ := h
        obtain ⟨g4, h⟩ := h
        refine jy_callV hS rfl rfl rfl (Nat.le_of_ble_eq_true rfl) (Or.inl g2) g4 (by decide) ⟨by decide, by decide⟩ (Nat.le_of_ble_eq_true rfl) ?_ ?_
        rotate_left
        · exact fun Ex Xx Ix Rx hp => hp.2.2.2.elim
        intro rv Xx I5 Rx hp
        obtain ⟨e1, e2, hp⟩ := hp
        rw [e1, e2]
        clear e1 e2
        obtain ⟨r6, e1, h⟩ := h rv I5 hp
        rw [e1]
        clear e1
        change J 29 [jy r6, jy l3] _ (0, 0) _ _ _
        obtain ⟨Q7, h⟩ := h
        obtain ⟨g8, h⟩ := h
        refine jy_callS hS rfl rfl rfl (Nat.le_of_ble_eq_true rfl) g8 (by decide) ⟨by decide, by decide⟩ (Nat.le_of_ble_eq_true rfl) ?_ ?_
        rotate_left
        · exact fun Ex Xx Ix Rx hp => hp.2.2.2.elim
        intro rv Xx I9 Rx hp
        obtain ⟨e1, e2, hp⟩ := hp
        rw [e1, e2]
        clear e1 e2
        obtain ⟨r10, e1, h⟩ := h rv I9 hp
        rw [e1]
        clear e1
        change J 32 [jy r10] _ (0, 0) _ _ _
        refine jy_istore_n hS rfl (Nat.le_of_ble_eq_true rfl) (L' := [some (.ref a0), some (jy a1), some (jy a2), some (jy r10), some (jy l4)]) rfl ?_
        exact jy_join hS h rfl (jy_sub_s (jy_sub_s (jy_sub_s (jy_sub_s (jy_sub_s jy_sub_0)))))
  · intro l3 l4 I h
    unfold wz_20_33 at h
    refine jy_iinc hS rfl rfl (L' := [some (.ref a0), some (jy a1), some (jy a2), some (jy l3), some (jy (l4 + 1))]) rfl ?_
    refine jy_goto hS rfl ?_
    exact jy_join hS h rfl (jy_sub_s (jy_sub_s (jy_sub_s (jy_sub_s (jy_sub_s jy_sub_0)))))
theorem jt_21 : jx_ml 21 = 6 ∧ jx_rt 21 = some .int ∧ jx_hz 21 = [] ∧ decide ((jx_nm 21).name = "<init>") = false ∧ jx_code 21 = jx_c21 := by decide +kernel
/-- GC$Herd.wouldLearn, from 6 -/
def wz_21_6 (V : jx_V) (X : jx_X) (R : jx_R) (Q : Option Value → jx_I → Prop) (QE : String → jx_I → Prop) (J6 : Int → Int → jx_I → Prop) (J40 : Int → Int → jx_I → Prop) (a0 : Nat) (a1 : Int) (a2 : Int) (a3 : Int) (l4 : Int) (l5 : Int) (I : jx_I) : Prop :=
  (-2147483648 ≤ l5 ∧ l5 < 2147483648) ∧ (
  (8 ≤ l5 → (
    Q (some (jy l4)) I
  )) ∧ (¬ 8 ≤ l5 → (
    ((Int32.ofInt ((Int32.ofInt a2 >>> (Int32.ofInt l5 &&& 31)).toInt) &&& Int32.ofInt 1).toInt = 0 → (
      J6 l4 (l5 + 1) I
    )) ∧ (¬ (Int32.ofInt ((Int32.ofInt a2 >>> (Int32.ofInt l5 &&& 31)).toInt) &&& Int32.ofInt 1).toInt = 0 → (
      (X.2.1 a0 = some (1, 0)) ∧ (
      ∃ Q3 : Option Value → jx_I → Prop, (
      (jc V 1 11 (0, 0) [.ref a0, jy a1, jy l5] X I R Q3 (fun _ _ => False)) ∧ (
      ∀ rv I5, Q3 rv I5 → ∃ r6 : Int, rv = some (jy r6) ∧ (
      ∃ Q7 : Option Value → jx_I → Prop, (
      (jc V 1 328 (0, 0) [jy 0, jy (a3 - r6)] X I5 R Q7 (fun _ _ => False)) ∧ (
      ∀ rv I9, Q7 rv I9 → ∃ r10 : Int, rv = some (jy r10) ∧ (
      J40 (l4 + r10) l5 I9)))))))
    ))
  )))
/-- GC$Herd.wouldLearn, from 40 -/
def wz_21_40 (V : jx_V) (X : jx_X) (R : jx_R) (Q : Option Value → jx_I → Prop) (QE : String → jx_I → Prop) (J6 : Int → Int → jx_I → Prop) (J40 : Int → Int → jx_I → Prop) (a0 : Nat) (a1 : Int) (a2 : Int) (a3 : Int) (l4 : Int) (l5 : Int) (I : jx_I) : Prop :=
  J6 l4 (l5 + 1) I
/-- GC$Herd.wouldLearn -/
def wz_21 (V : jx_V) (X : jx_X) (R : jx_R) (Q : Option Value → jx_I → Prop) (QE : String → jx_I → Prop) (J6 : Int → Int → jx_I → Prop) (J40 : Int → Int → jx_I → Prop) (a0 : Nat) (a1 : Int) (a2 : Int) (a3 : Int) (I : jx_I) : Prop :=
  J6 0 0 I
set_option maxRecDepth 20000 in
theorem wm_21 {V : jx_V} (hV : V.1.stackTraces = false) {X : jx_X} {R : jx_R} {I : jx_I} {Q : Option Value → jx_I → Prop} {QE : String → jx_I → Prop} {a0 : Nat} {a1 : Int} {a2 : Int} {a3 : Int} (r_a1 : -2147483648 ≤ a1 ∧ a1 < 2147483648) (r_a2 : -2147483648 ≤ a2 ∧ a2 < 2147483648) (r_a3 : -2147483648 ≤ a3 ∧ a3 < 2147483648) 
    (h : ∀ (J6 : Int → Int → jx_I → Prop) (J40 : Int → Int → jx_I → Prop), ((∀ (l4 : Int) (l5 : Int) I, wz_21_6 V X R Q QE J6 J40 a0 a1 a2 a3 l4 l5 I → J6 l4 l5 I) ∧ (∀ (l4 : Int) (l5 : Int) I, wz_21_40 V X R Q QE J6 J40 a0 a1 a2 a3 l4 l5 I → J40 l4 l5 I)) → wz_21 V X R Q QE J6 J40 a0 a1 a2 a3 I) : jc V 2 21 (0, 0) [.ref a0, jy a1, jy a2, jy a3] X I R Q QE := by
  refine jy_met hV (by decide) (n := 6) (rt := some .int) (hh := []) (ini := false) (C := jx_c21) (L := [some (.ref a0), some (jy a1), some (jy a2), some (jy a3), none, none]) jt_21 (Nat.le_of_ble_eq_true rfl) rfl ?_
  intro J hS
  have h := h (fun l4 l5 I => J 6 [] [some (.ref a0), some (jy a1), some (jy a2), some (jy a3), some (jy l4), some (jy l5)] (0, 0) X I R) (fun l4 l5 I => J 40 [] [some (.ref a0), some (jy a1), some (jy a2), some (jy a3), some (jy l4), some (jy l5)] (0, 0) X I R) ?_
  · unfold wz_21 at h
    refine jy_iconst hS rfl ?_
    refine jy_istore hS rfl (Nat.le_of_ble_eq_true rfl) (L' := [some (.ref a0), some (jy a1), some (jy a2), some (jy a3), some (jy 0), none]) rfl ?_
    refine jy_iconst hS rfl ?_
    refine jy_istore hS rfl (Nat.le_of_ble_eq_true rfl) (L' := [some (.ref a0), some (jy a1), some (jy a2), some (jy a3), some (jy 0), some (jy 0)]) rfl ?_
    exact jy_join hS h rfl (jy_sub_s (jy_sub_s (jy_sub_s (jy_sub_s (jy_sub_s (jy_sub_s jy_sub_0))))))
  refine ⟨?_, ?_⟩
  · intro l4 l5 I h
    unfold wz_21_6 at h
    refine jy_iload hS rfl rfl ?_
    refine jy_bipush hS rfl (by decide) ?_
    obtain ⟨g1, h⟩ := h
    refine jy_icmp_ge hS rfl ⟨g1, ⟨by decide, by decide⟩⟩ (fun hq => ?_) (fun hq => ?_)
    · have h := h.1 hq
      refine jy_iload hS rfl rfl ?_
      exact jy_iret hS rfl rfl ⟨rfl, rfl, h⟩
    · have h := h.2 hq
      refine jy_iload_n hS rfl rfl ?_
      refine jy_iload hS rfl rfl ?_
      refine jy_ishrX hS rfl rfl ?_
      refine jy_iconst hS rfl ?_
      refine jy_iandX hS rfl rfl ?_
      refine jy_if_eq hS rfl (jy_rng _) (fun hq => ?_) (fun hq => ?_)
      · have h := h.1 hq
        refine jy_iinc hS rfl rfl (L' := [some (.ref a0), some (jy a1), some (jy a2), some (jy a3), some (jy l4), some (jy (l5 + 1))]) rfl ?_
        refine jy_goto hS rfl ?_
        exact jy_join hS h rfl (jy_sub_s (jy_sub_s (jy_sub_s (jy_sub_s (jy_sub_s (jy_sub_s jy_sub_0))))))
      · have h := h.2 hq
        refine jy_iload hS rfl rfl ?_
        refine jy_iconst hS rfl ?_
        refine jy_iload_n hS rfl rfl ?_
        refine jy_aload_n hS rfl rfl ?_
        refine jy_iload_n hS rfl rfl ?_
        refine jy_iload hS rfl rfl ?_
        obtain ⟨g2, h⟩ := h
        obtain ⟨Q3, h⟩ := h
        obtain ⟨g4, h⟩ := h
        refine jy_callV hS rfl rfl rfl (Nat.le_of_ble_eq_true rfl) (Or.inl g2) g4 (by decide) ⟨by decide, by decide⟩ (Nat.le_of_ble_eq_true rfl) ?_ ?_
        rotate_left
        · exact fun Ex Xx Ix Rx hp => hp.2.2.2.elim
        intro rv Xx I5 Rx hp
        obtain ⟨e1, e2, hp⟩ := hp
        rw [e1, e2]
        clear e1 e2
        obtain ⟨r6, e1, h⟩ := h rv I5 hp
        rw [e1]
        clear e1
        change J 33 [jy r6, jy a3, jy 0, jy l4] _ (0, 0) _ _ _
        refine jy_isub hS rfl ?_
        obtain ⟨Q7, h⟩ := h
        obtain ⟨g8, h⟩ := h
        refine jy_callS hS rfl rfl rfl (Nat.le_of_ble_eq_true rfl) g8 (by decide) ⟨by decide, by decide⟩ (Nat.le_of_ble_eq_true rfl) ?_ ?_
        rotate_left
        · exact fun Ex Xx Ix Rx hp => hp.2.2.2.elim
        intro rv Xx I9 Rx hp
        obtain ⟨e1, e2, hp⟩ := hp
        rw [e1, e2]
        clear e1 e2
        obtain ⟨r10, e1, h⟩ := h rv I9 hp
        rw [e1]
        clear e1
        change J 37 [jy r10, jy l4] _ (0, 0) _ _ _
        refine jy_iadd hS rfl ?_
        refine jy_istore hS rfl (Nat.le_of_ble_eq_true rfl) (L' := [some (.ref a0), some (jy a1), some (jy a2), some (jy a3), some (jy (l4 + r10)), some (jy l5)]) rfl ?_
        exact jy_join hS h rfl (jy_sub_s (jy_sub_s (jy_sub_s (jy_sub_s (jy_sub_s (jy_sub_s jy_sub_0))))))
  · intro l4 l5 I h
    unfold wz_21_40 at h
    refine jy_iinc hS rfl rfl (L' := [some (.ref a0), some (jy a1), some (jy a2), some (jy a3), some (jy l4), some (jy (l5 + 1))]) rfl ?_
    refine jy_goto hS rfl ?_
    exact jy_join hS h rfl (jy_sub_s (jy_sub_s (jy_sub_s (jy_sub_s (jy_sub_s (jy_sub_s jy_sub_0))))))
theorem jt_23 : jx_ml 23 = 3 ∧ jx_rt 23 = some .boolean ∧ jx_hz 23 = [] ∧ decide ((jx_nm 23).name = "<init>") = false ∧ jx_code 23 = jx_c23 := by decide +kernel
/-- GC$Land.readFrom, from 6 -/
def wz_23_6 (V : jx_V) (X : jx_X) (R : jx_R) (Q : Option Value → jx_I → Prop) (QE : String → jx_I → Prop) (J6 : Int → jx_I → Prop) (a0 : Nat) (a1 : Nat) (l2 : Int) (I : jx_I) : Prop :=
  (-2147483648 ≤ l2 ∧ l2 < 2147483648) ∧ (
  (60 < l2 → (
    Q (some (jy 1)) I
  )) ∧ (¬ 60 < l2 → (
    (X.2.1 a1 = some (8, 0)) ∧ (
    ∃ Q8 : Option Value → jx_I → Prop, (
    (jc V 1 110 (0, 0) [.ref a1] X I R Q8 (fun _ _ => False)) ∧ (
    ∀ rv I10, Q8 rv I10 → ∃ r11 : Int, rv = some (jy r11) ∧ (
    (-2147483648 ≤ r11 ∧ r11 < 2147483648) ∧ (
    (r11 ≠ 0 → (
      Q (some (jy 1)) I10
    )) ∧ (r11 = 0 → (
      (X.2.1 a0 = some (2, 0)) ∧ (
      ∃ Q14 : Option Value → jx_I → Prop, (
      (jc V 201 25 (0, 0) [.ref a0, .ref a1, jy l2] X I10 R Q14 (fun _ _ => False)) ∧ (
      ∀ rv I16, Q14 rv I16 → ∃ r17 : Int, rv = some (jy r17) ∧ (
      (-2147483648 ≤ r17 ∧ r17 < 2147483648) ∧ (
      (r17 = 0 → (
        Q (some (jy 0)) I16
      )) ∧ (¬ r17 = 0 → (
        ∃ Q19 : Option Value → jx_I → Prop, (
        (jc V 3 113 (0, 0) [.ref a1, jy 59] X I16 R Q19 (fun _ _ => False)) ∧ (
        ∀ rv I21, Q19 rv I21 → ∃ r22 : Int, rv = some (jy r22) ∧ (
        (-2147483648 ≤ r22 ∧ r22 < 2147483648) ∧ (
        (r22 ≠ 0 → (
          J6 (l2 + 1) I21
        )) ∧ (r22 = 0 → (
          Q (some (jy 0)) I21
        ))))))
      )))))))
    )))))))
  )))
/-- GC$Land.readFrom -/
def wz_23 (V : jx_V) (X : jx_X) (R : jx_R) (Q : Option Value → jx_I → Prop) (QE : String → jx_I → Prop) (J6 : Int → jx_I → Prop) (a0 : Nat) (a1 : Nat) (I : jx_I) : Prop :=
  (X.2.1 a0 = some (2, 0)) ∧ (
  ∃ Q2 : Option Value → jx_I → Prop, (
  (jc V 3 24 (0, 0) [.ref a0] X I R Q2 (fun _ _ => False)) ∧ (
  ∀ rv I4, Q2 rv I4 → rv = none ∧ (
  J6 0 I4))))
set_option maxRecDepth 20000 in
theorem wm_23 {V : jx_V} (hV : V.1.stackTraces = false) {X : jx_X} {R : jx_R} {I : jx_I} {Q : Option Value → jx_I → Prop} {QE : String → jx_I → Prop} {a0 : Nat} {a1 : Nat}  
    (h : ∀ (J6 : Int → jx_I → Prop), ((∀ (l2 : Int) I, wz_23_6 V X R Q QE J6 a0 a1 l2 I → J6 l2 I)) → wz_23 V X R Q QE J6 a0 a1 I) : jc V 202 23 (0, 0) [.ref a0, .ref a1] X I R Q QE := by
  refine jy_met hV (by decide) (n := 3) (rt := some .boolean) (hh := []) (ini := false) (C := jx_c23) (L := [some (.ref a0), some (.ref a1), none]) jt_23 (Nat.le_of_ble_eq_true rfl) rfl ?_
  intro J hS
  have h := h (fun l2 I => J 6 [] [some (.ref a0), some (.ref a1), some (jy l2)] (0, 0) X I R) ?_
  · unfold wz_23 at h
    refine jy_aload_n hS rfl rfl ?_
    obtain ⟨g1, h⟩ := h
    obtain ⟨Q2, h⟩ := h
    obtain ⟨g3, h⟩ := h
    refine jy_callV hS rfl rfl rfl (Nat.le_of_ble_eq_true rfl) (Or.inl g1) g3 (by decide) ⟨by decide, by decide⟩ (Nat.le_of_ble_eq_true rfl) ?_ ?_
    rotate_left
    · exact fun Ex Xx Ix Rx hp => hp.2.2.2.elim
    intro rv Xx I4 Rx hp
    obtain ⟨e1, e2, hp⟩ := hp
    rw [e1, e2]
    clear e1 e2
    obtain ⟨e1, h⟩ := h rv I4 hp
    rw [e1]
    clear e1
    change J 4 [] _ (0, 0) _ _ _
    refine jy_iconst hS rfl ?_
    refine jy_istore_n hS rfl (Nat.le_of_ble_eq_true rfl) (L' := [some (.ref a0), some (.ref a1), some (jy 0)]) rfl ?_
    exact jy_join hS h rfl (jy_sub_s (jy_sub_s (jy_sub_s jy_sub_0)))
  · intro l2 I h
    unfold wz_23_6 at h
    refine jy_iload_n hS rfl rfl ?_
    refine jy_bipush hS rfl (by decide) ?_
    obtain ⟨g6, h⟩ := h
    refine jy_icmp_gt hS rfl ⟨g6, ⟨by decide, by decide⟩⟩ (fun hq => ?_) (fun hq => ?_)
    · have h := h.1 hq
      refine jy_iconst hS rfl ?_
      exact jy_iret hS rfl rfl ⟨rfl, rfl, h⟩
    · have h := h.2 hq
      refine jy_aload_n hS rfl rfl ?_
      obtain ⟨g7, h⟩ := h
      obtain ⟨Q8, h⟩ := h
      obtain ⟨g9, h⟩ := h
      refine jy_callV hS rfl rfl rfl (Nat.le_of_ble_eq_true rfl) (Or.inl g7) g9 (by decide) ⟨by decide, by decide⟩ (Nat.le_of_ble_eq_true rfl) ?_ ?_
      rotate_left
      · exact fun Ex Xx Ix Rx hp => hp.2.2.2.elim
      intro rv Xx I10 Rx hp
      obtain ⟨e1, e2, hp⟩ := hp
      rw [e1, e2]
      clear e1 e2
      obtain ⟨r11, e1, h⟩ := h rv I10 hp
      rw [e1]
      clear e1
      change J 16 [jy r11] _ (0, 0) _ _ _
      obtain ⟨g12, h⟩ := h
      refine jy_if_ne hS rfl g12 (fun hq => ?_) (fun hq => ?_)
      · have h := h.1 hq
        refine jy_iconst hS rfl ?_
        exact jy_iret hS rfl rfl ⟨rfl, rfl, h⟩
      · have h := h.2 hq
        refine jy_aload_n hS rfl rfl ?_
        refine jy_aload_n hS rfl rfl ?_
        refine jy_iload_n hS rfl rfl ?_
        obtain ⟨g13, h⟩ := h
        obtain ⟨Q14, h⟩ := h
        obtain ⟨g15, h⟩ := h
        refine jy_callV hS rfl rfl rfl (Nat.le_of_ble_eq_true rfl) (Or.inl g13) g15 (by decide) ⟨by decide, by decide⟩ (Nat.le_of_ble_eq_true rfl) ?_ ?_
        rotate_left
        · exact fun Ex Xx Ix Rx hp => hp.2.2.2.elim
        intro rv Xx I16 Rx hp
        obtain ⟨e1, e2, hp⟩ := hp
        rw [e1, e2]
        clear e1 e2
        obtain ⟨r17, e1, h⟩ := h rv I16 hp
        rw [e1]
        clear e1
        change J 25 [jy r17] _ (0, 0) _ _ _
        obtain ⟨g18, h⟩ := h
        refine jy_if_eq hS rfl g18 (fun hq => ?_) (fun hq => ?_)
        · have h := h.1 hq
          refine jy_iconst hS rfl ?_
          exact jy_iret hS rfl rfl ⟨rfl, rfl, h⟩
        · have h := h.2 hq
          refine jy_aload_n hS rfl rfl ?_
          refine jy_bipush hS rfl (by decide) ?_
          obtain ⟨Q19, h⟩ := h
          obtain ⟨g20, h⟩ := h
          refine jy_callV hS rfl rfl rfl (Nat.le_of_ble_eq_true rfl) (Or.inl g7) g20 (by decide) ⟨by decide, by decide⟩ (Nat.le_of_ble_eq_true rfl) ?_ ?_
          rotate_left
          · exact fun Ex Xx Ix Rx hp => hp.2.2.2.elim
          intro rv Xx I21 Rx hp
          obtain ⟨e1, e2, hp⟩ := hp
          rw [e1, e2]
          clear e1 e2
          obtain ⟨r22, e1, h⟩ := h rv I21 hp
          rw [e1]
          clear e1
          change J 34 [jy r22] _ (0, 0) _ _ _
          obtain ⟨g23, h⟩ := h
          refine jy_if_ne hS rfl g23 (fun hq => ?_) (fun hq => ?_)
          · have h := h.1 hq
            refine jy_iinc hS rfl rfl (L' := [some (.ref a0), some (.ref a1), some (jy (l2 + 1))]) rfl ?_
            refine jy_goto hS rfl ?_
            exact jy_join hS h rfl (jy_sub_s (jy_sub_s (jy_sub_s jy_sub_0)))
          · have h := h.2 hq
            refine jy_iconst hS rfl ?_
            exact jy_iret hS rfl rfl ⟨rfl, rfl, h⟩
theorem jt_24 : jx_ml 24 = 2 ∧ jx_rt 24 = none ∧ jx_hz 24 = [] ∧ decide ((jx_nm 24).name = "<init>") = false ∧ jx_code 24 = jx_c24 := by decide +kernel
/-- GC$Land.forget, from 19 -/
def wz_24_19 (V : jx_V) (X : jx_X) (R : jx_R) (Q : Option Value → jx_I → Prop) (QE : String → jx_I → Prop) (J19 : Int → jx_I → Prop) (J43 : Int → jx_I → Prop) (J64 : Int → jx_I → Prop) (a0 : Nat) (l1 : Int) (I : jx_I) : Prop :=
  (X.2.1 a0 = some (2, 0)) ∧ (
  ∃ q12 : Nat, (
  (R a0 1 = some q12) ∧ (
  ∃ n14 : Nat, (
  (X.2.1 q12 = some (100, n14) ∧ n14 < 2147483648) ∧ (
  (-2147483648 ≤ l1 ∧ l1 < 2147483648) ∧ (
  ((n14 : Int) ≤ l1 → (
    J43 0 I
  )) ∧ (¬ (n14 : Int) ≤ l1 → (
    (0 ≤ l1 ∧ l1 < n14) ∧ (
    ∀ I18 : jx_I, I18 = jx_u I q12 l1.toNat (Int32.ofInt 0) → (
    J19 (l1 + 1) I18))
  ))))))))
/-- GC$Land.forget, from 43 -/
def wz_24_43 (V : jx_V) (X : jx_X) (R : jx_R) (Q : Option Value → jx_I → Prop) (QE : String → jx_I → Prop) (J19 : Int → jx_I → Prop) (J43 : Int → jx_I → Prop) (J64 : Int → jx_I → Prop) (a0 : Nat) (l1 : Int) (I : jx_I) : Prop :=
  (-2147483648 ≤ l1 ∧ l1 < 2147483648) ∧ (
  (80 ≤ l1 → (
    J64 0 I
  )) ∧ (¬ 80 ≤ l1 → (
    (X.2.1 a0 = some (2, 0)) ∧ (
    ∃ q21 : Nat, (
    (R a0 5 = some q21) ∧ (
    ∃ n23 : Nat, (
    (X.2.1 q21 = some (100, n23) ∧ n23 < 2147483648) ∧ (
    (0 ≤ l1 ∧ l1 < n23) ∧ (
    ∀ I26 : jx_I, I26 = jx_u I q21 l1.toNat (Int32.ofInt 0) → (
    J43 (l1 + 1) I26)))))))
  )))
/-- GC$Land.forget, from 64 -/
def wz_24_64 (V : jx_V) (X : jx_X) (R : jx_R) (Q : Option Value → jx_I → Prop) (QE : String → jx_I → Prop) (J19 : Int → jx_I → Prop) (J43 : Int → jx_I → Prop) (J64 : Int → jx_I → Prop) (a0 : Nat) (l1 : Int) (I : jx_I) : Prop :=
  (-2147483648 ≤ l1 ∧ l1 < 2147483648) ∧ (
  (8 ≤ l1 → (
    Q none I
  )) ∧ (¬ 8 ≤ l1 → (
    (X.2.1 a0 = some (2, 0)) ∧ (
    ∃ q29 : Nat, (
    (R a0 3 = some q29) ∧ (
    ∃ n31 : Nat, (
    (X.2.1 q29 = some (100, n31) ∧ n31 < 2147483648) ∧ (
    (0 ≤ l1 ∧ l1 < n31) ∧ (
    ∀ I34 : jx_I, I34 = jx_u I q29 l1.toNat (Int32.ofInt (-1)) → (
    ∃ q35 : Nat, (
    (R a0 4 = some q35) ∧ (
    ∃ n37 : Nat, (
    (X.2.1 q35 = some (100, n37) ∧ n37 < 2147483648) ∧ (
    (0 ≤ l1 ∧ l1 < n37) ∧ (
    ∀ I40 : jx_I, I40 = jx_u I34 q35 l1.toNat (Int32.ofInt 0) → (
    J64 (l1 + 1) I40)))))))))))))
  )))
/-- GC$Land.forget -/
def wz_24 (V : jx_V) (X : jx_X) (R : jx_R) (Q : Option Value → jx_I → Prop) (QE : String → jx_I → Prop) (J19 : Int → jx_I → Prop) (J43 : Int → jx_I → Prop) (J64 : Int → jx_I → Prop) (a0 : Nat) (I : jx_I) : Prop :=
  (X.2.1 a0 = some (2, 0)) ∧ (
  ∀ I2 : jx_I, I2 = jx_u I a0 7 (Int32.ofInt 0) → (
  ∀ I3 : jx_I, I3 = jx_u I2 a0 8 (Int32.ofInt 0) → (
  ∃ q4 : Nat, (
  (R a0 6 = some q4) ∧ (
  (X.2.1 q4 = some (3, 0)) ∧ (
  ∃ Q7 : Option Value → jx_I → Prop, (
  (jc V 2 44 (0, 0) [.ref q4] X I3 R Q7 (fun _ _ => False)) ∧ (
  ∀ rv I9, Q7 rv I9 → rv = none ∧ (
  J19 0 I9)))))))))
set_option maxRecDepth 20000 in
theorem wm_24 {V : jx_V} (hV : V.1.stackTraces = false) {X : jx_X} {R : jx_R} {I : jx_I} {Q : Option Value → jx_I → Prop} {QE : String → jx_I → Prop} {a0 : Nat}  
    (h : ∀ (J19 : Int → jx_I → Prop) (J43 : Int → jx_I → Prop) (J64 : Int → jx_I → Prop), ((∀ (l1 : Int) I, wz_24_19 V X R Q QE J19 J43 J64 a0 l1 I → J19 l1 I) ∧ (∀ (l1 : Int) I, wz_24_43 V X R Q QE J19 J43 J64 a0 l1 I → J43 l1 I) ∧ (∀ (l1 : Int) I, wz_24_64 V X R Q QE J19 J43 J64 a0 l1 I → J64 l1 I)) → wz_24 V X R Q QE J19 J43 J64 a0 I) : jc V 3 24 (0, 0) [.ref a0] X I R Q QE := by
  refine jy_met hV (by decide) (n := 2) (rt := none) (hh := []) (ini := false) (C := jx_c24) (L := [some (.ref a0), none]) jt_24 (Nat.le_of_ble_eq_true rfl) rfl ?_
  intro J hS
  have h := h (fun l1 I => J 19 [] [some (.ref a0), some (jy l1)] (0, 0) X I R) (fun l1 I => J 43 [] [some (.ref a0), some (jy l1)] (0, 0) X I R) (fun l1 I => J 64 [] [some (.ref a0), some (jy l1)] (0, 0) X I R) ?_
  · unfold wz_24 at h
    refine jy_aload_n hS rfl rfl ?_
    refine jy_iconst hS rfl ?_
    obtain ⟨g1, h⟩ := h
    refine jy_putI hS rfl (by decide) g1 ?_
    intro I2 e9
    have h := h I2 e9
    clear e9
    refine jy_aload_n hS rfl rfl ?_
    refine jy_iconst hS rfl ?_
    refine jy_putI hS rfl (by decide) g1 ?_
    intro I3 e9
    have h := h I3 e9
    clear e9
    refine jy_aload_n hS rfl rfl ?_
    obtain ⟨q4, h⟩ := h
    obtain ⟨g5, h⟩ := h
    refine jy_getR hS rfl (by decide) g1 g5 ?_
    obtain ⟨g6, h⟩ := h
    obtain ⟨Q7, h⟩ := h
    obtain ⟨g8, h⟩ := h
    refine jy_callV hS rfl rfl rfl (Nat.le_of_ble_eq_true rfl) (Or.inl g6) g8 (by decide) ⟨by decide, by decide⟩ (Nat.le_of_ble_eq_true rfl) ?_ ?_
    rotate_left
    · exact fun Ex Xx Ix Rx hp => hp.2.2.2.elim
    intro rv Xx I9 Rx hp
    obtain ⟨e1, e2, hp⟩ := hp
    rw [e1, e2]
    clear e1 e2
    obtain ⟨e1, h⟩ := h rv I9 hp
    rw [e1]
    clear e1
    change J 17 [] _ (0, 0) _ _ _
    refine jy_iconst hS rfl ?_
    refine jy_istore_n hS rfl (Nat.le_of_ble_eq_true rfl) (L' := [some (.ref a0), some (jy 0)]) rfl ?_
    exact jy_join hS h rfl (jy_sub_s (jy_sub_s jy_sub_0))
  refine ⟨?_, ?_, ?_⟩
  · intro l1 I h
    unfold wz_24_19 at h
    refine jy_iload_n hS rfl rfl ?_
    refine jy_aload_n hS rfl rfl ?_
    obtain ⟨g11, h⟩ := h
    obtain ⟨q12, h⟩ := h
    obtain ⟨g13, h⟩ := h
    refine jy_getR hS rfl (by decide) g11 g13 ?_
    obtain ⟨n14, h⟩ := h
    obtain ⟨g15, h⟩ := h
    refine jy_alen hS rfl g15.1 (by decide) g15.2 ?_
    obtain ⟨g16, h⟩ := h
    refine jy_icmp_ge hS rfl ⟨g16, (by omega)⟩ (fun hq => ?_) (fun hq => ?_)
    · have h := h.1 hq
      refine jy_iconst hS rfl ?_
      refine jy_istore_n hS rfl (Nat.le_of_ble_eq_true rfl) (L' := [some (.ref a0), some (jy 0)]) rfl ?_
      exact jy_join hS h rfl (jy_sub_s (jy_sub_s jy_sub_0))
    · have h := h.2 hq
      refine jy_aload_n hS rfl rfl ?_
      refine jy_getR hS rfl (by decide) g11 g13 ?_
      refine jy_iload_n hS rfl rfl ?_
      refine jy_iconst hS rfl ?_
      obtain ⟨g17, h⟩ := h
      refine jy_iast hS rfl g15.1 (Nat.le_of_lt g15.2) g17 ?_
      intro I18 e9
      have h := h I18 e9
      clear e9
      refine jy_iinc hS rfl rfl (L' := [some (.ref a0), some (jy (l1 + 1))]) rfl ?_
      refine jy_goto hS rfl ?_
      exact jy_join hS h rfl (jy_sub_s (jy_sub_s jy_sub_0))
  · intro l1 I h
    unfold wz_24_43 at h
    refine jy_iload_n hS rfl rfl ?_
    refine jy_bipush hS rfl (by decide) ?_
    obtain ⟨g19, h⟩ := h
    refine jy_icmp_ge hS rfl ⟨g19, ⟨by decide, by decide⟩⟩ (fun hq => ?_) (fun hq => ?_)
    · have h := h.1 hq
      refine jy_iconst hS rfl ?_
      refine jy_istore_n hS rfl (Nat.le_of_ble_eq_true rfl) (L' := [some (.ref a0), some (jy 0)]) rfl ?_
      exact jy_join hS h rfl (jy_sub_s (jy_sub_s jy_sub_0))
    · have h := h.2 hq
      refine jy_aload_n hS rfl rfl ?_
      obtain ⟨g20, h⟩ := h
      obtain ⟨q21, h⟩ := h
      obtain ⟨g22, h⟩ := h
      refine jy_getR hS rfl (by decide) g20 g22 ?_
      refine jy_iload_n hS rfl rfl ?_
      refine jy_iconst hS rfl ?_
      obtain ⟨n23, h⟩ := h
      obtain ⟨g24, h⟩ := h
      obtain ⟨g25, h⟩ := h
      refine jy_iast hS rfl g24.1 (Nat.le_of_lt g24.2) g25 ?_
      intro I26 e9
      have h := h I26 e9
      clear e9
      refine jy_iinc hS rfl rfl (L' := [some (.ref a0), some (jy (l1 + 1))]) rfl ?_
      refine jy_goto hS rfl ?_
      exact jy_join hS h rfl (jy_sub_s (jy_sub_s jy_sub_0))
  · intro l1 I h
    unfold wz_24_64 at h
    refine jy_iload_n hS rfl rfl ?_
    refine jy_bipush hS rfl (by decide) ?_
    obtain ⟨g27, h⟩ := h
    refine jy_icmp_ge hS rfl ⟨g27, ⟨by decide, by decide⟩⟩ (fun hq => ?_) (fun hq => ?_)
    · have h := h.1 hq
      exact jy_ret hS rfl rfl ⟨rfl, rfl, h⟩
    · have h := h.2 hq
      refine jy_aload_n hS rfl rfl ?_
      obtain ⟨g28, h⟩ := h
      obtain ⟨q29, h⟩ := h
      obtain ⟨g30, h⟩ := h
      refine jy_getR hS rfl (by decide) g28 g30 ?_
      refine jy_iload_n hS rfl rfl ?_
      refine jy_iconst hS rfl ?_
      obtain ⟨n31, h⟩ := h
      obtain ⟨g32, h⟩ := h
      obtain ⟨g33, h⟩ := h
      refine jy_iast hS rfl g32.1 (Nat.le_of_lt g32.2) g33 ?_
      intro I34 e9
      have h := h I34 e9
      clear e9
      refine jy_aload_n hS rfl rfl ?_
      obtain ⟨q35, h⟩ := h
      obtain ⟨g36, h⟩ := h
      refine jy_getR hS rfl (by decide) g28 g36 ?_
      refine jy_iload_n hS rfl rfl ?_
      refine jy_iconst hS rfl ?_
      obtain ⟨n37, h⟩ := h
      obtain ⟨g38, h⟩ := h
      obtain ⟨g39, h⟩ := h
      refine jy_iast hS rfl g38.1 (Nat.le_of_lt g38.2) g39 ?_
      intro I40 e9
      have h := h I40 e9
      clear e9
      refine jy_iinc hS rfl rfl (L' := [some (.ref a0), some (jy (l1 + 1))]) rfl ?_
      refine jy_goto hS rfl ?_
      exact jy_join hS h rfl (jy_sub_s (jy_sub_s jy_sub_0))
