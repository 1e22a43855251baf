theorem jt_223 : jx_ml 223 = 3 ∧ jx_rt 223 = none ∧ jx_hz 223 = [] ∧ decide ((jx_nm 223).name = "<init>") = false ∧ jx_code 223 = jx_c223 := by decide +kernel
/-- GCModel.newCamel, from 36 -/
def wz_223_36 (V : jx_V) (X : jx_X) (R : jx_R) (Q : Option Value → jx_I → Prop) (QE : String → jx_I → Prop) (J36 : Int → Int → jx_I → Prop) (a0 : Nat) (l1 : Int) (l2 : Int) (I : jx_I) : Prop :=
  (-2147483648 ≤ l2 ∧ l2 < 2147483648) ∧ (
  (10 ≤ l2 → (
    (X.2.1 a0 = some (12, 0)) ∧ (
    ∃ q31 : Nat, (
    (R a0 10 = some q31) ∧ (
    ∃ n33 : Nat, (
    (X.2.1 q31 = some (100, n33) ∧ n33 < 2147483648) ∧ (
    (0 ≤ (1 : Int) ∧ (1 : Int) < n33) ∧ (
    ((I a0 5).toInt ≠ 0 → (
      (0 ≤ (1 : Int) ∧ (1 : Int) < n33) ∧ (
      ∀ I37 : jx_I, I37 = jx_u I q31 (1 : Int).toNat (Int32.ofInt ((I q31 (1 : Int).toNat).toInt + 0)) → (
      Q none I37))
    )) ∧ ((I a0 5).toInt = 0 → (
      (0 ≤ (1 : Int) ∧ (1 : Int) < n33) ∧ (
      ∀ I39 : jx_I, I39 = jx_u I q31 (1 : Int).toNat (Int32.ofInt ((I q31 (1 : Int).toNat).toInt + 1)) → (
      Q none I39))
    ))))))))
  )) ∧ (¬ 10 ≤ l2 → (
    (X.2.1 a0 = some (12, 0)) ∧ (
    ∃ q41 : Nat, (
    (R a0 22 = some q41) ∧ (
    ∃ n43 : Nat, (
    (X.2.1 q41 = some (104, n43) ∧ n43 < 2147483648) ∧ (
    (0 ≤ l1 ∧ l1 < n43) ∧ (
    ∃ q46 : Nat, (
    (R q41 l1.toNat = some q46) ∧ (
    ∃ n48 : Nat, (
    (X.2.1 q46 = some (100, n48) ∧ n48 < 2147483648) ∧ (
    (0 ≤ l2 ∧ l2 < n48) ∧ (
    ∀ I51 : jx_I, I51 = jx_u I q46 l2.toNat (Int32.ofInt 0) → (
    J36 l1 (l2 + 1) I51))))))))))))
  )))
/-- GCModel.newCamel -/
def wz_223 (V : jx_V) (X : jx_X) (R : jx_R) (Q : Option Value → jx_I → Prop) (QE : String → jx_I → Prop) (J36 : Int → Int → jx_I → Prop) (a0 : Nat) (I : jx_I) : Prop :=
  (X.2.1 a0 = some (12, 0)) ∧ (
  ∃ q2 : Nat, (
  (R a0 10 = some q2) ∧ (
  ∃ n4 : Nat, (
  (X.2.1 q2 = some (100, n4) ∧ n4 < 2147483648) ∧ (
  (0 ≤ (1 : Int) ∧ (1 : Int) < n4) ∧ (
  ∃ q7 : Nat, (
  (R a0 14 = some q7) ∧ (
  ∃ Q9 : Option Value → jx_I → Prop, (
  (jc V 3 210 (0, 0) [.ref a0, jy 0, jy 99] X I R Q9 (fun _ _ => False)) ∧ (
  ∀ rv I11, Q9 rv I11 → ∃ r12 : Int, rv = some (jy r12) ∧ (
  ∃ n13 : Nat, (
  (X.2.1 q7 = some (100, n13) ∧ n13 < 2147483648) ∧ (
  (0 ≤ (I q2 (1 : Int).toNat).toInt ∧ (I q2 (1 : Int).toNat).toInt < n13) ∧ (
  ∀ I16 : jx_I, I16 = jx_u I11 q7 ((I q2 (1 : Int).toNat).toInt).toNat (Int32.ofInt r12) → (
  ∃ q17 : Nat, (
  (R a0 16 = some q17) ∧ (
  ∃ n19 : Nat, (
  (X.2.1 q17 = some (100, n19) ∧ n19 < 2147483648) ∧ (
  (0 ≤ (I q2 (1 : Int).toNat).toInt ∧ (I q2 (1 : Int).toNat).toInt < n19) ∧ (
  ∀ I22 : jx_I, I22 = jx_u I16 q17 ((I q2 (1 : Int).toNat).toInt).toNat (Int32.ofInt (-1)) → (
  ∃ q23 : Nat, (
  (R a0 18 = some q23) ∧ (
  ∃ n25 : Nat, (
  (X.2.1 q23 = some (100, n25) ∧ n25 < 2147483648) ∧ (
  (0 ≤ (I q2 (1 : Int).toNat).toInt ∧ (I q2 (1 : Int).toNat).toInt < n25) ∧ (
  ∀ I28 : jx_I, I28 = jx_u I22 q23 ((I q2 (1 : Int).toNat).toInt).toNat (Int32.ofInt 0) → (
  J36 ((I q2 (1 : Int).toNat).toInt) 0 I28)))))))))))))))))))))))))))
set_option maxRecDepth 20000 in
theorem wm_223 {V : jx_V} (hV : V.1.stackTraces = false) {X : jx_X} {R : jx_R} {I : jx_I} {Q : Option Value → jx_I → Prop} {QE : String → jx_I → Prop} {a0 : Nat}  
    (h : ∀ (J36 : Int → Int → jx_I → Prop), ((∀ (l1 : Int) (l2 : Int) I, wz_223_36 V X R Q QE J36 a0 l1 l2 I → J36 l1 l2 I)) → wz_223 V X R Q QE J36 a0 I) : jc V 4 223 (0, 0) [.ref a0] X I R Q QE := by
  refine jy_met hV (by decide) (n := 3) (rt := none) (hh := []) (ini := false) (C := jx_c223) (L := [some (.ref a0), none, none]) jt_223 (Nat.le_of_ble_eq_true rfl) rfl ?_
  intro J hS
  have h := h (fun l1 l2 I => J 36 [] [some (.ref a0), some (jy l1), some (jy l2)] (0, 0) X I R) ?_
  · unfold wz_223 at h
    refine jy_aload_n hS rfl rfl ?_
    obtain ⟨g1, h⟩ := h
    obtain ⟨q2, h⟩ := h
    obtain ⟨g3, h⟩ := h
    refine jy_getR hS rfl (by decide) g1 g3 ?_
    refine jy_iconst hS rfl ?_
    obtain ⟨n4, h⟩ := h
    obtain ⟨g5, h⟩ := h
    obtain ⟨g6, h⟩ := h
    refine jy_iald hS rfl g5.1 (Nat.le_of_lt g5.2) g6 ?_
    refine jy_istore_n hS rfl (Nat.le_of_ble_eq_true rfl) (L' := [some (.ref a0), some (jy ((I q2 (1 : Int).toNat).toInt)), none]) rfl ?_
    refine jy_aload_n hS rfl rfl ?_
    obtain ⟨q7, h⟩ := h
    obtain ⟨g8, h⟩ := h
    refine jy_getR hS rfl (by decide) g1 g8 ?_
    refine jy_iload_n hS rfl rfl ?_
    refine jy_aload_n hS rfl rfl ?_
    refine jy_iconst hS rfl ?_
    refine jy_bipush hS rfl (by decide) ?_
    obtain ⟨Q9, h⟩ := h
    obtain ⟨g10, h⟩ := h
    refine jy_callV hS rfl rfl rfl (Nat.le_of_ble_eq_true rfl) (Or.inl g1) g10 (by decide) ⟨by decide, by decide⟩ (Nat.le_of_ble_eq_true rfl) ?_ ?_
    rotate_left
    · exact fun Ex Xx Ix Rx hp => hp.2.2.2.elim
    intro rv Xx I11 Rx hp
    obtain ⟨e1, e2, hp⟩ := hp
    rw [e1, e2]
    clear e1 e2
    obtain ⟨r12, e1, h⟩ := h rv I11 hp
    rw [e1]
    clear e1
    change J 19 [jy r12, jy ((I q2 (1 : Int).toNat).toInt), .ref q7] _ (0, 0) _ _ _
    obtain ⟨n13, h⟩ := h
    obtain ⟨g14, h⟩ := h
    obtain ⟨g15, h⟩ := h
    refine jy_iast hS rfl g14.1 (Nat.le_of_lt g14.2) g15 ?_
    intro I16 e9
    have h := h I16 e9
    clear e9
    refine jy_aload_n hS rfl rfl ?_
    obtain ⟨q17, h⟩ := h
    obtain ⟨g18, h⟩ := h
    refine jy_getR hS rfl (by decide) g1 g18 ?_
    refine jy_iload_n hS rfl rfl ?_
    refine jy_iconst hS rfl ?_
    obtain ⟨n19, h⟩ := h
    obtain ⟨g20, h⟩ := h
    obtain ⟨g21, h⟩ := h
    refine jy_iast hS rfl g20.1 (Nat.le_of_lt g20.2) g21 ?_
    intro I22 e9
    have h := h I22 e9
    clear e9
    refine jy_aload_n hS rfl rfl ?_
    obtain ⟨q23, h⟩ := h
    obtain ⟨g24, h⟩ := h
    refine jy_getR hS rfl (by decide) g1 g24 ?_
    refine jy_iload_n hS rfl rfl ?_
    refine jy_iconst hS rfl ?_
    obtain ⟨n25, h⟩ := h
    obtain ⟨g26, h⟩ := h
    obtain ⟨g27, h⟩ := h
    refine jy_iast hS rfl g26.1 (Nat.le_of_lt g26.2) g27 ?_
    intro I28 e9
    have h := h I28 e9
    clear e9
    refine jy_iconst hS rfl ?_
    refine jy_istore_n hS rfl (Nat.le_of_ble_eq_true rfl) (L' := [some (.ref a0), some (jy ((I q2 (1 : Int).toNat).toInt)), some (jy 0)]) rfl ?_
    exact jy_join hS h rfl (jy_sub_s (jy_sub_s (jy_sub_s jy_sub_0)))
  · intro l1 l2 I h
    unfold wz_223_36 at h
    refine jy_iload_n hS rfl rfl ?_
    refine jy_bipush hS rfl (by decide) ?_
    obtain ⟨g29, h⟩ := h
    refine jy_icmp_ge hS rfl ⟨g29, ⟨by decide, by decide⟩⟩ (fun hq => ?_) (fun hq => ?_)
    · have h := h.1 hq
      refine jy_aload_n hS rfl rfl ?_
      obtain ⟨g30, h⟩ := h
      obtain ⟨q31, h⟩ := h
      obtain ⟨g32, h⟩ := h
      refine jy_getR hS rfl (by decide) g30 g32 ?_
      refine jy_iconst hS rfl ?_
      refine jy_dup2 hS rfl rfl rfl ?_
      obtain ⟨n33, h⟩ := h
      obtain ⟨g34, h⟩ := h
      obtain ⟨g35, h⟩ := h
      refine jy_iald hS rfl g34.1 (Nat.le_of_lt g34.2) g35 ?_
      refine jy_aload_n hS rfl rfl ?_
      refine jy_getI hS rfl (by decide) g30 ?_
      refine jy_if_ne hS rfl (jy_rng _) (fun hq => ?_) (fun hq => ?_)
      · have h := h.1 hq
        refine jy_iconst hS rfl ?_
        refine jy_iadd hS rfl ?_
        obtain ⟨g36, h⟩ := h
        refine jy_iast hS rfl g34.1 (Nat.le_of_lt g34.2) g36 ?_
        intro I37 e9
        have h := h I37 e9
        clear e9
        exact jy_ret hS rfl rfl ⟨rfl, rfl, h⟩
      · have h := h.2 hq
        refine jy_iconst hS rfl ?_
        refine jy_goto hS rfl ?_
        refine jy_iadd hS rfl ?_
        obtain ⟨g38, h⟩ := h
        refine jy_iast hS rfl g34.1 (Nat.le_of_lt g34.2) g38 ?_
        intro I39 e9
        have h := h I39 e9
        clear e9
        exact jy_ret hS rfl rfl ⟨rfl, rfl, h⟩
    · have h := h.2 hq
      refine jy_aload_n hS rfl rfl ?_
      obtain ⟨g40, h⟩ := h
      obtain ⟨q41, h⟩ := h
      obtain ⟨g42, h⟩ := h
      refine jy_getR hS rfl (by decide) g40 g42 ?_
      refine jy_iload_n hS rfl rfl ?_
      obtain ⟨n43, h⟩ := h
      obtain ⟨g44, h⟩ := h
      obtain ⟨g45, h⟩ := h
      obtain ⟨q46, h⟩ := h
      obtain ⟨g47, h⟩ := h
      refine jy_aald hS rfl g44.1 (by decide) (Nat.le_of_lt g44.2) g45 g47 ?_
      refine jy_iload_n hS rfl rfl ?_
      refine jy_iconst hS rfl ?_
      obtain ⟨n48, h⟩ := h
      obtain ⟨g49, h⟩ := h
      obtain ⟨g50, h⟩ := h
      refine jy_iast hS rfl g49.1 (Nat.le_of_lt g49.2) g50 ?_
      intro I51 e9
      have h := h I51 e9
      clear e9
      refine jy_iinc hS rfl rfl (L' := [some (.ref a0), some (jy l1), some (jy (l2 + 1))]) rfl ?_
      refine jy_goto hS rfl ?_
      exact jy_join hS h rfl (jy_sub_s (jy_sub_s (jy_sub_s jy_sub_0)))
theorem jt_224 : jx_ml 224 = 3 ∧ jx_rt 224 = none ∧ jx_hz 224 = [] ∧ decide ((jx_nm 224).name = "<init>") = false ∧ jx_code 224 = jx_c224 := by decide +kernel
/-- GCModel.says -/
def wz_224 (V : jx_V) (X : jx_X) (R : jx_R) (Q : Option Value → jx_I → Prop) (QE : String → jx_I → Prop)  (a0 : Nat) (a1 : Int) (a2 : Int) (I : jx_I) : Prop :=
  (X.2.1 a0 = some (12, 0)) ∧ (
  ((I a0 5).toInt = 0 → (
    ∃ q2 : Nat, (
    (R a0 27 = some q2) ∧ (
    ∃ n4 : Nat, (
    (X.2.1 q2 = some (104, n4) ∧ n4 < 2147483648) ∧ (
    (0 ≤ (I a0 24).toInt ∧ (I a0 24).toInt < n4) ∧ (
    ∃ q7 : Nat, (
    (R q2 ((I a0 24).toInt).toNat = some q7) ∧ (
    ∃ n9 : Nat, (
    (X.2.1 q7 = some (100, n9) ∧ n9 < 2147483648) ∧ (
    (0 ≤ (0 : Int) ∧ (0 : Int) < n9) ∧ (
    ∀ I12 : jx_I, I12 = jx_u I q7 (0 : Int).toNat (Int32.ofInt a1) → (
    (0 ≤ (I12 a0 24).toInt ∧ (I12 a0 24).toInt < n4) ∧ (
    ∃ q14 : Nat, (
    (R q2 ((I12 a0 24).toInt).toNat = some q14) ∧ (
    ∃ n16 : Nat, (
    (X.2.1 q14 = some (100, n16) ∧ n16 < 2147483648) ∧ (
    (0 ≤ (1 : Int) ∧ (1 : Int) < n16) ∧ (
    ∀ I19 : jx_I, I19 = jx_u I12 q14 (1 : Int).toNat (Int32.ofInt a2) → (
    ∀ I20 : jx_I, I20 = jx_u I19 a0 24 (Int32.ofInt ((I19 a0 24).toInt + 1)) → (
    Q none I20)))))))))))))))))))
  )) ∧ (¬ (I a0 5).toInt = 0 → (
    Q none I
  )))
set_option maxRecDepth 20000 in
theorem wm_224 {V : jx_V} (hV : V.1.stackTraces = false) {X : jx_X} {R : jx_R} {I : jx_I} {Q : Option Value → jx_I → Prop} {QE : String → jx_I → Prop} {a0 : Nat} {a1 : Int} {a2 : Int} (r_a1 : -2147483648 ≤ a1 ∧ a1 < 2147483648) (r_a2 : -2147483648 ≤ a2 ∧ a2 < 2147483648) 
    (h : wz_224 V X R Q QE  a0 a1 a2 I) : jc V 1 224 (0, 0) [.ref a0, jy a1, jy a2] X I R Q QE := by
  refine jy_met hV (by decide) (n := 3) (rt := none) (hh := []) (ini := false) (C := jx_c224) (L := [some (.ref a0), some (jy a1), some (jy a2)]) jt_224 (Nat.le_of_ble_eq_true rfl) rfl ?_
  intro J hS
  unfold wz_224 at h
  refine jy_aload_n hS rfl rfl ?_
  obtain ⟨g1, h⟩ := h
  refine jy_getI hS rfl (by decide) g1 ?_
  refine jy_if_eq hS rfl (jy_rng _) (fun hq => ?_) (fun hq => ?_)
  · have h := h.1 hq
    refine jy_aload_n hS rfl rfl ?_
    obtain ⟨q2, h⟩ := h
    obtain ⟨g3, h⟩ := h
    refine jy_getR hS rfl (by decide) g1 g3 ?_
    refine jy_aload_n hS rfl rfl ?_
    refine jy_getI hS rfl (by decide) g1 ?_
    obtain ⟨n4, h⟩ := h
    obtain ⟨g5, h⟩ := h
    obtain ⟨g6, h⟩ := h
    obtain ⟨q7, h⟩ := h
    obtain ⟨g8, h⟩ := h
    refine jy_aald hS rfl g5.1 (by decide) (Nat.le_of_lt g5.2) g6 g8 ?_
    refine jy_iconst hS rfl ?_
    refine jy_iload_n hS rfl rfl ?_
    obtain ⟨n9, h⟩ := h
    obtain ⟨g10, h⟩ := h
    obtain ⟨g11, h⟩ := h
    refine jy_iast hS rfl g10.1 (Nat.le_of_lt g10.2) g11 ?_
    intro I12 e9
    have h := h I12 e9
    clear e9
    refine jy_aload_n hS rfl rfl ?_
    refine jy_getR hS rfl (by decide) g1 g3 ?_
    refine jy_aload_n hS rfl rfl ?_
    refine jy_getI hS rfl (by decide) g1 ?_
    obtain ⟨g13, h⟩ := h
    obtain ⟨q14, h⟩ := h
    obtain ⟨g15, h⟩ := h
    refine jy_aald hS rfl g5.1 (by decide) (Nat.le_of_lt g5.2) g13 g15 ?_
    refine jy_iconst hS rfl ?_
    refine jy_iload_n hS rfl rfl ?_
    obtain ⟨n16, h⟩ := h
    obtain ⟨g17, h⟩ := h
    obtain ⟨g18, h⟩ := h
    refine jy_iast hS rfl g17.1 (Nat.le_of_lt g17.2) g18 ?_
    intro I19 e9
    have h := h I19 e9
    clear e9
    refine jy_aload_n hS rfl rfl ?_
    refine jy_dup hS rfl rfl ?_
    refine jy_getI hS rfl (by decide) g1 ?_
    refine jy_iconst hS rfl ?_
    refine jy_iadd hS rfl ?_
    refine jy_putI hS rfl (by decide) g1 ?_
    intro I20 e9
    have h := h I20 e9
    clear e9
    exact jy_ret hS rfl rfl ⟨rfl, rfl, h⟩
  · have h := h.2 hq
    exact jy_ret hS rfl rfl ⟨rfl, rfl, h⟩
theorem jt_225 : jx_ml 225 = 2 ∧ jx_rt 225 = none ∧ jx_hz 225 = [] ∧ decide ((jx_nm 225).name = "<init>") = false ∧ jx_code 225 = jx_c225 := by decide +kernel
/-- GCModel.sum, from 4 -/
def wz_225_4 (d : Nat) (V : jx_V) (X : jx_X) (R : jx_R) (Q : Option Value → jx_I → Prop) (QE : String → jx_I → Prop) (J4 : jx_I → Prop) (J38 : Int → jx_I → Prop) (a0 : Nat)  (I : jx_I) : Prop :=
  (X.2.1 a0 = some (12, 0)) ∧ (
  ((I a0 5).toInt ≠ 0 → (
    Q none I
  )) ∧ ((I a0 5).toInt = 0 → (
    (3 < d) ∧ (
    ∃ Q9 : Option Value → jx_I → Prop, (
    (jc V 3 218 (0, 0) [.ref a0, jy 43] X I R Q9 (fun _ _ => False)) ∧ (
    ∀ rv I12, Q9 rv I12 → ∃ r13 : Int, rv = some (jy r13) ∧ (
    (-2147483648 ≤ r13 ∧ r13 < 2147483648) ∧ (
    (r13 = 0 → (
      (3 < d) ∧ (
      ∃ Q15 : Option Value → jx_I → Prop, (
      (jc V 3 218 (0, 0) [.ref a0, jy 45] X I12 R Q15 (fun _ _ => False)) ∧ (
      ∀ rv I18, Q15 rv I18 → ∃ r19 : Int, rv = some (jy r19) ∧ (
      (-2147483648 ≤ r19 ∧ r19 < 2147483648) ∧ (
      (r19 = 0 → (
        J38 (-1) I18
      )) ∧ (¬ r19 = 0 → (
        J38 3 I18
      )))))))
    )) ∧ (¬ r13 = 0 → (
      J38 2 I12
    )))))))
  )))
/-- GCModel.sum, from 38 -/
def wz_225_38 (d : Nat) (V : jx_V) (X : jx_X) (R : jx_R) (Q : Option Value → jx_I → Prop) (QE : String → jx_I → Prop) (J4 : jx_I → Prop) (J38 : Int → jx_I → Prop) (a0 : Nat) (s0 : Int) (I : jx_I) : Prop :=
  (-2147483648 ≤ s0 ∧ s0 < 2147483648) ∧ (
  (s0 ≠ (-1) → (
    (X.2.1 a0 = some (12, 0)) ∧ (
    ∃ d24 : Nat, d24 < d ∧ (
    ∃ Q23 : Option Value → jx_I → Prop, (
    (jc V d24 226 (0, 0) [.ref a0] X I R Q23 (fun _ _ => False)) ∧ (
    ∀ rv I27, Q23 rv I27 → rv = none ∧ (
    (1 < d) ∧ (
    ∃ Q29 : Option Value → jx_I → Prop, (
    (jc V 1 224 (0, 0) [.ref a0, jy s0, jy 0] X I27 R Q29 (fun _ _ => False)) ∧ (
    ∀ rv I32, Q29 rv I32 → rv = none ∧ (
    J4 I32)))))))))
  )) ∧ (s0 = (-1) → (
    Q none I
  )))
/-- GCModel.sum -/
def wz_225 (d : Nat) (V : jx_V) (X : jx_X) (R : jx_R) (Q : Option Value → jx_I → Prop) (QE : String → jx_I → Prop) (J4 : jx_I → Prop) (J38 : Int → jx_I → Prop) (a0 : Nat) (I : jx_I) : Prop :=
  (X.2.1 a0 = some (12, 0)) ∧ (
  ∃ d3 : Nat, d3 < d ∧ (
  ∃ Q2 : Option Value → jx_I → Prop, (
  (jc V d3 226 (0, 0) [.ref a0] X I R Q2 (fun _ _ => False)) ∧ (
  ∀ rv I6, Q2 rv I6 → rv = none ∧ (
  J4 I6)))))
set_option maxRecDepth 20000 in
theorem wm_225 {V : jx_V} (hV : V.1.stackTraces = false) {d : Nat} {X : jx_X} {R : jx_R} {I : jx_I} {Q : Option Value → jx_I → Prop} {QE : String → jx_I → Prop} {a0 : Nat}  
    (h : ∀ (J4 : jx_I → Prop) (J38 : Int → jx_I → Prop), ((∀  I, wz_225_4 d V X R Q QE J4 J38 a0  I → J4  I) ∧ (∀ (s0 : Int) I, wz_225_38 d V X R Q QE J4 J38 a0 s0 I → J38 s0 I)) → wz_225 d V X R Q QE J4 J38 a0 I) : jc V d 225 (0, 0) [.ref a0] X I R Q QE := by
  refine jy_met hV (by decide) (n := 2) (rt := none) (hh := []) (ini := false) (C := jx_c225) (L := [some (.ref a0), none]) jt_225 (Nat.le_of_ble_eq_true rfl) rfl ?_
  intro J hS
  have h := h (fun  I => J 4 [] [some (.ref a0), none] (0, 0) X I R) (fun s0 I => J 38 [jy s0] [some (.ref a0), none] (0, 0) X I R) ?_
  · unfold wz_225 at h
    refine jy_aload_n hS rfl rfl ?_
    obtain ⟨g1, h⟩ := h
    obtain ⟨d3, g4, h⟩ := h
    obtain ⟨Q2, h⟩ := h
    obtain ⟨g5, h⟩ := h
    refine jy_callV hS rfl rfl rfl (Nat.le_of_ble_eq_true rfl) (Or.inl g1) g5 g4 ⟨by decide, by decide⟩ (Nat.le_of_ble_eq_true rfl) ?_ ?_
    rotate_left
    · exact fun Ex Xx Ix Rx hp => hp.2.2.2.elim
    intro rv Xx I6 Rx hp
    obtain ⟨e1, e2, hp⟩ := hp
    rw [e1, e2]
    clear e1 e2
    obtain ⟨e1, h⟩ := h rv I6 hp
    rw [e1]
    clear e1
    change J 4 [] _ (0, 0) _ _ _
    exact jy_join hS h rfl (jy_sub_s (jy_sub_n jy_sub_0))
  refine ⟨?_, ?_⟩
  · intro  I h
    unfold wz_225_4 at h
    refine jy_aload_n hS rfl rfl ?_
    obtain ⟨g8, h⟩ := h
    refine jy_getI hS rfl (by decide) g8 ?_
    refine jy_if_ne hS rfl (jy_rng _) (fun hq => ?_) (fun hq => ?_)
    · have h := h.1 hq
      exact jy_ret hS rfl rfl ⟨rfl, rfl, h⟩
    · have h := h.2 hq
      refine jy_aload_n hS rfl rfl ?_
      refine jy_bipush hS rfl (by decide) ?_
      obtain ⟨g10, h⟩ := h
      obtain ⟨Q9, h⟩ := h
      obtain ⟨g11, h⟩ := h
      refine jy_callV hS rfl rfl rfl (Nat.le_of_ble_eq_true rfl) (Or.inl g8) g11 g10 ⟨by decide, by decide⟩ (Nat.le_of_ble_eq_true rfl) ?_ ?_
      rotate_left
      · exact fun Ex Xx Ix Rx hp => hp.2.2.2.elim
      intro rv Xx I12 Rx hp
      obtain ⟨e1, e2, hp⟩ := hp
      rw [e1, e2]
      clear e1 e2
      obtain ⟨r13, e1, h⟩ := h rv I12 hp
      rw [e1]
      clear e1
      change J 17 [jy r13] _ (0, 0) _ _ _
      obtain ⟨g14, h⟩ := h
      refine jy_if_eq hS rfl g14 (fun hq => ?_) (fun hq => ?_)
      · have h := h.1 hq
        refine jy_aload_n hS rfl rfl ?_
        refine jy_bipush hS rfl (by decide) ?_
        obtain ⟨g16, h⟩ := h
        obtain ⟨Q15, h⟩ := h
        obtain ⟨g17, h⟩ := h
        refine jy_callV hS rfl rfl rfl (Nat.le_of_ble_eq_true rfl) (Or.inl g8) g17 g16 ⟨by decide, by decide⟩ (Nat.le_of_ble_eq_true rfl) ?_ ?_
        rotate_left
        · exact fun Ex Xx Ix Rx hp => hp.2.2.2.elim
        intro rv Xx I18 Rx hp
        obtain ⟨e1, e2, hp⟩ := hp
        rw [e1, e2]
        clear e1 e2
        obtain ⟨r19, e1, h⟩ := h rv I18 hp
        rw [e1]
        clear e1
        change J 30 [jy r19] _ (0, 0) _ _ _
        obtain ⟨g20, h⟩ := h
        refine jy_if_eq hS rfl g20 (fun hq => ?_) (fun hq => ?_)
        · have h := h.1 hq
          refine jy_iconst hS rfl ?_
          exact jy_join hS h rfl (jy_sub_s (jy_sub_n jy_sub_0))
        · have h := h.2 hq
          refine jy_iconst hS rfl ?_
          refine jy_goto hS rfl ?_
          exact jy_join hS h rfl (jy_sub_s (jy_sub_n jy_sub_0))
      · have h := h.2 hq
        refine jy_iconst hS rfl ?_
        refine jy_goto hS rfl ?_
        exact jy_join hS h rfl (jy_sub_s (jy_sub_n jy_sub_0))
  · intro s0 I h
    unfold wz_225_38 at h
    refine jy_istore_n hS rfl (Nat.le_of_ble_eq_true rfl) (L' := [some (.ref a0), some (jy s0)]) rfl ?_
    refine jy_iload_n hS rfl rfl ?_
    refine jy_iconst hS rfl ?_
    obtain ⟨g21, h⟩ := h
    refine jy_icmp_ne hS rfl ⟨g21, ⟨by decide, by decide⟩⟩ (fun hq => ?_) (fun hq => ?_)
    · have h := h.1 hq
      refine jy_aload_n hS rfl rfl ?_
      obtain ⟨g22, h⟩ := h
      obtain ⟨d24, g25, h⟩ := h
      obtain ⟨Q23, h⟩ := h
      obtain ⟨g26, h⟩ := h
      refine jy_callV hS rfl rfl rfl (Nat.le_of_ble_eq_true rfl) (Or.inl g22) g26 g25 ⟨by decide, by decide⟩ (Nat.le_of_ble_eq_true rfl) ?_ ?_
      rotate_left
      · exact fun Ex Xx Ix Rx hp => hp.2.2.2.elim
      intro rv Xx I27 Rx hp
      obtain ⟨e1, e2, hp⟩ := hp
      rw [e1, e2]
      clear e1 e2
      obtain ⟨e1, h⟩ := h rv I27 hp
      rw [e1]
      clear e1
      change J 49 [] _ (0, 0) _ _ _
      refine jy_aload_n hS rfl rfl ?_
      refine jy_iload_n hS rfl rfl ?_
      refine jy_iconst hS rfl ?_
      obtain ⟨g30, h⟩ := h
      obtain ⟨Q29, h⟩ := h
      obtain ⟨g31, h⟩ := h
      refine jy_callV hS rfl rfl rfl (Nat.le_of_ble_eq_true rfl) (Or.inl g22) g31 g30 ⟨by decide, by decide⟩ (Nat.le_of_ble_eq_true rfl) ?_ ?_
      rotate_left
      · exact fun Ex Xx Ix Rx hp => hp.2.2.2.elim
      intro rv Xx I32 Rx hp
      obtain ⟨e1, e2, hp⟩ := hp
      rw [e1, e2]
      clear e1 e2
      obtain ⟨e1, h⟩ := h rv I32 hp
      rw [e1]
      clear e1
      change J 55 [] _ (0, 0) _ _ _
      refine jy_goto hS rfl ?_
      exact jy_join hS h rfl (jy_sub_s (jy_sub_n jy_sub_0))
    · have h := h.2 hq
      exact jy_ret hS rfl rfl ⟨rfl, rfl, h⟩
theorem jt_226 : jx_ml 226 = 1 ∧ jx_rt 226 = none ∧ jx_hz 226 = [] ∧ decide ((jx_nm 226).name = "<init>") = false ∧ jx_code 226 = jx_c226 := by decide +kernel
/-- GCModel.product, from 4 -/
def wz_226_4 (d : Nat) (V : jx_V) (X : jx_X) (R : jx_R) (Q : Option Value → jx_I → Prop) (QE : String → jx_I → Prop) (J4 : jx_I → Prop) (a0 : Nat)  (I : jx_I) : Prop :=
  (X.2.1 a0 = some (12, 0)) ∧ (
  (3 < d) ∧ (
  ∃ Q9 : Option Value → jx_I → Prop, (
  (jc V 3 218 (0, 0) [.ref a0, jy 42] X I R Q9 (fun _ _ => False)) ∧ (
  ∀ rv I12, Q9 rv I12 → ∃ r13 : Int, rv = some (jy r13) ∧ (
  (-2147483648 ≤ r13 ∧ r13 < 2147483648) ∧ (
  (r13 = 0 → (
    Q none I12
  )) ∧ (¬ r13 = 0 → (
    ∃ d16 : Nat, d16 < d ∧ (
    ∃ Q15 : Option Value → jx_I → Prop, (
    (jc V d16 227 (0, 0) [.ref a0] X I12 R Q15 (fun _ _ => False)) ∧ (
    ∀ rv I19, Q15 rv I19 → rv = none ∧ (
    (1 < d) ∧ (
    ∃ Q21 : Option Value → jx_I → Prop, (
    (jc V 1 224 (0, 0) [.ref a0, jy 4, jy 0] X I19 R Q21 (fun _ _ => False)) ∧ (
    ∀ rv I24, Q21 rv I24 → rv = none ∧ (
    J4 I24))))))))
  ))))))))
/-- GCModel.product -/
def wz_226 (d : Nat) (V : jx_V) (X : jx_X) (R : jx_R) (Q : Option Value → jx_I → Prop) (QE : String → jx_I → Prop) (J4 : jx_I → Prop) (a0 : Nat) (I : jx_I) : Prop :=
  (X.2.1 a0 = some (12, 0)) ∧ (
  ∃ d3 : Nat, d3 < d ∧ (
  ∃ Q2 : Option Value → jx_I → Prop, (
  (jc V d3 227 (0, 0) [.ref a0] X I R Q2 (fun _ _ => False)) ∧ (
  ∀ rv I6, Q2 rv I6 → rv = none ∧ (
  J4 I6)))))
set_option maxRecDepth 20000 in
theorem wm_226 {V : jx_V} (hV : V.1.stackTraces = false) {d : Nat} {X : jx_X} {R : jx_R} {I : jx_I} {Q : Option Value → jx_I → Prop} {QE : String → jx_I → Prop} {a0 : Nat}  
    (h : ∀ (J4 : jx_I → Prop), ((∀  I, wz_226_4 d V X R Q QE J4 a0  I → J4  I)) → wz_226 d V X R Q QE J4 a0 I) : jc V d 226 (0, 0) [.ref a0] X I R Q QE := by
  refine jy_met hV (by decide) (n := 1) (rt := none) (hh := []) (ini := false) (C := jx_c226) (L := [some (.ref a0)]) jt_226 (Nat.le_of_ble_eq_true rfl) rfl ?_
  intro J hS
  have h := h (fun  I => J 4 [] [some (.ref a0)] (0, 0) X I R) ?_
  · unfold wz_226 at h
    refine jy_aload_n hS rfl rfl ?_
    obtain ⟨g1, h⟩ := h
    obtain ⟨d3, g4, h⟩ := h
    obtain ⟨Q2, h⟩ := h
    obtain ⟨g5, h⟩ := h
    refine jy_callV hS rfl rfl rfl (Nat.le_of_ble_eq_true rfl) (Or.inl g1) g5 g4 ⟨by decide, by decide⟩ (Nat.le_of_ble_eq_true rfl) ?_ ?_
    rotate_left
    · exact fun Ex Xx Ix Rx hp => hp.2.2.2.elim
    intro rv Xx I6 Rx hp
    obtain ⟨e1, e2, hp⟩ := hp
    rw [e1, e2]
    clear e1 e2
    obtain ⟨e1, h⟩ := h rv I6 hp
    rw [e1]
    clear e1
    change J 4 [] _ (0, 0) _ _ _
    exact jy_join hS h rfl (jy_sub_s jy_sub_0)
  · intro  I h
    unfold wz_226_4 at h
    refine jy_aload_n hS rfl rfl ?_
    refine jy_bipush hS rfl (by decide) ?_
    obtain ⟨g8, h⟩ := h
    obtain ⟨g10, h⟩ := h
    obtain ⟨Q9, h⟩ := h
    obtain ⟨g11, h⟩ := h
    refine jy_callV hS rfl rfl rfl (Nat.le_of_ble_eq_true rfl) (Or.inl g8) g11 g10 ⟨by decide, by decide⟩ (Nat.le_of_ble_eq_true rfl) ?_ ?_
    rotate_left
    · exact fun Ex Xx Ix Rx hp => hp.2.2.2.elim
    intro rv Xx I12 Rx hp
    obtain ⟨e1, e2, hp⟩ := hp
    rw [e1, e2]
    clear e1 e2
    obtain ⟨r13, e1, h⟩ := h rv I12 hp
    rw [e1]
    clear e1
    change J 10 [jy r13] _ (0, 0) _ _ _
    obtain ⟨g14, h⟩ := h
    refine jy_if_eq hS rfl g14 (fun hq => ?_) (fun hq => ?_)
    · have h := h.1 hq
      exact jy_ret hS rfl rfl ⟨rfl, rfl, h⟩
    · have h := h.2 hq
      refine jy_aload_n hS rfl rfl ?_
      obtain ⟨d16, g17, h⟩ := h
      obtain ⟨Q15, h⟩ := h
      obtain ⟨g18, h⟩ := h
      refine jy_callV hS rfl rfl rfl (Nat.le_of_ble_eq_true rfl) (Or.inl g8) g18 g17 ⟨by decide, by decide⟩ (Nat.le_of_ble_eq_true rfl) ?_ ?_
      rotate_left
      · exact fun Ex Xx Ix Rx hp => hp.2.2.2.elim
      intro rv Xx I19 Rx hp
      obtain ⟨e1, e2, hp⟩ := hp
      rw [e1, e2]
      clear e1 e2
      obtain ⟨e1, h⟩ := h rv I19 hp
      rw [e1]
      clear e1
      change J 17 [] _ (0, 0) _ _ _
      refine jy_aload_n hS rfl rfl ?_
      refine jy_iconst hS rfl ?_
      refine jy_iconst hS rfl ?_
      obtain ⟨g22, h⟩ := h
      obtain ⟨Q21, h⟩ := h
      obtain ⟨g23, h⟩ := h
      refine jy_callV hS rfl rfl rfl (Nat.le_of_ble_eq_true rfl) (Or.inl g8) g23 g22 ⟨by decide, by decide⟩ (Nat.le_of_ble_eq_true rfl) ?_ ?_
      rotate_left
      · exact fun Ex Xx Ix Rx hp => hp.2.2.2.elim
      intro rv Xx I24 Rx hp
      obtain ⟨e1, e2, hp⟩ := hp
      rw [e1, e2]
      clear e1 e2
      obtain ⟨e1, h⟩ := h rv I24 hp
      rw [e1]
      clear e1
      change J 23 [] _ (0, 0) _ _ _
      refine jy_goto hS rfl ?_
      exact jy_join hS h rfl (jy_sub_s jy_sub_0)
theorem jt_227 : jx_ml 227 = 2 ∧ jx_rt 227 = none ∧ jx_hz 227 = [] ∧ decide ((jx_nm 227).name = "<init>") = false ∧ jx_code 227 = jx_c227 := by decide +kernel
/-- GCModel.one, from 43 -/
def wz_227_43 (d : Nat) (V : jx_V) (X : jx_X) (R : jx_R) (Q : Option Value → jx_I → Prop) (QE : String → jx_I → Prop) (J43 : jx_I → Prop) (J201 : Int → jx_I → Prop) (a0 : Nat)  (I : jx_I) : Prop :=
  (X.2.1 a0 = some (12, 0)) ∧ (
  ((I a0 5).toInt = 0 → (
    ∀ I63 : jx_I, I63 = jx_u I a0 25 (Int32.ofInt ((I a0 25).toInt + 1)) → (
    ∀ I64 : jx_I, I64 = jx_u I63 a0 4 (Int32.ofInt ((I63 a0 4).toInt + 1)) → (
    ∃ d66 : Nat, d66 < d ∧ (
    ∃ Q65 : Option Value → jx_I → Prop, (
    (jc V d66 225 (0, 0) [.ref a0] X I64 R Q65 (fun _ _ => False)) ∧ (
    ∀ rv I69, Q65 rv I69 → rv = none ∧ (
    (3 < d) ∧ (
    ∃ Q71 : Option Value → jx_I → Prop, (
    (jc V 3 217 (0, 0) [.ref a0, jy 41] X I69 R Q71 (fun _ _ => False)) ∧ (
    ∀ rv I74, Q71 rv I74 → rv = none ∧ (
    ∀ I76 : jx_I, I76 = jx_u I74 a0 25 (Int32.ofInt ((I74 a0 25).toInt - 1)) → (
    Q none I76)))))))))))
  )) ∧ (¬ (I a0 5).toInt = 0 → (
    Q none I
  )))
/-- GCModel.one, from 201 -/
def wz_227_201 (d : Nat) (V : jx_V) (X : jx_X) (R : jx_R) (Q : Option Value → jx_I → Prop) (QE : String → jx_I → Prop) (J43 : jx_I → Prop) (J201 : Int → jx_I → Prop) (a0 : Nat) (s0 : Int) (I : jx_I) : Prop :=
  (-2147483648 ≤ s0 ∧ s0 < 2147483648) ∧ (
  (s0 = (-1) → (
    (X.2.1 a0 = some (12, 0)) ∧ (
    (3 < d) ∧ (
    ∃ Q79 : Option Value → jx_I → Prop, (
    (jc V 3 210 (0, 0) [.ref a0, jy 0, jy 99] X I R Q79 (fun _ _ => False)) ∧ (
    ∀ rv I82, Q79 rv I82 → ∃ r83 : Int, rv = some (jy r83) ∧ (
    (1 < d) ∧ (
    ∃ Q84 : Option Value → jx_I → Prop, (
    (jc V 1 224 (0, 0) [.ref a0, jy 0, jy r83] X I82 R Q84 (fun _ _ => False)) ∧ (
    ∀ rv I87, Q84 rv I87 → rv = none ∧ (
    Q none I87)))))))))
  )) ∧ (¬ s0 = (-1) → (
    (X.2.1 a0 = some (12, 0)) ∧ (
    (1 < d) ∧ (
    ∃ Q90 : Option Value → jx_I → Prop, (
    (jc V 1 224 (0, 0) [.ref a0, jy 1, jy s0] X I R Q90 (fun _ _ => False)) ∧ (
    ∀ rv I93, Q90 rv I93 → rv = none ∧ (
    Q none I93)))))
  )))
/-- GCModel.one -/
def wz_227 (d : Nat) (V : jx_V) (X : jx_X) (R : jx_R) (Q : Option Value → jx_I → Prop) (QE : String → jx_I → Prop) (J43 : jx_I → Prop) (J201 : Int → jx_I → Prop) (a0 : Nat) (I : jx_I) : Prop :=
  (X.2.1 a0 = some (12, 0)) ∧ (
  ((I a0 5).toInt = 0 → (
    (2 < d) ∧ (
    ∃ Q2 : Option Value → jx_I → Prop, (
    (jc V 2 207 (0, 0) [.ref a0] X I R Q2 (fun _ _ => False)) ∧ (
    ∀ rv I5, Q2 rv I5 → rv = none ∧ (
    (1 < d) ∧ (
    ∃ Q7 : Option Value → jx_I → Prop, (
    (jc V 1 206 (0, 0) [.ref a0, jy ((I5 a0 4).toInt)] X I5 R Q7 (fun _ _ => False)) ∧ (
    ∀ rv I10, Q7 rv I10 → ∃ r11 : Int, rv = some (jy r11) ∧ (
    (-2147483648 ≤ r11 ∧ r11 < 2147483648) ∧ (
    (r11 ≠ 40 → (
      (5 < d) ∧ (
      ∃ Q13 : Option Value → jx_I → Prop, (
      (jc V 5 216 (0, 0) [.ref a0, jy 13, jy 15, jy 19, jy 20, jy 0, jy 0, jy 0] X I10 R Q13 (fun _ _ => False)) ∧ (
      ∀ rv I16, Q13 rv I16 → ∃ r17 : Int, rv = some (jy r17) ∧ (
      (-2147483648 ≤ r17 ∧ r17 < 2147483648) ∧ (
      (r17 = 0 → (
        (5 < d) ∧ (
        ∃ Q19 : Option Value → jx_I → Prop, (
        (jc V 5 216 (0, 0) [.ref a0, jy 19, jy 21, jy 13, jy 0, jy 0, jy 0, jy 0] X I16 R Q19 (fun _ _ => False)) ∧ (
        ∀ rv I22, Q19 rv I22 → ∃ r23 : Int, rv = some (jy r23) ∧ (
        (-2147483648 ≤ r23 ∧ r23 < 2147483648) ∧ (
        (r23 = 0 → (
          (5 < d) ∧ (
          ∃ Q25 : Option Value → jx_I → Prop, (
          (jc V 5 216 (0, 0) [.ref a0, jy 6, jy 9, jy 18, jy 19, jy 20, jy 0, jy 0] X I22 R Q25 (fun _ _ => False)) ∧ (
          ∀ rv I28, Q25 rv I28 → ∃ r29 : Int, rv = some (jy r29) ∧ (
          (-2147483648 ≤ r29 ∧ r29 < 2147483648) ∧ (
          (r29 = 0 → (
            (5 < d) ∧ (
            ∃ Q31 : Option Value → jx_I → Prop, (
            (jc V 5 216 (0, 0) [.ref a0, jy 12, jy 1, jy 19, jy 20, jy 0, jy 0, jy 0] X I28 R Q31 (fun _ _ => False)) ∧ (
            ∀ rv I34, Q31 rv I34 → ∃ r35 : Int, rv = some (jy r35) ∧ (
            (-2147483648 ≤ r35 ∧ r35 < 2147483648) ∧ (
            (r35 = 0 → (
              (5 < d) ∧ (
              ∃ Q37 : Option Value → jx_I → Prop, (
              (jc V 5 216 (0, 0) [.ref a0, jy 13, jy 1, jy 14, jy 25, jy 0, jy 0, jy 0] X I34 R Q37 (fun _ _ => False)) ∧ (
              ∀ rv I40, Q37 rv I40 → ∃ r41 : Int, rv = some (jy r41) ∧ (
              (-2147483648 ≤ r41 ∧ r41 < 2147483648) ∧ (
              (r41 = 0 → (
                J201 (-1) I40
              )) ∧ (¬ r41 = 0 → (
                J201 4 I40
              )))))))
            )) ∧ (¬ r35 = 0 → (
              J201 3 I34
            )))))))
          )) ∧ (¬ r29 = 0 → (
            J201 2 I28
          )))))))
        )) ∧ (¬ r23 = 0 → (
          J201 1 I22
        )))))))
      )) ∧ (¬ r17 = 0 → (
        J201 0 I16
      )))))))
    )) ∧ (r11 = 40 → (
      ((I10 a0 25).toInt ≠ 6 → (
        ((I10 a0 5).toInt = 0 → (
          ∀ I43 : jx_I, I43 = jx_u I10 a0 25 (Int32.ofInt ((I10 a0 25).toInt + 1)) → (
          ∀ I44 : jx_I, I44 = jx_u I43 a0 4 (Int32.ofInt ((I43 a0 4).toInt + 1)) → (
          ∃ d46 : Nat, d46 < d ∧ (
          ∃ Q45 : Option Value → jx_I → Prop, (
          (jc V d46 225 (0, 0) [.ref a0] X I44 R Q45 (fun _ _ => False)) ∧ (
          ∀ rv I49, Q45 rv I49 → rv = none ∧ (
          (3 < d) ∧ (
          ∃ Q51 : Option Value → jx_I → Prop, (
          (jc V 3 217 (0, 0) [.ref a0, jy 41] X I49 R Q51 (fun _ _ => False)) ∧ (
          ∀ rv I54, Q51 rv I54 → rv = none ∧ (
          ∀ I56 : jx_I, I56 = jx_u I54 a0 25 (Int32.ofInt ((I54 a0 25).toInt - 1)) → (
          Q none I56)))))))))))
        )) ∧ (¬ (I10 a0 5).toInt = 0 → (
          Q none I10
        ))
      )) ∧ ((I10 a0 25).toInt = 6 → (
        (1 < d) ∧ (
        ∃ Q57 : Option Value → jx_I → Prop, (
        (jc V 1 208 (0, 0) [.ref a0, jy 3, jy ((I10 a0 4).toInt)] X I10 R Q57 (fun _ _ => False)) ∧ (
        ∀ rv I60, Q57 rv I60 → rv = none ∧ (
        J43 I60))))
      ))
    )))))))))))
  )) ∧ (¬ (I a0 5).toInt = 0 → (
    Q none I
  )))
set_option maxRecDepth 20000 in
theorem wm_227 {V : jx_V} (hV : V.1.stackTraces = false) {d : Nat} {X : jx_X} {R : jx_R} {I : jx_I} {Q : Option Value → jx_I → Prop} {QE : String → jx_I → Prop} {a0 : Nat}  
    (h : ∀ (J43 : jx_I → Prop) (J201 : Int → jx_I → Prop), ((∀  I, wz_227_43 d V X R Q QE J43 J201 a0  I → J43  I) ∧ (∀ (s0 : Int) I, wz_227_201 d V X R Q QE J43 J201 a0 s0 I → J201 s0 I)) → wz_227 d V X R Q QE J43 J201 a0 I) : jc V d 227 (0, 0) [.ref a0] X I R Q QE := by
  refine jy_met hV (by decide) (n := 2) (rt := none) (hh := []) (ini := false) (C := jx_c227) (L := [some (.ref a0), none]) jt_227 (Nat.le_of_ble_eq_true rfl) rfl ?_
  intro J hS
  have h := h (fun  I => J 43 [] [some (.ref a0), none] (0, 0) X I R) (fun s0 I => J 201 [jy s0] [some (.ref a0), none] (0, 0) X I R) ?_
  · unfold wz_227 at h
    refine jy_aload_n hS rfl rfl ?_
    obtain ⟨g1, h⟩ := h
    refine jy_getI hS rfl (by decide) g1 ?_
    refine jy_if_eq hS rfl (jy_rng _) (fun hq => ?_) (fun hq => ?_)
    · have h := h.1 hq
      refine jy_aload_n hS rfl rfl ?_
      obtain ⟨g3, h⟩ := h
      obtain ⟨Q2, h⟩ := h
      obtain ⟨g4, h⟩ := h
      refine jy_callV hS rfl rfl rfl (Nat.le_of_ble_eq_true rfl) (Or.inl g1) g4 g3 ⟨by decide, by decide⟩ (Nat.le_of_ble_eq_true rfl) ?_ ?_
      rotate_left
      · exact fun Ex Xx Ix Rx hp => hp.2.2.2.elim
      intro rv Xx I5 Rx hp
      obtain ⟨e1, e2, hp⟩ := hp
      rw [e1, e2]
      clear e1 e2
      obtain ⟨e1, h⟩ := h rv I5 hp
      rw [e1]
      clear e1
      change J 12 [] _ (0, 0) _ _ _
      refine jy_aload_n hS rfl rfl ?_
      refine jy_aload_n hS rfl rfl ?_
      refine jy_getI hS rfl (by decide) g1 ?_
      obtain ⟨g8, h⟩ := h
      obtain ⟨Q7, h⟩ := h
      obtain ⟨g9, h⟩ := h
      refine jy_callV hS rfl rfl rfl (Nat.le_of_ble_eq_true rfl) (Or.inl g1) g9 g8 ⟨by decide, by decide⟩ (Nat.le_of_ble_eq_true rfl) ?_ ?_
      rotate_left
      · exact fun Ex Xx Ix Rx hp => hp.2.2.2.elim
      intro rv Xx I10 Rx hp
      obtain ⟨e1, e2, hp⟩ := hp
      rw [e1, e2]
      clear e1 e2
      obtain ⟨r11, e1, h⟩ := h rv I10 hp
      rw [e1]
      clear e1
      change J 20 [jy r11] _ (0, 0) _ _ _
      refine jy_bipush hS rfl (by decide) ?_
      obtain ⟨g12, h⟩ := h
      refine jy_icmp_ne hS rfl ⟨g12, ⟨by decide, by decide⟩⟩ (fun hq => ?_) (fun hq => ?_)
      · have h := h.1 hq
        refine jy_aload_n hS rfl rfl ?_
        refine jy_bipush hS rfl (by decide) ?_
        refine jy_bipush hS rfl (by decide) ?_
        refine jy_bipush hS rfl (by decide) ?_
        refine jy_bipush hS rfl (by decide) ?_
        refine jy_iconst hS rfl ?_
        refine jy_iconst hS rfl ?_
        refine jy_iconst hS rfl ?_
        obtain ⟨g14, h⟩ := h
        obtain ⟨Q13, h⟩ := h
        obtain ⟨g15, h⟩ := h
        refine jy_callV hS rfl rfl rfl (Nat.le_of_ble_eq_true rfl) (Or.inl g1) g15 g14 ⟨by decide, by decide⟩ (Nat.le_of_ble_eq_true rfl) ?_ ?_
        rotate_left
        · exact fun Ex Xx Ix Rx hp => hp.2.2.2.elim
        intro rv Xx I16 Rx hp
        obtain ⟨e1, e2, hp⟩ := hp
        rw [e1, e2]
        clear e1 e2
        obtain ⟨r17, e1, h⟩ := h rv I16 hp
        rw [e1]
        clear e1
        change J 107 [jy r17] _ (0, 0) _ _ _
        obtain ⟨g18, h⟩ := h
        refine jy_if_eq hS rfl g18 (fun hq => ?_) (fun hq => ?_)
        · have h := h.1 hq
          refine jy_aload_n hS rfl rfl ?_
          refine jy_bipush hS rfl (by decide) ?_
          refine jy_bipush hS rfl (by decide) ?_
          refine jy_bipush hS rfl (by decide) ?_
          refine jy_iconst hS rfl ?_
          refine jy_iconst hS rfl ?_
          refine jy_iconst hS rfl ?_
          refine jy_iconst hS rfl ?_
          obtain ⟨g20, h⟩ := h
          obtain ⟨Q19, h⟩ := h
          obtain ⟨g21, h⟩ := h
          refine jy_callV hS rfl rfl rfl (Nat.le_of_ble_eq_true rfl) (Or.inl g1) g21 g20 ⟨by decide, by decide⟩ (Nat.le_of_ble_eq_true rfl) ?_ ?_
          rotate_left
          · exact fun Ex Xx Ix Rx hp => hp.2.2.2.elim
          intro rv Xx I22 Rx hp
          obtain ⟨e1, e2, hp⟩ := hp
          rw [e1, e2]
          clear e1 e2
          obtain ⟨r23, e1, h⟩ := h rv I22 hp
          rw [e1]
          clear e1
          change J 128 [jy r23] _ (0, 0) _ _ _
          obtain ⟨g24, h⟩ := h
          refine jy_if_eq hS rfl g24 (fun hq => ?_) (fun hq => ?_)
          · have h := h.1 hq
            refine jy_aload_n hS rfl rfl ?_
            refine jy_bipush hS rfl (by decide) ?_
            refine jy_bipush hS rfl (by decide) ?_
            refine jy_bipush hS rfl (by decide) ?_
            refine jy_bipush hS rfl (by decide) ?_
            refine jy_bipush hS rfl (by decide) ?_
            refine jy_iconst hS rfl ?_
            refine jy_iconst hS rfl ?_
            obtain ⟨g26, h⟩ := h
            obtain ⟨Q25, h⟩ := h
            obtain ⟨g27, h⟩ := h
            refine jy_callV hS rfl rfl rfl (Nat.le_of_ble_eq_true rfl) (Or.inl g1) g27 g26 ⟨by decide, by decide⟩ (Nat.le_of_ble_eq_true rfl) ?_ ?_
            rotate_left
            · exact fun Ex Xx Ix Rx hp => hp.2.2.2.elim
            intro rv Xx I28 Rx hp
            obtain ⟨e1, e2, hp⟩ := hp
            rw [e1, e2]
            clear e1 e2
            obtain ⟨r29, e1, h⟩ := h rv I28 hp
            rw [e1]
            clear e1
            change J 151 [jy r29] _ (0, 0) _ _ _
            obtain ⟨g30, h⟩ := h
            refine jy_if_eq hS rfl g30 (fun hq => ?_) (fun hq => ?_)
            · have h := h.1 hq
              refine jy_aload_n hS rfl rfl ?_
              refine jy_bipush hS rfl (by decide) ?_
              refine jy_iconst hS rfl ?_
              refine jy_bipush hS rfl (by decide) ?_
              refine jy_bipush hS rfl (by decide) ?_
              refine jy_iconst hS rfl ?_
              refine jy_iconst hS rfl ?_
              refine jy_iconst hS rfl ?_
              obtain ⟨g32, h⟩ := h
              obtain ⟨Q31, h⟩ := h
              obtain ⟨g33, h⟩ := h
              refine jy_callV hS rfl rfl rfl (Nat.le_of_ble_eq_true rfl) (Or.inl g1) g33 g32 ⟨by decide, by decide⟩ (Nat.le_of_ble_eq_true rfl) ?_ ?_
              rotate_left
              · exact fun Ex Xx Ix Rx hp => hp.2.2.2.elim
              intro rv Xx I34 Rx hp
              obtain ⟨e1, e2, hp⟩ := hp
              rw [e1, e2]
              clear e1 e2
              obtain ⟨r35, e1, h⟩ := h rv I34 hp
              rw [e1]
              clear e1
              change J 172 [jy r35] _ (0, 0) _ _ _
              obtain ⟨g36, h⟩ := h
              refine jy_if_eq hS rfl g36 (fun hq => ?_) (fun hq => ?_)
              · have h := h.1 hq
                refine jy_aload_n hS rfl rfl ?_
                refine jy_bipush hS rfl (by decide) ?_
                refine jy_iconst hS rfl ?_
                refine jy_bipush hS rfl (by decide) ?_
                refine jy_bipush hS rfl (by decide) ?_
                refine jy_iconst hS rfl ?_
                refine jy_iconst hS rfl ?_
                refine jy_iconst hS rfl ?_
                obtain ⟨g38, h⟩ := h
                obtain ⟨Q37, h⟩ := h
                obtain ⟨g39, h⟩ := h
                refine jy_callV hS rfl rfl rfl (Nat.le_of_ble_eq_true rfl) (Or.inl g1) g39 g38 ⟨by decide, by decide⟩ (Nat.le_of_ble_eq_true rfl) ?_ ?_
                rotate_left
                · exact fun Ex Xx Ix Rx hp => hp.2.2.2.elim
                intro rv Xx I40 Rx hp
                obtain ⟨e1, e2, hp⟩ := hp
                rw [e1, e2]
                clear e1 e2
                obtain ⟨r41, e1, h⟩ := h rv I40 hp
                rw [e1]
                clear e1
                change J 193 [jy r41] _ (0, 0) _ _ _
                obtain ⟨g42, h⟩ := h
                refine jy_if_eq hS rfl g42 (fun hq => ?_) (fun hq => ?_)
                · have h := h.1 hq
                  refine jy_iconst hS rfl ?_
                  exact jy_join hS h rfl (jy_sub_s (jy_sub_n jy_sub_0))
                · have h := h.2 hq
                  refine jy_iconst hS rfl ?_
                  refine jy_goto hS rfl ?_
                  exact jy_join hS h rfl (jy_sub_s (jy_sub_n jy_sub_0))
              · have h := h.2 hq
                refine jy_iconst hS rfl ?_
                refine jy_goto hS rfl ?_
                exact jy_join hS h rfl (jy_sub_s (jy_sub_n jy_sub_0))
            · have h := h.2 hq
              refine jy_iconst hS rfl ?_
              refine jy_goto hS rfl ?_
              exact jy_join hS h rfl (jy_sub_s (jy_sub_n jy_sub_0))
          · have h := h.2 hq
            refine jy_iconst hS rfl ?_
            refine jy_goto hS rfl ?_
            exact jy_join hS h rfl (jy_sub_s (jy_sub_n jy_sub_0))
        · have h := h.2 hq
          refine jy_iconst hS rfl ?_
          refine jy_goto hS rfl ?_
          exact jy_join hS h rfl (jy_sub_s (jy_sub_n jy_sub_0))
      · have h := h.2 hq
        refine jy_aload_n hS rfl rfl ?_
        refine jy_getI hS rfl (by decide) g1 ?_
        refine jy_bipush hS rfl (by decide) ?_
        refine jy_icmp_ne hS rfl ⟨(jy_rng _), ⟨by decide, by decide⟩⟩ (fun hq => ?_) (fun hq => ?_)
        · have h := h.1 hq
          refine jy_aload_n hS rfl rfl ?_
          refine jy_getI hS rfl (by decide) g1 ?_
          refine jy_if_eq hS rfl (jy_rng _) (fun hq => ?_) (fun hq => ?_)
          · have h := h.1 hq
            refine jy_aload_n hS rfl rfl ?_
            refine jy_dup hS rfl rfl ?_
            refine jy_getI hS rfl (by decide) g1 ?_
            refine jy_iconst hS rfl ?_
            refine jy_iadd hS rfl ?_
            refine jy_putI hS rfl (by decide) g1 ?_
            intro I43 e9
            have h := h I43 e9
            clear e9
            refine jy_aload_n hS rfl rfl ?_
            refine jy_dup hS rfl rfl ?_
            refine jy_getI hS rfl (by decide) g1 ?_
            refine jy_iconst hS rfl ?_
            refine jy_iadd hS rfl ?_
            refine jy_putI hS rfl (by decide) g1 ?_
            intro I44 e9
            have h := h I44 e9
            clear e9
            refine jy_aload_n hS rfl rfl ?_
            obtain ⟨d46, g47, h⟩ := h
            obtain ⟨Q45, h⟩ := h
            obtain ⟨g48, h⟩ := h
            refine jy_callV hS rfl rfl rfl (Nat.le_of_ble_eq_true rfl) (Or.inl g1) g48 g47 ⟨by decide, by decide⟩ (Nat.le_of_ble_eq_true rfl) ?_ ?_
            rotate_left
            · exact fun Ex Xx Ix Rx hp => hp.2.2.2.elim
            intro rv Xx I49 Rx hp
            obtain ⟨e1, e2, hp⟩ := hp
            rw [e1, e2]
            clear e1 e2
            obtain ⟨e1, h⟩ := h rv I49 hp
            rw [e1]
            clear e1
            change J 75 [] _ (0, 0) _ _ _
            refine jy_aload_n hS rfl rfl ?_
            refine jy_bipush hS rfl (by decide) ?_
            obtain ⟨g52, h⟩ := h
            obtain ⟨Q51, h⟩ := h
            obtain ⟨g53, h⟩ := h
            refine jy_callV hS rfl rfl rfl (Nat.le_of_ble_eq_true rfl) (Or.inl g1) g53 g52 ⟨by decide, by decide⟩ (Nat.le_of_ble_eq_true rfl) ?_ ?_
            rotate_left
            · exact fun Ex Xx Ix Rx hp => hp.2.2.2.elim
            intro rv Xx I54 Rx hp
            obtain ⟨e1, e2, hp⟩ := hp
            rw [e1, e2]
            clear e1 e2
            obtain ⟨e1, h⟩ := h rv I54 hp
            rw [e1]
            clear e1
            change J 81 [] _ (0, 0) _ _ _
            refine jy_aload_n hS rfl rfl ?_
            refine jy_dup hS rfl rfl ?_
            refine jy_getI hS rfl (by decide) g1 ?_
            refine jy_iconst hS rfl ?_
            refine jy_isub hS rfl ?_
            refine jy_putI hS rfl (by decide) g1 ?_
            intro I56 e9
            have h := h I56 e9
            clear e9
            exact jy_ret hS rfl rfl ⟨rfl, rfl, h⟩
          · have h := h.2 hq
            exact jy_ret hS rfl rfl ⟨rfl, rfl, h⟩
        · have h := h.2 hq
          refine jy_aload_n hS rfl rfl ?_
          refine jy_iconst hS rfl ?_
          refine jy_aload_n hS rfl rfl ?_
          refine jy_getI hS rfl (by decide) g1 ?_
          obtain ⟨g58, h⟩ := h
          obtain ⟨Q57, h⟩ := h
          obtain ⟨g59, h⟩ := h
          refine jy_callV hS rfl rfl rfl (Nat.le_of_ble_eq_true rfl) (Or.inl g1) g59 g58 ⟨by decide, by decide⟩ (Nat.le_of_ble_eq_true rfl) ?_ ?_
          rotate_left
          · exact fun Ex Xx Ix Rx hp => hp.2.2.2.elim
          intro rv Xx I60 Rx hp
          obtain ⟨e1, e2, hp⟩ := hp
          rw [e1, e2]
          clear e1 e2
          obtain ⟨e1, h⟩ := h rv I60 hp
          rw [e1]
          clear e1
          change J 43 [] _ (0, 0) _ _ _
          exact jy_join hS h rfl (jy_sub_s (jy_sub_n jy_sub_0))
    · have h := h.2 hq
      exact jy_ret hS rfl rfl ⟨rfl, rfl, h⟩
  refine ⟨?_, ?_⟩
  · intro  I h
    unfold wz_227_43 at h
    refine jy_aload_n hS rfl rfl ?_
    obtain ⟨g62, h⟩ := h
    refine jy_getI hS rfl (by decide) g62 ?_
    refine jy_if_eq hS rfl (jy_rng _) (fun hq => ?_) (fun hq => ?_)
    · have h := h.1 hq
      refine jy_aload_n hS rfl rfl ?_
      refine jy_dup hS rfl rfl ?_
      refine jy_getI hS rfl (by decide) g62 ?_
      refine jy_iconst hS rfl ?_
      refine jy_iadd hS rfl ?_
      refine jy_putI hS rfl (by decide) g62 ?_
      intro I63 e9
      have h := h I63 e9
      clear e9
      refine jy_aload_n hS rfl rfl ?_
      refine jy_dup hS rfl rfl ?_
      refine jy_getI hS rfl (by decide) g62 ?_
      refine jy_iconst hS rfl ?_
      refine jy_iadd hS rfl ?_
      refine jy_putI hS rfl (by decide) g62 ?_
      intro I64 e9
      have h := h I64 e9
      clear e9
      refine jy_aload_n hS rfl rfl ?_
      obtain ⟨d66, g67, h⟩ := h
      obtain ⟨Q65, h⟩ := h
      obtain ⟨g68, h⟩ := h
      refine jy_callV hS rfl rfl rfl (Nat.le_of_ble_eq_true rfl) (Or.inl g62) g68 g67 ⟨by decide, by decide⟩ (Nat.le_of_ble_eq_true rfl) ?_ ?_
      rotate_left
      · exact fun Ex Xx Ix Rx hp => hp.2.2.2.elim
      intro rv Xx I69 Rx hp
      obtain ⟨e1, e2, hp⟩ := hp
      rw [e1, e2]
      clear e1 e2
      obtain ⟨e1, h⟩ := h rv I69 hp
      rw [e1]
      clear e1
      change J 75 [] _ (0, 0) _ _ _
      refine jy_aload_n hS rfl rfl ?_
      refine jy_bipush hS rfl (by decide) ?_
      obtain ⟨g72, h⟩ := h
      obtain ⟨Q71, h⟩ := h
      obtain ⟨g73, h⟩ := h
      refine jy_callV hS rfl rfl rfl (Nat.le_of_ble_eq_true rfl) (Or.inl g62) g73 g72 ⟨by decide, by decide⟩ (Nat.le_of_ble_eq_true rfl) ?_ ?_
      rotate_left
      · exact fun Ex Xx Ix Rx hp => hp.2.2.2.elim
      intro rv Xx I74 Rx hp
      obtain ⟨e1, e2, hp⟩ := hp
      rw [e1, e2]
      clear e1 e2
      obtain ⟨e1, h⟩ := h rv I74 hp
      rw [e1]
      clear e1
      change J 81 [] _ (0, 0) _ _ _
      refine jy_aload_n hS rfl rfl ?_
      refine jy_dup hS rfl rfl ?_
      refine jy_getI hS rfl (by decide) g62 ?_
      refine jy_iconst hS rfl ?_
      refine jy_isub hS rfl ?_
      refine jy_putI hS rfl (by decide) g62 ?_
      intro I76 e9
      have h := h I76 e9
      clear e9
      exact jy_ret hS rfl rfl ⟨rfl, rfl, h⟩
    · have h := h.2 hq
      exact jy_ret hS rfl rfl ⟨rfl, rfl, h⟩
  · intro s0 I h
    unfold wz_227_201 at h
    refine jy_istore_n hS rfl (Nat.le_of_ble_eq_true rfl) (L' := [some (.ref a0), some (jy s0)]) rfl ?_
    refine jy_iload_n hS rfl rfl ?_
    refine jy_iconst hS rfl ?_
    obtain ⟨g77, h⟩ := h
    refine jy_icmp_eq hS rfl ⟨g77, ⟨by decide, by decide⟩⟩ (fun hq => ?_) (fun hq => ?_)
    · have h := h.1 hq
      refine jy_aload_n hS rfl rfl ?_
      refine jy_iconst hS rfl ?_
      refine jy_aload_n hS rfl rfl ?_
      refine jy_iconst hS rfl ?_
      refine jy_bipush hS rfl (by decide) ?_
      obtain ⟨g78, h⟩ := h
      obtain ⟨g80, h⟩ := h
      obtain ⟨Q79, h⟩ := h
      obtain ⟨g81, h⟩ := h
      refine jy_callV hS rfl rfl rfl (Nat.le_of_ble_eq_true rfl) (Or.inl g78) g81 g80 ⟨by decide, by decide⟩ (Nat.le_of_ble_eq_true rfl) ?_ ?_
      rotate_left
      · exact fun Ex Xx Ix Rx hp => hp.2.2.2.elim
      intro rv Xx I82 Rx hp
      obtain ⟨e1, e2, hp⟩ := hp
      rw [e1, e2]
      clear e1 e2
      obtain ⟨r83, e1, h⟩ := h rv I82 hp
      rw [e1]
      clear e1
      change J 225 [jy r83, jy 0, .ref a0] _ (0, 0) _ _ _
      obtain ⟨g85, h⟩ := h
      obtain ⟨Q84, h⟩ := h
      obtain ⟨g86, h⟩ := h
      refine jy_callV hS rfl rfl rfl (Nat.le_of_ble_eq_true rfl) (Or.inl g78) g86 g85 ⟨by decide, by decide⟩ (Nat.le_of_ble_eq_true rfl) ?_ ?_
      rotate_left
      · exact fun Ex Xx Ix Rx hp => hp.2.2.2.elim
      intro rv Xx I87 Rx hp
      obtain ⟨e1, e2, hp⟩ := hp
      rw [e1, e2]
      clear e1 e2
      obtain ⟨e1, h⟩ := h rv I87 hp
      rw [e1]
      clear e1
      change J 228 [] _ (0, 0) _ _ _
      exact jy_ret hS rfl rfl ⟨rfl, rfl, h⟩
    · have h := h.2 hq
      refine jy_aload_n hS rfl rfl ?_
      refine jy_iconst hS rfl ?_
      refine jy_iload_n hS rfl rfl ?_
      obtain ⟨g89, h⟩ := h
      obtain ⟨g91, h⟩ := h
      obtain ⟨Q90, h⟩ := h
      obtain ⟨g92, h⟩ := h
      refine jy_callV hS rfl rfl rfl (Nat.le_of_ble_eq_true rfl) (Or.inl g89) g92 g91 ⟨by decide, by decide⟩ (Nat.le_of_ble_eq_true rfl) ?_ ?_
      rotate_left
      · exact fun Ex Xx Ix Rx hp => hp.2.2.2.elim
      intro rv Xx I93 Rx hp
      obtain ⟨e1, e2, hp⟩ := hp
      rw [e1, e2]
      clear e1 e2
      obtain ⟨e1, h⟩ := h rv I93 hp
      rw [e1]
      clear e1
      change J 213 [] _ (0, 0) _ _ _
      refine jy_goto hS rfl ?_
      exact jy_ret hS rfl rfl ⟨rfl, rfl, h⟩
theorem jt_228 : jx_ml 228 = 2 ∧ jx_rt 228 = some .int ∧ jx_hz 228 = [] ∧ decide ((jx_nm 228).name = "<init>") = false ∧ jx_code 228 = jx_c228 := by decide +kernel
/-- GCModel.land, from 23 -/
def wz_228_23 (V : jx_V) (X : jx_X) (R : jx_R) (Q : Option Value → jx_I → Prop) (QE : String → jx_I → Prop) (J23 : Nat → Int → jx_I → Prop) (J42 : jx_I → Prop) (a0 : Nat) (a1 : Int) (s0 : Nat) (s1 : Int) (I : jx_I) : Prop :=
  (X.2.1 s0 = some (12, 0)) ∧ (
  ∃ Q9 : Option Value → jx_I → Prop, (
  (jc V 1 202 (0, 0) [.ref s0, jy s1, jy 1, jy 2] X I R Q9 (fun _ _ => False)) ∧ (
  ∀ rv I11, Q9 rv I11 → ∃ r12 : Int, rv = some (jy r12) ∧ (
  (-2147483648 ≤ r12 ∧ r12 < 2147483648) ∧ (
  (r12 = 0 → (
    (X.2.1 a0 = some (12, 0)) ∧ (
    ∃ Q15 : Option Value → jx_I → Prop, (
    (jc V 3 219 (0, 0) [.ref a0, jy a1] X I11 R Q15 (fun _ _ => False)) ∧ (
    ∀ rv I17, Q15 rv I17 → rv = none ∧ (
    ∃ Q19 : Option Value → jx_I → Prop, (
    (jc V 1 200 (0, 0) [.ref a0] X I17 R Q19 (fun _ _ => False)) ∧ (
    ∀ rv I21, Q19 rv I21 → rv = none ∧ (
    J42 I21)))))))
  )) ∧ (¬ r12 = 0 → (
    Q (some (jy 0)) I11
  )))))))
/-- GCModel.land, from 42 -/
def wz_228_42 (V : jx_V) (X : jx_X) (R : jx_R) (Q : Option Value → jx_I → Prop) (QE : String → jx_I → Prop) (J23 : Nat → Int → jx_I → Prop) (J42 : jx_I → Prop) (a0 : Nat) (a1 : Int)  (I : jx_I) : Prop :=
  (X.2.1 a0 = some (12, 0)) ∧ (
  ((I a0 5).toInt ≠ 0 → (
    ∀ I24 : jx_I, I24 = jx_u I a0 3 (Int32.ofInt ((I a0 6).toInt)) → (
    ((I24 a0 5).toInt = 0 → (
      ∃ Q25 : Option Value → jx_I → Prop, (
      (jc V 1 229 (0, 0) [.ref a0] X I24 R Q25 (fun _ _ => False)) ∧ (
      ∀ rv I27, Q25 rv I27 → rv = none ∧ (
      ∃ q29 : Nat, (
      (R a0 11 = some q29) ∧ (
      ∃ n31 : Nat, (
      (X.2.1 q29 = some (100, n31) ∧ n31 < 2147483648) ∧ (
      (0 ≤ (1 : Int) ∧ (1 : Int) < n31) ∧ (
      Q (some (jy ((I27 q29 (1 : Int).toNat).toInt))) I27))))))))
    )) ∧ (¬ (I24 a0 5).toInt = 0 → (
      Q (some (jy ((I24 a0 5).toInt - 10))) I24
    )))
  )) ∧ ((I a0 5).toInt = 0 → (
    ((I a0 2).toInt ≤ (I a0 4).toInt → (
      ∀ I34 : jx_I, I34 = jx_u I a0 3 (Int32.ofInt ((I a0 6).toInt)) → (
      ((I34 a0 5).toInt = 0 → (
        ∃ Q35 : Option Value → jx_I → Prop, (
        (jc V 1 229 (0, 0) [.ref a0] X I34 R Q35 (fun _ _ => False)) ∧ (
        ∀ rv I37, Q35 rv I37 → rv = none ∧ (
        ∃ q39 : Nat, (
        (R a0 11 = some q39) ∧ (
        ∃ n41 : Nat, (
        (X.2.1 q39 = some (100, n41) ∧ n41 < 2147483648) ∧ (
        (0 ≤ (1 : Int) ∧ (1 : Int) < n41) ∧ (
        Q (some (jy ((I37 q39 (1 : Int).toNat).toInt))) I37))))))))
      )) ∧ (¬ (I34 a0 5).toInt = 0 → (
        Q (some (jy ((I34 a0 5).toInt - 10))) I34
      )))
    )) ∧ (¬ (I a0 2).toInt ≤ (I a0 4).toInt → (
      ∃ Q44 : Option Value → jx_I → Prop, (
      (jc V 201 222 (0, 0) [.ref a0] X I R Q44 (fun _ _ => False)) ∧ (
      ∀ rv I46, Q44 rv I46 → rv = none ∧ (
      ∃ Q48 : Option Value → jx_I → Prop, (
      (jc V 2 207 (0, 0) [.ref a0] X I46 R Q48 (fun _ _ => False)) ∧ (
      ∀ rv I50, Q48 rv I50 → rv = none ∧ (
      J42 I50))))))
    ))
  )))
/-- GCModel.land -/
def wz_228 (V : jx_V) (X : jx_X) (R : jx_R) (Q : Option Value → jx_I → Prop) (QE : String → jx_I → Prop) (J23 : Nat → Int → jx_I → Prop) (J42 : jx_I → Prop) (a0 : Nat) (a1 : Int) (I : jx_I) : Prop :=
  (X.2.1 a0 = some (12, 0)) ∧ (
  ∀ I2 : jx_I, I2 = jx_u I a0 0 (Int32.ofInt 0) → (
  ∃ Q3 : Option Value → jx_I → Prop, (
  (jc V 1 203 (0, 0) [jy a1, jy 0, jy ((I2 a0 1).toInt)] X I2 R Q3 (fun _ _ => False)) ∧ (
  ∀ rv I5, Q3 rv I5 → ∃ r6 : Int, rv = some (jy r6) ∧ (
  (-2147483648 ≤ r6 ∧ r6 < 2147483648) ∧ (
  (r6 ≠ 0 → (
    J23 a0 0 I5
  )) ∧ (r6 = 0 → (
    J23 a0 1 I5
  ))))))))
set_option maxRecDepth 20000 in
theorem wm_228 {V : jx_V} (hV : V.1.stackTraces = false) {X : jx_X} {R : jx_R} {I : jx_I} {Q : Option Value → jx_I → Prop} {QE : String → jx_I → Prop} {a0 : Nat} {a1 : Int} (r_a1 : -2147483648 ≤ a1 ∧ a1 < 2147483648) 
    (h : ∀ (J23 : Nat → Int → jx_I → Prop) (J42 : jx_I → Prop), ((∀ (s0 : Nat) (s1 : Int) I, wz_228_23 V X R Q QE J23 J42 a0 a1 s0 s1 I → J23 s0 s1 I) ∧ (∀  I, wz_228_42 V X R Q QE J23 J42 a0 a1  I → J42  I)) → wz_228 V X R Q QE J23 J42 a0 a1 I) : jc V 202 228 (0, 0) [.ref a0, jy a1] X I R Q QE := by
  refine jy_met hV (by decide) (n := 2) (rt := some .int) (hh := []) (ini := false) (C := jx_c228) (L := [some (.ref a0), some (jy a1)]) jt_228 (Nat.le_of_ble_eq_true rfl) rfl ?_
  intro J hS
  have h := h (fun s0 s1 I => J 23 [jy s1, .ref s0] [some (.ref a0), some (jy a1)] (0, 0) X I R) (fun  I => J 42 [] [some (.ref a0), none] (0, 0) X I R) ?_
  · unfold wz_228 at h
    refine jy_aload_n hS rfl rfl ?_
    refine jy_iconst hS rfl ?_
    obtain ⟨g1, h⟩ := h
    refine jy_putI hS rfl (by decide) g1 ?_
    intro I2 e9
    have h := h I2 e9
    clear e9
    refine jy_aload_n hS rfl rfl ?_
    refine jy_iload_n hS rfl rfl ?_
    refine jy_iconst hS rfl ?_
    refine jy_aload_n hS rfl rfl ?_
    refine jy_getI hS rfl (by decide) g1 ?_
    obtain ⟨Q3, h⟩ := h
    obtain ⟨g4, h⟩ := h
    refine jy_callS hS rfl rfl rfl (Nat.le_of_ble_eq_true rfl) g4 (by decide) ⟨by decide, by decide⟩ (Nat.le_of_ble_eq_true rfl) ?_ ?_
    rotate_left
    · exact fun Ex Xx Ix Rx hp => hp.2.2.2.elim
    intro rv Xx I5 Rx hp
    obtain ⟨e1, e2, hp⟩ := hp
    rw [e1, e2]
    clear e1 e2
    obtain ⟨r6, e1, h⟩ := h rv I5 hp
    rw [e1]
    clear e1
    change J 15 [jy r6, .ref a0] _ (0, 0) _ _ _
    obtain ⟨g7, h⟩ := h
    refine jy_if_ne hS rfl g7 (fun hq => ?_) (fun hq => ?_)
    · have h := h.1 hq
      refine jy_iconst hS rfl ?_
      exact jy_join hS h rfl (jy_sub_s (jy_sub_s jy_sub_0))
    · have h := h.2 hq
      refine jy_iconst hS rfl ?_
      refine jy_goto hS rfl ?_
      exact jy_join hS h rfl (jy_sub_s (jy_sub_s jy_sub_0))
  refine ⟨?_, ?_⟩
  · intro s0 s1 I h
    unfold wz_228_23 at h
    refine jy_iconst hS rfl ?_
    refine jy_iconst hS rfl ?_
    obtain ⟨g8, h⟩ := h
    obtain ⟨Q9, h⟩ := h
    obtain ⟨g10, h⟩ := h
    refine jy_callV hS rfl rfl rfl (Nat.le_of_ble_eq_true rfl) (Or.inl g8) g10 (by decide) ⟨by decide, by decide⟩ (Nat.le_of_ble_eq_true rfl) ?_ ?_
    rotate_left
    · exact fun Ex Xx Ix Rx hp => hp.2.2.2.elim
    intro rv Xx I11 Rx hp
    obtain ⟨e1, e2, hp⟩ := hp
    rw [e1, e2]
    clear e1 e2
    obtain ⟨r12, e1, h⟩ := h rv I11 hp
    rw [e1]
    clear e1
    change J 28 [jy r12] _ (0, 0) _ _ _
    obtain ⟨g13, h⟩ := h
    refine jy_if_eq hS rfl g13 (fun hq => ?_) (fun hq => ?_)
    · have h := h.1 hq
      refine jy_aload_n hS rfl rfl ?_
      refine jy_iload_n hS rfl rfl ?_
      obtain ⟨g14, h⟩ := h
      obtain ⟨Q15, h⟩ := h
      obtain ⟨g16, h⟩ := h
      refine jy_callV hS rfl rfl rfl (Nat.le_of_ble_eq_true rfl) (Or.inl g14) g16 (by decide) ⟨by decide, by decide⟩ (Nat.le_of_ble_eq_true rfl) ?_ ?_
      rotate_left
      · exact fun Ex Xx Ix Rx hp => hp.2.2.2.elim
      intro rv Xx I17 Rx hp
      obtain ⟨e1, e2, hp⟩ := hp
      rw [e1, e2]
      clear e1 e2
      obtain ⟨e1, h⟩ := h rv I17 hp
      rw [e1]
      clear e1
      change J 38 [] _ (0, 0) _ _ _
      refine jy_aload_n hS rfl rfl ?_
      obtain ⟨Q19, h⟩ := h
      obtain ⟨g20, h⟩ := h
      refine jy_callV hS rfl rfl rfl (Nat.le_of_ble_eq_true rfl) (Or.inl g14) g20 (by decide) ⟨by decide, by decide⟩ (Nat.le_of_ble_eq_true rfl) ?_ ?_
      rotate_left
      · exact fun Ex Xx Ix Rx hp => hp.2.2.2.elim
      intro rv Xx I21 Rx hp
      obtain ⟨e1, e2, hp⟩ := hp
      rw [e1, e2]
      clear e1 e2
      obtain ⟨e1, h⟩ := h rv I21 hp
      rw [e1]
      clear e1
      change J 42 [] _ (0, 0) _ _ _
      exact jy_join hS h rfl (jy_sub_s (jy_sub_n jy_sub_0))
    · have h := h.2 hq
      refine jy_iconst hS rfl ?_
      exact jy_iret hS rfl rfl ⟨rfl, rfl, h⟩
  · intro  I h
    unfold wz_228_42 at h
    refine jy_aload_n hS rfl rfl ?_
    obtain ⟨g23, h⟩ := h
    refine jy_getI hS rfl (by decide) g23 ?_
    refine jy_if_ne hS rfl (jy_rng _) (fun hq => ?_) (fun hq => ?_)
    · have h := h.1 hq
      refine jy_aload_n hS rfl rfl ?_
      refine jy_aload_n hS rfl rfl ?_
      refine jy_getI hS rfl (by decide) g23 ?_
      refine jy_putI hS rfl (by decide) g23 ?_
      intro I24 e9
      have h := h I24 e9
      clear e9
      refine jy_aload_n hS rfl rfl ?_
      refine jy_getI hS rfl (by decide) g23 ?_
      refine jy_if_eq hS rfl (jy_rng _) (fun hq => ?_) (fun hq => ?_)
      · have h := h.1 hq
        refine jy_aload_n hS rfl rfl ?_
        obtain ⟨Q25, h⟩ := h
        obtain ⟨g26, h⟩ := h
        refine jy_callV hS rfl rfl rfl (Nat.le_of_ble_eq_true rfl) (Or.inl g23) g26 (by decide) ⟨by decide, by decide⟩ (Nat.le_of_ble_eq_true rfl) ?_ ?_
        rotate_left
        · exact fun Ex Xx Ix Rx hp => hp.2.2.2.elim
        intro rv Xx I27 Rx hp
        obtain ⟨e1, e2, hp⟩ := hp
        rw [e1, e2]
        clear e1 e2
        obtain ⟨e1, h⟩ := h rv I27 hp
        rw [e1]
        clear e1
        change J 98 [] _ (0, 0) _ _ _
        refine jy_aload_n hS rfl rfl ?_
        obtain ⟨q29, h⟩ := h
        obtain ⟨g30, h⟩ := h
        refine jy_getR hS rfl (by decide) g23 g30 ?_
        refine jy_iconst hS rfl ?_
        obtain ⟨n31, h⟩ := h
        obtain ⟨g32, h⟩ := h
        obtain ⟨g33, h⟩ := h
        refine jy_iald hS rfl g32.1 (Nat.le_of_lt g32.2) g33 ?_
        exact jy_iret hS rfl rfl ⟨rfl, rfl, h⟩
      · have h := h.2 hq
        refine jy_aload_n hS rfl rfl ?_
        refine jy_getI hS rfl (by decide) g23 ?_
        refine jy_bipush hS rfl (by decide) ?_
        refine jy_isub hS rfl ?_
        exact jy_iret hS rfl rfl ⟨rfl, rfl, h⟩
    · have h := h.2 hq
      refine jy_aload_n hS rfl rfl ?_
      refine jy_getI hS rfl (by decide) g23 ?_
      refine jy_aload_n hS rfl rfl ?_
      refine jy_getI hS rfl (by decide) g23 ?_
      refine jy_icmp_ge hS rfl ⟨(jy_rng _), (jy_rng _)⟩ (fun hq => ?_) (fun hq => ?_)
      · have h := h.1 hq
        refine jy_aload_n hS rfl rfl ?_
        refine jy_aload_n hS rfl rfl ?_
        refine jy_getI hS rfl (by decide) g23 ?_
        refine jy_putI hS rfl (by decide) g23 ?_
        intro I34 e9
        have h := h I34 e9
        clear e9
        refine jy_aload_n hS rfl rfl ?_
        refine jy_getI hS rfl (by decide) g23 ?_
        refine jy_if_eq hS rfl (jy_rng _) (fun hq => ?_) (fun hq => ?_)
        · have h := h.1 hq
          refine jy_aload_n hS rfl rfl ?_
          obtain ⟨Q35, h⟩ := h
          obtain ⟨g36, h⟩ := h
          refine jy_callV hS rfl rfl rfl (Nat.le_of_ble_eq_true rfl) (Or.inl g23) g36 (by decide) ⟨by decide, by decide⟩ (Nat.le_of_ble_eq_true rfl) ?_ ?_
          rotate_left
          · exact fun Ex Xx Ix Rx hp => hp.2.2.2.elim
          intro rv Xx I37 Rx hp
          obtain ⟨e1, e2, hp⟩ := hp
          rw [e1, e2]
          clear e1 e2
          obtain ⟨e1, h⟩ := h rv I37 hp
          rw [e1]
          clear e1
          change J 98 [] _ (0, 0) _ _ _
          refine jy_aload_n hS rfl rfl ?_
          obtain ⟨q39, h⟩ := h
          obtain ⟨g40, h⟩ := h
          refine jy_getR hS rfl (by decide) g23 g40 ?_
          refine jy_iconst hS rfl ?_
          obtain ⟨n41, h⟩ := h
          obtain ⟨g42, h⟩ := h
          obtain ⟨g43, h⟩ := h
          refine jy_iald hS rfl g42.1 (Nat.le_of_lt g42.2) g43 ?_
          exact jy_iret hS rfl rfl ⟨rfl, rfl, h⟩
        · have h := h.2 hq
          refine jy_aload_n hS rfl rfl ?_
          refine jy_getI hS rfl (by decide) g23 ?_
          refine jy_bipush hS rfl (by decide) ?_
          refine jy_isub hS rfl ?_
          exact jy_iret hS rfl rfl ⟨rfl, rfl, h⟩
      · have h := h.2 hq
        refine jy_aload_n hS rfl rfl ?_
        obtain ⟨Q44, h⟩ := h
        obtain ⟨g45, h⟩ := h
        refine jy_callV hS rfl rfl rfl (Nat.le_of_ble_eq_true rfl) (Or.inl g23) g45 (by decide) ⟨by decide, by decide⟩ (Nat.le_of_ble_eq_true rfl) ?_ ?_
        rotate_left
        · exact fun Ex Xx Ix Rx hp => hp.2.2.2.elim
        intro rv Xx I46 Rx hp
        obtain ⟨e1, e2, hp⟩ := hp
        rw [e1, e2]
        clear e1 e2
        obtain ⟨e1, h⟩ := h rv I46 hp
        rw [e1]
        clear e1
        change J 64 [] _ (0, 0) _ _ _
        refine jy_aload_n hS rfl rfl ?_
        obtain ⟨Q48, h⟩ := h
        obtain ⟨g49, h⟩ := h
        refine jy_callV hS rfl rfl rfl (Nat.le_of_ble_eq_true rfl) (Or.inl g23) g49 (by decide) ⟨by decide, by decide⟩ (Nat.le_of_ble_eq_true rfl) ?_ ?_
        rotate_left
        · exact fun Ex Xx Ix Rx hp => hp.2.2.2.elim
        intro rv Xx I50 Rx hp
        obtain ⟨e1, e2, hp⟩ := hp
        rw [e1, e2]
        clear e1 e2
        obtain ⟨e1, h⟩ := h rv I50 hp
        rw [e1]
        clear e1
        change J 68 [] _ (0, 0) _ _ _
        refine jy_goto hS rfl ?_
        exact jy_join hS h rfl (jy_sub_s (jy_sub_n jy_sub_0))
theorem jt_229 : jx_ml 229 = 3 ∧ jx_rt 229 = none ∧ jx_hz 229 = [] ∧ decide ((jx_nm 229).name = "<init>") = false ∧ jx_code 229 = jx_c229 := by decide +kernel
/-- GCModel.stands, from 2 -/
def wz_229_2 (V : jx_V) (X : jx_X) (R : jx_R) (Q : Option Value → jx_I → Prop) (QE : String → jx_I → Prop) (J2 : Int → jx_I → Prop) (J27 : Int → jx_I → Prop) (J51 : Int → Int → jx_I → Prop) (J91 : Int → jx_I → Prop) (J146 : Int → Int → jx_I → Prop) (J206 : Int → jx_I → Prop) (J216 : Int → Int → jx_I → Prop) (a0 : Nat) (l1 : Int) (I : jx_I) : Prop :=
  (-2147483648 ≤ l1 ∧ l1 < 2147483648) ∧ (
  (2 ≤ l1 → (
    J27 0 I
  )) ∧ (¬ 2 ≤ l1 → (
    (X.2.1 a0 = some (12, 0)) ∧ (
    ∃ q3 : Nat, (
    (R a0 11 = some q3) ∧ (
    ∃ q5 : Nat, (
    (R a0 10 = some q5) ∧ (
    ∃ n7 : Nat, (
    (X.2.1 q5 = some (100, n7) ∧ n7 < 2147483648) ∧ (
    (0 ≤ l1 ∧ l1 < n7) ∧ (
    ∃ n10 : Nat, (
    (X.2.1 q3 = some (100, n10) ∧ n10 < 2147483648) ∧ (
    (0 ≤ l1 ∧ l1 < n10) ∧ (
    ∀ I13 : jx_I, I13 = jx_u I q3 l1.toNat (Int32.ofInt ((I q5 l1.toNat).toInt)) → (
    J2 (l1 + 1) I13))))))))))))
  )))
/-- GCModel.stands, from 27 -/
def wz_229_27 (V : jx_V) (X : jx_X) (R : jx_R) (Q : Option Value → jx_I → Prop) (QE : String → jx_I → Prop) (J2 : Int → jx_I → Prop) (J27 : Int → jx_I → Prop) (J51 : Int → Int → jx_I → Prop) (J91 : Int → jx_I → Prop) (J146 : Int → Int → jx_I → Prop) (J206 : Int → jx_I → Prop) (J216 : Int → Int → jx_I → Prop) (a0 : Nat) (l1 : Int) (I : jx_I) : Prop :=
  (X.2.1 a0 = some (12, 0)) ∧ (
  ∃ q15 : Nat, (
  (R a0 11 = some q15) ∧ (
  ∃ n17 : Nat, (
  (X.2.1 q15 = some (100, n17) ∧ n17 < 2147483648) ∧ (
  (0 ≤ (0 : Int) ∧ (0 : Int) < n17) ∧ (
  (-2147483648 ≤ l1 ∧ l1 < 2147483648) ∧ (
  ((I q15 (0 : Int).toNat).toInt ≤ l1 → (
    J91 0 I
  )) ∧ (¬ (I q15 (0 : Int).toNat).toInt ≤ l1 → (
    ∃ q21 : Nat, (
    (R a0 13 = some q21) ∧ (
    ∃ q23 : Nat, (
    (R a0 12 = some q23) ∧ (
    ∃ n25 : Nat, (
    (X.2.1 q23 = some (100, n25) ∧ n25 < 2147483648) ∧ (
    (0 ≤ l1 ∧ l1 < n25) ∧ (
    ∃ n28 : Nat, (
    (X.2.1 q21 = some (100, n28) ∧ n28 < 2147483648) ∧ (
    (0 ≤ l1 ∧ l1 < n28) ∧ (
    ∀ I31 : jx_I, I31 = jx_u I q21 l1.toNat (Int32.ofInt ((I q23 l1.toNat).toInt)) → (
    J51 l1 0 I31)))))))))))
  )))))))))
/-- GCModel.stands, from 51 -/
def wz_229_51 (V : jx_V) (X : jx_X) (R : jx_R) (Q : Option Value → jx_I → Prop) (QE : String → jx_I → Prop) (J2 : Int → jx_I → Prop) (J27 : Int → jx_I → Prop) (J51 : Int → Int → jx_I → Prop) (J91 : Int → jx_I → Prop) (J146 : Int → Int → jx_I → Prop) (J206 : Int → jx_I → Prop) (J216 : Int → Int → jx_I → Prop) (a0 : Nat) (l1 : Int) (l2 : Int) (I : jx_I) : Prop :=
  (X.2.1 a0 = some (12, 0)) ∧ (
  ∃ q33 : Nat, (
  (R a0 11 = some q33) ∧ (
  ∃ n35 : Nat, (
  (X.2.1 q33 = some (100, n35) ∧ n35 < 2147483648) ∧ (
  (0 ≤ (0 : Int) ∧ (0 : Int) < n35) ∧ (
  (-2147483648 ≤ l2 ∧ l2 < 2147483648) ∧ (
  ((I q33 (0 : Int).toNat).toInt ≤ l2 → (
    J27 (l1 + 1) I
  )) ∧ (¬ (I q33 (0 : Int).toNat).toInt ≤ l2 → (
    ∃ q39 : Nat, (
    (R a0 21 = some q39) ∧ (
    ∃ n41 : Nat, (
    (X.2.1 q39 = some (104, n41) ∧ n41 < 2147483648) ∧ (
    (0 ≤ l1 ∧ l1 < n41) ∧ (
    ∃ q44 : Nat, (
    (R q39 l1.toNat = some q44) ∧ (
    ∃ q46 : Nat, (
    (R a0 20 = some q46) ∧ (
    ∃ n48 : Nat, (
    (X.2.1 q46 = some (104, n48) ∧ n48 < 2147483648) ∧ (
    (0 ≤ l1 ∧ l1 < n48) ∧ (
    ∃ q51 : Nat, (
    (R q46 l1.toNat = some q51) ∧ (
    ∃ n53 : Nat, (
    (X.2.1 q51 = some (100, n53) ∧ n53 < 2147483648) ∧ (
    (0 ≤ l2 ∧ l2 < n53) ∧ (
    ∃ n56 : Nat, (
    (X.2.1 q44 = some (100, n56) ∧ n56 < 2147483648) ∧ (
    (0 ≤ l2 ∧ l2 < n56) ∧ (
    ∀ I59 : jx_I, I59 = jx_u I q44 l2.toNat (Int32.ofInt ((I q51 l2.toNat).toInt)) → (
    J51 l1 (l2 + 1) I59)))))))))))))))))))))
  )))))))))
/-- GCModel.stands, from 91 -/
def wz_229_91 (V : jx_V) (X : jx_X) (R : jx_R) (Q : Option Value → jx_I → Prop) (QE : String → jx_I → Prop) (J2 : Int → jx_I → Prop) (J27 : Int → jx_I → Prop) (J51 : Int → Int → jx_I → Prop) (J91 : Int → jx_I → Prop) (J146 : Int → Int → jx_I → Prop) (J206 : Int → jx_I → Prop) (J216 : Int → Int → jx_I → Prop) (a0 : Nat) (l1 : Int) (I : jx_I) : Prop :=
  (X.2.1 a0 = some (12, 0)) ∧ (
  ∃ q61 : Nat, (
  (R a0 11 = some q61) ∧ (
  ∃ n63 : Nat, (
  (X.2.1 q61 = some (100, n63) ∧ n63 < 2147483648) ∧ (
  (0 ≤ (1 : Int) ∧ (1 : Int) < n63) ∧ (
  (-2147483648 ≤ l1 ∧ l1 < 2147483648) ∧ (
  ((I q61 (1 : Int).toNat).toInt ≤ l1 → (
    ∀ I67 : jx_I, I67 = jx_u I a0 23 (Int32.ofInt ((I a0 24).toInt)) → (
    J206 0 I67)
  )) ∧ (¬ (I q61 (1 : Int).toNat).toInt ≤ l1 → (
    ∃ q68 : Nat, (
    (R a0 15 = some q68) ∧ (
    ∃ q70 : Nat, (
    (R a0 14 = some q70) ∧ (
    ∃ n72 : Nat, (
    (X.2.1 q70 = some (100, n72) ∧ n72 < 2147483648) ∧ (
    (0 ≤ l1 ∧ l1 < n72) ∧ (
    ∃ n75 : Nat, (
    (X.2.1 q68 = some (100, n75) ∧ n75 < 2147483648) ∧ (
    (0 ≤ l1 ∧ l1 < n75) ∧ (
    ∀ I78 : jx_I, I78 = jx_u I q68 l1.toNat (Int32.ofInt ((I q70 l1.toNat).toInt)) → (
    ∃ q79 : Nat, (
    (R a0 17 = some q79) ∧ (
    ∃ q81 : Nat, (
    (R a0 16 = some q81) ∧ (
    ∃ n83 : Nat, (
    (X.2.1 q81 = some (100, n83) ∧ n83 < 2147483648) ∧ (
    (0 ≤ l1 ∧ l1 < n83) ∧ (
    ∃ n86 : Nat, (
    (X.2.1 q79 = some (100, n86) ∧ n86 < 2147483648) ∧ (
    (0 ≤ l1 ∧ l1 < n86) ∧ (
    ∀ I89 : jx_I, I89 = jx_u I78 q79 l1.toNat (Int32.ofInt ((I78 q81 l1.toNat).toInt)) → (
    ∃ q90 : Nat, (
    (R a0 19 = some q90) ∧ (
    ∃ q92 : Nat, (
    (R a0 18 = some q92) ∧ (
    ∃ n94 : Nat, (
    (X.2.1 q92 = some (100, n94) ∧ n94 < 2147483648) ∧ (
    (0 ≤ l1 ∧ l1 < n94) ∧ (
    ∃ n97 : Nat, (
    (X.2.1 q90 = some (100, n97) ∧ n97 < 2147483648) ∧ (
    (0 ≤ l1 ∧ l1 < n97) ∧ (
    ∀ I100 : jx_I, I100 = jx_u I89 q90 l1.toNat (Int32.ofInt ((I89 q92 l1.toNat).toInt)) → (
    ∃ q101 : Nat, (
    (R a0 34 = some q101) ∧ (
    ∃ n103 : Nat, (
    (X.2.1 q101 = some (100, n103) ∧ n103 < 2147483648) ∧ (
    (0 ≤ l1 ∧ l1 < n103) ∧ (
    ∀ I106 : jx_I, I106 = jx_u I100 q101 l1.toNat (Int32.ofInt l1) → (
    J146 l1 0 I106)))))))))))))))))))))))))))))))))))))))
  )))))))))
/-- GCModel.stands, from 146 -/
def wz_229_146 (V : jx_V) (X : jx_X) (R : jx_R) (Q : Option Value → jx_I → Prop) (QE : String → jx_I → Prop) (J2 : Int → jx_I → Prop) (J27 : Int → jx_I → Prop) (J51 : Int → Int → jx_I → Prop) (J91 : Int → jx_I → Prop) (J146 : Int → Int → jx_I → Prop) (J206 : Int → jx_I → Prop) (J216 : Int → Int → jx_I → Prop) (a0 : Nat) (l1 : Int) (l2 : Int) (I : jx_I) : Prop :=
  (-2147483648 ≤ l2 ∧ l2 < 2147483648) ∧ (
  (10 ≤ l2 → (
    J91 (l1 + 1) I
  )) ∧ (¬ 10 ≤ l2 → (
    (X.2.1 a0 = some (12, 0)) ∧ (
    ∃ q109 : Nat, (
    (R a0 29 = some q109) ∧ (
    ∃ n111 : Nat, (
    (X.2.1 q109 = some (104, n111) ∧ n111 < 2147483648) ∧ (
    (0 ≤ l1 ∧ l1 < n111) ∧ (
    ∃ q114 : Nat, (
    (R q109 l1.toNat = some q114) ∧ (
    ∃ q116 : Nat, (
    (R a0 22 = some q116) ∧ (
    ∃ n118 : Nat, (
    (X.2.1 q116 = some (104, n118) ∧ n118 < 2147483648) ∧ (
    (0 ≤ l1 ∧ l1 < n118) ∧ (
    ∃ q121 : Nat, (
    (R q116 l1.toNat = some q121) ∧ (
    ∃ n123 : Nat, (
    (X.2.1 q121 = some (100, n123) ∧ n123 < 2147483648) ∧ (
    (0 ≤ l2 ∧ l2 < n123) ∧ (
    ∃ n126 : Nat, (
    (X.2.1 q114 = some (100, n126) ∧ n126 < 2147483648) ∧ (
    (0 ≤ l2 ∧ l2 < n126) ∧ (
    ∀ I129 : jx_I, I129 = jx_u I q114 l2.toNat (Int32.ofInt ((I q121 l2.toNat).toInt)) → (
    ∃ q130 : Nat, (
    (R a0 30 = some q130) ∧ (
    ∃ n132 : Nat, (
    (X.2.1 q130 = some (104, n132) ∧ n132 < 2147483648) ∧ (
    (0 ≤ l1 ∧ l1 < n132) ∧ (
    ∃ q135 : Nat, (
    (R q130 l1.toNat = some q135) ∧ (
    (0 ≤ l1 ∧ l1 < n118) ∧ (
    ∃ q138 : Nat, (
    (R q116 l1.toNat = some q138) ∧ (
    ∃ n140 : Nat, (
    (X.2.1 q138 = some (100, n140) ∧ n140 < 2147483648) ∧ (
    (0 ≤ l2 ∧ l2 < n140) ∧ (
    ∃ n143 : Nat, (
    (X.2.1 q135 = some (100, n143) ∧ n143 < 2147483648) ∧ (
    (0 ≤ l2 ∧ l2 < n143) ∧ (
    ∀ I146 : jx_I, I146 = jx_u I129 q135 l2.toNat (Int32.ofInt ((I129 q138 l2.toNat).toInt)) → (
    J146 l1 (l2 + 1) I146)))))))))))))))))))))))))))))))))))))))
  )))
/-- GCModel.stands, from 206 -/
def wz_229_206 (V : jx_V) (X : jx_X) (R : jx_R) (Q : Option Value → jx_I → Prop) (QE : String → jx_I → Prop) (J2 : Int → jx_I → Prop) (J27 : Int → jx_I → Prop) (J51 : Int → Int → jx_I → Prop) (J91 : Int → jx_I → Prop) (J146 : Int → Int → jx_I → Prop) (J206 : Int → jx_I → Prop) (J216 : Int → Int → jx_I → Prop) (a0 : Nat) (l1 : Int) (I : jx_I) : Prop :=
  (X.2.1 a0 = some (12, 0)) ∧ (
  (-2147483648 ≤ l1 ∧ l1 < 2147483648) ∧ (
  ((I a0 23).toInt ≤ l1 → (
    ∃ q149 : Nat, (
    (R a0 11 = some q149) ∧ (
    ∃ n151 : Nat, (
    (X.2.1 q149 = some (100, n151) ∧ n151 < 2147483648) ∧ (
    (0 ≤ (1 : Int) ∧ (1 : Int) < n151) ∧ (
    ∀ I154 : jx_I, I154 = jx_u I a0 36 (Int32.ofInt ((I q149 (1 : Int).toNat).toInt)) → (
    ∀ I155 : jx_I, I155 = jx_u I154 a0 37 (Int32.ofInt 0) → (
    ∀ I156 : jx_I, I156 = jx_u I155 a0 38 (Int32.ofInt 0) → (
    ∀ I157 : jx_I, I157 = jx_u I156 a0 39 (Int32.ofInt 0) → (
    ∀ I158 : jx_I, I158 = jx_u I157 a0 40 (Int32.ofInt 0) → (
    ∀ I159 : jx_I, I159 = jx_u I158 a0 56 (Int32.ofInt 0) → (
    Q none I159)))))))))))
  )) ∧ (¬ (I a0 23).toInt ≤ l1 → (
    J216 l1 0 I
  ))))
/-- GCModel.stands, from 216 -/
def wz_229_216 (V : jx_V) (X : jx_X) (R : jx_R) (Q : Option Value → jx_I → Prop) (QE : String → jx_I → Prop) (J2 : Int → jx_I → Prop) (J27 : Int → jx_I → Prop) (J51 : Int → Int → jx_I → Prop) (J91 : Int → jx_I → Prop) (J146 : Int → Int → jx_I → Prop) (J206 : Int → jx_I → Prop) (J216 : Int → Int → jx_I → Prop) (a0 : Nat) (l1 : Int) (l2 : Int) (I : jx_I) : Prop :=
  (-2147483648 ≤ l2 ∧ l2 < 2147483648) ∧ (
  (2 ≤ l2 → (
    J206 (l1 + 1) I
  )) ∧ (¬ 2 ≤ l2 → (
    (X.2.1 a0 = some (12, 0)) ∧ (
    ∃ q162 : Nat, (
    (R a0 26 = some q162) ∧ (
    ∃ n164 : Nat, (
    (X.2.1 q162 = some (104, n164) ∧ n164 < 2147483648) ∧ (
    (0 ≤ l1 ∧ l1 < n164) ∧ (
    ∃ q167 : Nat, (
    (R q162 l1.toNat = some q167) ∧ (
    ∃ q169 : Nat, (
    (R a0 27 = some q169) ∧ (
    ∃ n171 : Nat, (
    (X.2.1 q169 = some (104, n171) ∧ n171 < 2147483648) ∧ (
    (0 ≤ l1 ∧ l1 < n171) ∧ (
    ∃ q174 : Nat, (
    (R q169 l1.toNat = some q174) ∧ (
    ∃ n176 : Nat, (
    (X.2.1 q174 = some (100, n176) ∧ n176 < 2147483648) ∧ (
    (0 ≤ l2 ∧ l2 < n176) ∧ (
    ∃ n179 : Nat, (
    (X.2.1 q167 = some (100, n179) ∧ n179 < 2147483648) ∧ (
    (0 ≤ l2 ∧ l2 < n179) ∧ (
    ∀ I182 : jx_I, I182 = jx_u I q167 l2.toNat (Int32.ofInt ((I q174 l2.toNat).toInt)) → (
    J216 l1 (l2 + 1) I182))))))))))))))))))))))
  )))
/-- GCModel.stands -/
def wz_229 (V : jx_V) (X : jx_X) (R : jx_R) (Q : Option Value → jx_I → Prop) (QE : String → jx_I → Prop) (J2 : Int → jx_I → Prop) (J27 : Int → jx_I → Prop) (J51 : Int → Int → jx_I → Prop) (J91 : Int → jx_I → Prop) (J146 : Int → Int → jx_I → Prop) (J206 : Int → jx_I → Prop) (J216 : Int → Int → jx_I → Prop) (a0 : Nat) (I : jx_I) : Prop :=
  J2 0 I
set_option maxRecDepth 20000 in
theorem wm_229 {V : jx_V} (hV : V.1.stackTraces = false) {X : jx_X} {R : jx_R} {I : jx_I} {Q : Option Value → jx_I → Prop} {QE : String → jx_I → Prop} {a0 : Nat}  
    (h : ∀ (J2 : Int → jx_I → Prop) (J27 : Int → jx_I → Prop) (J51 : Int → Int → jx_I → Prop) (J91 : Int → jx_I → Prop) (J146 : Int → Int → jx_I → Prop) (J206 : Int → jx_I → Prop) (J216 : Int → Int → jx_I → Prop), ((∀ (l1 : Int) I, wz_229_2 V X R Q QE J2 J27 J51 J91 J146 J206 J216 a0 l1 I → J2 l1 I) ∧ (∀ (l1 : Int) I, wz_229_27 V X R Q QE J2 J27 J51 J91 J146 J206 J216 a0 l1 I → J27 l1 I) ∧ (∀ (l1 : Int) (l2 : Int) I, wz_229_51 V X R Q QE J2 J27 J51 J91 J146 J206 J216 a0 l1 l2 I → J51 l1 l2 I) ∧ (∀ (l1 : Int) I, wz_229_91 V X R Q QE J2 J27 J51 J91 J146 J206 J216 a0 l1 I → J91 l1 I) ∧ (∀ (l1 : Int) (l2 : Int) I, wz_229_146 V X R Q QE J2 J27 J51 J91 J146 J206 J216 a0 l1 l2 I → J146 l1 l2 I) ∧ (∀ (l1 : Int) I, wz_229_206 V X R Q QE J2 J27 J51 J91 J146 J206 J216 a0 l1 I → J206 l1 I) ∧ (∀ (l1 : Int) (l2 : Int) I, wz_229_216 V X R Q QE J2 J27 J51 J91 J146 J206 J216 a0 l1 l2 I → J216 l1 l2 I)) → wz_229 V X R Q QE J2 J27 J51 J91 J146 J206 J216 a0 I) : jc V 1 229 (0, 0) [.ref a0] X I R Q QE := by
  refine jy_met hV (by decide) (n := 3) (rt := none) (hh := []) (ini := false) (C := jx_c229) (L := [some (.ref a0), none, none]) jt_229 (Nat.le_of_ble_eq_true rfl) rfl ?_
  intro J hS
  have h := h (fun l1 I => J 2 [] [some (.ref a0), some (jy l1), none] (0, 0) X I R) (fun l1 I => J 27 [] [some (.ref a0), some (jy l1), none] (0, 0) X I R) (fun l1 l2 I => J 51 [] [some (.ref a0), some (jy l1), some (jy l2)] (0, 0) X I R) (fun l1 I => J 91 [] [some (.ref a0), some (jy l1), none] (0, 0) X I R) (fun l1 l2 I => J 146 [] [some (.ref a0), some (jy l1), some (jy l2)] (0, 0) X I R) (fun l1 I => J 206 [] [some (.ref a0), some (jy l1), none] (0, 0) X I R) (fun l1 l2 I => J 216 [] [some (.ref a0), some (jy l1), some (jy l2)] (0, 0) X I R) ?_
  · unfold wz_229 at h
    refine jy_iconst hS rfl ?_
    refine jy_istore_n hS rfl (Nat.le_of_ble_eq_true rfl) (L' := [some (.ref a0), some (jy 0), none]) rfl ?_
    exact jy_join hS h rfl (jy_sub_s (jy_sub_s (jy_sub_n jy_sub_0)))
  refine ⟨?_, ?_, ?_, ?_, ?_, ?_, ?_⟩
  · intro l1 I h
    unfold wz_229_2 at h
    refine jy_iload_n hS rfl rfl ?_
    refine jy_iconst hS rfl ?_
    obtain ⟨g1, h⟩ := h
    refine jy_icmp_ge hS rfl ⟨g1, ⟨by decide, by decide⟩⟩ (fun hq => ?_) (fun hq => ?_)
    · have h := h.1 hq
      refine jy_iconst hS rfl ?_
      refine jy_istore_n hS rfl (Nat.le_of_ble_eq_true rfl) (L' := [some (.ref a0), some (jy 0), none]) rfl ?_
      exact jy_join hS h rfl (jy_sub_s (jy_sub_s (jy_sub_n jy_sub_0)))
    · have h := h.2 hq
      refine jy_aload_n hS rfl rfl ?_
      obtain ⟨g2, h⟩ := h
      obtain ⟨q3, h⟩ := h
      obtain ⟨g4, h⟩ := h
      refine jy_getR hS rfl (by decide) g2 g4 ?_
      refine jy_iload_n hS rfl rfl ?_
      refine jy_aload_n hS rfl rfl ?_
      obtain ⟨q5, h⟩ := h
      obtain ⟨g6, h⟩ := h
      refine jy_getR hS rfl (by decide) g2 g6 ?_
      refine jy_iload_n hS rfl rfl ?_
      obtain ⟨n7, h⟩ := h
      obtain ⟨g8, h⟩ := h
      obtain ⟨g9, h⟩ := h
      refine jy_iald hS rfl g8.1 (Nat.le_of_lt g8.2) g9 ?_
      obtain ⟨n10, h⟩ := h
      obtain ⟨g11, h⟩ := h
      obtain ⟨g12, h⟩ := h
      refine jy_iast hS rfl g11.1 (Nat.le_of_lt g11.2) g12 ?_
      intro I13 e9
      have h := h I13 e9
      clear e9
      refine jy_iinc hS rfl rfl (L' := [some (.ref a0), some (jy (l1 + 1)), none]) rfl ?_
      refine jy_goto hS rfl ?_
      exact jy_join hS h rfl (jy_sub_s (jy_sub_s (jy_sub_n jy_sub_0)))
  · intro l1 I h
    unfold wz_229_27 at h
    refine jy_iload_n hS rfl rfl ?_
    refine jy_aload_n hS rfl rfl ?_
    obtain ⟨g14, h⟩ := h
    obtain ⟨q15, h⟩ := h
    obtain ⟨g16, h⟩ := h
    refine jy_getR hS rfl (by decide) g14 g16 ?_
    refine jy_iconst hS rfl ?_
    obtain ⟨n17, h⟩ := h
    obtain ⟨g18, h⟩ := h
    obtain ⟨g19, h⟩ := h
    refine jy_iald hS rfl g18.1 (Nat.le_of_lt g18.2) g19 ?_
    obtain ⟨g20, h⟩ := h
    refine jy_icmp_ge hS rfl ⟨g20, (jy_rng _)⟩ (fun hq => ?_) (fun hq => ?_)
    · have h := h.1 hq
      refine jy_iconst hS rfl ?_
      refine jy_istore_n hS rfl (Nat.le_of_ble_eq_true rfl) (L' := [some (.ref a0), some (jy 0), none]) rfl ?_
      exact jy_join hS h rfl (jy_sub_s (jy_sub_s (jy_sub_n jy_sub_0)))
    · have h := h.2 hq
      refine jy_aload_n hS rfl rfl ?_
      obtain ⟨q21, h⟩ := h
      obtain ⟨g22, h⟩ := h
      refine jy_getR hS rfl (by decide) g14 g22 ?_
      refine jy_iload_n hS rfl rfl ?_
      refine jy_aload_n hS rfl rfl ?_
      obtain ⟨q23, h⟩ := h
      obtain ⟨g24, h⟩ := h
      refine jy_getR hS rfl (by decide) g14 g24 ?_
      refine jy_iload_n hS rfl rfl ?_
      obtain ⟨n25, h⟩ := h
      obtain ⟨g26, h⟩ := h
      obtain ⟨g27, h⟩ := h
      refine jy_iald hS rfl g26.1 (Nat.le_of_lt g26.2) g27 ?_
      obtain ⟨n28, h⟩ := h
      obtain ⟨g29, h⟩ := h
      obtain ⟨g30, h⟩ := h
      refine jy_iast hS rfl g29.1 (Nat.le_of_lt g29.2) g30 ?_
      intro I31 e9
      have h := h I31 e9
      clear e9
      refine jy_iconst hS rfl ?_
      refine jy_istore_n hS rfl (Nat.le_of_ble_eq_true rfl) (L' := [some (.ref a0), some (jy l1), some (jy 0)]) rfl ?_
      exact jy_join hS h rfl (jy_sub_s (jy_sub_s (jy_sub_s jy_sub_0)))
  · intro l1 l2 I h
    unfold wz_229_51 at h
    refine jy_iload_n hS rfl rfl ?_
    refine jy_aload_n hS rfl rfl ?_
    obtain ⟨g32, h⟩ := h
    obtain ⟨q33, h⟩ := h
    obtain ⟨g34, h⟩ := h
    refine jy_getR hS rfl (by decide) g32 g34 ?_
    refine jy_iconst hS rfl ?_
    obtain ⟨n35, h⟩ := h
    obtain ⟨g36, h⟩ := h
    obtain ⟨g37, h⟩ := h
    refine jy_iald hS rfl g36.1 (Nat.le_of_lt g36.2) g37 ?_
    obtain ⟨g38, h⟩ := h
    refine jy_icmp_ge hS rfl ⟨g38, (jy_rng _)⟩ (fun hq => ?_) (fun hq => ?_)
    · have h := h.1 hq
      refine jy_iinc hS rfl rfl (L' := [some (.ref a0), some (jy (l1 + 1)), some (jy l2)]) rfl ?_
      refine jy_goto hS rfl ?_
      exact jy_join hS h rfl (jy_sub_s (jy_sub_s (jy_sub_n jy_sub_0)))
    · have h := h.2 hq
      refine jy_aload_n hS rfl rfl ?_
      obtain ⟨q39, h⟩ := h
      obtain ⟨g40, h⟩ := h
      refine jy_getR hS rfl (by decide) g32 g40 ?_
      refine jy_iload_n hS rfl rfl ?_
      obtain ⟨n41, h⟩ := h
      obtain ⟨g42, h⟩ := h
      obtain ⟨g43, h⟩ := h
      obtain ⟨q44, h⟩ := h
      obtain ⟨g45, h⟩ := h
      refine jy_aald hS rfl g42.1 (by decide) (Nat.le_of_lt g42.2) g43 g45 ?_
      refine jy_iload_n hS rfl rfl ?_
      refine jy_aload_n hS rfl rfl ?_
      obtain ⟨q46, h⟩ := h
      obtain ⟨g47, h⟩ := h
      refine jy_getR hS rfl (by decide) g32 g47 ?_
      refine jy_iload_n hS rfl rfl ?_
      obtain ⟨n48, h⟩ := h
      obtain ⟨g49, h⟩ := h
      obtain ⟨g50, h⟩ := h
      obtain ⟨q51, h⟩ := h
      obtain ⟨g52, h⟩ := h
      refine jy_aald hS rfl g49.1 (by decide) (Nat.le_of_lt g49.2) g50 g52 ?_
      refine jy_iload_n hS rfl rfl ?_
      obtain ⟨n53, h⟩ := h
      obtain ⟨g54, h⟩ := h
      obtain ⟨g55, h⟩ := h
      refine jy_iald hS rfl g54.1 (Nat.le_of_lt g54.2) g55 ?_
      obtain ⟨n56, h⟩ := h
      obtain ⟨g57, h⟩ := h
      obtain ⟨g58, h⟩ := h
      refine jy_iast hS rfl g57.1 (Nat.le_of_lt g57.2) g58 ?_
      intro I59 e9
      have h := h I59 e9
      clear e9
      refine jy_iinc hS rfl rfl (L' := [some (.ref a0), some (jy l1), some (jy (l2 + 1))]) rfl ?_
      refine jy_goto hS rfl ?_
      exact jy_join hS h rfl (jy_sub_s (jy_sub_s (jy_sub_s jy_sub_0)))
  · intro l1 I h
    unfold wz_229_91 at h
    refine jy_iload_n hS rfl rfl ?_
    refine jy_aload_n hS rfl rfl ?_
    obtain ⟨g60, h⟩ := h
    obtain ⟨q61, h⟩ := h
    obtain ⟨g62, h⟩ := h
    refine jy_getR hS rfl (by decide) g60 g62 ?_
    refine jy_iconst hS rfl ?_
    obtain ⟨n63, h⟩ := h
    obtain ⟨g64, h⟩ := h
    obtain ⟨g65, h⟩ := h
    refine jy_iald hS rfl g64.1 (Nat.le_of_lt g64.2) g65 ?_
    obtain ⟨g66, h⟩ := h
    refine jy_icmp_ge hS rfl ⟨g66, (jy_rng _)⟩ (fun hq => ?_) (fun hq => ?_)
    · have h := h.1 hq
      refine jy_aload_n hS rfl rfl ?_
      refine jy_aload_n hS rfl rfl ?_
      refine jy_getI hS rfl (by decide) g60 ?_
      refine jy_putI hS rfl (by decide) g60 ?_
      intro I67 e9
      have h := h I67 e9
      clear e9
      refine jy_iconst hS rfl ?_
      refine jy_istore_n hS rfl (Nat.le_of_ble_eq_true rfl) (L' := [some (.ref a0), some (jy 0), none]) rfl ?_
      exact jy_join hS h rfl (jy_sub_s (jy_sub_s (jy_sub_n jy_sub_0)))
    · have h := h.2 hq
      refine jy_aload_n hS rfl rfl ?_
      obtain ⟨q68, h⟩ := h
      obtain ⟨g69, h⟩ := h
      refine jy_getR hS rfl (by decide) g60 g69 ?_
      refine jy_iload_n hS rfl rfl ?_
      refine jy_aload_n hS rfl rfl ?_
      obtain ⟨q70, h⟩ := h
      obtain ⟨g71, h⟩ := h
      refine jy_getR hS rfl (by decide) g60 g71 ?_
      refine jy_iload_n hS rfl rfl ?_
      obtain ⟨n72, h⟩ := h
      obtain ⟨g73, h⟩ := h
      obtain ⟨g74, h⟩ := h
      refine jy_iald hS rfl g73.1 (Nat.le_of_lt g73.2) g74 ?_
      obtain ⟨n75, h⟩ := h
      obtain ⟨g76, h⟩ := h
      obtain ⟨g77, h⟩ := h
      refine jy_iast hS rfl g76.1 (Nat.le_of_lt g76.2) g77 ?_
      intro I78 e9
      have h := h I78 e9
      clear e9
      refine jy_aload_n hS rfl rfl ?_
      obtain ⟨q79, h⟩ := h
      obtain ⟨g80, h⟩ := h
      refine jy_getR hS rfl (by decide) g60 g80 ?_
      refine jy_iload_n hS rfl rfl ?_
      refine jy_aload_n hS rfl rfl ?_
      obtain ⟨q81, h⟩ := h
      obtain ⟨g82, h⟩ := h
      refine jy_getR hS rfl (by decide) g60 g82 ?_
      refine jy_iload_n hS rfl rfl ?_
      obtain ⟨n83, h⟩ := h
      obtain ⟨g84, h⟩ := h
      obtain ⟨g85, h⟩ := h
      refine jy_iald hS rfl g84.1 (Nat.le_of_lt g84.2) g85 ?_
      obtain ⟨n86, h⟩ := h
      obtain ⟨g87, h⟩ := h
      obtain ⟨g88, h⟩ := h
      refine jy_iast hS rfl g87.1 (Nat.le_of_lt g87.2) g88 ?_
      intro I89 e9
      have h := h I89 e9
      clear e9
      refine jy_aload_n hS rfl rfl ?_
      obtain ⟨q90, h⟩ := h
      obtain ⟨g91, h⟩ := h
      refine jy_getR hS rfl (by decide) g60 g91 ?_
      refine jy_iload_n hS rfl rfl ?_
      refine jy_aload_n hS rfl rfl ?_
      obtain ⟨q92, h⟩ := h
      obtain ⟨g93, h⟩ := h
      refine jy_getR hS rfl (by decide) g60 g93 ?_
      refine jy_iload_n hS rfl rfl ?_
      obtain ⟨n94, h⟩ := h
      obtain ⟨g95, h⟩ := h
      obtain ⟨g96, h⟩ := h
      refine jy_iald hS rfl g95.1 (Nat.le_of_lt g95.2) g96 ?_
      obtain ⟨n97, h⟩ := h
      obtain ⟨g98, h⟩ := h
      obtain ⟨g99, h⟩ := h
      refine jy_iast hS rfl g98.1 (Nat.le_of_lt g98.2) g99 ?_
      intro I100 e9
      have h := h I100 e9
      clear e9
      refine jy_aload_n hS rfl rfl ?_
      obtain ⟨q101, h⟩ := h
      obtain ⟨g102, h⟩ := h
      refine jy_getR hS rfl (by decide) g60 g102 ?_
      refine jy_iload_n hS rfl rfl ?_
      refine jy_iload_n hS rfl rfl ?_
      obtain ⟨n103, h⟩ := h
      obtain ⟨g104, h⟩ := h
      obtain ⟨g105, h⟩ := h
      refine jy_iast hS rfl g104.1 (Nat.le_of_lt g104.2) g105 ?_
      intro I106 e9
      have h := h I106 e9
      clear e9
      refine jy_iconst hS rfl ?_
      refine jy_istore_n hS rfl (Nat.le_of_ble_eq_true rfl) (L' := [some (.ref a0), some (jy l1), some (jy 0)]) rfl ?_
      exact jy_join hS h rfl (jy_sub_s (jy_sub_s (jy_sub_s jy_sub_0)))
  · intro l1 l2 I h
    unfold wz_229_146 at h
    refine jy_iload_n hS rfl rfl ?_
    refine jy_bipush hS rfl (by decide) ?_
    obtain ⟨g107, h⟩ := h
    refine jy_icmp_ge hS rfl ⟨g107, ⟨by decide, by decide⟩⟩ (fun hq => ?_) (fun hq => ?_)
    · have h := h.1 hq
      refine jy_iinc hS rfl rfl (L' := [some (.ref a0), some (jy (l1 + 1)), some (jy l2)]) rfl ?_
      refine jy_goto hS rfl ?_
      exact jy_join hS h rfl (jy_sub_s (jy_sub_s (jy_sub_n jy_sub_0)))
    · have h := h.2 hq
      refine jy_aload_n hS rfl rfl ?_
      obtain ⟨g108, h⟩ := h
      obtain ⟨q109, h⟩ := h
      obtain ⟨g110, h⟩ := h
      refine jy_getR hS rfl (by decide) g108 g110 ?_
      refine jy_iload_n hS rfl rfl ?_
      obtain ⟨n111, h⟩ := h
      obtain ⟨g112, h⟩ := h
      obtain ⟨g113, h⟩ := h
      obtain ⟨q114, h⟩ := h
      obtain ⟨g115, h⟩ := h
      refine jy_aald hS rfl g112.1 (by decide) (Nat.le_of_lt g112.2) g113 g115 ?_
      refine jy_iload_n hS rfl rfl ?_
      refine jy_aload_n hS rfl rfl ?_
      obtain ⟨q116, h⟩ := h
      obtain ⟨g117, h⟩ := h
      refine jy_getR hS rfl (by decide) g108 g117 ?_
      refine jy_iload_n hS rfl rfl ?_
      obtain ⟨n118, h⟩ := h
      obtain ⟨g119, h⟩ := h
      obtain ⟨g120, h⟩ := h
      obtain ⟨q121, h⟩ := h
      obtain ⟨g122, h⟩ := h
      refine jy_aald hS rfl g119.1 (by decide) (Nat.le_of_lt g119.2) g120 g122 ?_
      refine jy_iload_n hS rfl rfl ?_
      obtain ⟨n123, h⟩ := h
      obtain ⟨g124, h⟩ := h
      obtain ⟨g125, h⟩ := h
      refine jy_iald hS rfl g124.1 (Nat.le_of_lt g124.2) g125 ?_
      obtain ⟨n126, h⟩ := h
      obtain ⟨g127, h⟩ := h
      obtain ⟨g128, h⟩ := h
      refine jy_iast hS rfl g127.1 (Nat.le_of_lt g127.2) g128 ?_
      intro I129 e9
      have h := h I129 e9
      clear e9
      refine jy_aload_n hS rfl rfl ?_
      obtain ⟨q130, h⟩ := h
      obtain ⟨g131, h⟩ := h
      refine jy_getR hS rfl (by decide) g108 g131 ?_
      refine jy_iload_n hS rfl rfl ?_
      obtain ⟨n132, h⟩ := h
      obtain ⟨g133, h⟩ := h
      obtain ⟨g134, h⟩ := h
      obtain ⟨q135, h⟩ := h
      obtain ⟨g136, h⟩ := h
      refine jy_aald hS rfl g133.1 (by decide) (Nat.le_of_lt g133.2) g134 g136 ?_
      refine jy_iload_n hS rfl rfl ?_
      refine jy_aload_n hS rfl rfl ?_
      refine jy_getR hS rfl (by decide) g108 g117 ?_
      refine jy_iload_n hS rfl rfl ?_
      obtain ⟨g137, h⟩ := h
      obtain ⟨q138, h⟩ := h
      obtain ⟨g139, h⟩ := h
      refine jy_aald hS rfl g119.1 (by decide) (Nat.le_of_lt g119.2) g137 g139 ?_
      refine jy_iload_n hS rfl rfl ?_
      obtain ⟨n140, h⟩ := h
      obtain ⟨g141, h⟩ := h
      obtain ⟨g142, h⟩ := h
      refine jy_iald hS rfl g141.1 (Nat.le_of_lt g141.2) g142 ?_
      obtain ⟨n143, h⟩ := h
      obtain ⟨g144, h⟩ := h
      obtain ⟨g145, h⟩ := h
      refine jy_iast hS rfl g144.1 (Nat.le_of_lt g144.2) g145 ?_
      intro I146 e9
      have h := h I146 e9
      clear e9
      refine jy_iinc hS rfl rfl (L' := [some (.ref a0), some (jy l1), some (jy (l2 + 1))]) rfl ?_
      refine jy_goto hS rfl ?_
      exact jy_join hS h rfl (jy_sub_s (jy_sub_s (jy_sub_s jy_sub_0)))
  · intro l1 I h
    unfold wz_229_206 at h
    refine jy_iload_n hS rfl rfl ?_
    refine jy_aload_n hS rfl rfl ?_
    obtain ⟨g147, h⟩ := h
    refine jy_getI hS rfl (by decide) g147 ?_
    obtain ⟨g148, h⟩ := h
    refine jy_icmp_ge hS rfl ⟨g148, (jy_rng _)⟩ (fun hq => ?_) (fun hq => ?_)
    · have h := h.1 hq
      refine jy_aload_n hS rfl rfl ?_
      refine jy_aload_n hS rfl rfl ?_
      obtain ⟨q149, h⟩ := h
      obtain ⟨g150, h⟩ := h
      refine jy_getR hS rfl (by decide) g147 g150 ?_
      refine jy_iconst hS rfl ?_
      obtain ⟨n151, h⟩ := h
      obtain ⟨g152, h⟩ := h
      obtain ⟨g153, h⟩ := h
      refine jy_iald hS rfl g152.1 (Nat.le_of_lt g152.2) g153 ?_
      refine jy_putI hS rfl (by decide) g147 ?_
      intro I154 e9
      have h := h I154 e9
      clear e9
      refine jy_aload_n hS rfl rfl ?_
      refine jy_iconst hS rfl ?_
      refine jy_putI hS rfl (by decide) g147 ?_
      intro I155 e9
      have h := h I155 e9
      clear e9
      refine jy_aload_n hS rfl rfl ?_
      refine jy_iconst hS rfl ?_
      refine jy_putI hS rfl (by decide) g147 ?_
      intro I156 e9
      have h := h I156 e9
      clear e9
      refine jy_aload_n hS rfl rfl ?_
      refine jy_iconst hS rfl ?_
      refine jy_putI hS rfl (by decide) g147 ?_
      intro I157 e9
      have h := h I157 e9
      clear e9
      refine jy_aload_n hS rfl rfl ?_
      refine jy_iconst hS rfl ?_
      refine jy_putI hS rfl (by decide) g147 ?_
      intro I158 e9
      have h := h I158 e9
      clear e9
      refine jy_aload_n hS rfl rfl ?_
      refine jy_iconst hS rfl ?_
      refine jy_putI hS rfl (by decide) g147 ?_
      intro I159 e9
      have h := h I159 e9
      clear e9
      exact jy_ret hS rfl rfl ⟨rfl, rfl, h⟩
    · have h := h.2 hq
      refine jy_iconst hS rfl ?_
      refine jy_istore_n hS rfl (Nat.le_of_ble_eq_true rfl) (L' := [some (.ref a0), some (jy l1), some (jy 0)]) rfl ?_
      exact jy_join hS h rfl (jy_sub_s (jy_sub_s (jy_sub_s jy_sub_0)))
  · intro l1 l2 I h
    unfold wz_229_216 at h
    refine jy_iload_n hS rfl rfl ?_
    refine jy_iconst hS rfl ?_
    obtain ⟨g160, h⟩ := h
    refine jy_icmp_ge hS rfl ⟨g160, ⟨by decide, by decide⟩⟩ (fun hq => ?_) (fun hq => ?_)
    · have h := h.1 hq
      refine jy_iinc hS rfl rfl (L' := [some (.ref a0), some (jy (l1 + 1)), some (jy l2)]) rfl ?_
      refine jy_goto hS rfl ?_
      exact jy_join hS h rfl (jy_sub_s (jy_sub_s (jy_sub_n jy_sub_0)))
    · have h := h.2 hq
      refine jy_aload_n hS rfl rfl ?_
      obtain ⟨g161, h⟩ := h
      obtain ⟨q162, h⟩ := h
      obtain ⟨g163, h⟩ := h
      refine jy_getR hS rfl (by decide) g161 g163 ?_
      refine jy_iload_n hS rfl rfl ?_
      obtain ⟨n164, h⟩ := h
      obtain ⟨g165, h⟩ := h
      obtain ⟨g166, h⟩ := h
      obtain ⟨q167, h⟩ := h
      obtain ⟨g168, h⟩ := h
      refine jy_aald hS rfl g165.1 (by decide) (Nat.le_of_lt g165.2) g166 g168 ?_
      refine jy_iload_n hS rfl rfl ?_
      refine jy_aload_n hS rfl rfl ?_
      obtain ⟨q169, h⟩ := h
      obtain ⟨g170, h⟩ := h
      refine jy_getR hS rfl (by decide) g161 g170 ?_
      refine jy_iload_n hS rfl rfl ?_
      obtain ⟨n171, h⟩ := h
      obtain ⟨g172, h⟩ := h
      obtain ⟨g173, h⟩ := h
      obtain ⟨q174, h⟩ := h
      obtain ⟨g175, h⟩ := h
      refine jy_aald hS rfl g172.1 (by decide) (Nat.le_of_lt g172.2) g173 g175 ?_
      refine jy_iload_n hS rfl rfl ?_
      obtain ⟨n176, h⟩ := h
      obtain ⟨g177, h⟩ := h
      obtain ⟨g178, h⟩ := h
      refine jy_iald hS rfl g177.1 (Nat.le_of_lt g177.2) g178 ?_
      obtain ⟨n179, h⟩ := h
      obtain ⟨g180, h⟩ := h
      obtain ⟨g181, h⟩ := h
      refine jy_iast hS rfl g180.1 (Nat.le_of_lt g180.2) g181 ?_
      intro I182 e9
      have h := h I182 e9
      clear e9
      refine jy_iinc hS rfl rfl (L' := [some (.ref a0), some (jy l1), some (jy (l2 + 1))]) rfl ?_
      refine jy_goto hS rfl ?_
      exact jy_join hS h rfl (jy_sub_s (jy_sub_s (jy_sub_s jy_sub_0)))
theorem jt_230 : jx_ml 230 = 1 ∧ jx_rt 230 = some .int ∧ jx_hz 230 = [] ∧ decide ((jx_nm 230).name = "<init>") = false ∧ jx_code 230 = jx_c230 := by decide +kernel
/-- GCModel.fault -/
def wz_230 (V : jx_V) (X : jx_X) (R : jx_R) (Q : Option Value → jx_I → Prop) (QE : String → jx_I → Prop)  (a0 : Nat) (I : jx_I) : Prop :=
  (X.2.1 a0 = some (12, 0)) ∧ (
  ∀ I2 : jx_I, I2 = jx_u I a0 0 (Int32.ofInt 0) → (
  Q (some (jy ((I2 a0 3).toInt))) I2))
set_option maxRecDepth 20000 in
theorem wm_230 {V : jx_V} (hV : V.1.stackTraces = false) {X : jx_X} {R : jx_R} {I : jx_I} {Q : Option Value → jx_I → Prop} {QE : String → jx_I → Prop} {a0 : Nat}  
    (h : wz_230 V X R Q QE  a0 I) : jc V 1 230 (0, 0) [.ref a0] X I R Q QE := by
  refine jy_met hV (by decide) (n := 1) (rt := some .int) (hh := []) (ini := false) (C := jx_c230) (L := [some (.ref a0)]) jt_230 (Nat.le_of_ble_eq_true rfl) rfl ?_
  intro J hS
  unfold wz_230 at h
  refine jy_aload_n hS rfl rfl ?_
  refine jy_iconst hS rfl ?_
  obtain ⟨g1, h⟩ := h
  refine jy_putI hS rfl (by decide) g1 ?_
  intro I2 e9
  have h := h I2 e9
  clear e9
  refine jy_aload_n hS rfl rfl ?_
  refine jy_getI hS rfl (by decide) g1 ?_
  exact jy_iret hS rfl rfl ⟨rfl, rfl, h⟩
theorem jt_231 : jx_ml 231 = 2 ∧ jx_rt 231 = some .int ∧ jx_hz 231 = [] ∧ decide ((jx_nm 231).name = "<init>") = false ∧ jx_code 231 = jx_c231 := by decide +kernel
/-- GCModel.told, from 20 -/
def wz_231_20 (V : jx_V) (X : jx_X) (R : jx_R) (Q : Option Value → jx_I → Prop) (QE : String → jx_I → Prop) (J20 : Nat → Int → jx_I → Prop) (a0 : Nat) (a1 : Int) (s0 : Nat) (s1 : Int) (I : jx_I) : Prop :=
  (X.2.1 s0 = some (12, 0)) ∧ (
  ∃ Q9 : Option Value → jx_I → Prop, (
  (jc V 1 202 (0, 0) [.ref s0, jy s1, jy 1, jy 2] X I R Q9 (fun _ _ => False)) ∧ (
  ∀ rv I11, Q9 rv I11 → ∃ r12 : Int, rv = some (jy r12) ∧ (
  (-2147483648 ≤ r12 ∧ r12 < 2147483648) ∧ (
  (r12 = 0 → (
    (2 ≤ a1 → (
      (a1 ≠ 2 → (
        (a1 ≠ 3 → (
          (a1 ≠ 4 → (
            (X.2.1 a0 = some (12, 0)) ∧ (
            Q (some (jy ((I11 a0 39).toInt))) I11)
          )) ∧ (a1 = 4 → (
            (X.2.1 a0 = some (12, 0)) ∧ (
            Q (some (jy ((I11 a0 38).toInt))) I11)
          ))
        )) ∧ (a1 = 3 → (
          (X.2.1 a0 = some (12, 0)) ∧ (
          Q (some (jy ((I11 a0 37).toInt))) I11)
        ))
      )) ∧ (a1 = 2 → (
        (X.2.1 a0 = some (12, 0)) ∧ (
        Q (some (jy ((I11 a0 36).toInt))) I11)
      ))
    )) ∧ (¬ 2 ≤ a1 → (
      (X.2.1 a0 = some (12, 0)) ∧ (
      ∃ q19 : Nat, (
      (R a0 11 = some q19) ∧ (
      ∃ n21 : Nat, (
      (X.2.1 q19 = some (100, n21) ∧ n21 < 2147483648) ∧ (
      (0 ≤ a1 ∧ a1 < n21) ∧ (
      Q (some (jy ((I11 q19 a1.toNat).toInt))) I11))))))
    ))
  )) ∧ (¬ r12 = 0 → (
    Q (some (jy 0)) I11
  )))))))
/-- GCModel.told -/
def wz_231 (V : jx_V) (X : jx_X) (R : jx_R) (Q : Option Value → jx_I → Prop) (QE : String → jx_I → Prop) (J20 : Nat → Int → jx_I → Prop) (a0 : Nat) (a1 : Int) (I : jx_I) : Prop :=
  (X.2.1 a0 = some (12, 0)) ∧ (
  ∀ I2 : jx_I, I2 = jx_u I a0 0 (Int32.ofInt 0) → (
  ∃ Q3 : Option Value → jx_I → Prop, (
  (jc V 1 203 (0, 0) [jy a1, jy 0, jy 5] X I2 R Q3 (fun _ _ => False)) ∧ (
  ∀ rv I5, Q3 rv I5 → ∃ r6 : Int, rv = some (jy r6) ∧ (
  (-2147483648 ≤ r6 ∧ r6 < 2147483648) ∧ (
  (r6 ≠ 0 → (
    J20 a0 0 I5
  )) ∧ (r6 = 0 → (
    J20 a0 1 I5
  ))))))))
set_option maxRecDepth 20000 in
theorem wm_231 {V : jx_V} (hV : V.1.stackTraces = false) {X : jx_X} {R : jx_R} {I : jx_I} {Q : Option Value → jx_I → Prop} {QE : String → jx_I → Prop} {a0 : Nat} {a1 : Int} (r_a1 : -2147483648 ≤ a1 ∧ a1 < 2147483648) 
    (h : ∀ (J20 : Nat → Int → jx_I → Prop), ((∀ (s0 : Nat) (s1 : Int) I, wz_231_20 V X R Q QE J20 a0 a1 s0 s1 I → J20 s0 s1 I)) → wz_231 V X R Q QE J20 a0 a1 I) : jc V 2 231 (0, 0) [.ref a0, jy a1] X I R Q QE := by
  refine jy_met hV (by decide) (n := 2) (rt := some .int) (hh := []) (ini := false) (C := jx_c231) (L := [some (.ref a0), some (jy a1)]) jt_231 (Nat.le_of_ble_eq_true rfl) rfl ?_
  intro J hS
  have h := h (fun s0 s1 I => J 20 [jy s1, .ref s0] [some (.ref a0), some (jy a1)] (0, 0) X I R) ?_
  · unfold wz_231 at h
    refine jy_aload_n hS rfl rfl ?_
    refine jy_iconst hS rfl ?_
    obtain ⟨g1, h⟩ := h
    refine jy_putI hS rfl (by decide) g1 ?_
    intro I2 e9
    have h := h I2 e9
    clear e9
    refine jy_aload_n hS rfl rfl ?_
    refine jy_iload_n hS rfl rfl ?_
    refine jy_iconst hS rfl ?_
    refine jy_iconst hS rfl ?_
    obtain ⟨Q3, h⟩ := h
    obtain ⟨g4, h⟩ := h
    refine jy_callS hS rfl rfl rfl (Nat.le_of_ble_eq_true rfl) g4 (by decide) ⟨by decide, by decide⟩ (Nat.le_of_ble_eq_true rfl) ?_ ?_
    rotate_left
    · exact fun Ex Xx Ix Rx hp => hp.2.2.2.elim
    intro rv Xx I5 Rx hp
    obtain ⟨e1, e2, hp⟩ := hp
    rw [e1, e2]
    clear e1 e2
    obtain ⟨r6, e1, h⟩ := h rv I5 hp
    rw [e1]
    clear e1
    change J 12 [jy r6, .ref a0] _ (0, 0) _ _ _
    obtain ⟨g7, h⟩ := h
    refine jy_if_ne hS rfl g7 (fun hq => ?_) (fun hq => ?_)
    · have h := h.1 hq
      refine jy_iconst hS rfl ?_
      exact jy_join hS h rfl (jy_sub_s (jy_sub_s jy_sub_0))
    · have h := h.2 hq
      refine jy_iconst hS rfl ?_
      refine jy_goto hS rfl ?_
      exact jy_join hS h rfl (jy_sub_s (jy_sub_s jy_sub_0))
  · intro s0 s1 I h
    unfold wz_231_20 at h
    refine jy_iconst hS rfl ?_
    refine jy_iconst hS rfl ?_
    obtain ⟨g8, h⟩ := h
    obtain ⟨Q9, h⟩ := h
    obtain ⟨g10, h⟩ := h
    refine jy_callV hS rfl rfl rfl (Nat.le_of_ble_eq_true rfl) (Or.inl g8) g10 (by decide) ⟨by decide, by decide⟩ (Nat.le_of_ble_eq_true rfl) ?_ ?_
    rotate_left
    · exact fun Ex Xx Ix Rx hp => hp.2.2.2.elim
    intro rv Xx I11 Rx hp
    obtain ⟨e1, e2, hp⟩ := hp
    rw [e1, e2]
    clear e1 e2
    obtain ⟨r12, e1, h⟩ := h rv I11 hp
    rw [e1]
    clear e1
    change J 25 [jy r12] _ (0, 0) _ _ _
    obtain ⟨g13, h⟩ := h
    refine jy_if_eq hS rfl g13 (fun hq => ?_) (fun hq => ?_)
    · have h := h.1 hq
      refine jy_iload_n hS rfl rfl ?_
      refine jy_iconst hS rfl ?_
      refine jy_icmp_ge hS rfl ⟨r_a1, ⟨by decide, by decide⟩⟩ (fun hq => ?_) (fun hq => ?_)
      · have h := h.1 hq
        refine jy_iload_n hS rfl rfl ?_
        refine jy_iconst hS rfl ?_
        refine jy_icmp_ne hS rfl ⟨r_a1, ⟨by decide, by decide⟩⟩ (fun hq => ?_) (fun hq => ?_)
        · have h := h.1 hq
          refine jy_iload_n hS rfl rfl ?_
          refine jy_iconst hS rfl ?_
          refine jy_icmp_ne hS rfl ⟨r_a1, ⟨by decide, by decide⟩⟩ (fun hq => ?_) (fun hq => ?_)
          · have h := h.1 hq
            refine jy_iload_n hS rfl rfl ?_
            refine jy_iconst hS rfl ?_
            refine jy_icmp_ne hS rfl ⟨r_a1, ⟨by decide, by decide⟩⟩ (fun hq => ?_) (fun hq => ?_)
            · have h := h.1 hq
              refine jy_aload_n hS rfl rfl ?_
              obtain ⟨g14, h⟩ := h
              refine jy_getI hS rfl (by decide) g14 ?_
              exact jy_iret hS rfl rfl ⟨rfl, rfl, h⟩
            · have h := h.2 hq
              refine jy_aload_n hS rfl rfl ?_
              obtain ⟨g15, h⟩ := h
              refine jy_getI hS rfl (by decide) g15 ?_
              refine jy_goto hS rfl ?_
              exact jy_iret hS rfl rfl ⟨rfl, rfl, h⟩
          · have h := h.2 hq
            refine jy_aload_n hS rfl rfl ?_
            obtain ⟨g16, h⟩ := h
            refine jy_getI hS rfl (by decide) g16 ?_
            refine jy_goto hS rfl ?_
            exact jy_iret hS rfl rfl ⟨rfl, rfl, h⟩
        · have h := h.2 hq
          refine jy_aload_n hS rfl rfl ?_
          obtain ⟨g17, h⟩ := h
          refine jy_getI hS rfl (by decide) g17 ?_
          refine jy_goto hS rfl ?_
          exact jy_iret hS rfl rfl ⟨rfl, rfl, h⟩
      · have h := h.2 hq
        refine jy_aload_n hS rfl rfl ?_
        obtain ⟨g18, h⟩ := h
        obtain ⟨q19, h⟩ := h
        obtain ⟨g20, h⟩ := h
        refine jy_getR hS rfl (by decide) g18 g20 ?_
        refine jy_iload_n hS rfl rfl ?_
        obtain ⟨n21, h⟩ := h
        obtain ⟨g22, h⟩ := h
        obtain ⟨g23, h⟩ := h
        refine jy_iald hS rfl g22.1 (Nat.le_of_lt g22.2) g23 ?_
        refine jy_goto hS rfl ?_
        exact jy_iret hS rfl rfl ⟨rfl, rfl, h⟩
    · have h := h.2 hq
      refine jy_iconst hS rfl ?_
      exact jy_iret hS rfl rfl ⟨rfl, rfl, h⟩
theorem jt_232 : jx_ml 232 = 2 ∧ jx_rt 232 = some .boolean ∧ jx_hz 232 = [] ∧ decide ((jx_nm 232).name = "<init>") = false ∧ jx_code 232 = jx_c232 := by decide +kernel
/-- GCModel.isPlace -/
def wz_232 (V : jx_V) (X : jx_X) (R : jx_R) (Q : Option Value → jx_I → Prop) (QE : String → jx_I → Prop)  (a0 : Nat) (a1 : Int) (I : jx_I) : Prop :=
  (X.2.1 a0 = some (12, 0)) ∧ (
  ∃ q2 : Nat, (
  (R a0 11 = some q2) ∧ (
  ∃ n4 : Nat, (
  (X.2.1 q2 = some (100, n4) ∧ n4 < 2147483648) ∧ (
  (0 ≤ (0 : Int) ∧ (0 : Int) < n4) ∧ (
  ∃ Q7 : Option Value → jx_I → Prop, (
  (jc V 1 203 (0, 0) [jy a1, jy 0, jy ((I q2 (0 : Int).toNat).toInt - 1)] X I R Q7 (fun _ _ => False)) ∧ (
  ∀ rv I9, Q7 rv I9 → ∃ r10 : Int, rv = some (jy r10) ∧ (
  (r10 = 0 ∨ r10 = 1) ∧ (
  Q (some (jy r10)) I9))))))))))
set_option maxRecDepth 20000 in
theorem wm_232 {V : jx_V} (hV : V.1.stackTraces = false) {X : jx_X} {R : jx_R} {I : jx_I} {Q : Option Value → jx_I → Prop} {QE : String → jx_I → Prop} {a0 : Nat} {a1 : Int} (r_a1 : -2147483648 ≤ a1 ∧ a1 < 2147483648) 
    (h : wz_232 V X R Q QE  a0 a1 I) : jc V 2 232 (0, 0) [.ref a0, jy a1] X I R Q QE := by
  refine jy_met hV (by decide) (n := 2) (rt := some .boolean) (hh := []) (ini := false) (C := jx_c232) (L := [some (.ref a0), some (jy a1)]) jt_232 (Nat.le_of_ble_eq_true rfl) rfl ?_
  intro J hS
  unfold wz_232 at h
  refine jy_iload_n hS rfl rfl ?_
  refine jy_iconst hS rfl ?_
  refine jy_aload_n hS rfl rfl ?_
  obtain ⟨g1, h⟩ := h
  obtain ⟨q2, h⟩ := h
  obtain ⟨g3, h⟩ := h
  refine jy_getR hS rfl (by decide) g1 g3 ?_
  refine jy_iconst hS rfl ?_
  obtain ⟨n4, h⟩ := h
  obtain ⟨g5, h⟩ := h
  obtain ⟨g6, h⟩ := h
  refine jy_iald hS rfl g5.1 (Nat.le_of_lt g5.2) g6 ?_
  refine jy_iconst hS rfl ?_
  refine jy_isub hS rfl ?_
  obtain ⟨Q7, h⟩ := h
  obtain ⟨g8, h⟩ := h
  refine jy_callS hS rfl rfl rfl (Nat.le_of_ble_eq_true rfl) g8 (by decide) ⟨by decide, by decide⟩ (Nat.le_of_ble_eq_true rfl) ?_ ?_
  rotate_left
  · exact fun Ex Xx Ix Rx hp => hp.2.2.2.elim
  intro rv Xx I9 Rx hp
  obtain ⟨e1, e2, hp⟩ := hp
  rw [e1, e2]
  clear e1 e2
  obtain ⟨r10, e1, h⟩ := h rv I9 hp
  rw [e1]
  clear e1
  change J 13 [jy r10] _ (0, 0) _ _ _
  obtain ⟨g11, h⟩ := h
  exact jy_iret hS rfl (by rcases g11 with q | q <;> rw [q] <;> rfl) ⟨rfl, rfl, h⟩
theorem jt_233 : jx_ml 233 = 2 ∧ jx_rt 233 = some .boolean ∧ jx_hz 233 = [] ∧ decide ((jx_nm 233).name = "<init>") = false ∧ jx_code 233 = jx_c233 := by decide +kernel
/-- GCModel.isCamel -/
def wz_233 (V : jx_V) (X : jx_X) (R : jx_R) (Q : Option Value → jx_I → Prop) (QE : String → jx_I → Prop)  (a0 : Nat) (a1 : Int) (I : jx_I) : Prop :=
  (X.2.1 a0 = some (12, 0)) ∧ (
  ∃ q2 : Nat, (
  (R a0 11 = some q2) ∧ (
  ∃ n4 : Nat, (
  (X.2.1 q2 = some (100, n4) ∧ n4 < 2147483648) ∧ (
  (0 ≤ (1 : Int) ∧ (1 : Int) < n4) ∧ (
  ∃ Q7 : Option Value → jx_I → Prop, (
  (jc V 1 203 (0, 0) [jy a1, jy 0, jy ((I q2 (1 : Int).toNat).toInt - 1)] X I R Q7 (fun _ _ => False)) ∧ (
  ∀ rv I9, Q7 rv I9 → ∃ r10 : Int, rv = some (jy r10) ∧ (
  (r10 = 0 ∨ r10 = 1) ∧ (
  Q (some (jy r10)) I9))))))))))
set_option maxRecDepth 20000 in
theorem wm_233 {V : jx_V} (hV : V.1.stackTraces = false) {X : jx_X} {R : jx_R} {I : jx_I} {Q : Option Value → jx_I → Prop} {QE : String → jx_I → Prop} {a0 : Nat} {a1 : Int} (r_a1 : -2147483648 ≤ a1 ∧ a1 < 2147483648) 
    (h : wz_233 V X R Q QE  a0 a1 I) : jc V 2 233 (0, 0) [.ref a0, jy a1] X I R Q QE := by
  refine jy_met hV (by decide) (n := 2) (rt := some .boolean) (hh := []) (ini := false) (C := jx_c233) (L := [some (.ref a0), some (jy a1)]) jt_233 (Nat.le_of_ble_eq_true rfl) rfl ?_
  intro J hS
  unfold wz_233 at h
  refine jy_iload_n hS rfl rfl ?_
  refine jy_iconst hS rfl ?_
  refine jy_aload_n hS rfl rfl ?_
  obtain ⟨g1, h⟩ := h
  obtain ⟨q2, h⟩ := h
  obtain ⟨g3, h⟩ := h
  refine jy_getR hS rfl (by decide) g1 g3 ?_
  refine jy_iconst hS rfl ?_
  obtain ⟨n4, h⟩ := h
  obtain ⟨g5, h⟩ := h
  obtain ⟨g6, h⟩ := h
  refine jy_iald hS rfl g5.1 (Nat.le_of_lt g5.2) g6 ?_
  refine jy_iconst hS rfl ?_
  refine jy_isub hS rfl ?_
  obtain ⟨Q7, h⟩ := h
  obtain ⟨g8, h⟩ := h
  refine jy_callS hS rfl rfl rfl (Nat.le_of_ble_eq_true rfl) g8 (by decide) ⟨by decide, by decide⟩ (Nat.le_of_ble_eq_true rfl) ?_ ?_
  rotate_left
  · exact fun Ex Xx Ix Rx hp => hp.2.2.2.elim
  intro rv Xx I9 Rx hp
  obtain ⟨e1, e2, hp⟩ := hp
  rw [e1, e2]
  clear e1 e2
  obtain ⟨r10, e1, h⟩ := h rv I9 hp
  rw [e1]
  clear e1
  change J 13 [jy r10] _ (0, 0) _ _ _
  obtain ⟨g11, h⟩ := h
  exact jy_iret hS rfl (by rcases g11 with q | q <;> rw [q] <;> rfl) ⟨rfl, rfl, h⟩
theorem jt_234 : jx_ml 234 = 2 ∧ jx_rt 234 = some .int ∧ jx_hz 234 = [] ∧ decide ((jx_nm 234).name = "<init>") = false ∧ jx_code 234 = jx_c234 := by decide +kernel
/-- GCModel.place, from 19 -/
def wz_234_19 (V : jx_V) (X : jx_X) (R : jx_R) (Q : Option Value → jx_I → Prop) (QE : String → jx_I → Prop) (J19 : Nat → Int → jx_I → Prop) (a0 : Nat) (a1 : Int) (s0 : Nat) (s1 : Int) (I : jx_I) : Prop :=
  (X.2.1 s0 = some (12, 0)) ∧ (
  ∃ Q9 : Option Value → jx_I → Prop, (
  (jc V 1 202 (0, 0) [.ref s0, jy s1, jy 1, jy 0] X I R Q9 (fun _ _ => False)) ∧ (
  ∀ rv I11, Q9 rv I11 → ∃ r12 : Int, rv = some (jy r12) ∧ (
  (-2147483648 ≤ r12 ∧ r12 < 2147483648) ∧ (
  (r12 = 0 → (
    (X.2.1 a0 = some (12, 0)) ∧ (
    ∃ q15 : Nat, (
    (R a0 13 = some q15) ∧ (
    ∃ n17 : Nat, (
    (X.2.1 q15 = some (100, n17) ∧ n17 < 2147483648) ∧ (
    (0 ≤ a1 ∧ a1 < n17) ∧ (
    Q (some (jy ((I11 q15 a1.toNat).toInt))) I11))))))
  )) ∧ (¬ r12 = 0 → (
    Q (some (jy 0)) I11
  )))))))
/-- GCModel.place -/
def wz_234 (V : jx_V) (X : jx_X) (R : jx_R) (Q : Option Value → jx_I → Prop) (QE : String → jx_I → Prop) (J19 : Nat → Int → jx_I → Prop) (a0 : Nat) (a1 : Int) (I : jx_I) : Prop :=
  (X.2.1 a0 = some (12, 0)) ∧ (
  ∀ I2 : jx_I, I2 = jx_u I a0 0 (Int32.ofInt 0) → (
  ∃ Q3 : Option Value → jx_I → Prop, (
  (jc V 2 232 (0, 0) [.ref a0, jy a1] X I2 R Q3 (fun _ _ => False)) ∧ (
  ∀ rv I5, Q3 rv I5 → ∃ r6 : Int, rv = some (jy r6) ∧ (
  (-2147483648 ≤ r6 ∧ r6 < 2147483648) ∧ (
  (r6 ≠ 0 → (
    J19 a0 0 I5
  )) ∧ (r6 = 0 → (
    J19 a0 1 I5
  ))))))))
set_option maxRecDepth 20000 in
theorem wm_234 {V : jx_V} (hV : V.1.stackTraces = false) {X : jx_X} {R : jx_R} {I : jx_I} {Q : Option Value → jx_I → Prop} {QE : String → jx_I → Prop} {a0 : Nat} {a1 : Int} (r_a1 : -2147483648 ≤ a1 ∧ a1 < 2147483648) 
    (h : ∀ (J19 : Nat → Int → jx_I → Prop), ((∀ (s0 : Nat) (s1 : Int) I, wz_234_19 V X R Q QE J19 a0 a1 s0 s1 I → J19 s0 s1 I)) → wz_234 V X R Q QE J19 a0 a1 I) : jc V 3 234 (0, 0) [.ref a0, jy a1] X I R Q QE := by
  refine jy_met hV (by decide) (n := 2) (rt := some .int) (hh := []) (ini := false) (C := jx_c234) (L := [some (.ref a0), some (jy a1)]) jt_234 (Nat.le_of_ble_eq_true rfl) rfl ?_
  intro J hS
  have h := h (fun s0 s1 I => J 19 [jy s1, .ref s0] [some (.ref a0), some (jy a1)] (0, 0) X I R) ?_
  · unfold wz_234 at h
    refine jy_aload_n hS rfl rfl ?_
    refine jy_iconst hS rfl ?_
    obtain ⟨g1, h⟩ := h
    refine jy_putI hS rfl (by decide) g1 ?_
    intro I2 e9
    have h := h I2 e9
    clear e9
    refine jy_aload_n hS rfl rfl ?_
    refine jy_aload_n hS rfl rfl ?_
    refine jy_iload_n hS rfl rfl ?_
    obtain ⟨Q3, h⟩ := h
    obtain ⟨g4, h⟩ := h
    refine jy_callV hS rfl rfl rfl (Nat.le_of_ble_eq_true rfl) (Or.inl g1) g4 (by decide) ⟨by decide, by decide⟩ (Nat.le_of_ble_eq_true rfl) ?_ ?_
    rotate_left
    · exact fun Ex Xx Ix Rx hp => hp.2.2.2.elim
    intro rv Xx I5 Rx hp
    obtain ⟨e1, e2, hp⟩ := hp
    rw [e1, e2]
    clear e1 e2
    obtain ⟨r6, e1, h⟩ := h rv I5 hp
    rw [e1]
    clear e1
    change J 11 [jy r6, .ref a0] _ (0, 0) _ _ _
    obtain ⟨g7, h⟩ := h
    refine jy_if_ne hS rfl g7 (fun hq => ?_) (fun hq => ?_)
    · have h := h.1 hq
      refine jy_iconst hS rfl ?_
      exact jy_join hS h rfl (jy_sub_s (jy_sub_s jy_sub_0))
    · have h := h.2 hq
      refine jy_iconst hS rfl ?_
      refine jy_goto hS rfl ?_
      exact jy_join hS h rfl (jy_sub_s (jy_sub_s jy_sub_0))
  · intro s0 s1 I h
    unfold wz_234_19 at h
    refine jy_iconst hS rfl ?_
    refine jy_iconst hS rfl ?_
    obtain ⟨g8, h⟩ := h
    obtain ⟨Q9, h⟩ := h
    obtain ⟨g10, h⟩ := h
    refine jy_callV hS rfl rfl rfl (Nat.le_of_ble_eq_true rfl) (Or.inl g8) g10 (by decide) ⟨by decide, by decide⟩ (Nat.le_of_ble_eq_true rfl) ?_ ?_
    rotate_left
    · exact fun Ex Xx Ix Rx hp => hp.2.2.2.elim
    intro rv Xx I11 Rx hp
    obtain ⟨e1, e2, hp⟩ := hp
    rw [e1, e2]
    clear e1 e2
    obtain ⟨r12, e1, h⟩ := h rv I11 hp
    rw [e1]
    clear e1
    change J 24 [jy r12] _ (0, 0) _ _ _
    obtain ⟨g13, h⟩ := h
    refine jy_if_eq hS rfl g13 (fun hq => ?_) (fun hq => ?_)
    · have h := h.1 hq
      refine jy_aload_n hS rfl rfl ?_
      obtain ⟨g14, h⟩ := h
      obtain ⟨q15, h⟩ := h
      obtain ⟨g16, h⟩ := h
      refine jy_getR hS rfl (by decide) g14 g16 ?_
      refine jy_iload_n hS rfl rfl ?_
      obtain ⟨n17, h⟩ := h
      obtain ⟨g18, h⟩ := h
      obtain ⟨g19, h⟩ := h
      refine jy_iald hS rfl g18.1 (Nat.le_of_lt g18.2) g19 ?_
      exact jy_iret hS rfl rfl ⟨rfl, rfl, h⟩
    · have h := h.2 hq
      refine jy_iconst hS rfl ?_
      exact jy_iret hS rfl rfl ⟨rfl, rfl, h⟩
theorem jt_235 : jx_ml 235 = 3 ∧ jx_rt 235 = some .int ∧ jx_hz 235 = [] ∧ decide ((jx_nm 235).name = "<init>") = false ∧ jx_code 235 = jx_c235 := by decide +kernel
/-- GCModel.road, from 27 -/
def wz_235_27 (V : jx_V) (X : jx_X) (R : jx_R) (Q : Option Value → jx_I → Prop) (QE : String → jx_I → Prop) (J27 : Nat → Int → jx_I → Prop) (a0 : Nat) (a1 : Int) (a2 : Int) (s0 : Nat) (s1 : Int) (I : jx_I) : Prop :=
  (X.2.1 s0 = some (12, 0)) ∧ (
  ∃ Q14 : Option Value → jx_I → Prop, (
  (jc V 1 202 (0, 0) [.ref s0, jy s1, jy 1, jy 0] X I R Q14 (fun _ _ => False)) ∧ (
  ∀ rv I16, Q14 rv I16 → ∃ r17 : Int, rv = some (jy r17) ∧ (
  (-2147483648 ≤ r17 ∧ r17 < 2147483648) ∧ (
  (r17 = 0 → (
    (X.2.1 a0 = some (12, 0)) ∧ (
    ∃ q20 : Nat, (
    (R a0 21 = some q20) ∧ (
    ∃ n22 : Nat, (
    (X.2.1 q20 = some (104, n22) ∧ n22 < 2147483648) ∧ (
    (0 ≤ a1 ∧ a1 < n22) ∧ (
    ∃ q25 : Nat, (
    (R q20 a1.toNat = some q25) ∧ (
    ∃ n27 : Nat, (
    (X.2.1 q25 = some (100, n27) ∧ n27 < 2147483648) ∧ (
    (0 ≤ a2 ∧ a2 < n27) ∧ (
    ((I16 q25 a2.toNat).toInt ≠ 0 → (
      (0 ≤ a1 ∧ a1 < n22) ∧ (
      ∃ q31 : Nat, (
      (R q20 a1.toNat = some q31) ∧ (
      ∃ n33 : Nat, (
      (X.2.1 q31 = some (100, n33) ∧ n33 < 2147483648) ∧ (
      (0 ≤ a2 ∧ a2 < n33) ∧ (
      Q (some (jy ((I16 q31 a2.toNat).toInt))) I16))))))
    )) ∧ ((I16 q25 a2.toNat).toInt = 0 → (
      Q (some (jy (-1))) I16
    )))))))))))))
  )) ∧ (¬ r17 = 0 → (
    Q (some (jy 0)) I16
  )))))))
/-- GCModel.road -/
def wz_235 (V : jx_V) (X : jx_X) (R : jx_R) (Q : Option Value → jx_I → Prop) (QE : String → jx_I → Prop) (J27 : Nat → Int → jx_I → Prop) (a0 : Nat) (a1 : Int) (a2 : Int) (I : jx_I) : Prop :=
  (X.2.1 a0 = some (12, 0)) ∧ (
  ∀ I2 : jx_I, I2 = jx_u I a0 0 (Int32.ofInt 0) → (
  ∃ Q3 : Option Value → jx_I → Prop, (
  (jc V 2 232 (0, 0) [.ref a0, jy a1] X I2 R Q3 (fun _ _ => False)) ∧ (
  ∀ rv I5, Q3 rv I5 → ∃ r6 : Int, rv = some (jy r6) ∧ (
  (-2147483648 ≤ r6 ∧ r6 < 2147483648) ∧ (
  (r6 = 0 → (
    J27 a0 1 I5
  )) ∧ (¬ r6 = 0 → (
    ∃ Q8 : Option Value → jx_I → Prop, (
    (jc V 2 232 (0, 0) [.ref a0, jy a2] X I5 R Q8 (fun _ _ => False)) ∧ (
    ∀ rv I10, Q8 rv I10 → ∃ r11 : Int, rv = some (jy r11) ∧ (
    (-2147483648 ≤ r11 ∧ r11 < 2147483648) ∧ (
    (r11 ≠ 0 → (
      J27 a0 0 I10
    )) ∧ (r11 = 0 → (
      J27 a0 1 I10
    ))))))
  ))))))))
set_option maxRecDepth 20000 in
theorem wm_235 {V : jx_V} (hV : V.1.stackTraces = false) {X : jx_X} {R : jx_R} {I : jx_I} {Q : Option Value → jx_I → Prop} {QE : String → jx_I → Prop} {a0 : Nat} {a1 : Int} {a2 : Int} (r_a1 : -2147483648 ≤ a1 ∧ a1 < 2147483648) (r_a2 : -2147483648 ≤ a2 ∧ a2 < 2147483648) 
    (h : ∀ (J27 : Nat → Int → jx_I → Prop), ((∀ (s0 : Nat) (s1 : Int) I, wz_235_27 V X R Q QE J27 a0 a1 a2 s0 s1 I → J27 s0 s1 I)) → wz_235 V X R Q QE J27 a0 a1 a2 I) : jc V 3 235 (0, 0) [.ref a0, jy a1, jy a2] X I R Q QE := by
  refine jy_met hV (by decide) (n := 3) (rt := some .int) (hh := []) (ini := false) (C := jx_c235) (L := [some (.ref a0), some (jy a1), some (jy a2)]) jt_235 (Nat.le_of_ble_eq_true rfl) rfl ?_
  intro J hS
  have h := h (fun s0 s1 I => J 27 [jy s1, .ref s0] [some (.ref a0), some (jy a1), some (jy a2)] (0, 0) X I R) ?_
  · unfold wz_235 at h
    refine jy_aload_n hS rfl rfl ?_
    refine jy_iconst hS rfl ?_
    obtain ⟨g1, h⟩ := h
    refine jy_putI hS rfl (by decide) g1 ?_
    intro I2 e9
    have h := h I2 e9
    clear e9
    refine jy_aload_n hS rfl rfl ?_
    refine jy_aload_n hS rfl rfl ?_
    refine jy_iload_n hS rfl rfl ?_
    obtain ⟨Q3, h⟩ := h
    obtain ⟨g4, h⟩ := h
    refine jy_callV hS rfl rfl rfl (Nat.le_of_ble_eq_true rfl) (Or.inl g1) g4 (by decide) ⟨by decide, by decide⟩ (Nat.le_of_ble_eq_true rfl) ?_ ?_
    rotate_left
    · exact fun Ex Xx Ix Rx hp => hp.2.2.2.elim
    intro rv Xx I5 Rx hp
    obtain ⟨e1, e2, hp⟩ := hp
    rw [e1, e2]
    clear e1 e2
    obtain ⟨r6, e1, h⟩ := h rv I5 hp
    rw [e1]
    clear e1
    change J 11 [jy r6, .ref a0] _ (0, 0) _ _ _
    obtain ⟨g7, h⟩ := h
    refine jy_if_eq hS rfl g7 (fun hq => ?_) (fun hq => ?_)
    · have h := h.1 hq
      refine jy_iconst hS rfl ?_
      refine jy_goto hS rfl ?_
      exact jy_join hS h rfl (jy_sub_s (jy_sub_s (jy_sub_s jy_sub_0)))
    · have h := h.2 hq
      refine jy_aload_n hS rfl rfl ?_
      refine jy_iload_n hS rfl rfl ?_
      obtain ⟨Q8, h⟩ := h
      obtain ⟨g9, h⟩ := h
      refine jy_callV hS rfl rfl rfl (Nat.le_of_ble_eq_true rfl) (Or.inl g1) g9 (by decide) ⟨by decide, by decide⟩ (Nat.le_of_ble_eq_true rfl) ?_ ?_
      rotate_left
      · exact fun Ex Xx Ix Rx hp => hp.2.2.2.elim
      intro rv Xx I10 Rx hp
      obtain ⟨e1, e2, hp⟩ := hp
      rw [e1, e2]
      clear e1 e2
      obtain ⟨r11, e1, h⟩ := h rv I10 hp
      rw [e1]
      clear e1
      change J 19 [jy r11, .ref a0] _ (0, 0) _ _ _
      obtain ⟨g12, h⟩ := h
      refine jy_if_ne hS rfl g12 (fun hq => ?_) (fun hq => ?_)
      · have h := h.1 hq
        refine jy_iconst hS rfl ?_
        exact jy_join hS h rfl (jy_sub_s (jy_sub_s (jy_sub_s jy_sub_0)))
      · have h := h.2 hq
        refine jy_iconst hS rfl ?_
        refine jy_goto hS rfl ?_
        exact jy_join hS h rfl (jy_sub_s (jy_sub_s (jy_sub_s jy_sub_0)))
  · intro s0 s1 I h
    unfold wz_235_27 at h
    refine jy_iconst hS rfl ?_
    refine jy_iconst hS rfl ?_
    obtain ⟨g13, h⟩ := h
    obtain ⟨Q14, h⟩ := h
    obtain ⟨g15, h⟩ := h
    refine jy_callV hS rfl rfl rfl (Nat.le_of_ble_eq_true rfl) (Or.inl g13) g15 (by decide) ⟨by decide, by decide⟩ (Nat.le_of_ble_eq_true rfl) ?_ ?_
    rotate_left
    · exact fun Ex Xx Ix Rx hp => hp.2.2.2.elim
    intro rv Xx I16 Rx hp
    obtain ⟨e1, e2, hp⟩ := hp
    rw [e1, e2]
    clear e1 e2
    obtain ⟨r17, e1, h⟩ := h rv I16 hp
    rw [e1]
    clear e1
    change J 32 [jy r17] _ (0, 0) _ _ _
    obtain ⟨g18, h⟩ := h
    refine jy_if_eq hS rfl g18 (fun hq => ?_) (fun hq => ?_)
    · have h := h.1 hq
      refine jy_aload_n hS rfl rfl ?_
      obtain ⟨g19, h⟩ := h
      obtain ⟨q20, h⟩ := h
      obtain ⟨g21, h⟩ := h
      refine jy_getR hS rfl (by decide) g19 g21 ?_
      refine jy_iload_n hS rfl rfl ?_
      obtain ⟨n22, h⟩ := h
      obtain ⟨g23, h⟩ := h
      obtain ⟨g24, h⟩ := h
      obtain ⟨q25, h⟩ := h
      obtain ⟨g26, h⟩ := h
      refine jy_aald hS rfl g23.1 (by decide) (Nat.le_of_lt g23.2) g24 g26 ?_
      refine jy_iload_n hS rfl rfl ?_
      obtain ⟨n27, h⟩ := h
      obtain ⟨g28, h⟩ := h
      obtain ⟨g29, h⟩ := h
      refine jy_iald hS rfl g28.1 (Nat.le_of_lt g28.2) g29 ?_
      refine jy_if_ne hS rfl (jy_rng _) (fun hq => ?_) (fun hq => ?_)
      · have h := h.1 hq
        refine jy_aload_n hS rfl rfl ?_
        refine jy_getR hS rfl (by decide) g19 g21 ?_
        refine jy_iload_n hS rfl rfl ?_
        obtain ⟨g30, h⟩ := h
        obtain ⟨q31, h⟩ := h
        obtain ⟨g32, h⟩ := h
        refine jy_aald hS rfl g23.1 (by decide) (Nat.le_of_lt g23.2) g30 g32 ?_
        refine jy_iload_n hS rfl rfl ?_
        obtain ⟨n33, h⟩ := h
        obtain ⟨g34, h⟩ := h
        obtain ⟨g35, h⟩ := h
        refine jy_iald hS rfl g34.1 (Nat.le_of_lt g34.2) g35 ?_
        exact jy_iret hS rfl rfl ⟨rfl, rfl, h⟩
      · have h := h.2 hq
        refine jy_iconst hS rfl ?_
        refine jy_goto hS rfl ?_
        exact jy_iret hS rfl rfl ⟨rfl, rfl, h⟩
    · have h := h.2 hq
      refine jy_iconst hS rfl ?_
      exact jy_iret hS rfl rfl ⟨rfl, rfl, h⟩
theorem jt_236 : jx_ml 236 = 3 ∧ jx_rt 236 = some .int ∧ jx_hz 236 = [] ∧ decide ((jx_nm 236).name = "<init>") = false ∧ jx_code 236 = jx_c236 := by decide +kernel
/-- GCModel.camel, from 19 -/
def wz_236_19 (V : jx_V) (X : jx_X) (R : jx_R) (Q : Option Value → jx_I → Prop) (QE : String → jx_I → Prop) (J19 : Nat → Int → jx_I → Prop) (J42 : Nat → Int → jx_I → Prop) (a0 : Nat) (a1 : Int) (a2 : Int) (s0 : Nat) (s1 : Int) (I : jx_I) : Prop :=
  (X.2.1 s0 = some (12, 0)) ∧ (
  ∃ Q9 : Option Value → jx_I → Prop, (
  (jc V 1 202 (0, 0) [.ref s0, jy s1, jy 1, jy 1] X I R Q9 (fun _ _ => False)) ∧ (
  ∀ rv I11, Q9 rv I11 → ∃ r12 : Int, rv = some (jy r12) ∧ (
  (-2147483648 ≤ r12 ∧ r12 < 2147483648) ∧ (
  (r12 ≠ 0 → (
    Q (some (jy 0)) I11
  )) ∧ (r12 = 0 → (
    ∃ Q14 : Option Value → jx_I → Prop, (
    (jc V 1 203 (0, 0) [jy a2, jy 0, jy 1] X I11 R Q14 (fun _ _ => False)) ∧ (
    ∀ rv I16, Q14 rv I16 → ∃ r17 : Int, rv = some (jy r17) ∧ (
    (-2147483648 ≤ r17 ∧ r17 < 2147483648) ∧ (
    (r17 ≠ 0 → (
      J42 a0 0 I16
    )) ∧ (r17 = 0 → (
      J42 a0 1 I16
    ))))))
  )))))))
/-- GCModel.camel, from 42 -/
def wz_236_42 (V : jx_V) (X : jx_X) (R : jx_R) (Q : Option Value → jx_I → Prop) (QE : String → jx_I → Prop) (J19 : Nat → Int → jx_I → Prop) (J42 : Nat → Int → jx_I → Prop) (a0 : Nat) (a1 : Int) (a2 : Int) (s0 : Nat) (s1 : Int) (I : jx_I) : Prop :=
  (X.2.1 s0 = some (12, 0)) ∧ (
  ∃ Q20 : Option Value → jx_I → Prop, (
  (jc V 1 202 (0, 0) [.ref s0, jy s1, jy 2, jy 2] X I R Q20 (fun _ _ => False)) ∧ (
  ∀ rv I22, Q20 rv I22 → ∃ r23 : Int, rv = some (jy r23) ∧ (
  (-2147483648 ≤ r23 ∧ r23 < 2147483648) ∧ (
  (r23 = 0 → (
    (a2 ≠ 0 → (
      (X.2.1 a0 = some (12, 0)) ∧ (
      ∃ q26 : Nat, (
      (R a0 17 = some q26) ∧ (
      ∃ n28 : Nat, (
      (X.2.1 q26 = some (100, n28) ∧ n28 < 2147483648) ∧ (
      (0 ≤ a1 ∧ a1 < n28) ∧ (
      Q (some (jy ((I22 q26 a1.toNat).toInt))) I22))))))
    )) ∧ (a2 = 0 → (
      (X.2.1 a0 = some (12, 0)) ∧ (
      ∃ q32 : Nat, (
      (R a0 15 = some q32) ∧ (
      ∃ n34 : Nat, (
      (X.2.1 q32 = some (100, n34) ∧ n34 < 2147483648) ∧ (
      (0 ≤ a1 ∧ a1 < n34) ∧ (
      Q (some (jy ((I22 q32 a1.toNat).toInt))) I22))))))
    ))
  )) ∧ (¬ r23 = 0 → (
    Q (some (jy 0)) I22
  )))))))
/-- GCModel.camel -/
def wz_236 (V : jx_V) (X : jx_X) (R : jx_R) (Q : Option Value → jx_I → Prop) (QE : String → jx_I → Prop) (J19 : Nat → Int → jx_I → Prop) (J42 : Nat → Int → jx_I → Prop) (a0 : Nat) (a1 : Int) (a2 : Int) (I : jx_I) : Prop :=
  (X.2.1 a0 = some (12, 0)) ∧ (
  ∀ I2 : jx_I, I2 = jx_u I a0 0 (Int32.ofInt 0) → (
  ∃ Q3 : Option Value → jx_I → Prop, (
  (jc V 2 233 (0, 0) [.ref a0, jy a1] X I2 R Q3 (fun _ _ => False)) ∧ (
  ∀ rv I5, Q3 rv I5 → ∃ r6 : Int, rv = some (jy r6) ∧ (
  (-2147483648 ≤ r6 ∧ r6 < 2147483648) ∧ (
  (r6 ≠ 0 → (
    J19 a0 0 I5
  )) ∧ (r6 = 0 → (
    J19 a0 1 I5
  ))))))))
set_option maxRecDepth 20000 in
theorem wm_236 {V : jx_V} (hV : V.1.stackTraces = false) {X : jx_X} {R : jx_R} {I : jx_I} {Q : Option Value → jx_I → Prop} {QE : String → jx_I → Prop} {a0 : Nat} {a1 : Int} {a2 : Int} (r_a1 : -2147483648 ≤ a1 ∧ a1 < 2147483648) (r_a2 : -2147483648 ≤ a2 ∧ a2 < 2147483648) 
    (h : ∀ (J19 : Nat → Int → jx_I → Prop) (J42 : Nat → Int → jx_I → Prop), ((∀ (s0 : Nat) (s1 : Int) I, wz_236_19 V X R Q QE J19 J42 a0 a1 a2 s0 s1 I → J19 s0 s1 I) ∧ (∀ (s0 : Nat) (s1 : Int) I, wz_236_42 V X R Q QE J19 J42 a0 a1 a2 s0 s1 I → J42 s0 s1 I)) → wz_236 V X R Q QE J19 J42 a0 a1 a2 I) : jc V 3 236 (0, 0) [.ref a0, jy a1, jy a2] X I R Q QE := by
  refine jy_met hV (by decide) (n := 3) (rt := some .int) (hh := []) (ini := false) (C := jx_c236) (L := [some (.ref a0), some (jy a1), some (jy a2)]) jt_236 (Nat.le_of_ble_eq_true rfl) rfl ?_
  intro J hS
  have h := h (fun s0 s1 I => J 19 [jy s1, .ref s0] [some (.ref a0), some (jy a1), some (jy a2)] (0, 0) X I R) (fun s0 s1 I => J 42 [jy s1, .ref s0] [some (.ref a0), some (jy a1), some (jy a2)] (0, 0) X I R) ?_
  · unfold wz_236 at h
    refine jy_aload_n hS rfl rfl ?_
    refine jy_iconst hS rfl ?_
    obtain ⟨g1, h⟩ := h
    refine jy_putI hS rfl (by decide) g1 ?_
    intro I2 e9
    have h := h I2 e9
    clear e9
    refine jy_aload_n hS rfl rfl ?_
    refine jy_aload_n hS rfl rfl ?_
    refine jy_iload_n hS rfl rfl ?_
    obtain ⟨Q3, h⟩ := h
    obtain ⟨g4, h⟩ := h
    refine jy_callV hS rfl rfl rfl (Nat.le_of_ble_eq_true rfl) (Or.inl g1) g4 (by decide) ⟨by decide, by decide⟩ (Nat.le_of_ble_eq_true rfl) ?_ ?_
    rotate_left
    · exact fun Ex Xx Ix Rx hp => hp.2.2.2.elim
    intro rv Xx I5 Rx hp
    obtain ⟨e1, e2, hp⟩ := hp
    rw [e1, e2]
    clear e1 e2
    obtain ⟨r6, e1, h⟩ := h rv I5 hp
    rw [e1]
    clear e1
    change J 11 [jy r6, .ref a0] _ (0, 0) _ _ _
    obtain ⟨g7, h⟩ := h
    refine jy_if_ne hS rfl g7 (fun hq => ?_) (fun hq => ?_)
    · have h := h.1 hq
      refine jy_iconst hS rfl ?_
      exact jy_join hS h rfl (jy_sub_s (jy_sub_s (jy_sub_s jy_sub_0)))
    · have h := h.2 hq
      refine jy_iconst hS rfl ?_
      refine jy_goto hS rfl ?_
      exact jy_join hS h rfl (jy_sub_s (jy_sub_s (jy_sub_s jy_sub_0)))
  refine ⟨?_, ?_⟩
  · intro s0 s1 I h
    unfold wz_236_19 at h
    refine jy_iconst hS rfl ?_
    refine jy_iconst hS rfl ?_
    obtain ⟨g8, h⟩ := h
    obtain ⟨Q9, h⟩ := h
    obtain ⟨g10, h⟩ := h
    refine jy_callV hS rfl rfl rfl (Nat.le_of_ble_eq_true rfl) (Or.inl g8) g10 (by decide) ⟨by decide, by decide⟩ (Nat.le_of_ble_eq_true rfl) ?_ ?_
    rotate_left
    · exact fun Ex Xx Ix Rx hp => hp.2.2.2.elim
    intro rv Xx I11 Rx hp
    obtain ⟨e1, e2, hp⟩ := hp
    rw [e1, e2]
    clear e1 e2
    obtain ⟨r12, e1, h⟩ := h rv I11 hp
    rw [e1]
    clear e1
    change J 24 [jy r12] _ (0, 0) _ _ _
    obtain ⟨g13, h⟩ := h
    refine jy_if_ne hS rfl g13 (fun hq => ?_) (fun hq => ?_)
    · have h := h.1 hq
      refine jy_iconst hS rfl ?_
      exact jy_iret hS rfl rfl ⟨rfl, rfl, h⟩
    · have h := h.2 hq
      refine jy_aload_n hS rfl rfl ?_
      refine jy_iload_n hS rfl rfl ?_
      refine jy_iconst hS rfl ?_
      refine jy_iconst hS rfl ?_
      obtain ⟨Q14, h⟩ := h
      obtain ⟨g15, h⟩ := h
      refine jy_callS hS rfl rfl rfl (Nat.le_of_ble_eq_true rfl) g15 (by decide) ⟨by decide, by decide⟩ (Nat.le_of_ble_eq_true rfl) ?_ ?_
      rotate_left
      · exact fun Ex Xx Ix Rx hp => hp.2.2.2.elim
      intro rv Xx I16 Rx hp
      obtain ⟨e1, e2, hp⟩ := hp
      rw [e1, e2]
      clear e1 e2
      obtain ⟨r17, e1, h⟩ := h rv I16 hp
      rw [e1]
      clear e1
      change J 34 [jy r17, .ref a0] _ (0, 0) _ _ _
      obtain ⟨g18, h⟩ := h
      refine jy_if_ne hS rfl g18 (fun hq => ?_) (fun hq => ?_)
      · have h := h.1 hq
        refine jy_iconst hS rfl ?_
        exact jy_join hS h rfl (jy_sub_s (jy_sub_s (jy_sub_s jy_sub_0)))
      · have h := h.2 hq
        refine jy_iconst hS rfl ?_
        refine jy_goto hS rfl ?_
        exact jy_join hS h rfl (jy_sub_s (jy_sub_s (jy_sub_s jy_sub_0)))
  · intro s0 s1 I h
    unfold wz_236_42 at h
    refine jy_iconst hS rfl ?_
    refine jy_iconst hS rfl ?_
    obtain ⟨g19, h⟩ := h
    obtain ⟨Q20, h⟩ := h
    obtain ⟨g21, h⟩ := h
    refine jy_callV hS rfl rfl rfl (Nat.le_of_ble_eq_true rfl) (Or.inl g19) g21 (by decide) ⟨by decide, by decide⟩ (Nat.le_of_ble_eq_true rfl) ?_ ?_
    rotate_left
    · exact fun Ex Xx Ix Rx hp => hp.2.2.2.elim
    intro rv Xx I22 Rx hp
    obtain ⟨e1, e2, hp⟩ := hp
    rw [e1, e2]
    clear e1 e2
    obtain ⟨r23, e1, h⟩ := h rv I22 hp
    rw [e1]
    clear e1
    change J 47 [jy r23] _ (0, 0) _ _ _
    obtain ⟨g24, h⟩ := h
    refine jy_if_eq hS rfl g24 (fun hq => ?_) (fun hq => ?_)
    · have h := h.1 hq
      refine jy_iload_n hS rfl rfl ?_
      refine jy_if_ne hS rfl r_a2 (fun hq => ?_) (fun hq => ?_)
      · have h := h.1 hq
        refine jy_aload_n hS rfl rfl ?_
        obtain ⟨g25, h⟩ := h
        obtain ⟨q26, h⟩ := h
        obtain ⟨g27, h⟩ := h
        refine jy_getR hS rfl (by decide) g25 g27 ?_
        refine jy_iload_n hS rfl rfl ?_
        obtain ⟨n28, h⟩ := h
        obtain ⟨g29, h⟩ := h
        obtain ⟨g30, h⟩ := h
        refine jy_iald hS rfl g29.1 (Nat.le_of_lt g29.2) g30 ?_
        exact jy_iret hS rfl rfl ⟨rfl, rfl, h⟩
      · have h := h.2 hq
        refine jy_aload_n hS rfl rfl ?_
        obtain ⟨g31, h⟩ := h
        obtain ⟨q32, h⟩ := h
        obtain ⟨g33, h⟩ := h
        refine jy_getR hS rfl (by decide) g31 g33 ?_
        refine jy_iload_n hS rfl rfl ?_
        obtain ⟨n34, h⟩ := h
        obtain ⟨g35, h⟩ := h
        obtain ⟨g36, h⟩ := h
        refine jy_iald hS rfl g35.1 (Nat.le_of_lt g35.2) g36 ?_
        refine jy_goto hS rfl ?_
        exact jy_iret hS rfl rfl ⟨rfl, rfl, h⟩
    · have h := h.2 hq
      refine jy_iconst hS rfl ?_
      exact jy_iret hS rfl rfl ⟨rfl, rfl, h⟩
