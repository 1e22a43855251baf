theorem jt_68 : jx_ml 68 = 1 ∧ jx_rt 68 = none ∧ jx_hz 68 = [] ∧ decide ((jx_nm 68).name = "<init>") = false ∧ jx_code 68 = jx_c68 := by decide +kernel
/-- GC$Row.empty -/
def wz_68 (V : jx_V) (X : jx_X) (R : jx_R) (Q : Option Value → jx_I → Prop) (QE : String → jx_I → Prop)  (a0 : Nat) (I : jx_I) : Prop :=
  (X.2.1 a0 = some (5, 0)) ∧ (
  ∀ I2 : jx_I, I2 = jx_u I a0 1 (Int32.ofInt 0) → (
  Q none I2))
theorem wm_68 {V : jx_V} (hV : V.1.stackTraces = false) {X : jx_X} {R : jx_R} {I : jx_I} {Q : Option Value → jx_I → Prop} {QE : String → jx_I → Prop} {a0 : Nat}  
    (h : wz_68 V X R Q QE  a0 I) : jc V 1 68 (0, 0) [.ref a0] X I R Q QE := by
  refine jy_met hV (by decide) (n := 1) (rt := none) (hh := []) (ini := false) (C := jx_c68) (L := [some (.ref a0)]) jt_68 (Nat.le_of_ble_eq_true rfl) rfl ?_
  intro J hS
  unfold wz_68 at h
  refine jy_aload_n hS rfl rfl ?_
  refine jy_iconst hS rfl ?_
  obtain ⟨g1, h⟩ := h
  refine jy_putI hS rfl (by decide) g1 ?_
  intro I2 e9
  have h := h I2 e9
  clear e9
  exact jy_ret hS rfl rfl ⟨rfl, rfl, h⟩
theorem jt_69 : jx_ml 69 = 2 ∧ jx_rt 69 = none ∧ jx_hz 69 = [] ∧ decide ((jx_nm 69).name = "<init>") = false ∧ jx_code 69 = jx_c69 := by decide +kernel
/-- GC$Row.add -/
def wz_69 (V : jx_V) (X : jx_X) (R : jx_R) (Q : Option Value → jx_I → Prop) (QE : String → jx_I → Prop)  (a0 : Nat) (a1 : Int) (I : jx_I) : Prop :=
  (X.2.1 a0 = some (5, 0)) ∧ (
  ∃ q2 : Nat, (
  (R a0 0 = some q2) ∧ (
  ∃ n4 : Nat, (
  (X.2.1 q2 = some (100, n4) ∧ n4 < 2147483648) ∧ (
  ((n4 : Int) ≤ (I a0 1).toInt → (
    Q none I
  )) ∧ (¬ (n4 : Int) ≤ (I a0 1).toInt → (
    (0 ≤ (I a0 1).toInt ∧ (I a0 1).toInt < n4) ∧ (
    ∀ I7 : jx_I, I7 = jx_u I q2 ((I a0 1).toInt).toNat (Int32.ofInt a1) → (
    ∀ I8 : jx_I, I8 = jx_u I7 a0 1 (Int32.ofInt ((I7 a0 1).toInt + 1)) → (
    Q none I8)))
  )))))))
theorem wm_69 {V : jx_V} (hV : V.1.stackTraces = false) {X : jx_X} {R : jx_R} {I : jx_I} {Q : Option Value → jx_I → Prop} {QE : String → jx_I → Prop} {a0 : Nat} {a1 : Int} (r_a1 : -2147483648 ≤ a1 ∧ a1 < 2147483648) 
    (h : wz_69 V X R Q QE  a0 a1 I) : jc V 1 69 (0, 0) [.ref a0, jy a1] X I R Q QE := by
  refine jy_met hV (by decide) (n := 2) (rt := none) (hh := []) (ini := false) (C := jx_c69) (L := [some (.ref a0), some (jy a1)]) jt_69 (Nat.le_of_ble_eq_true rfl) rfl ?_
  intro J hS
  unfold wz_69 at h
  refine jy_aload_n hS rfl rfl ?_
  obtain ⟨g1, h⟩ := h
  refine jy_getI hS rfl (by decide) g1 ?_
  refine jy_aload_n hS rfl rfl ?_
  obtain ⟨q2, h⟩ := h
  obtain ⟨g3, h⟩ := h
  refine jy_getR hS rfl (by decide) g1 g3 ?_
  obtain ⟨n4, h⟩ := h
  obtain ⟨g5, h⟩ := h
  refine jy_alen hS rfl g5.1 (by decide) g5.2 ?_
  refine jy_icmp_ge hS rfl ⟨jy_rng _, (by omega)⟩ (fun q9 => ?_) (fun q9 => ?_)
  · have h := h.1 q9
    exact jy_ret hS rfl rfl ⟨rfl, rfl, h⟩
  · have h := h.2 q9
    refine jy_aload_n hS rfl rfl ?_
    refine jy_getR hS rfl (by decide) g1 g3 ?_
    refine jy_aload_n hS rfl rfl ?_
    refine jy_getI hS rfl (by decide) g1 ?_
    refine jy_iload_n hS rfl rfl ?_
    obtain ⟨g6, h⟩ := h
    refine jy_iast hS rfl g5.1 (Nat.le_of_lt g5.2) g6 ?_
    intro I7 e9
    have h := h I7 e9
    clear e9
    refine jy_aload_n hS rfl rfl ?_
    refine jy_dup hS rfl rfl ?_
    refine jy_getI hS rfl (by decide) g1 ?_
    refine jy_iconst hS rfl ?_
    refine jy_iadd hS rfl ?_
    refine jy_putI hS rfl (by decide) g1 ?_
    intro I8 e9
    have h := h I8 e9
    clear e9
    exact jy_ret hS rfl rfl ⟨rfl, rfl, h⟩
theorem jt_70 : jx_ml 70 = 3 ∧ jx_rt 70 = none ∧ jx_hz 70 = [] ∧ decide ((jx_nm 70).name = "<init>") = false ∧ jx_code 70 = jx_c70 := by decide +kernel
/-- GC$Row.putFirst, from 17 -/
def wz_70_17 (V : jx_V) (X : jx_X) (R : jx_R) (Q : Option Value → jx_I → Prop) (QE : String → jx_I → Prop) (J17 : Int → jx_I → Prop) (a0 : Nat) (a1 : Int) (l2 : Int) (I : jx_I) : Prop :=
  (-2147483648 ≤ l2 ∧ l2 < 2147483648) ∧ (
  (l2 ≤ 0 → (
    (X.2.1 a0 = some (5, 0)) ∧ (
    ∃ q8 : Nat, (
    (R a0 0 = some q8) ∧ (
    ∃ n10 : Nat, (
    (X.2.1 q8 = some (100, n10) ∧ n10 < 2147483648) ∧ (
    (0 ≤ (0 : Int) ∧ (0 : Int) < n10) ∧ (
    ∀ I13 : jx_I, I13 = jx_u I q8 (0 : Int).toNat (Int32.ofInt a1) → (
    ∀ I14 : jx_I, I14 = jx_u I13 a0 1 (Int32.ofInt ((I13 a0 1).toInt + 1)) → (
    Q none I14))))))))
  )) ∧ (¬ l2 ≤ 0 → (
    (X.2.1 a0 = some (5, 0)) ∧ (
    ∃ q16 : Nat, (
    (R a0 0 = some q16) ∧ (
    ∃ n18 : Nat, (
    (X.2.1 q16 = some (100, n18) ∧ n18 < 2147483648) ∧ (
    (0 ≤ (l2 - 1) ∧ (l2 - 1) < n18) ∧ (
    (0 ≤ l2 ∧ l2 < n18) ∧ (
    ∀ I22 : jx_I, I22 = jx_u I q16 l2.toNat (Int32.ofInt ((I q16 (l2 - 1).toNat).toInt)) → (
    J17 (l2 + (-1)) I22))))))))
  )))
/-- GC$Row.putFirst -/
def wz_70 (V : jx_V) (X : jx_X) (R : jx_R) (Q : Option Value → jx_I → Prop) (QE : String → jx_I → Prop) (J17 : Int → jx_I → Prop) (a0 : Nat) (a1 : Int) (I : jx_I) : Prop :=
  (X.2.1 a0 = some (5, 0)) ∧ (
  ∃ q2 : Nat, (
  (R a0 0 = some q2) ∧ (
  ∃ n4 : Nat, (
  (X.2.1 q2 = some (100, n4) ∧ n4 < 2147483648) ∧ (
  ((n4 : Int) ≤ (I a0 1).toInt → (
    Q none I
  )) ∧ (¬ (n4 : Int) ≤ (I a0 1).toInt → (
    J17 ((I a0 1).toInt) I
  )))))))
theorem wm_70 {V : jx_V} (hV : V.1.stackTraces = false) {X : jx_X} {R : jx_R} {I : jx_I} {Q : Option Value → jx_I → Prop} {QE : String → jx_I → Prop} {a0 : Nat} {a1 : Int} (r_a1 : -2147483648 ≤ a1 ∧ a1 < 2147483648) 
    (h : ∀ (J17 : Int → jx_I → Prop), ((∀ (l2 : Int) I, wz_70_17 V X R Q QE J17 a0 a1 l2 I → J17 l2 I)) → wz_70 V X R Q QE J17 a0 a1 I) : jc V 1 70 (0, 0) [.ref a0, jy a1] X I R Q QE := by
  refine jy_met hV (by decide) (n := 3) (rt := none) (hh := []) (ini := false) (C := jx_c70) (L := [some (.ref a0), some (jy a1), none]) jt_70 (Nat.le_of_ble_eq_true rfl) rfl ?_
  intro J hS
  have h := h (fun l2 I => J 17 [] [some (.ref a0), some (jy a1), some (jy l2)] (0, 0) X I R) ?_
  · unfold wz_70 at h
    refine jy_aload_n hS rfl rfl ?_
    obtain ⟨g1, h⟩ := h
    refine jy_getI hS rfl (by decide) g1 ?_
    refine jy_aload_n hS rfl rfl ?_
    obtain ⟨q2, h⟩ := h
    obtain ⟨g3, h⟩ := h
    refine jy_getR hS rfl (by decide) g1 g3 ?_
    obtain ⟨n4, h⟩ := h
    obtain ⟨g5, h⟩ := h
    refine jy_alen hS rfl g5.1 (by decide) g5.2 ?_
    refine jy_icmp_ge hS rfl ⟨jy_rng _, (by omega)⟩ (fun q9 => ?_) (fun q9 => ?_)
    · have h := h.1 q9
      exact jy_ret hS rfl rfl ⟨rfl, rfl, h⟩
    · have h := h.2 q9
      refine jy_aload_n hS rfl rfl ?_
      refine jy_getI hS rfl (by decide) g1 ?_
      refine jy_istore_n hS rfl (Nat.le_of_ble_eq_true rfl) (L' := [some (.ref a0), some (jy a1), some (jy ((I a0 1).toInt))]) rfl ?_
      exact jy_join hS h rfl (jy_sub_s (jy_sub_s (jy_sub_s jy_sub_0)))
  · intro l2 I h
    unfold wz_70_17 at h
    refine jy_iload_n hS rfl rfl ?_
    obtain ⟨g6, h⟩ := h
    refine jy_if_le hS rfl g6 (fun q9 => ?_) (fun q9 => ?_)
    · have h := h.1 q9
      refine jy_aload_n hS rfl rfl ?_
      obtain ⟨g7, h⟩ := h
      obtain ⟨q8, h⟩ := h
      obtain ⟨g9, h⟩ := h
      refine jy_getR hS rfl (by decide) g7 g9 ?_
      refine jy_iconst hS rfl ?_
      refine jy_iload_n hS rfl rfl ?_
      obtain ⟨n10, h⟩ := h
      obtain ⟨g11, h⟩ := h
      obtain ⟨g12, h⟩ := h
      refine jy_iast hS rfl g11.1 (Nat.le_of_lt g11.2) g12 ?_
      intro I13 e9
      have h := h I13 e9
      clear e9
      refine jy_aload_n hS rfl rfl ?_
      refine jy_dup hS rfl rfl ?_
      refine jy_getI hS rfl (by decide) g7 ?_
      refine jy_iconst hS rfl ?_
      refine jy_iadd hS rfl ?_
      refine jy_putI hS rfl (by decide) g7 ?_
      intro I14 e9
      have h := h I14 e9
      clear e9
      exact jy_ret hS rfl rfl ⟨rfl, rfl, h⟩
    · have h := h.2 q9
      refine jy_aload_n hS rfl rfl ?_
      obtain ⟨g15, h⟩ := h
      obtain ⟨q16, h⟩ := h
      obtain ⟨g17, h⟩ := h
      refine jy_getR hS rfl (by decide) g15 g17 ?_
      refine jy_iload_n hS rfl rfl ?_
      refine jy_aload_n hS rfl rfl ?_
      refine jy_getR hS rfl (by decide) g15 g17 ?_
      refine jy_iload_n hS rfl rfl ?_
      refine jy_iconst hS rfl ?_
      refine jy_isub hS rfl ?_
      obtain ⟨n18, h⟩ := h
      obtain ⟨g19, h⟩ := h
      obtain ⟨g20, h⟩ := h
      refine jy_iald hS rfl g19.1 (Nat.le_of_lt g19.2) g20 ?_
      obtain ⟨g21, h⟩ := h
      refine jy_iast hS rfl g19.1 (Nat.le_of_lt g19.2) g21 ?_
      intro I22 e9
      have h := h I22 e9
      clear e9
      refine jy_iinc hS rfl rfl (L' := [some (.ref a0), some (jy a1), some (jy (l2 + (-1)))]) rfl ?_
      refine jy_goto hS rfl ?_
      exact jy_join hS h rfl (jy_sub_s (jy_sub_s (jy_sub_s jy_sub_0)))
theorem jt_71 : jx_ml 71 = 4 ∧ jx_rt 71 = none ∧ jx_hz 71 = [] ∧ decide ((jx_nm 71).name = "<init>") = false ∧ jx_code 71 = jx_c71 := by decide +kernel
/-- GC$Row.takeOut, from 4 -/
def wz_71_4 (V : jx_V) (X : jx_X) (R : jx_R) (Q : Option Value → jx_I → Prop) (QE : String → jx_I → Prop) (J4 : Int → Int → jx_I → Prop) (J37 : Int → Int → jx_I → Prop) (a0 : Nat) (a1 : Int) (l2 : Int) (l3 : Int) (I : jx_I) : Prop :=
  (X.2.1 a0 = some (5, 0)) ∧ (
  (-2147483648 ≤ l3 ∧ l3 < 2147483648) ∧ (
  ((I a0 1).toInt ≤ l3 → (
    ∀ I3 : jx_I, I3 = jx_u I a0 1 (Int32.ofInt l2) → (
    Q none I3)
  )) ∧ (¬ (I a0 1).toInt ≤ l3 → (
    ∃ q4 : Nat, (
    (R a0 0 = some q4) ∧ (
    ∃ n6 : Nat, (
    (X.2.1 q4 = some (100, n6) ∧ n6 < 2147483648) ∧ (
    (0 ≤ l3 ∧ l3 < n6) ∧ (
    ((I q4 l3.toNat).toInt = a1 → (
      J4 l2 (l3 + 1) I
    )) ∧ (¬ (I q4 l3.toNat).toInt = a1 → (
      (0 ≤ l3 ∧ l3 < n6) ∧ (
      (0 ≤ l2 ∧ l2 < n6) ∧ (
      ∀ I11 : jx_I, I11 = jx_u I q4 l2.toNat (Int32.ofInt ((I q4 l3.toNat).toInt)) → (
      J37 (l2 + 1) l3 I11)))
    )))))))
  ))))
/-- GC$Row.takeOut, from 37 -/
def wz_71_37 (V : jx_V) (X : jx_X) (R : jx_R) (Q : Option Value → jx_I → Prop) (QE : String → jx_I → Prop) (J4 : Int → Int → jx_I → Prop) (J37 : Int → Int → jx_I → Prop) (a0 : Nat) (a1 : Int) (l2 : Int) (l3 : Int) (I : jx_I) : Prop :=
  J4 l2 (l3 + 1) I
/-- GC$Row.takeOut -/
def wz_71 (V : jx_V) (X : jx_X) (R : jx_R) (Q : Option Value → jx_I → Prop) (QE : String → jx_I → Prop) (J4 : Int → Int → jx_I → Prop) (J37 : Int → Int → jx_I → Prop) (a0 : Nat) (a1 : Int) (I : jx_I) : Prop :=
  J4 0 0 I
theorem wm_71 {V : jx_V} (hV : V.1.stackTraces = false) {X : jx_X} {R : jx_R} {I : jx_I} {Q : Option Value → jx_I → Prop} {QE : String → jx_I → Prop} {a0 : Nat} {a1 : Int} (r_a1 : -2147483648 ≤ a1 ∧ a1 < 2147483648) 
    (h : ∀ (J4 : Int → Int → jx_I → Prop) (J37 : Int → Int → jx_I → Prop), ((∀ (l2 : Int) (l3 : Int) I, wz_71_4 V X R Q QE J4 J37 a0 a1 l2 l3 I → J4 l2 l3 I) ∧ (∀ (l2 : Int) (l3 : Int) I, wz_71_37 V X R Q QE J4 J37 a0 a1 l2 l3 I → J37 l2 l3 I)) → wz_71 V X R Q QE J4 J37 a0 a1 I) : jc V 1 71 (0, 0) [.ref a0, jy a1] X I R Q QE := by
  refine jy_met hV (by decide) (n := 4) (rt := none) (hh := []) (ini := false) (C := jx_c71) (L := [some (.ref a0), some (jy a1), none, none]) jt_71 (Nat.le_of_ble_eq_true rfl) rfl ?_
  intro J hS
  have h := h (fun l2 l3 I => J 4 [] [some (.ref a0), some (jy a1), some (jy l2), some (jy l3)] (0, 0) X I R) (fun l2 l3 I => J 37 [] [some (.ref a0), some (jy a1), some (jy l2), some (jy l3)] (0, 0) X I R) ?_
  · unfold wz_71 at h
    refine jy_iconst hS rfl ?_
    refine jy_istore_n hS rfl (Nat.le_of_ble_eq_true rfl) (L' := [some (.ref a0), some (jy a1), some (jy 0), none]) rfl ?_
    refine jy_iconst hS rfl ?_
    refine jy_istore_n hS rfl (Nat.le_of_ble_eq_true rfl) (L' := [some (.ref a0), some (jy a1), some (jy 0), some (jy 0)]) rfl ?_
    exact jy_join hS h rfl (jy_sub_s (jy_sub_s (jy_sub_s (jy_sub_s jy_sub_0))))
  refine ⟨?_, ?_⟩
  · intro l2 l3 I h
    unfold wz_71_4 at h
    refine jy_iload_n hS rfl rfl ?_
    refine jy_aload_n hS rfl rfl ?_
    obtain ⟨g1, h⟩ := h
    refine jy_getI hS rfl (by decide) g1 ?_
    obtain ⟨g2, h⟩ := h
    refine jy_icmp_ge hS rfl ⟨g2, jy_rng _⟩ (fun q9 => ?_) (fun q9 => ?_)
    · have h := h.1 q9
      refine jy_aload_n hS rfl rfl ?_
      refine jy_iload_n hS rfl rfl ?_
      refine jy_putI hS rfl (by decide) g1 ?_
      intro I3 e9
      have h := h I3 e9
      clear e9
      exact jy_ret hS rfl rfl ⟨rfl, rfl, h⟩
    · have h := h.2 q9
      refine jy_aload_n hS rfl rfl ?_
      obtain ⟨q4, h⟩ := h
      obtain ⟨g5, h⟩ := h
      refine jy_getR hS rfl (by decide) g1 g5 ?_
      refine jy_iload_n hS rfl rfl ?_
      obtain ⟨n6, h⟩ := h
      obtain ⟨g7, h⟩ := h
      obtain ⟨g8, h⟩ := h
      refine jy_iald hS rfl g7.1 (Nat.le_of_lt g7.2) g8 ?_
      refine jy_iload_n hS rfl rfl ?_
      refine jy_icmp_eq hS rfl ⟨jy_rng _, r_a1⟩ (fun q9 => ?_) (fun q9 => ?_)
      · have h := h.1 q9
        refine jy_iinc hS rfl rfl (L' := [some (.ref a0), some (jy a1), some (jy l2), some (jy (l3 + 1))]) rfl ?_
        refine jy_goto hS rfl ?_
        exact jy_join hS h rfl (jy_sub_s (jy_sub_s (jy_sub_s (jy_sub_s jy_sub_0))))
      · have h := h.2 q9
        refine jy_aload_n hS rfl rfl ?_
        refine jy_getR hS rfl (by decide) g1 g5 ?_
        refine jy_iload_n hS rfl rfl ?_
        refine jy_aload_n hS rfl rfl ?_
        refine jy_getR hS rfl (by decide) g1 g5 ?_
        refine jy_iload_n hS rfl rfl ?_
        obtain ⟨g9, h⟩ := h
        refine jy_iald hS rfl g7.1 (Nat.le_of_lt g7.2) g9 ?_
        obtain ⟨g10, h⟩ := h
        refine jy_iast hS rfl g7.1 (Nat.le_of_lt g7.2) g10 ?_
        intro I11 e9
        have h := h I11 e9
        clear e9
        refine jy_iinc hS rfl rfl (L' := [some (.ref a0), some (jy a1), some (jy (l2 + 1)), some (jy l3)]) rfl ?_
        exact jy_join hS h rfl (jy_sub_s (jy_sub_s (jy_sub_s (jy_sub_s jy_sub_0))))
  · intro l2 l3 I h
    unfold wz_71_37 at h
    refine jy_iinc hS rfl rfl (L' := [some (.ref a0), some (jy a1), some (jy l2), some (jy (l3 + 1))]) rfl ?_
    refine jy_goto hS rfl ?_
    exact jy_join hS h rfl (jy_sub_s (jy_sub_s (jy_sub_s (jy_sub_s jy_sub_0))))
theorem jt_72 : jx_ml 72 = 3 ∧ jx_rt 72 = some .boolean ∧ jx_hz 72 = [] ∧ decide ((jx_nm 72).name = "<init>") = false ∧ jx_code 72 = jx_c72 := by decide +kernel
/-- GC$Row.has, from 2 -/
def wz_72_2 (V : jx_V) (X : jx_X) (R : jx_R) (Q : Option Value → jx_I → Prop) (QE : String → jx_I → Prop) (J2 : Int → jx_I → Prop) (a0 : Nat) (a1 : Int) (l2 : Int) (I : jx_I) : Prop :=
  (X.2.1 a0 = some (5, 0)) ∧ (
  (-2147483648 ≤ l2 ∧ l2 < 2147483648) ∧ (
  ((I a0 1).toInt ≤ l2 → (
    Q (some (jy 0)) I
  )) ∧ (¬ (I a0 1).toInt ≤ l2 → (
    ∃ q3 : Nat, (
    (R a0 0 = some q3) ∧ (
    ∃ n5 : Nat, (
    (X.2.1 q3 = some (100, n5) ∧ n5 < 2147483648) ∧ (
    (0 ≤ l2 ∧ l2 < n5) ∧ (
    ((I q3 l2.toNat).toInt ≠ a1 → (
      J2 (l2 + 1) I
    )) ∧ ((I q3 l2.toNat).toInt = a1 → (
      Q (some (jy 1)) I
    )))))))
  ))))
/-- GC$Row.has -/
def wz_72 (V : jx_V) (X : jx_X) (R : jx_R) (Q : Option Value → jx_I → Prop) (QE : String → jx_I → Prop) (J2 : Int → jx_I → Prop) (a0 : Nat) (a1 : Int) (I : jx_I) : Prop :=
  J2 0 I
theorem wm_72 {V : jx_V} (hV : V.1.stackTraces = false) {X : jx_X} {R : jx_R} {I : jx_I} {Q : Option Value → jx_I → Prop} {QE : String → jx_I → Prop} {a0 : Nat} {a1 : Int} (r_a1 : -2147483648 ≤ a1 ∧ a1 < 2147483648) 
    (h : ∀ (J2 : Int → jx_I → Prop), ((∀ (l2 : Int) I, wz_72_2 V X R Q QE J2 a0 a1 l2 I → J2 l2 I)) → wz_72 V X R Q QE J2 a0 a1 I) : jc V 1 72 (0, 0) [.ref a0, jy a1] X I R Q QE := by
  refine jy_met hV (by decide) (n := 3) (rt := some .boolean) (hh := []) (ini := false) (C := jx_c72) (L := [some (.ref a0), some (jy a1), none]) jt_72 (Nat.le_of_ble_eq_true rfl) rfl ?_
  intro J hS
  have h := h (fun l2 I => J 2 [] [some (.ref a0), some (jy a1), some (jy l2)] (0, 0) X I R) ?_
  · unfold wz_72 at h
    refine jy_iconst hS rfl ?_
    refine jy_istore_n hS rfl (Nat.le_of_ble_eq_true rfl) (L' := [some (.ref a0), some (jy a1), some (jy 0)]) rfl ?_
    exact jy_join hS h rfl (jy_sub_s (jy_sub_s (jy_sub_s jy_sub_0)))
  · intro l2 I h
    unfold wz_72_2 at h
    refine jy_iload_n hS rfl rfl ?_
    refine jy_aload_n hS rfl rfl ?_
    obtain ⟨g1, h⟩ := h
    refine jy_getI hS rfl (by decide) g1 ?_
    obtain ⟨g2, h⟩ := h
    refine jy_icmp_ge hS rfl ⟨g2, jy_rng _⟩ (fun q9 => ?_) (fun q9 => ?_)
    · have h := h.1 q9
      refine jy_iconst hS rfl ?_
      exact jy_iret hS rfl rfl ⟨rfl, rfl, h⟩
    · have h := h.2 q9
      refine jy_aload_n hS rfl rfl ?_
      obtain ⟨q3, h⟩ := h
      obtain ⟨g4, h⟩ := h
      refine jy_getR hS rfl (by decide) g1 g4 ?_
      refine jy_iload_n hS rfl rfl ?_
      obtain ⟨n5, h⟩ := h
      obtain ⟨g6, h⟩ := h
      obtain ⟨g7, h⟩ := h
      refine jy_iald hS rfl g6.1 (Nat.le_of_lt g6.2) g7 ?_
      refine jy_iload_n hS rfl rfl ?_
      refine jy_icmp_ne hS rfl ⟨jy_rng _, r_a1⟩ (fun q9 => ?_) (fun q9 => ?_)
      · have h := h.1 q9
        refine jy_iinc hS rfl rfl (L' := [some (.ref a0), some (jy a1), some (jy (l2 + 1))]) rfl ?_
        refine jy_goto hS rfl ?_
        exact jy_join hS h rfl (jy_sub_s (jy_sub_s (jy_sub_s jy_sub_0)))
      · have h := h.2 q9
        refine jy_iconst hS rfl ?_
        exact jy_iret hS rfl rfl ⟨rfl, rfl, h⟩
theorem jt_73 : jx_ml 73 = 2 ∧ jx_rt 73 = some .int ∧ jx_hz 73 = [] ∧ decide ((jx_nm 73).name = "<init>") = false ∧ jx_code 73 = jx_c73 := by decide +kernel
/-- GC$Row.itemAt -/
def wz_73 (V : jx_V) (X : jx_X) (R : jx_R) (Q : Option Value → jx_I → Prop) (QE : String → jx_I → Prop)  (a0 : Nat) (a1 : Int) (I : jx_I) : Prop :=
  (a1 < 0 → (
    Q (some (jy (-1))) I
  )) ∧ (¬ a1 < 0 → (
    (X.2.1 a0 = some (5, 0)) ∧ (
    ((I a0 1).toInt ≤ a1 → (
      Q (some (jy (-1))) I
    )) ∧ (¬ (I a0 1).toInt ≤ a1 → (
      ∃ q2 : Nat, (
      (R a0 0 = some q2) ∧ (
      ∃ n4 : Nat, (
      (X.2.1 q2 = some (100, n4) ∧ n4 < 2147483648) ∧ (
      (0 ≤ a1 ∧ a1 < n4) ∧ (
      Q (some (jy ((I q2 a1.toNat).toInt))) I)))))
    )))
  ))
theorem wm_73 {V : jx_V} (hV : V.1.stackTraces = false) {X : jx_X} {R : jx_R} {I : jx_I} {Q : Option Value → jx_I → Prop} {QE : String → jx_I → Prop} {a0 : Nat} {a1 : Int} (r_a1 : -2147483648 ≤ a1 ∧ a1 < 2147483648) 
    (h : wz_73 V X R Q QE  a0 a1 I) : jc V 1 73 (0, 0) [.ref a0, jy a1] X I R Q QE := by
  refine jy_met hV (by decide) (n := 2) (rt := some .int) (hh := []) (ini := false) (C := jx_c73) (L := [some (.ref a0), some (jy a1)]) jt_73 (Nat.le_of_ble_eq_true rfl) rfl ?_
  intro J hS
  unfold wz_73 at h
  refine jy_iload_n hS rfl rfl ?_
  refine jy_if_lt hS rfl r_a1 (fun q9 => ?_) (fun q9 => ?_)
  · have h := h.1 q9
    refine jy_iconst hS rfl ?_
    exact jy_iret hS rfl rfl ⟨rfl, rfl, h⟩
  · have h := h.2 q9
    refine jy_iload_n hS rfl rfl ?_
    refine jy_aload_n hS rfl rfl ?_
    obtain ⟨g1, h⟩ := h
    refine jy_getI hS rfl (by decide) g1 ?_
    refine jy_icmp_ge hS rfl ⟨r_a1, jy_rng _⟩ (fun q9 => ?_) (fun q9 => ?_)
    · have h := h.1 q9
      refine jy_iconst hS rfl ?_
      exact jy_iret hS rfl rfl ⟨rfl, rfl, h⟩
    · have h := h.2 q9
      refine jy_aload_n hS rfl rfl ?_
      obtain ⟨q2, h⟩ := h
      obtain ⟨g3, h⟩ := h
      refine jy_getR hS rfl (by decide) g1 g3 ?_
      refine jy_iload_n hS rfl rfl ?_
      obtain ⟨n4, h⟩ := h
      obtain ⟨g5, h⟩ := h
      obtain ⟨g6, h⟩ := h
      refine jy_iald hS rfl g5.1 (Nat.le_of_lt g5.2) g6 ?_
      refine jy_goto hS rfl ?_
      exact jy_iret hS rfl rfl ⟨rfl, rfl, h⟩
theorem jt_74 : jx_ml 74 = 2 ∧ jx_rt 74 = none ∧ jx_hz 74 = [] ∧ decide ((jx_nm 74).name = "<init>") = false ∧ jx_code 74 = jx_c74 := by decide +kernel
/-- GC$Row.copyFrom -/
def wz_74 (V : jx_V) (X : jx_X) (R : jx_R) (Q : Option Value → jx_I → Prop) (QE : String → jx_I → Prop)  (a0 : Nat) (a1 : Nat) (I : jx_I) : Prop :=
  (X.2.1 a1 = some (5, 0)) ∧ (
  (X.2.1 a0 = some (5, 0)) ∧ (
  ∀ I3 : jx_I, I3 = jx_u I a0 1 (Int32.ofInt ((I a1 1).toInt)) → (
  ∃ q4 : Nat, (
  (R a1 0 = some q4) ∧ (
  ∃ q6 : Nat, (
  (R a0 0 = some q6) ∧ (
  ∃ n8 : Nat, (
  (X.2.1 q6 = some (100, n8) ∧ n8 < 2147483648) ∧ (
  ∃ n10 : Nat, (
  (X.2.1 q4 = some (100, n10) ∧ n10 < 2147483648) ∧ (
  ((0 ≤ (0 : Int) ∧ (0 : Int) + (n8 : Int) ≤ n10) ∧ (0 ≤ (0 : Int) ∧ (0 : Int) + (n8 : Int) ≤ n8) ∧ 0 ≤ (n8 : Int)) ∧ (
  ∀ I13 : jx_I, I13 = jx_cp I3 q4 q6 (0 : Int).toNat (0 : Int).toNat ((n8 : Int) : Int).toNat → (
  Q none I13)))))))))))))
theorem wm_74 {V : jx_V} (hV : V.1.stackTraces = false) {X : jx_X} {R : jx_R} {I : jx_I} {Q : Option Value → jx_I → Prop} {QE : String → jx_I → Prop} {a0 : Nat} {a1 : Nat}  
    (h : wz_74 V X R Q QE  a0 a1 I) : jc V 1 74 (0, 0) [.ref a0, .ref a1] X I R Q QE := by
  refine jy_met hV (by decide) (n := 2) (rt := none) (hh := []) (ini := false) (C := jx_c74) (L := [some (.ref a0), some (.ref a1)]) jt_74 (Nat.le_of_ble_eq_true rfl) rfl ?_
  intro J hS
  unfold wz_74 at h
  refine jy_aload_n hS rfl rfl ?_
  refine jy_aload_n hS rfl rfl ?_
  obtain ⟨g1, h⟩ := h
  refine jy_getI hS rfl (by decide) g1 ?_
  obtain ⟨g2, h⟩ := h
  refine jy_putI hS rfl (by decide) g2 ?_
  intro I3 e9
  have h := h I3 e9
  clear e9
  refine jy_aload_n hS rfl rfl ?_
  obtain ⟨q4, h⟩ := h
  obtain ⟨g5, h⟩ := h
  refine jy_getR hS rfl (by decide) g1 g5 ?_
  refine jy_iconst hS rfl ?_
  refine jy_aload_n hS rfl rfl ?_
  obtain ⟨q6, h⟩ := h
  obtain ⟨g7, h⟩ := h
  refine jy_getR hS rfl (by decide) g2 g7 ?_
  refine jy_iconst hS rfl ?_
  refine jy_aload_n hS rfl rfl ?_
  refine jy_getR hS rfl (by decide) g2 g7 ?_
  obtain ⟨n8, h⟩ := h
  obtain ⟨g9, h⟩ := h
  refine jy_alen hS rfl g9.1 (by decide) g9.2 ?_
  obtain ⟨n10, h⟩ := h
  obtain ⟨g11, h⟩ := h
  obtain ⟨g12, h⟩ := h
  refine jy_copy hS rfl (by decide) g11 g9 g12 (Nat.le_of_ble_eq_true rfl) ?_
  intro I13 e9
  have h := h I13 e9
  clear e9
  exact jy_ret hS rfl rfl ⟨rfl, rfl, h⟩
theorem jt_75 : jx_ml 75 = 3 ∧ jx_rt 75 = none ∧ jx_hz 75 = [] ∧ decide ((jx_nm 75).name = "<init>") = false ∧ jx_code 75 = jx_c75 := by decide +kernel
/-- GC$Row.takeFirst, from 6 -/
def wz_75_6 (V : jx_V) (X : jx_X) (R : jx_R) (Q : Option Value → jx_I → Prop) (QE : String → jx_I → Prop) (J6 : Int → jx_I → Prop) (a0 : Nat) (a1 : Int) (l2 : Int) (I : jx_I) : Prop :=
  (-2147483648 ≤ l2 ∧ l2 < 2147483648) ∧ (
  (a1 ≤ l2 → (
    Q none I
  )) ∧ (¬ a1 ≤ l2 → (
    (X.2.1 a0 = some (5, 0)) ∧ (
    ∃ Q8 : Option Value → jx_I → Prop, (
    (jc V 1 69 (0, 0) [.ref a0, jy l2] X I R Q8 (fun _ _ => False)) ∧ (
    ∀ rv I10, Q8 rv I10 → rv = none ∧ (
    J6 (l2 + 1) I10))))
  )))
/-- GC$Row.takeFirst -/
def wz_75 (V : jx_V) (X : jx_X) (R : jx_R) (Q : Option Value → jx_I → Prop) (QE : String → jx_I → Prop) (J6 : Int → jx_I → Prop) (a0 : Nat) (a1 : Int) (I : jx_I) : Prop :=
  (X.2.1 a0 = some (5, 0)) ∧ (
  ∃ Q2 : Option Value → jx_I → Prop, (
  (jc V 1 68 (0, 0) [.ref a0] X I R Q2 (fun _ _ => False)) ∧ (
  ∀ rv I4, Q2 rv I4 → rv = none ∧ (
  J6 0 I4))))
theorem wm_75 {V : jx_V} (hV : V.1.stackTraces = false) {X : jx_X} {R : jx_R} {I : jx_I} {Q : Option Value → jx_I → Prop} {QE : String → jx_I → Prop} {a0 : Nat} {a1 : Int} (r_a1 : -2147483648 ≤ a1 ∧ a1 < 2147483648) 
    (h : ∀ (J6 : Int → jx_I → Prop), ((∀ (l2 : Int) I, wz_75_6 V X R Q QE J6 a0 a1 l2 I → J6 l2 I)) → wz_75 V X R Q QE J6 a0 a1 I) : jc V 2 75 (0, 0) [.ref a0, jy a1] X I R Q QE := by
  refine jy_met hV (by decide) (n := 3) (rt := none) (hh := []) (ini := false) (C := jx_c75) (L := [some (.ref a0), some (jy a1), none]) jt_75 (Nat.le_of_ble_eq_true rfl) rfl ?_
  intro J hS
  have h := h (fun l2 I => J 6 [] [some (.ref a0), some (jy a1), some (jy l2)] (0, 0) X I R) ?_
  · unfold wz_75 at h
    refine jy_aload_n hS rfl rfl ?_
    obtain ⟨g1, h⟩ := h
    obtain ⟨Q2, h⟩ := h
    obtain ⟨g3, h⟩ := h
    refine jy_callV hS rfl rfl rfl (Nat.le_of_ble_eq_true rfl) (Or.inl g1) g3 (by decide) ⟨by decide, by decide⟩ (Nat.le_of_ble_eq_true rfl) ?_ ?_
    rotate_left
    · exact fun E9 X9 I9 R9 hp => hp.2.2.2.elim
    intro rv X9 I4 R9 hp
    obtain ⟨e1, e2, hp⟩ := hp
    rw [e1, e2]
    clear e1 e2
    obtain ⟨e1, h⟩ := h rv I4 hp
    rw [e1]
    clear e1
    change J 4 [] _ (0, 0) _ _ _
    refine jy_iconst hS rfl ?_
    refine jy_istore_n hS rfl (Nat.le_of_ble_eq_true rfl) (L' := [some (.ref a0), some (jy a1), some (jy 0)]) rfl ?_
    exact jy_join hS h rfl (jy_sub_s (jy_sub_s (jy_sub_s jy_sub_0)))
  · intro l2 I h
    unfold wz_75_6 at h
    refine jy_iload_n hS rfl rfl ?_
    refine jy_iload_n hS rfl rfl ?_
    obtain ⟨g6, h⟩ := h
    refine jy_icmp_ge hS rfl ⟨g6, r_a1⟩ (fun q9 => ?_) (fun q9 => ?_)
    · have h := h.1 q9
      exact jy_ret hS rfl rfl ⟨rfl, rfl, h⟩
    · have h := h.2 q9
      refine jy_aload_n hS rfl rfl ?_
      refine jy_iload_n hS rfl rfl ?_
      obtain ⟨g7, h⟩ := h
      obtain ⟨Q8, h⟩ := h
      obtain ⟨g9, h⟩ := h
      refine jy_callV hS rfl rfl rfl (Nat.le_of_ble_eq_true rfl) (Or.inl g7) g9 (by decide) ⟨by decide, by decide⟩ (Nat.le_of_ble_eq_true rfl) ?_ ?_
      rotate_left
      · exact fun E9 X9 I9 R9 hp => hp.2.2.2.elim
      intro rv X9 I10 R9 hp
      obtain ⟨e1, e2, hp⟩ := hp
      rw [e1, e2]
      clear e1 e2
      obtain ⟨e1, h⟩ := h rv I10 hp
      rw [e1]
      clear e1
      change J 16 [] _ (0, 0) _ _ _
      refine jy_iinc hS rfl rfl (L' := [some (.ref a0), some (jy a1), some (jy (l2 + 1))]) rfl ?_
      refine jy_goto hS rfl ?_
      exact jy_join hS h rfl (jy_sub_s (jy_sub_s (jy_sub_s jy_sub_0)))
theorem jt_76 : jx_ml 76 = 3 ∧ jx_rt 76 = none ∧ jx_hz 76 = [] ∧ decide ((jx_nm 76).name = "<init>") = false ∧ jx_code 76 = jx_c76 := by decide +kernel
/-- GC$Row.takeBits, from 6 -/
def wz_76_6 (V : jx_V) (X : jx_X) (R : jx_R) (Q : Option Value → jx_I → Prop) (QE : String → jx_I → Prop) (J6 : Int → jx_I → Prop) (J25 : Int → jx_I → Prop) (a0 : Nat) (a1 : Int) (l2 : Int) (I : jx_I) : Prop :=
  (-2147483648 ≤ l2 ∧ l2 < 2147483648) ∧ (
  (8 ≤ l2 → (
    Q none I
  )) ∧ (¬ 8 ≤ l2 → (
    ((Int32.ofInt ((Int32.ofInt a1 >>> (Int32.ofInt l2 &&& 31)).toInt) &&& Int32.ofInt 1).toInt = 0 → (
      J6 (l2 + 1) I
    )) ∧ (¬ (Int32.ofInt ((Int32.ofInt a1 >>> (Int32.ofInt l2 &&& 31)).toInt) &&& Int32.ofInt 1).toInt = 0 → (
      (X.2.1 a0 = some (5, 0)) ∧ (
      ∃ Q8 : Option Value → jx_I → Prop, (
      (jc V 1 69 (0, 0) [.ref a0, jy l2] X I R Q8 (fun _ _ => False)) ∧ (
      ∀ rv I10, Q8 rv I10 → rv = none ∧ (
      J25 l2 I10))))
    ))
  )))
/-- GC$Row.takeBits, from 25 -/
def wz_76_25 (V : jx_V) (X : jx_X) (R : jx_R) (Q : Option Value → jx_I → Prop) (QE : String → jx_I → Prop) (J6 : Int → jx_I → Prop) (J25 : Int → jx_I → Prop) (a0 : Nat) (a1 : Int) (l2 : Int) (I : jx_I) : Prop :=
  J6 (l2 + 1) I
/-- GC$Row.takeBits -/
def wz_76 (V : jx_V) (X : jx_X) (R : jx_R) (Q : Option Value → jx_I → Prop) (QE : String → jx_I → Prop) (J6 : Int → jx_I → Prop) (J25 : Int → jx_I → Prop) (a0 : Nat) (a1 : Int) (I : jx_I) : Prop :=
  (X.2.1 a0 = some (5, 0)) ∧ (
  ∃ Q2 : Option Value → jx_I → Prop, (
  (jc V 1 68 (0, 0) [.ref a0] X I R Q2 (fun _ _ => False)) ∧ (
  ∀ rv I4, Q2 rv I4 → rv = none ∧ (
  J6 0 I4))))
theorem wm_76 {V : jx_V} (hV : V.1.stackTraces = false) {X : jx_X} {R : jx_R} {I : jx_I} {Q : Option Value → jx_I → Prop} {QE : String → jx_I → Prop} {a0 : Nat} {a1 : Int} (r_a1 : -2147483648 ≤ a1 ∧ a1 < 2147483648) 
    (h : ∀ (J6 : Int → jx_I → Prop) (J25 : Int → jx_I → Prop), ((∀ (l2 : Int) I, wz_76_6 V X R Q QE J6 J25 a0 a1 l2 I → J6 l2 I) ∧ (∀ (l2 : Int) I, wz_76_25 V X R Q QE J6 J25 a0 a1 l2 I → J25 l2 I)) → wz_76 V X R Q QE J6 J25 a0 a1 I) : jc V 2 76 (0, 0) [.ref a0, jy a1] X I R Q QE := by
  refine jy_met hV (by decide) (n := 3) (rt := none) (hh := []) (ini := false) (C := jx_c76) (L := [some (.ref a0), some (jy a1), none]) jt_76 (Nat.le_of_ble_eq_true rfl) rfl ?_
  intro J hS
  have h := h (fun l2 I => J 6 [] [some (.ref a0), some (jy a1), some (jy l2)] (0, 0) X I R) (fun l2 I => J 25 [] [some (.ref a0), some (jy a1), some (jy l2)] (0, 0) X I R) ?_
  · unfold wz_76 at h
    refine jy_aload_n hS rfl rfl ?_
    obtain ⟨g1, h⟩ := h
    obtain ⟨Q2, h⟩ := h
    obtain ⟨g3, h⟩ := h
    refine jy_callV hS rfl rfl rfl (Nat.le_of_ble_eq_true rfl) (Or.inl g1) g3 (by decide) ⟨by decide, by decide⟩ (Nat.le_of_ble_eq_true rfl) ?_ ?_
    rotate_left
    · exact fun E9 X9 I9 R9 hp => hp.2.2.2.elim
    intro rv X9 I4 R9 hp
    obtain ⟨e1, e2, hp⟩ := hp
    rw [e1, e2]
    clear e1 e2
    obtain ⟨e1, h⟩ := h rv I4 hp
    rw [e1]
    clear e1
    change J 4 [] _ (0, 0) _ _ _
    refine jy_iconst hS rfl ?_
    refine jy_istore_n hS rfl (Nat.le_of_ble_eq_true rfl) (L' := [some (.ref a0), some (jy a1), some (jy 0)]) rfl ?_
    exact jy_join hS h rfl (jy_sub_s (jy_sub_s (jy_sub_s jy_sub_0)))
  refine ⟨?_, ?_⟩
  · intro l2 I h
    unfold wz_76_6 at h
    refine jy_iload_n hS rfl rfl ?_
    refine jy_bipush hS rfl (by decide) ?_
    obtain ⟨g6, h⟩ := h
    refine jy_icmp_ge hS rfl ⟨g6, ⟨by decide, by decide⟩⟩ (fun q9 => ?_) (fun q9 => ?_)
    · have h := h.1 q9
      exact jy_ret hS rfl rfl ⟨rfl, rfl, h⟩
    · have h := h.2 q9
      refine jy_iload_n hS rfl rfl ?_
      refine jy_iload_n hS rfl rfl ?_
      refine jy_ishrX hS rfl rfl ?_
      refine jy_iconst hS rfl ?_
      refine jy_iandX hS rfl rfl ?_
      refine jy_if_eq hS rfl (jy_rng _) (fun q9 => ?_) (fun q9 => ?_)
      · have h := h.1 q9
        refine jy_iinc hS rfl rfl (L' := [some (.ref a0), some (jy a1), some (jy (l2 + 1))]) rfl ?_
        refine jy_goto hS rfl ?_
        exact jy_join hS h rfl (jy_sub_s (jy_sub_s (jy_sub_s jy_sub_0)))
      · have h := h.2 q9
        refine jy_aload_n hS rfl rfl ?_
        refine jy_iload_n hS rfl rfl ?_
        obtain ⟨g7, h⟩ := h
        obtain ⟨Q8, h⟩ := h
        obtain ⟨g9, h⟩ := h
        refine jy_callV hS rfl rfl rfl (Nat.le_of_ble_eq_true rfl) (Or.inl g7) g9 (by decide) ⟨by decide, by decide⟩ (Nat.le_of_ble_eq_true rfl) ?_ ?_
        rotate_left
        · exact fun E9 X9 I9 R9 hp => hp.2.2.2.elim
        intro rv X9 I10 R9 hp
        obtain ⟨e1, e2, hp⟩ := hp
        rw [e1, e2]
        clear e1 e2
        obtain ⟨e1, h⟩ := h rv I10 hp
        rw [e1]
        clear e1
        change J 25 [] _ (0, 0) _ _ _
        exact jy_join hS h rfl (jy_sub_s (jy_sub_s (jy_sub_s jy_sub_0)))
  · intro l2 I h
    unfold wz_76_25 at h
    refine jy_iinc hS rfl rfl (L' := [some (.ref a0), some (jy a1), some (jy (l2 + 1))]) rfl ?_
    refine jy_goto hS rfl ?_
    exact jy_join hS h rfl (jy_sub_s (jy_sub_s (jy_sub_s jy_sub_0)))
theorem jt_77 : jx_ml 77 = 4 ∧ jx_rt 77 = none ∧ jx_hz 77 = [] ∧ decide ((jx_nm 77).name = "<init>") = false ∧ jx_code 77 = jx_c77 := by decide +kernel
/-- GC$Row.takeFrom, from 6 -/
def wz_77_6 (V : jx_V) (X : jx_X) (R : jx_R) (Q : Option Value → jx_I → Prop) (QE : String → jx_I → Prop) (J6 : Int → jx_I → Prop) (J37 : Int → jx_I → Prop) (a0 : Nat) (a1 : Nat) (a2 : Int) (l3 : Int) (I : jx_I) : Prop :=
  (X.2.1 a1 = some (5, 0)) ∧ (
  (-2147483648 ≤ l3 ∧ l3 < 2147483648) ∧ (
  ((I a1 1).toInt ≤ l3 → (
    Q none I
  )) ∧ (¬ (I a1 1).toInt ≤ l3 → (
    ∃ q8 : Nat, (
    (R a1 0 = some q8) ∧ (
    ∃ n10 : Nat, (
    (X.2.1 q8 = some (100, n10) ∧ n10 < 2147483648) ∧ (
    (0 ≤ l3 ∧ l3 < n10) ∧ (
    ((Int32.ofInt ((Int32.ofInt a2 >>> (Int32.ofInt ((I q8 l3.toNat).toInt) &&& 31)).toInt) &&& Int32.ofInt 1).toInt = 0 → (
      J6 (l3 + 1) I
    )) ∧ (¬ (Int32.ofInt ((Int32.ofInt a2 >>> (Int32.ofInt ((I q8 l3.toNat).toInt) &&& 31)).toInt) &&& Int32.ofInt 1).toInt = 0 → (
      (0 ≤ l3 ∧ l3 < n10) ∧ (
      (X.2.1 a0 = some (5, 0)) ∧ (
      ∃ Q15 : Option Value → jx_I → Prop, (
      (jc V 1 69 (0, 0) [.ref a0, jy ((I q8 l3.toNat).toInt)] X I R Q15 (fun _ _ => False)) ∧ (
      ∀ rv I17, Q15 rv I17 → rv = none ∧ (
      J37 l3 I17)))))
    )))))))
  ))))
/-- GC$Row.takeFrom, from 37 -/
def wz_77_37 (V : jx_V) (X : jx_X) (R : jx_R) (Q : Option Value → jx_I → Prop) (QE : String → jx_I → Prop) (J6 : Int → jx_I → Prop) (J37 : Int → jx_I → Prop) (a0 : Nat) (a1 : Nat) (a2 : Int) (l3 : Int) (I : jx_I) : Prop :=
  J6 (l3 + 1) I
/-- GC$Row.takeFrom -/
def wz_77 (V : jx_V) (X : jx_X) (R : jx_R) (Q : Option Value → jx_I → Prop) (QE : String → jx_I → Prop) (J6 : Int → jx_I → Prop) (J37 : Int → jx_I → Prop) (a0 : Nat) (a1 : Nat) (a2 : Int) (I : jx_I) : Prop :=
  (X.2.1 a0 = some (5, 0)) ∧ (
  ∃ Q2 : Option Value → jx_I → Prop, (
  (jc V 1 68 (0, 0) [.ref a0] X I R Q2 (fun _ _ => False)) ∧ (
  ∀ rv I4, Q2 rv I4 → rv = none ∧ (
  J6 0 I4))))
theorem wm_77 {V : jx_V} (hV : V.1.stackTraces = false) {X : jx_X} {R : jx_R} {I : jx_I} {Q : Option Value → jx_I → Prop} {QE : String → jx_I → Prop} {a0 : Nat} {a1 : Nat} {a2 : Int} (r_a2 : -2147483648 ≤ a2 ∧ a2 < 2147483648) 
    (h : ∀ (J6 : Int → jx_I → Prop) (J37 : Int → jx_I → Prop), ((∀ (l3 : Int) I, wz_77_6 V X R Q QE J6 J37 a0 a1 a2 l3 I → J6 l3 I) ∧ (∀ (l3 : Int) I, wz_77_37 V X R Q QE J6 J37 a0 a1 a2 l3 I → J37 l3 I)) → wz_77 V X R Q QE J6 J37 a0 a1 a2 I) : jc V 2 77 (0, 0) [.ref a0, .ref a1, jy a2] X I R Q QE := by
  refine jy_met hV (by decide) (n := 4) (rt := none) (hh := []) (ini := false) (C := jx_c77) (L := [some (.ref a0), some (.ref a1), some (jy a2), none]) jt_77 (Nat.le_of_ble_eq_true rfl) rfl ?_
  intro J hS
  have h := h (fun l3 I => J 6 [] [some (.ref a0), some (.ref a1), some (jy a2), some (jy l3)] (0, 0) X I R) (fun l3 I => J 37 [] [some (.ref a0), some (.ref a1), some (jy a2), some (jy l3)] (0, 0) X I R) ?_
  · unfold wz_77 at h
    refine jy_aload_n hS rfl rfl ?_
    obtain ⟨g1, h⟩ := h
    obtain ⟨Q2, h⟩ := h
    obtain ⟨g3, h⟩ := h
    refine jy_callV hS rfl rfl rfl (Nat.le_of_ble_eq_true rfl) (Or.inl g1) g3 (by decide) ⟨by decide, by decide⟩ (Nat.le_of_ble_eq_true rfl) ?_ ?_
    rotate_left
    · exact fun E9 X9 I9 R9 hp => hp.2.2.2.elim
    intro rv X9 I4 R9 hp
    obtain ⟨e1, e2, hp⟩ := hp
    rw [e1, e2]
    clear e1 e2
    obtain ⟨e1, h⟩ := h rv I4 hp
    rw [e1]
    clear e1
    change J 4 [] _ (0, 0) _ _ _
    refine jy_iconst hS rfl ?_
    refine jy_istore_n hS rfl (Nat.le_of_ble_eq_true rfl) (L' := [some (.ref a0), some (.ref a1), some (jy a2), some (jy 0)]) rfl ?_
    exact jy_join hS h rfl (jy_sub_s (jy_sub_s (jy_sub_s (jy_sub_s jy_sub_0))))
  refine ⟨?_, ?_⟩
  · intro l3 I h
    unfold wz_77_6 at h
    refine jy_iload_n hS rfl rfl ?_
    refine jy_aload_n hS rfl rfl ?_
    obtain ⟨g6, h⟩ := h
    refine jy_getI hS rfl (by decide) g6 ?_
    obtain ⟨g7, h⟩ := h
    refine jy_icmp_ge hS rfl ⟨g7, jy_rng _⟩ (fun q9 => ?_) (fun q9 => ?_)
    · have h := h.1 q9
      exact jy_ret hS rfl rfl ⟨rfl, rfl, h⟩
    · have h := h.2 q9
      refine jy_iload_n hS rfl rfl ?_
      refine jy_aload_n hS rfl rfl ?_
      obtain ⟨q8, h⟩ := h
      obtain ⟨g9, h⟩ := h
      refine jy_getR hS rfl (by decide) g6 g9 ?_
      refine jy_iload_n hS rfl rfl ?_
      obtain ⟨n10, h⟩ := h
      obtain ⟨g11, h⟩ := h
      obtain ⟨g12, h⟩ := h
      refine jy_iald hS rfl g11.1 (Nat.le_of_lt g11.2) g12 ?_
      refine jy_ishrX hS rfl rfl ?_
      refine jy_iconst hS rfl ?_
      refine jy_iandX hS rfl rfl ?_
      refine jy_if_eq hS rfl (jy_rng _) (fun q9 => ?_) (fun q9 => ?_)
      · have h := h.1 q9
        refine jy_iinc hS rfl rfl (L' := [some (.ref a0), some (.ref a1), some (jy a2), some (jy (l3 + 1))]) rfl ?_
        refine jy_goto hS rfl ?_
        exact jy_join hS h rfl (jy_sub_s (jy_sub_s (jy_sub_s (jy_sub_s jy_sub_0))))
      · have h := h.2 q9
        refine jy_aload_n hS rfl rfl ?_
        refine jy_aload_n hS rfl rfl ?_
        refine jy_getR hS rfl (by decide) g6 g9 ?_
        refine jy_iload_n hS rfl rfl ?_
        obtain ⟨g13, h⟩ := h
        refine jy_iald hS rfl g11.1 (Nat.le_of_lt g11.2) g13 ?_
        obtain ⟨g14, h⟩ := h
        obtain ⟨Q15, h⟩ := h
        obtain ⟨g16, h⟩ := h
        refine jy_callV hS rfl rfl rfl (Nat.le_of_ble_eq_true rfl) (Or.inl g14) g16 (by decide) ⟨by decide, by decide⟩ (Nat.le_of_ble_eq_true rfl) ?_ ?_
        rotate_left
        · exact fun E9 X9 I9 R9 hp => hp.2.2.2.elim
        intro rv X9 I17 R9 hp
        obtain ⟨e1, e2, hp⟩ := hp
        rw [e1, e2]
        clear e1 e2
        obtain ⟨e1, h⟩ := h rv I17 hp
        rw [e1]
        clear e1
        change J 37 [] _ (0, 0) _ _ _
        exact jy_join hS h rfl (jy_sub_s (jy_sub_s (jy_sub_s (jy_sub_s jy_sub_0))))
  · intro l3 I h
    unfold wz_77_37 at h
    refine jy_iinc hS rfl rfl (L' := [some (.ref a0), some (.ref a1), some (jy a2), some (jy (l3 + 1))]) rfl ?_
    refine jy_goto hS rfl ?_
    exact jy_join hS h rfl (jy_sub_s (jy_sub_s (jy_sub_s (jy_sub_s jy_sub_0))))
theorem jt_78 : jx_ml 78 = 9 ∧ jx_rt 78 = some .boolean ∧ jx_hz 78 = [] ∧ decide ((jx_nm 78).name = "<init>") = false ∧ jx_code 78 = jx_c78 := by decide +kernel
/-- GC$Row.takeDigits, from 27 -/
def wz_78_27 (V : jx_V) (X : jx_X) (R : jx_R) (Q : Option Value → jx_I → Prop) (QE : String → jx_I → Prop) (J27 : Int64 → Int → jx_I → Prop) (a0 : Nat) (a1 : Int) (a2 : Int64) (a3 : Int) (l5 : Int64) (l7 : Int) (I : jx_I) : Prop :=
  (-2147483648 ≤ l7 ∧ l7 < 2147483648) ∧ (
  (l7 < 0 → (
    (X.2.1 a0 = some (5, 0)) ∧ (
    ∀ I12 : jx_I, I12 = jx_u I a0 1 (Int32.ofInt a1) → (
    ((lg_cmp l5 (0 : Int64)).toInt ≠ 0 → (
      Q (some (jy 0)) I12
    )) ∧ ((lg_cmp l5 (0 : Int64)).toInt = 0 → (
      Q (some (jy 1)) I12
    ))))
  )) ∧ (¬ l7 < 0 → (
    (((l5 - l5 / (10 : Int64) * (10 : Int64)).toInt32).toInt < 0 → (
      Q (some (jy 0)) I
    )) ∧ (¬ ((l5 - l5 / (10 : Int64) * (10 : Int64)).toInt32).toInt < 0 → (
      (((l5 - l5 / (10 : Int64) * (10 : Int64)).toInt32).toInt < a3 → (
        (X.2.1 a0 = some (5, 0)) ∧ (
        ∃ q14 : Nat, (
        (R a0 0 = some q14) ∧ (
        ∃ n16 : Nat, (
        (X.2.1 q14 = some (100, n16) ∧ n16 < 2147483648) ∧ (
        (0 ≤ l7 ∧ l7 < n16) ∧ (
        ∀ I19 : jx_I, I19 = jx_u I q14 l7.toNat (Int32.ofInt (((l5 - l5 / (10 : Int64) * (10 : Int64)).toInt32).toInt)) → (
        J27 (l5 / (10 : Int64)) (l7 + (-1)) I19)))))))
      )) ∧ (¬ ((l5 - l5 / (10 : Int64) * (10 : Int64)).toInt32).toInt < a3 → (
        Q (some (jy 0)) I
      ))
    ))
  )))
/-- GC$Row.takeDigits -/
def wz_78 (V : jx_V) (X : jx_X) (R : jx_R) (Q : Option Value → jx_I → Prop) (QE : String → jx_I → Prop) (J27 : Int64 → Int → jx_I → Prop) (a0 : Nat) (a1 : Int) (a2 : Int64) (a3 : Int) (I : jx_I) : Prop :=
  (X.2.1 a0 = some (5, 0)) ∧ (
  ∃ Q2 : Option Value → jx_I → Prop, (
  (jc V 1 68 (0, 0) [.ref a0] X I R Q2 (fun _ _ => False)) ∧ (
  ∀ rv I4, Q2 rv I4 → rv = none ∧ (
  (a1 < 0 → (
    Q (some (jy 0)) I4
  )) ∧ (¬ a1 < 0 → (
    ∃ q6 : Nat, (
    (R a0 0 = some q6) ∧ (
    ∃ n8 : Nat, (
    (X.2.1 q6 = some (100, n8) ∧ n8 < 2147483648) ∧ (
    (a1 ≤ (n8 : Int) → (
      J27 a2 (a1 - 1) I4
    )) ∧ (¬ a1 ≤ (n8 : Int) → (
      Q (some (jy 0)) I4
    ))))))
  ))))))
theorem wm_78 {V : jx_V} (hV : V.1.stackTraces = false) {X : jx_X} {R : jx_R} {I : jx_I} {Q : Option Value → jx_I → Prop} {QE : String → jx_I → Prop} {a0 : Nat} {a1 : Int} {a2 : Int64} {a3 : Int} (r_a1 : -2147483648 ≤ a1 ∧ a1 < 2147483648) (r_a3 : -2147483648 ≤ a3 ∧ a3 < 2147483648) 
    (h : ∀ (J27 : Int64 → Int → jx_I → Prop), ((∀ (l5 : Int64) (l7 : Int) I, wz_78_27 V X R Q QE J27 a0 a1 a2 a3 l5 l7 I → J27 l5 l7 I)) → wz_78 V X R Q QE J27 a0 a1 a2 a3 I) : jc V 2 78 (0, 0) [.ref a0, jy a1, .long a2, jy a3] X I R Q QE := by
  refine jy_met hV (by decide) (n := 9) (rt := some .boolean) (hh := []) (ini := false) (C := jx_c78) (L := [some (.ref a0), some (jy a1), some (.long a2), none, some (jy a3), none, none, none, none]) jt_78 (Nat.le_of_ble_eq_true rfl) rfl ?_
  intro J hS
  have h := h (fun l5 l7 I => J 27 [] [some (.ref a0), some (jy a1), none, none, some (jy a3), some (.long l5), none, some (jy l7), none] (0, 0) X I R) ?_
  · unfold wz_78 at h
    refine jy_aload_n hS rfl rfl ?_
    obtain ⟨g1, h⟩ := h
    obtain ⟨Q2, h⟩ := h
    obtain ⟨g3, h⟩ := h
    refine jy_callV hS rfl rfl rfl (Nat.le_of_ble_eq_true rfl) (Or.inl g1) g3 (by decide) ⟨by decide, by decide⟩ (Nat.le_of_ble_eq_true rfl) ?_ ?_
    rotate_left
    · exact fun E9 X9 I9 R9 hp => hp.2.2.2.elim
    intro rv X9 I4 R9 hp
    obtain ⟨e1, e2, hp⟩ := hp
    rw [e1, e2]
    clear e1 e2
    obtain ⟨e1, h⟩ := h rv I4 hp
    rw [e1]
    clear e1
    change J 4 [] _ (0, 0) _ _ _
    refine jy_iload_n hS rfl rfl ?_
    refine jy_if_lt hS rfl r_a1 (fun q9 => ?_) (fun q9 => ?_)
    · have h := h.1 q9
      refine jy_iconst hS rfl ?_
      exact jy_iret hS rfl rfl ⟨rfl, rfl, h⟩
    · have h := h.2 q9
      refine jy_iload_n hS rfl rfl ?_
      refine jy_aload_n hS rfl rfl ?_
      obtain ⟨q6, h⟩ := h
      obtain ⟨g7, h⟩ := h
      refine jy_getR hS rfl (by decide) g1 g7 ?_
      obtain ⟨n8, h⟩ := h
      obtain ⟨g9, h⟩ := h
      refine jy_alen hS rfl g9.1 (by decide) g9.2 ?_
      refine jy_icmp_le hS rfl ⟨r_a1, (by omega)⟩ (fun q9 => ?_) (fun q9 => ?_)
      · have h := h.1 q9
        refine jy_lload_n hS rfl rfl ?_
        refine jy_lstore hS rfl (Nat.le_of_ble_eq_true rfl) (L' := [some (.ref a0), some (jy a1), some (.long a2), none, some (jy a3), some (.long a2), none, none, none]) rfl ?_
        refine jy_iload_n hS rfl rfl ?_
        refine jy_iconst hS rfl ?_
        refine jy_isub hS rfl ?_
        refine jy_istore hS rfl (Nat.le_of_ble_eq_true rfl) (L' := [some (.ref a0), some (jy a1), some (.long a2), none, some (jy a3), some (.long a2), none, some (jy (a1 - 1)), none]) rfl ?_
        exact jy_join hS h rfl (jy_sub_s (jy_sub_s (jy_sub_n (jy_sub_n (jy_sub_s (jy_sub_s (jy_sub_n (jy_sub_s (jy_sub_n jy_sub_0)))))))))
      · have h := h.2 q9
        refine jy_iconst hS rfl ?_
        exact jy_iret hS rfl rfl ⟨rfl, rfl, h⟩
  · intro l5 l7 I h
    unfold wz_78_27 at h
    refine jy_iload hS rfl rfl ?_
    obtain ⟨g10, h⟩ := h
    refine jy_if_lt hS rfl g10 (fun q9 => ?_) (fun q9 => ?_)
    · have h := h.1 q9
      refine jy_aload_n hS rfl rfl ?_
      refine jy_iload_n hS rfl rfl ?_
      obtain ⟨g11, h⟩ := h
      refine jy_putI hS rfl (by decide) g11 ?_
      intro I12 e9
      have h := h I12 e9
      clear e9
      refine jy_lload hS rfl rfl ?_
      refine jy_lconst hS rfl ?_
      refine jy_lcmp hS rfl ?_
      refine jy_if_ne hS rfl (jy_rng _) (fun q9 => ?_) (fun q9 => ?_)
      · have h := h.1 q9
        refine jy_iconst hS rfl ?_
        exact jy_iret hS rfl rfl ⟨rfl, rfl, h⟩
      · have h := h.2 q9
        refine jy_iconst hS rfl ?_
        refine jy_goto hS rfl ?_
        exact jy_iret hS rfl rfl ⟨rfl, rfl, h⟩
    · have h := h.2 q9
      refine jy_lload hS rfl rfl ?_
      refine jy_ldc2 hS rfl (n := 10) (by decide) ?_
      refine jy_lrem hS rfl (by decide) rfl ?_
      refine jy_l2i hS rfl rfl ?_
      refine jy_istore hS rfl (Nat.le_of_ble_eq_true rfl) (L' := [some (.ref a0), some (jy a1), none, none, some (jy a3), some (.long l5), none, some (jy l7), some (jy (((l5 - l5 / (10 : Int64) * (10 : Int64)).toInt32).toInt))]) rfl ?_
      refine jy_iload hS rfl rfl ?_
      refine jy_if_lt hS rfl (jy_rng _) (fun q9 => ?_) (fun q9 => ?_)
      · have h := h.1 q9
        refine jy_iconst hS rfl ?_
        exact jy_iret hS rfl rfl ⟨rfl, rfl, h⟩
      · have h := h.2 q9
        refine jy_iload hS rfl rfl ?_
        refine jy_iload hS rfl rfl ?_
        refine jy_icmp_lt hS rfl ⟨jy_rng _, r_a3⟩ (fun q9 => ?_) (fun q9 => ?_)
        · have h := h.1 q9
          refine jy_aload_n hS rfl rfl ?_
          obtain ⟨g13, h⟩ := h
          obtain ⟨q14, h⟩ := h
          obtain ⟨g15, h⟩ := h
          refine jy_getR hS rfl (by decide) g13 g15 ?_
          refine jy_iload hS rfl rfl ?_
          refine jy_iload hS rfl rfl ?_
          obtain ⟨n16, h⟩ := h
          obtain ⟨g17, h⟩ := h
          obtain ⟨g18, h⟩ := h
          refine jy_iast hS rfl g17.1 (Nat.le_of_lt g17.2) g18 ?_
          intro I19 e9
          have h := h I19 e9
          clear e9
          refine jy_lload hS rfl rfl ?_
          refine jy_ldc2 hS rfl (n := 10) (by decide) ?_
          refine jy_ldiv hS rfl (by decide) rfl ?_
          refine jy_lstore hS rfl (Nat.le_of_ble_eq_true rfl) (L' := [some (.ref a0), some (jy a1), none, none, some (jy a3), some (.long (l5 / (10 : Int64))), none, some (jy l7), some (jy (((l5 - l5 / (10 : Int64) * (10 : Int64)).toInt32).toInt))]) rfl ?_
          refine jy_iinc hS rfl rfl (L' := [some (.ref a0), some (jy a1), none, none, some (jy a3), some (.long (l5 / (10 : Int64))), none, some (jy (l7 + (-1))), some (jy (((l5 - l5 / (10 : Int64) * (10 : Int64)).toInt32).toInt))]) rfl ?_
          refine jy_goto hS rfl ?_
          exact jy_join hS h rfl (jy_sub_s (jy_sub_s (jy_sub_n (jy_sub_n (jy_sub_s (jy_sub_s (jy_sub_n (jy_sub_s (jy_sub_n jy_sub_0)))))))))
        · have h := h.2 q9
          refine jy_iconst hS rfl ?_
          exact jy_iret hS rfl rfl ⟨rfl, rfl, h⟩
theorem jt_79 : jx_ml 79 = 1 ∧ jx_rt 79 = some .boolean ∧ jx_hz 79 = [] ∧ decide ((jx_nm 79).name = "<init>") = false ∧ jx_code 79 = jx_c79 := by decide +kernel
/-- GC$Row.holdsOneTwice -/
def wz_79 (V : jx_V) (X : jx_X) (R : jx_R) (Q : Option Value → jx_I → Prop) (QE : String → jx_I → Prop)  (a0 : Nat) (I : jx_I) : Prop :=
  (X.2.1 a0 = some (5, 0)) ∧ (
  ∃ Q2 : Option Value → jx_I → Prop, (
  (jc V 1 80 (0, 0) [.ref a0] X I R Q2 (fun _ _ => False)) ∧ (
  ∀ rv I4, Q2 rv I4 → ∃ r5 : Int, rv = some (jy r5) ∧ (
  ∃ Q6 : Option Value → jx_I → Prop, (
  (jc V 1 327 (0, 0) [jy r5] X I4 R Q6 (fun _ _ => False)) ∧ (
  ∀ rv I8, Q6 rv I8 → ∃ r9 : Int, rv = some (jy r9) ∧ (
  (-2147483648 ≤ r9 ∧ r9 < 2147483648) ∧ (
  (r9 = (I8 a0 1).toInt → (
    Q (some (jy 0)) I8
  )) ∧ (¬ r9 = (I8 a0 1).toInt → (
    Q (some (jy 1)) I8
  ))))))))))
theorem wm_79 {V : jx_V} (hV : V.1.stackTraces = false) {X : jx_X} {R : jx_R} {I : jx_I} {Q : Option Value → jx_I → Prop} {QE : String → jx_I → Prop} {a0 : Nat}  
    (h : wz_79 V X R Q QE  a0 I) : jc V 2 79 (0, 0) [.ref a0] X I R Q QE := by
  refine jy_met hV (by decide) (n := 1) (rt := some .boolean) (hh := []) (ini := false) (C := jx_c79) (L := [some (.ref a0)]) jt_79 (Nat.le_of_ble_eq_true rfl) rfl ?_
  intro J hS
  unfold wz_79 at h
  refine jy_aload_n hS rfl rfl ?_
  obtain ⟨g1, h⟩ := h
  obtain ⟨Q2, h⟩ := h
  obtain ⟨g3, h⟩ := h
  refine jy_callV hS rfl rfl rfl (Nat.le_of_ble_eq_true rfl) (Or.inl g1) g3 (by decide) ⟨by decide, by decide⟩ (Nat.le_of_ble_eq_true rfl) ?_ ?_
  rotate_left
  · exact fun E9 X9 I9 R9 hp => hp.2.2.2.elim
  intro rv X9 I4 R9 hp
  obtain ⟨e1, e2, hp⟩ := hp
  rw [e1, e2]
  clear e1 e2
  obtain ⟨r5, e1, h⟩ := h rv I4 hp
  rw [e1]
  clear e1
  change J 4 [jy r5] _ (0, 0) _ _ _
  obtain ⟨Q6, h⟩ := h
  obtain ⟨g7, h⟩ := h
  refine jy_callS hS rfl rfl rfl (Nat.le_of_ble_eq_true rfl) g7 (by decide) ⟨by decide, by decide⟩ (Nat.le_of_ble_eq_true rfl) ?_ ?_
  rotate_left
  · exact fun E9 X9 I9 R9 hp => hp.2.2.2.elim
  intro rv X9 I8 R9 hp
  obtain ⟨e1, e2, hp⟩ := hp
  rw [e1, e2]
  clear e1 e2
  obtain ⟨r9, e1, h⟩ := h rv I8 hp
  rw [e1]
  clear e1
  change J 7 [jy r9] _ (0, 0) _ _ _
  refine jy_aload_n hS rfl rfl ?_
  refine jy_getI hS rfl (by decide) g1 ?_
  obtain ⟨g10, h⟩ := h
  refine jy_icmp_eq hS rfl ⟨g10, jy_rng _⟩ (fun q9 => ?_) (fun q9 => ?_)
  · have h := h.1 q9
    refine jy_iconst hS rfl ?_
    exact jy_iret hS rfl rfl ⟨rfl, rfl, h⟩
  · have h := h.2 q9
    refine jy_iconst hS rfl ?_
    refine jy_goto hS rfl ?_
    exact jy_iret hS rfl rfl ⟨rfl, rfl, h⟩
theorem jt_80 : jx_ml 80 = 3 ∧ jx_rt 80 = some .int ∧ jx_hz 80 = [] ∧ decide ((jx_nm 80).name = "<init>") = false ∧ jx_code 80 = jx_c80 := by decide +kernel
/-- GC$Row.asBits, from 4 -/
def wz_80_4 (V : jx_V) (X : jx_X) (R : jx_R) (Q : Option Value → jx_I → Prop) (QE : String → jx_I → Prop) (J4 : Int → Int → jx_I → Prop) (a0 : Nat) (l1 : Int) (l2 : Int) (I : jx_I) : Prop :=
  (X.2.1 a0 = some (5, 0)) ∧ (
  (-2147483648 ≤ l2 ∧ l2 < 2147483648) ∧ (
  ((I a0 1).toInt ≤ l2 → (
    Q (some (jy l1)) I
  )) ∧ (¬ (I a0 1).toInt ≤ l2 → (
    ∃ q3 : Nat, (
    (R a0 0 = some q3) ∧ (
    ∃ n5 : Nat, (
    (X.2.1 q3 = some (100, n5) ∧ n5 < 2147483648) ∧ (
    (0 ≤ l2 ∧ l2 < n5) ∧ (
    J4 ((Int32.ofInt l1 ||| Int32.ofInt ((Int32.ofInt 1 <<< (Int32.ofInt ((I q3 l2.toNat).toInt) &&& 31)).toInt)).toInt) (l2 + 1) I)))))
  ))))
/-- GC$Row.asBits -/
def wz_80 (V : jx_V) (X : jx_X) (R : jx_R) (Q : Option Value → jx_I → Prop) (QE : String → jx_I → Prop) (J4 : Int → Int → jx_I → Prop) (a0 : Nat) (I : jx_I) : Prop :=
  J4 0 0 I
theorem wm_80 {V : jx_V} (hV : V.1.stackTraces = false) {X : jx_X} {R : jx_R} {I : jx_I} {Q : Option Value → jx_I → Prop} {QE : String → jx_I → Prop} {a0 : Nat}  
    (h : ∀ (J4 : Int → Int → jx_I → Prop), ((∀ (l1 : Int) (l2 : Int) I, wz_80_4 V X R Q QE J4 a0 l1 l2 I → J4 l1 l2 I)) → wz_80 V X R Q QE J4 a0 I) : jc V 1 80 (0, 0) [.ref a0] X I R Q QE := by
  refine jy_met hV (by decide) (n := 3) (rt := some .int) (hh := []) (ini := false) (C := jx_c80) (L := [some (.ref a0), none, none]) jt_80 (Nat.le_of_ble_eq_true rfl) rfl ?_
  intro J hS
  have h := h (fun l1 l2 I => J 4 [] [some (.ref a0), some (jy l1), some (jy l2)] (0, 0) X I R) ?_
  · unfold wz_80 at h
    refine jy_iconst hS rfl ?_
    refine jy_istore_n hS rfl (Nat.le_of_ble_eq_true rfl) (L' := [some (.ref a0), some (jy 0), none]) rfl ?_
    refine jy_iconst hS rfl ?_
    refine jy_istore_n hS rfl (Nat.le_of_ble_eq_true rfl) (L' := [some (.ref a0), some (jy 0), some (jy 0)]) rfl ?_
    exact jy_join hS h rfl (jy_sub_s (jy_sub_s (jy_sub_s jy_sub_0)))
  · intro l1 l2 I h
    unfold wz_80_4 at h
    refine jy_iload_n hS rfl rfl ?_
    refine jy_aload_n hS rfl rfl ?_
    obtain ⟨g1, h⟩ := h
    refine jy_getI hS rfl (by decide) g1 ?_
    obtain ⟨g2, h⟩ := h
    refine jy_icmp_ge hS rfl ⟨g2, jy_rng _⟩ (fun q9 => ?_) (fun q9 => ?_)
    · have h := h.1 q9
      refine jy_iload_n hS rfl rfl ?_
      exact jy_iret hS rfl rfl ⟨rfl, rfl, h⟩
    · have h := h.2 q9
      refine jy_iload_n hS rfl rfl ?_
      refine jy_iconst hS rfl ?_
      refine jy_aload_n hS rfl rfl ?_
      obtain ⟨q3, h⟩ := h
      obtain ⟨g4, h⟩ := h
      refine jy_getR hS rfl (by decide) g1 g4 ?_
      refine jy_iload_n hS rfl rfl ?_
      obtain ⟨n5, h⟩ := h
      obtain ⟨g6, h⟩ := h
      obtain ⟨g7, h⟩ := h
      refine jy_iald hS rfl g6.1 (Nat.le_of_lt g6.2) g7 ?_
      refine jy_ishlX hS rfl rfl ?_
      refine jy_iorX hS rfl rfl ?_
      refine jy_istore_n hS rfl (Nat.le_of_ble_eq_true rfl) (L' := [some (.ref a0), some (jy ((Int32.ofInt l1 ||| Int32.ofInt ((Int32.ofInt 1 <<< (Int32.ofInt ((I q3 l2.toNat).toInt) &&& 31)).toInt)).toInt)), some (jy l2)]) rfl ?_
      refine jy_iinc hS rfl rfl (L' := [some (.ref a0), some (jy ((Int32.ofInt l1 ||| Int32.ofInt ((Int32.ofInt 1 <<< (Int32.ofInt ((I q3 l2.toNat).toInt) &&& 31)).toInt)).toInt)), some (jy (l2 + 1))]) rfl ?_
      refine jy_goto hS rfl ?_
      exact jy_join hS h rfl (jy_sub_s (jy_sub_s (jy_sub_s jy_sub_0)))
theorem jt_81 : jx_ml 81 = 4 ∧ jx_rt 81 = some .long ∧ jx_hz 81 = [] ∧ decide ((jx_nm 81).name = "<init>") = false ∧ jx_code 81 = jx_c81 := by decide +kernel
/-- GC$Row.asDigits, from 4 -/
def wz_81_4 (V : jx_V) (X : jx_X) (R : jx_R) (Q : Option Value → jx_I → Prop) (QE : String → jx_I → Prop) (J4 : Int64 → Int → jx_I → Prop) (a0 : Nat) (l1 : Int64) (l3 : Int) (I : jx_I) : Prop :=
  (X.2.1 a0 = some (5, 0)) ∧ (
  (-2147483648 ≤ l3 ∧ l3 < 2147483648) ∧ (
  ((I a0 1).toInt ≤ l3 → (
    Q (some (.long l1)) I
  )) ∧ (¬ (I a0 1).toInt ≤ l3 → (
    ∃ q3 : Nat, (
    (R a0 0 = some q3) ∧ (
    ∃ n5 : Nat, (
    (X.2.1 q3 = some (100, n5) ∧ n5 < 2147483648) ∧ (
    (0 ≤ l3 ∧ l3 < n5) ∧ (
    J4 ((l1 * (10 : Int64)) + (Int32.ofInt ((I q3 l3.toNat).toInt)).toInt64) (l3 + 1) I)))))
  ))))
/-- GC$Row.asDigits -/
def wz_81 (V : jx_V) (X : jx_X) (R : jx_R) (Q : Option Value → jx_I → Prop) (QE : String → jx_I → Prop) (J4 : Int64 → Int → jx_I → Prop) (a0 : Nat) (I : jx_I) : Prop :=
  J4 (0 : Int64) 0 I
theorem wm_81 {V : jx_V} (hV : V.1.stackTraces = false) {X : jx_X} {R : jx_R} {I : jx_I} {Q : Option Value → jx_I → Prop} {QE : String → jx_I → Prop} {a0 : Nat}  
    (h : ∀ (J4 : Int64 → Int → jx_I → Prop), ((∀ (l1 : Int64) (l3 : Int) I, wz_81_4 V X R Q QE J4 a0 l1 l3 I → J4 l1 l3 I)) → wz_81 V X R Q QE J4 a0 I) : jc V 1 81 (0, 0) [.ref a0] X I R Q QE := by
  refine jy_met hV (by decide) (n := 4) (rt := some .long) (hh := []) (ini := false) (C := jx_c81) (L := [some (.ref a0), none, none, none]) jt_81 (Nat.le_of_ble_eq_true rfl) rfl ?_
  intro J hS
  have h := h (fun l1 l3 I => J 4 [] [some (.ref a0), some (.long l1), none, some (jy l3)] (0, 0) X I R) ?_
  · unfold wz_81 at h
    refine jy_lconst hS rfl ?_
    refine jy_lstore_n hS rfl (Nat.le_of_ble_eq_true rfl) (L' := [some (.ref a0), some (.long (0 : Int64)), none, none]) rfl ?_
    refine jy_iconst hS rfl ?_
    refine jy_istore_n hS rfl (Nat.le_of_ble_eq_true rfl) (L' := [some (.ref a0), some (.long (0 : Int64)), none, some (jy 0)]) rfl ?_
    exact jy_join hS h rfl (jy_sub_s (jy_sub_s (jy_sub_n (jy_sub_s jy_sub_0))))
  · intro l1 l3 I h
    unfold wz_81_4 at h
    refine jy_iload_n hS rfl rfl ?_
    refine jy_aload_n hS rfl rfl ?_
    obtain ⟨g1, h⟩ := h
    refine jy_getI hS rfl (by decide) g1 ?_
    obtain ⟨g2, h⟩ := h
    refine jy_icmp_ge hS rfl ⟨g2, jy_rng _⟩ (fun q9 => ?_) (fun q9 => ?_)
    · have h := h.1 q9
      refine jy_lload_n hS rfl rfl ?_
      exact jy_lret hS rfl rfl ⟨rfl, rfl, h⟩
    · have h := h.2 q9
      refine jy_lload_n hS rfl rfl ?_
      refine jy_ldc2 hS rfl (n := 10) (by decide) ?_
      refine jy_lmul hS rfl rfl ?_
      refine jy_aload_n hS rfl rfl ?_
      obtain ⟨q3, h⟩ := h
      obtain ⟨g4, h⟩ := h
      refine jy_getR hS rfl (by decide) g1 g4 ?_
      refine jy_iload_n hS rfl rfl ?_
      obtain ⟨n5, h⟩ := h
      obtain ⟨g6, h⟩ := h
      obtain ⟨g7, h⟩ := h
      refine jy_iald hS rfl g6.1 (Nat.le_of_lt g6.2) g7 ?_
      refine jy_i2l hS rfl rfl ?_
      refine jy_ladd hS rfl rfl ?_
      refine jy_lstore_n hS rfl (Nat.le_of_ble_eq_true rfl) (L' := [some (.ref a0), some (.long ((l1 * (10 : Int64)) + (Int32.ofInt ((I q3 l3.toNat).toInt)).toInt64)), none, some (jy l3)]) rfl ?_
      refine jy_iinc hS rfl rfl (L' := [some (.ref a0), some (.long ((l1 * (10 : Int64)) + (Int32.ofInt ((I q3 l3.toNat).toInt)).toInt64)), none, some (jy (l3 + 1))]) rfl ?_
      refine jy_goto hS rfl ?_
      exact jy_join hS h rfl (jy_sub_s (jy_sub_s (jy_sub_n (jy_sub_s jy_sub_0))))
theorem jt_82 : jx_ml 82 = 5 ∧ jx_rt 82 = some .boolean ∧ jx_hz 82 = [] ∧ decide ((jx_nm 82).name = "<init>") = false ∧ jx_code 82 = jx_c82 := by decide +kernel
/-- GC$Row.turnToNextOrder, from 7 -/
def wz_82_7 (V : jx_V) (X : jx_X) (R : jx_R) (Q : Option Value → jx_I → Prop) (QE : String → jx_I → Prop) (J7 : Int → jx_I → Prop) (J47 : Int → Int → jx_I → Prop) (J93 : Int → Int → jx_I → Prop) (a0 : Nat) (l1 : Int) (I : jx_I) : Prop :=
  (-2147483648 ≤ l1 ∧ l1 < 2147483648) ∧ (
  (l1 < 0 → (
    (0 ≤ l1 → (
      (X.2.1 a0 = some (5, 0)) ∧ (
      J47 l1 ((I a0 1).toInt - 1) I)
    )) ∧ (¬ 0 ≤ l1 → (
      Q (some (jy 0)) I
    ))
  )) ∧ (¬ l1 < 0 → (
    (X.2.1 a0 = some (5, 0)) ∧ (
    ∃ q5 : Nat, (
    (R a0 0 = some q5) ∧ (
    ∃ n7 : Nat, (
    (X.2.1 q5 = some (100, n7) ∧ n7 < 2147483648) ∧ (
    (0 ≤ l1 ∧ l1 < n7) ∧ (
    (0 ≤ (l1 + 1) ∧ (l1 + 1) < n7) ∧ (
    ((I q5 l1.toNat).toInt < (I q5 (l1 + 1).toNat).toInt → (
      (0 ≤ l1 → (
        J47 l1 ((I a0 1).toInt - 1) I
      )) ∧ (¬ 0 ≤ l1 → (
        Q (some (jy 0)) I
      ))
    )) ∧ (¬ (I q5 l1.toNat).toInt < (I q5 (l1 + 1).toNat).toInt → (
      J7 (l1 + (-1)) I
    )))))))))
  )))
/-- GC$Row.turnToNextOrder, from 47 -/
def wz_82_47 (V : jx_V) (X : jx_X) (R : jx_R) (Q : Option Value → jx_I → Prop) (QE : String → jx_I → Prop) (J7 : Int → jx_I → Prop) (J47 : Int → Int → jx_I → Prop) (J93 : Int → Int → jx_I → Prop) (a0 : Nat) (l1 : Int) (l2 : Int) (I : jx_I) : Prop :=
  (-2147483648 ≤ l2 ∧ l2 < 2147483648) ∧ (
  (-2147483648 ≤ (l1 + 1) ∧ (l1 + 1) < 2147483648) ∧ (
  (l2 ≤ (l1 + 1) → (
    (X.2.1 a0 = some (5, 0)) ∧ (
    ∃ Q14 : Option Value → jx_I → Prop, (
    (jc V 1 83 (0, 0) [.ref a0, jy l1, jy l2] X I R Q14 (fun _ _ => False)) ∧ (
    ∀ rv I16, Q14 rv I16 → rv = none ∧ (
    J93 ((I16 a0 1).toInt - 1) (l1 + 1) I16))))
  )) ∧ (¬ l2 ≤ (l1 + 1) → (
    (X.2.1 a0 = some (5, 0)) ∧ (
    ∃ q19 : Nat, (
    (R a0 0 = some q19) ∧ (
    ∃ n21 : Nat, (
    (X.2.1 q19 = some (100, n21) ∧ n21 < 2147483648) ∧ (
    (0 ≤ l2 ∧ l2 < n21) ∧ (
    (0 ≤ l1 ∧ l1 < n21) ∧ (
    ((I q19 l1.toNat).toInt < (I q19 l2.toNat).toInt → (
      ∃ Q25 : Option Value → jx_I → Prop, (
      (jc V 1 83 (0, 0) [.ref a0, jy l1, jy l2] X I R Q25 (fun _ _ => False)) ∧ (
      ∀ rv I27, Q25 rv I27 → rv = none ∧ (
      J93 ((I27 a0 1).toInt - 1) (l1 + 1) I27)))
    )) ∧ (¬ (I q19 l1.toNat).toInt < (I q19 l2.toNat).toInt → (
      J47 l1 (l2 + (-1)) I
    )))))))))
  ))))
/-- GC$Row.turnToNextOrder, from 93 -/
def wz_82_93 (V : jx_V) (X : jx_X) (R : jx_R) (Q : Option Value → jx_I → Prop) (QE : String → jx_I → Prop) (J7 : Int → jx_I → Prop) (J47 : Int → Int → jx_I → Prop) (J93 : Int → Int → jx_I → Prop) (a0 : Nat) (l3 : Int) (l4 : Int) (I : jx_I) : Prop :=
  (-2147483648 ≤ l4 ∧ l4 < 2147483648) ∧ (
  (-2147483648 ≤ l3 ∧ l3 < 2147483648) ∧ (
  (l3 ≤ l4 → (
    Q (some (jy 1)) I
  )) ∧ (¬ l3 ≤ l4 → (
    (X.2.1 a0 = some (5, 0)) ∧ (
    ∃ Q32 : Option Value → jx_I → Prop, (
    (jc V 1 83 (0, 0) [.ref a0, jy l4, jy l3] X I R Q32 (fun _ _ => False)) ∧ (
    ∀ rv I34, Q32 rv I34 → rv = none ∧ (
    J93 (l3 + (-1)) (l4 + 1) I34))))
  ))))
/-- GC$Row.turnToNextOrder -/
def wz_82 (V : jx_V) (X : jx_X) (R : jx_R) (Q : Option Value → jx_I → Prop) (QE : String → jx_I → Prop) (J7 : Int → jx_I → Prop) (J47 : Int → Int → jx_I → Prop) (J93 : Int → Int → jx_I → Prop) (a0 : Nat) (I : jx_I) : Prop :=
  (X.2.1 a0 = some (5, 0)) ∧ (
  J7 ((I a0 1).toInt - 2) I)
theorem wm_82 {V : jx_V} (hV : V.1.stackTraces = false) {X : jx_X} {R : jx_R} {I : jx_I} {Q : Option Value → jx_I → Prop} {QE : String → jx_I → Prop} {a0 : Nat}  
    (h : ∀ (J7 : Int → jx_I → Prop) (J47 : Int → Int → jx_I → Prop) (J93 : Int → Int → jx_I → Prop), ((∀ (l1 : Int) I, wz_82_7 V X R Q QE J7 J47 J93 a0 l1 I → J7 l1 I) ∧ (∀ (l1 : Int) (l2 : Int) I, wz_82_47 V X R Q QE J7 J47 J93 a0 l1 l2 I → J47 l1 l2 I) ∧ (∀ (l3 : Int) (l4 : Int) I, wz_82_93 V X R Q QE J7 J47 J93 a0 l3 l4 I → J93 l3 l4 I)) → wz_82 V X R Q QE J7 J47 J93 a0 I) : jc V 2 82 (0, 0) [.ref a0] X I R Q QE := by
  refine jy_met hV (by decide) (n := 5) (rt := some .boolean) (hh := []) (ini := false) (C := jx_c82) (L := [some (.ref a0), none, none, none, none]) jt_82 (Nat.le_of_ble_eq_true rfl) rfl ?_
  intro J hS
  have h := h (fun l1 I => J 7 [] [some (.ref a0), some (jy l1), none, none, none] (0, 0) X I R) (fun l1 l2 I => J 47 [] [some (.ref a0), some (jy l1), some (jy l2), none, none] (0, 0) X I R) (fun l3 l4 I => J 93 [] [some (.ref a0), none, none, some (jy l3), some (jy l4)] (0, 0) X I R) ?_
  · unfold wz_82 at h
    refine jy_aload_n hS rfl rfl ?_
    obtain ⟨g1, h⟩ := h
    refine jy_getI hS rfl (by decide) g1 ?_
    refine jy_iconst hS rfl ?_
    refine jy_isub hS rfl ?_
    refine jy_istore_n hS rfl (Nat.le_of_ble_eq_true rfl) (L' := [some (.ref a0), some (jy ((I a0 1).toInt - 2)), none, none, none]) rfl ?_
    exact jy_join hS h rfl (jy_sub_s (jy_sub_s (jy_sub_n (jy_sub_n (jy_sub_n jy_sub_0)))))
  refine ⟨?_, ?_, ?_⟩
  · intro l1 I h
    unfold wz_82_7 at h
    refine jy_iload_n hS rfl rfl ?_
    obtain ⟨g2, h⟩ := h
    refine jy_if_lt hS rfl g2 (fun q9 => ?_) (fun q9 => ?_)
    · have h := h.1 q9
      refine jy_iload_n hS rfl rfl ?_
      refine jy_if_ge hS rfl g2 (fun q9 => ?_) (fun q9 => ?_)
      · have h := h.1 q9
        refine jy_aload_n hS rfl rfl ?_
        obtain ⟨g3, h⟩ := h
        refine jy_getI hS rfl (by decide) g3 ?_
        refine jy_iconst hS rfl ?_
        refine jy_isub hS rfl ?_
        refine jy_istore_n hS rfl (Nat.le_of_ble_eq_true rfl) (L' := [some (.ref a0), some (jy l1), some (jy ((I a0 1).toInt - 1)), none, none]) rfl ?_
        exact jy_join hS h rfl (jy_sub_s (jy_sub_s (jy_sub_s (jy_sub_n (jy_sub_n jy_sub_0)))))
      · have h := h.2 q9
        refine jy_iconst hS rfl ?_
        exact jy_iret hS rfl rfl ⟨rfl, rfl, h⟩
    · have h := h.2 q9
      refine jy_aload_n hS rfl rfl ?_
      obtain ⟨g4, h⟩ := h
      obtain ⟨q5, h⟩ := h
      obtain ⟨g6, h⟩ := h
      refine jy_getR hS rfl (by decide) g4 g6 ?_
      refine jy_iload_n hS rfl rfl ?_
      obtain ⟨n7, h⟩ := h
      obtain ⟨g8, h⟩ := h
      obtain ⟨g9, h⟩ := h
      refine jy_iald hS rfl g8.1 (Nat.le_of_lt g8.2) g9 ?_
      refine jy_aload_n hS rfl rfl ?_
      refine jy_getR hS rfl (by decide) g4 g6 ?_
      refine jy_iload_n hS rfl rfl ?_
      refine jy_iconst hS rfl ?_
      refine jy_iadd hS rfl ?_
      obtain ⟨g10, h⟩ := h
      refine jy_iald hS rfl g8.1 (Nat.le_of_lt g8.2) g10 ?_
      refine jy_icmp_lt hS rfl ⟨jy_rng _, jy_rng _⟩ (fun q9 => ?_) (fun q9 => ?_)
      · have h := h.1 q9
        refine jy_iload_n hS rfl rfl ?_
        refine jy_if_ge hS rfl g2 (fun q9 => ?_) (fun q9 => ?_)
        · have h := h.1 q9
          refine jy_aload_n hS rfl rfl ?_
          refine jy_getI hS rfl (by decide) g4 ?_
          refine jy_iconst hS rfl ?_
          refine jy_isub hS rfl ?_
          refine jy_istore_n hS rfl (Nat.le_of_ble_eq_true rfl) (L' := [some (.ref a0), some (jy l1), some (jy ((I a0 1).toInt - 1)), none, none]) rfl ?_
          exact jy_join hS h rfl (jy_sub_s (jy_sub_s (jy_sub_s (jy_sub_n (jy_sub_n jy_sub_0)))))
        · have h := h.2 q9
          refine jy_iconst hS rfl ?_
          exact jy_iret hS rfl rfl ⟨rfl, rfl, h⟩
      · have h := h.2 q9
        refine jy_iinc hS rfl rfl (L' := [some (.ref a0), some (jy (l1 + (-1))), none, none, none]) rfl ?_
        refine jy_goto hS rfl ?_
        exact jy_join hS h rfl (jy_sub_s (jy_sub_s (jy_sub_n (jy_sub_n (jy_sub_n jy_sub_0)))))
  · intro l1 l2 I h
    unfold wz_82_47 at h
    refine jy_iload_n hS rfl rfl ?_
    refine jy_iload_n hS rfl rfl ?_
    refine jy_iconst hS rfl ?_
    refine jy_iadd hS rfl ?_
    obtain ⟨g11, h⟩ := h
    obtain ⟨g12, h⟩ := h
    refine jy_icmp_le hS rfl ⟨g11, g12⟩ (fun q9 => ?_) (fun q9 => ?_)
    · have h := h.1 q9
      refine jy_aload_n hS rfl rfl ?_
      refine jy_iload_n hS rfl rfl ?_
      refine jy_iload_n hS rfl rfl ?_
      obtain ⟨g13, h⟩ := h
      obtain ⟨Q14, h⟩ := h
      obtain ⟨g15, h⟩ := h
      refine jy_callV hS rfl rfl rfl (Nat.le_of_ble_eq_true rfl) (Or.inl g13) g15 (by decide) ⟨by decide, by decide⟩ (Nat.le_of_ble_eq_true rfl) ?_ ?_
      rotate_left
      · exact fun E9 X9 I9 R9 hp => hp.2.2.2.elim
      intro rv X9 I16 R9 hp
      obtain ⟨e1, e2, hp⟩ := hp
      rw [e1, e2]
      clear e1 e2
      obtain ⟨e1, h⟩ := h rv I16 hp
      rw [e1]
      clear e1
      change J 81 [] _ (0, 0) _ _ _
      refine jy_aload_n hS rfl rfl ?_
      refine jy_getI hS rfl (by decide) g13 ?_
      refine jy_iconst hS rfl ?_
      refine jy_isub hS rfl ?_
      refine jy_istore_n hS rfl (Nat.le_of_ble_eq_true rfl) (L' := [some (.ref a0), some (jy l1), some (jy l2), some (jy ((I16 a0 1).toInt - 1)), none]) rfl ?_
      refine jy_iload_n hS rfl rfl ?_
      refine jy_iconst hS rfl ?_
      refine jy_iadd hS rfl ?_
      refine jy_istore hS rfl (Nat.le_of_ble_eq_true rfl) (L' := [some (.ref a0), some (jy l1), some (jy l2), some (jy ((I16 a0 1).toInt - 1)), some (jy (l1 + 1))]) rfl ?_
      exact jy_join hS h rfl (jy_sub_s (jy_sub_n (jy_sub_n (jy_sub_s (jy_sub_s jy_sub_0)))))
    · have h := h.2 q9
      refine jy_aload_n hS rfl rfl ?_
      obtain ⟨g18, h⟩ := h
      obtain ⟨q19, h⟩ := h
      obtain ⟨g20, h⟩ := h
      refine jy_getR hS rfl (by decide) g18 g20 ?_
      refine jy_iload_n hS rfl rfl ?_
      obtain ⟨n21, h⟩ := h
      obtain ⟨g22, h⟩ := h
      obtain ⟨g23, h⟩ := h
      refine jy_iald hS rfl g22.1 (Nat.le_of_lt g22.2) g23 ?_
      refine jy_aload_n hS rfl rfl ?_
      refine jy_getR hS rfl (by decide) g18 g20 ?_
      refine jy_iload_n hS rfl rfl ?_
      obtain ⟨g24, h⟩ := h
      refine jy_iald hS rfl g22.1 (Nat.le_of_lt g22.2) g24 ?_
      refine jy_icmp_gt hS rfl ⟨jy_rng _, jy_rng _⟩ (fun q9 => ?_) (fun q9 => ?_)
      · have h := h.1 q9
        refine jy_aload_n hS rfl rfl ?_
        refine jy_iload_n hS rfl rfl ?_
        refine jy_iload_n hS rfl rfl ?_
        obtain ⟨Q25, h⟩ := h
        obtain ⟨g26, h⟩ := h
        refine jy_callV hS rfl rfl rfl (Nat.le_of_ble_eq_true rfl) (Or.inl g18) g26 (by decide) ⟨by decide, by decide⟩ (Nat.le_of_ble_eq_true rfl) ?_ ?_
        rotate_left
        · exact fun E9 X9 I9 R9 hp => hp.2.2.2.elim
        intro rv X9 I27 R9 hp
        obtain ⟨e1, e2, hp⟩ := hp
        rw [e1, e2]
        clear e1 e2
        obtain ⟨e1, h⟩ := h rv I27 hp
        rw [e1]
        clear e1
        change J 81 [] _ (0, 0) _ _ _
        refine jy_aload_n hS rfl rfl ?_
        refine jy_getI hS rfl (by decide) g18 ?_
        refine jy_iconst hS rfl ?_
        refine jy_isub hS rfl ?_
        refine jy_istore_n hS rfl (Nat.le_of_ble_eq_true rfl) (L' := [some (.ref a0), some (jy l1), some (jy l2), some (jy ((I27 a0 1).toInt - 1)), none]) rfl ?_
        refine jy_iload_n hS rfl rfl ?_
        refine jy_iconst hS rfl ?_
        refine jy_iadd hS rfl ?_
        refine jy_istore hS rfl (Nat.le_of_ble_eq_true rfl) (L' := [some (.ref a0), some (jy l1), some (jy l2), some (jy ((I27 a0 1).toInt - 1)), some (jy (l1 + 1))]) rfl ?_
        exact jy_join hS h rfl (jy_sub_s (jy_sub_n (jy_sub_n (jy_sub_s (jy_sub_s jy_sub_0)))))
      · have h := h.2 q9
        refine jy_iinc hS rfl rfl (L' := [some (.ref a0), some (jy l1), some (jy (l2 + (-1))), none, none]) rfl ?_
        refine jy_goto hS rfl ?_
        exact jy_join hS h rfl (jy_sub_s (jy_sub_s (jy_sub_s (jy_sub_n (jy_sub_n jy_sub_0)))))
  · intro l3 l4 I h
    unfold wz_82_93 at h
    refine jy_iload hS rfl rfl ?_
    refine jy_iload_n hS rfl rfl ?_
    obtain ⟨g29, h⟩ := h
    obtain ⟨g30, h⟩ := h
    refine jy_icmp_ge hS rfl ⟨g29, g30⟩ (fun q9 => ?_) (fun q9 => ?_)
    · have h := h.1 q9
      refine jy_iconst hS rfl ?_
      exact jy_iret hS rfl rfl ⟨rfl, rfl, h⟩
    · have h := h.2 q9
      refine jy_aload_n hS rfl rfl ?_
      refine jy_iload hS rfl rfl ?_
      refine jy_iload_n hS rfl rfl ?_
      obtain ⟨g31, h⟩ := h
      obtain ⟨Q32, h⟩ := h
      obtain ⟨g33, h⟩ := h
      refine jy_callV hS rfl rfl rfl (Nat.le_of_ble_eq_true rfl) (Or.inl g31) g33 (by decide) ⟨by decide, by decide⟩ (Nat.le_of_ble_eq_true rfl) ?_ ?_
      rotate_left
      · exact fun E9 X9 I9 R9 hp => hp.2.2.2.elim
      intro rv X9 I34 R9 hp
      obtain ⟨e1, e2, hp⟩ := hp
      rw [e1, e2]
      clear e1 e2
      obtain ⟨e1, h⟩ := h rv I34 hp
      rw [e1]
      clear e1
      change J 106 [] _ (0, 0) _ _ _
      refine jy_iinc hS rfl rfl (L' := [some (.ref a0), none, none, some (jy (l3 + (-1))), some (jy l4)]) rfl ?_
      refine jy_iinc hS rfl rfl (L' := [some (.ref a0), none, none, some (jy (l3 + (-1))), some (jy (l4 + 1))]) rfl ?_
      refine jy_goto hS rfl ?_
      exact jy_join hS h rfl (jy_sub_s (jy_sub_n (jy_sub_n (jy_sub_s (jy_sub_s jy_sub_0)))))
theorem jt_83 : jx_ml 83 = 4 ∧ jx_rt 83 = none ∧ jx_hz 83 = [] ∧ decide ((jx_nm 83).name = "<init>") = false ∧ jx_code 83 = jx_c83 := by decide +kernel
/-- GC$Row.swap -/
def wz_83 (V : jx_V) (X : jx_X) (R : jx_R) (Q : Option Value → jx_I → Prop) (QE : String → jx_I → Prop)  (a0 : Nat) (a1 : Int) (a2 : Int) (I : jx_I) : Prop :=
  (X.2.1 a0 = some (5, 0)) ∧ (
  ∃ q2 : Nat, (
  (R a0 0 = some q2) ∧ (
  ∃ n4 : Nat, (
  (X.2.1 q2 = some (100, n4) ∧ n4 < 2147483648) ∧ (
  (0 ≤ a1 ∧ a1 < n4) ∧ (
  (0 ≤ a2 ∧ a2 < n4) ∧ (
  (0 ≤ a1 ∧ a1 < n4) ∧ (
  ∀ I9 : jx_I, I9 = jx_u I q2 a1.toNat (Int32.ofInt ((I q2 a2.toNat).toInt)) → (
  (0 ≤ a2 ∧ a2 < n4) ∧ (
  ∀ I11 : jx_I, I11 = jx_u I9 q2 a2.toNat (Int32.ofInt ((I q2 a1.toNat).toInt)) → (
  Q none I11)))))))))))
theorem wm_83 {V : jx_V} (hV : V.1.stackTraces = false) {X : jx_X} {R : jx_R} {I : jx_I} {Q : Option Value → jx_I → Prop} {QE : String → jx_I → Prop} {a0 : Nat} {a1 : Int} {a2 : Int} (r_a1 : -2147483648 ≤ a1 ∧ a1 < 2147483648) (r_a2 : -2147483648 ≤ a2 ∧ a2 < 2147483648) 
    (h : wz_83 V X R Q QE  a0 a1 a2 I) : jc V 1 83 (0, 0) [.ref a0, jy a1, jy a2] X I R Q QE := by
  refine jy_met hV (by decide) (n := 4) (rt := none) (hh := []) (ini := false) (C := jx_c83) (L := [some (.ref a0), some (jy a1), some (jy a2), none]) jt_83 (Nat.le_of_ble_eq_true rfl) rfl ?_
  intro J hS
  unfold wz_83 at h
  refine jy_aload_n hS rfl rfl ?_
  obtain ⟨g1, h⟩ := h
  obtain ⟨q2, h⟩ := h
  obtain ⟨g3, h⟩ := h
  refine jy_getR hS rfl (by decide) g1 g3 ?_
  refine jy_iload_n hS rfl rfl ?_
  obtain ⟨n4, h⟩ := h
  obtain ⟨g5, h⟩ := h
  obtain ⟨g6, h⟩ := h
  refine jy_iald hS rfl g5.1 (Nat.le_of_lt g5.2) g6 ?_
  refine jy_istore_n hS rfl (Nat.le_of_ble_eq_true rfl) (L' := [some (.ref a0), some (jy a1), some (jy a2), some (jy ((I q2 a1.toNat).toInt))]) rfl ?_
  refine jy_aload_n hS rfl rfl ?_
  refine jy_getR hS rfl (by decide) g1 g3 ?_
  refine jy_iload_n hS rfl rfl ?_
  refine jy_aload_n hS rfl rfl ?_
  refine jy_getR hS rfl (by decide) g1 g3 ?_
  refine jy_iload_n hS rfl rfl ?_
  obtain ⟨g7, h⟩ := h
  refine jy_iald hS rfl g5.1 (Nat.le_of_lt g5.2) g7 ?_
  obtain ⟨g8, h⟩ := h
  refine jy_iast hS rfl g5.1 (Nat.le_of_lt g5.2) g8 ?_
  intro I9 e9
  have h := h I9 e9
  clear e9
  refine jy_aload_n hS rfl rfl ?_
  refine jy_getR hS rfl (by decide) g1 g3 ?_
  refine jy_iload_n hS rfl rfl ?_
  refine jy_iload_n hS rfl rfl ?_
  obtain ⟨g10, h⟩ := h
  refine jy_iast hS rfl g5.1 (Nat.le_of_lt g5.2) g10 ?_
  intro I11 e9
  have h := h I11 e9
  clear e9
  exact jy_ret hS rfl rfl ⟨rfl, rfl, h⟩
