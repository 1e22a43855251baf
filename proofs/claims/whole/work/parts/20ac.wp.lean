theorem jt_51 : jx_ml 51 = 6 ∧ jx_rt 51 = none ∧ jx_hz 51 = [] ∧ decide ((jx_nm 51).name = "<init>") = false ∧ jx_code 51 = jx_c51 := by decide +kernel
/-- GC$Law.measure, from 3 -/
def wz_51_3 (V : jx_V) (X : jx_X) (R : jx_R) (Q : Option Value → jx_I → Prop) (QE : String → jx_I → Prop) (J3 : Int → jx_I → Prop) (J26 : Int → jx_I → Prop) (J98 : Int → Int → jx_I → Prop) (J116 : Int → jx_I → Prop) (a0 : Nat) (a1 : Nat) (a2 : Nat) (a3 : Int) (l4 : Int) (I : jx_I) : Prop :=
  (-2147483648 ≤ l4 ∧ l4 < 2147483648) ∧ (
  (5 ≤ l4 → (
    J26 0 I
  )) ∧ (¬ 5 ≤ l4 → (
    (X.2.1 a0 = some (3, 0)) ∧ (
    ∃ q3 : Nat, (
    (R a0 2 = some q3) ∧ (
    ∃ n5 : Nat, (
    (X.2.1 q3 = some (100, n5) ∧ n5 < 2147483648) ∧ (
    (0 ≤ l4 ∧ l4 < n5) ∧ (
    ∀ I8 : jx_I, I8 = jx_u I q3 l4.toNat (Int32.ofInt 0) → (
    J3 (l4 + 1) I8)))))))
  )))
/-- GC$Law.measure, from 26 -/
def wz_51_26 (V : jx_V) (X : jx_X) (R : jx_R) (Q : Option Value → jx_I → Prop) (QE : String → jx_I → Prop) (J3 : Int → jx_I → Prop) (J26 : Int → jx_I → Prop) (J98 : Int → Int → jx_I → Prop) (J116 : Int → jx_I → Prop) (a0 : Nat) (a1 : Nat) (a2 : Nat) (a3 : Int) (l4 : Int) (I : jx_I) : Prop :=
  (X.2.1 a1 = some (5, 0)) ∧ (
  (-2147483648 ≤ l4 ∧ l4 < 2147483648) ∧ (
  ((I a1 1).toInt ≤ l4 → (
    Q none I
  )) ∧ (¬ (I a1 1).toInt ≤ l4 → (
    ∃ q11 : Nat, (
    (R a1 0 = some q11) ∧ (
    ∃ n13 : Nat, (
    (X.2.1 q11 = some (100, n13) ∧ n13 < 2147483648) ∧ (
    (0 ≤ l4 ∧ l4 < n13) ∧ (
    ∃ n16 : Nat, (
    (X.2.1 a2 = some (100, n16) ∧ n16 < 2147483648) ∧ (
    (0 ≤ (a3 + (I q11 l4.toNat).toInt) ∧ (a3 + (I q11 l4.toNat).toInt) < n16) ∧ (
    ((I a2 (a3 + (I q11 l4.toNat).toInt).toNat).toInt ≤ 0 → (
      J26 (l4 + 1) I
    )) ∧ (¬ (I a2 (a3 + (I q11 l4.toNat).toInt).toNat).toInt ≤ 0 → (
      (X.2.1 a0 = some (3, 0)) ∧ (
      ∃ q20 : Nat, (
      (R a0 2 = some q20) ∧ (
      ∃ n22 : Nat, (
      (X.2.1 q20 = some (100, n22) ∧ n22 < 2147483648) ∧ (
      (0 ≤ (0 : Int) ∧ (0 : Int) < n22) ∧ (
      ∃ Q25 : Option Value → jx_I → Prop, (
      (jc V 1 328 (0, 0) [jy ((I q20 (0 : Int).toNat).toInt), jy ((I a2 (a3 + (I q11 l4.toNat).toInt).toNat).toInt)] X I R Q25 (fun _ _ => False)) ∧ (
      ∀ rv I27, Q25 rv I27 → ∃ r28 : Int, rv = some (jy r28) ∧ (
      (0 ≤ (0 : Int) ∧ (0 : Int) < n22) ∧ (
      ∀ I30 : jx_I, I30 = jx_u I27 q20 (0 : Int).toNat (Int32.ofInt r28) → (
      (0 ≤ (1 : Int) ∧ (1 : Int) < n22) ∧ (
      (0 ≤ (1 : Int) ∧ (1 : Int) < n22) ∧ (
      ∀ I33 : jx_I, I33 = jx_u I30 q20 (1 : Int).toNat (Int32.ofInt ((I30 q20 (1 : Int).toNat).toInt + (I a2 (a3 + (I q11 l4.toNat).toInt).toNat).toInt)) → (
      (0 ≤ (4 : Int) ∧ (4 : Int) < n22) ∧ (
      ((I33 q20 (4 : Int).toNat).toInt ≠ 0 → (
        (0 ≤ (3 : Int) ∧ (3 : Int) < n22) ∧ (
        ∀ I36 : jx_I, I36 = jx_u I33 q20 (3 : Int).toNat (Int32.ofInt ((I a2 (a3 + (I q11 l4.toNat).toInt).toNat).toInt)) → (
        (0 ≤ (4 : Int) ∧ (4 : Int) < n22) ∧ (
        (0 ≤ (4 : Int) ∧ (4 : Int) < n22) ∧ (
        ∀ I39 : jx_I, I39 = jx_u I36 q20 (4 : Int).toNat (Int32.ofInt ((I36 q20 (4 : Int).toNat).toInt + 1)) → (
        J116 l4 I39)))))
      )) ∧ ((I33 q20 (4 : Int).toNat).toInt = 0 → (
        (0 ≤ (2 : Int) ∧ (2 : Int) < n22) ∧ (
        ∀ I41 : jx_I, I41 = jx_u I33 q20 (2 : Int).toNat (Int32.ofInt ((I a2 (a3 + (I q11 l4.toNat).toInt).toNat).toInt)) → (
        J98 l4 ((I a2 (a3 + (I q11 l4.toNat).toInt).toNat).toInt) I41))
      )))))))))))))))))
    ))))))))))
  ))))
/-- GC$Law.measure, from 98 -/
def wz_51_98 (V : jx_V) (X : jx_X) (R : jx_R) (Q : Option Value → jx_I → Prop) (QE : String → jx_I → Prop) (J3 : Int → jx_I → Prop) (J26 : Int → jx_I → Prop) (J98 : Int → Int → jx_I → Prop) (J116 : Int → jx_I → Prop) (a0 : Nat) (a1 : Nat) (a2 : Nat) (a3 : Int) (l4 : Int) (l5 : Int) (I : jx_I) : Prop :=
  (X.2.1 a0 = some (3, 0)) ∧ (
  ∃ q43 : Nat, (
  (R a0 2 = some q43) ∧ (
  ∃ n45 : Nat, (
  (X.2.1 q43 = some (100, n45) ∧ n45 < 2147483648) ∧ (
  (0 ≤ (3 : Int) ∧ (3 : Int) < n45) ∧ (
  ∀ I48 : jx_I, I48 = jx_u I q43 (3 : Int).toNat (Int32.ofInt l5) → (
  (0 ≤ (4 : Int) ∧ (4 : Int) < n45) ∧ (
  (0 ≤ (4 : Int) ∧ (4 : Int) < n45) ∧ (
  ∀ I51 : jx_I, I51 = jx_u I48 q43 (4 : Int).toNat (Int32.ofInt ((I48 q43 (4 : Int).toNat).toInt + 1)) → (
  J116 l4 I51))))))))))
/-- GC$Law.measure, from 116 -/
def wz_51_116 (V : jx_V) (X : jx_X) (R : jx_R) (Q : Option Value → jx_I → Prop) (QE : String → jx_I → Prop) (J3 : Int → jx_I → Prop) (J26 : Int → jx_I → Prop) (J98 : Int → Int → jx_I → Prop) (J116 : Int → jx_I → Prop) (a0 : Nat) (a1 : Nat) (a2 : Nat) (a3 : Int) (l4 : Int) (I : jx_I) : Prop :=
  J26 (l4 + 1) I
/-- GC$Law.measure -/
def wz_51 (V : jx_V) (X : jx_X) (R : jx_R) (Q : Option Value → jx_I → Prop) (QE : String → jx_I → Prop) (J3 : Int → jx_I → Prop) (J26 : Int → jx_I → Prop) (J98 : Int → Int → jx_I → Prop) (J116 : Int → jx_I → Prop) (a0 : Nat) (a1 : Nat) (a2 : Nat) (a3 : Int) (I : jx_I) : Prop :=
  J3 0 I
set_option maxRecDepth 20000 in
theorem wm_51 {V : jx_V} (hV : V.1.stackTraces = false) {X : jx_X} {R : jx_R} {I : jx_I} {Q : Option Value → jx_I → Prop} {QE : String → jx_I → Prop} {a0 : Nat} {a1 : Nat} {a2 : Nat} {a3 : Int} (r_a3 : -2147483648 ≤ a3 ∧ a3 < 2147483648) 
    (h : ∀ (J3 : Int → jx_I → Prop) (J26 : Int → jx_I → Prop) (J98 : Int → Int → jx_I → Prop) (J116 : Int → jx_I → Prop), ((∀ (l4 : Int) I, wz_51_3 V X R Q QE J3 J26 J98 J116 a0 a1 a2 a3 l4 I → J3 l4 I) ∧ (∀ (l4 : Int) I, wz_51_26 V X R Q QE J3 J26 J98 J116 a0 a1 a2 a3 l4 I → J26 l4 I) ∧ (∀ (l4 : Int) (l5 : Int) I, wz_51_98 V X R Q QE J3 J26 J98 J116 a0 a1 a2 a3 l4 l5 I → J98 l4 l5 I) ∧ (∀ (l4 : Int) I, wz_51_116 V X R Q QE J3 J26 J98 J116 a0 a1 a2 a3 l4 I → J116 l4 I)) → wz_51 V X R Q QE J3 J26 J98 J116 a0 a1 a2 a3 I) : jc V 2 51 (0, 0) [.ref a0, .ref a1, .ref a2, jy a3] X I R Q QE := by
  refine jy_met hV (by decide) (n := 6) (rt := none) (hh := []) (ini := false) (C := jx_c51) (L := [some (.ref a0), some (.ref a1), some (.ref a2), some (jy a3), none, none]) jt_51 (Nat.le_of_ble_eq_true rfl) rfl ?_
  intro J hS
  have h := h (fun l4 I => J 3 [] [some (.ref a0), some (.ref a1), some (.ref a2), some (jy a3), some (jy l4), none] (0, 0) X I R) (fun l4 I => J 26 [] [some (.ref a0), some (.ref a1), some (.ref a2), some (jy a3), some (jy l4), none] (0, 0) X I R) (fun l4 l5 I => J 98 [] [some (.ref a0), some (.ref a1), some (.ref a2), some (jy a3), some (jy l4), some (jy l5)] (0, 0) X I R) (fun l4 I => J 116 [] [some (.ref a0), some (.ref a1), some (.ref a2), some (jy a3), some (jy l4), none] (0, 0) X I R) ?_
  · unfold wz_51 at h
    refine jy_iconst hS rfl ?_
    refine jy_istore hS rfl (Nat.le_of_ble_eq_true rfl) (L' := [some (.ref a0), some (.ref a1), some (.ref a2), some (jy a3), some (jy 0), none]) rfl ?_
    exact jy_join hS h rfl (jy_sub_s (jy_sub_s (jy_sub_s (jy_sub_s (jy_sub_s (jy_sub_n jy_sub_0))))))
  refine ⟨?_, ?_, ?_, ?_⟩
  · intro l4 I h
    unfold wz_51_3 at h
    refine jy_iload hS rfl rfl ?_
    refine jy_iconst hS rfl ?_
    obtain ⟨g1, h⟩ := h
    refine jy_icmp_ge hS rfl ⟨g1, ⟨by decide, by decide⟩⟩ (fun hq => ?_) (fun hq => ?_)
    · have h := h.1 hq
      refine jy_iconst hS rfl ?_
      refine jy_istore hS rfl (Nat.le_of_ble_eq_true rfl) (L' := [some (.ref a0), some (.ref a1), some (.ref a2), some (jy a3), some (jy 0), none]) rfl ?_
      exact jy_join hS h rfl (jy_sub_s (jy_sub_s (jy_sub_s (jy_sub_s (jy_sub_s (jy_sub_n jy_sub_0))))))
    · have h := h.2 hq
      refine jy_aload_n hS rfl rfl ?_
      obtain ⟨g2, h⟩ := h
      obtain ⟨q3, h⟩ := h
      obtain ⟨g4, h⟩ := h
      refine jy_getR hS rfl (by decide) g2 g4 ?_
      refine jy_iload hS rfl rfl ?_
      refine jy_iconst hS rfl ?_
      obtain ⟨n5, h⟩ := h
      obtain ⟨g6, h⟩ := h
      obtain ⟨g7, h⟩ := h
      refine jy_iast hS rfl g6.1 (Nat.le_of_lt g6.2) g7 ?_
      intro I8 e9
      have h := h I8 e9
      clear e9
      refine jy_iinc hS rfl rfl (L' := [some (.ref a0), some (.ref a1), some (.ref a2), some (jy a3), some (jy (l4 + 1)), none]) rfl ?_
      refine jy_goto hS rfl ?_
      exact jy_join hS h rfl (jy_sub_s (jy_sub_s (jy_sub_s (jy_sub_s (jy_sub_s (jy_sub_n jy_sub_0))))))
  · intro l4 I h
    unfold wz_51_26 at h
    refine jy_iload hS rfl rfl ?_
    refine jy_aload_n hS rfl rfl ?_
    obtain ⟨g9, h⟩ := h
    refine jy_getI hS rfl (by decide) g9 ?_
    obtain ⟨g10, h⟩ := h
    refine jy_icmp_ge hS rfl ⟨g10, (jy_rng _)⟩ (fun hq => ?_) (fun hq => ?_)
    · have h := h.1 hq
      exact jy_ret hS rfl rfl ⟨rfl, rfl, h⟩
    · have h := h.2 hq
      refine jy_aload_n hS rfl rfl ?_
      refine jy_iload_n hS rfl rfl ?_
      refine jy_aload_n hS rfl rfl ?_
      obtain ⟨q11, h⟩ := h
      obtain ⟨g12, h⟩ := h
      refine jy_getR hS rfl (by decide) g9 g12 ?_
      refine jy_iload hS rfl rfl ?_
      obtain ⟨n13, h⟩ := h
      obtain ⟨g14, h⟩ := h
      obtain ⟨g15, h⟩ := h
      refine jy_iald hS rfl g14.1 (Nat.le_of_lt g14.2) g15 ?_
      refine jy_iadd hS rfl ?_
      obtain ⟨n16, h⟩ := h
      obtain ⟨g17, h⟩ := h
      obtain ⟨g18, h⟩ := h
      refine jy_iald hS rfl g17.1 (Nat.le_of_lt g17.2) g18 ?_
      refine jy_istore hS rfl (Nat.le_of_ble_eq_true rfl) (L' := [some (.ref a0), some (.ref a1), some (.ref a2), some (jy a3), some (jy l4), some (jy ((I a2 (a3 + (I q11 l4.toNat).toInt).toNat).toInt))]) rfl ?_
      refine jy_iload hS rfl rfl ?_
      refine jy_if_le hS rfl (jy_rng _) (fun hq => ?_) (fun hq => ?_)
      · have h := h.1 hq
        refine jy_iinc hS rfl rfl (L' := [some (.ref a0), some (.ref a1), some (.ref a2), some (jy a3), some (jy (l4 + 1)), some (jy ((I a2 (a3 + (I q11 l4.toNat).toInt).toNat).toInt))]) rfl ?_
        refine jy_goto hS rfl ?_
        exact jy_join hS h rfl (jy_sub_s (jy_sub_s (jy_sub_s (jy_sub_s (jy_sub_s (jy_sub_n jy_sub_0))))))
      · have h := h.2 hq
        refine jy_aload_n hS rfl rfl ?_
        obtain ⟨g19, h⟩ := h
        obtain ⟨q20, h⟩ := h
        obtain ⟨g21, h⟩ := h
        refine jy_getR hS rfl (by decide) g19 g21 ?_
        refine jy_iconst hS rfl ?_
        refine jy_aload_n hS rfl rfl ?_
        refine jy_getR hS rfl (by decide) g19 g21 ?_
        refine jy_iconst hS rfl ?_
        obtain ⟨n22, h⟩ := h
        obtain ⟨g23, h⟩ := h
        obtain ⟨g24, h⟩ := h
        refine jy_iald hS rfl g23.1 (Nat.le_of_lt g23.2) g24 ?_
        refine jy_iload hS rfl rfl ?_
        obtain ⟨Q25, h⟩ := h
        obtain ⟨g26, h⟩ := h
        refine jy_callS hS rfl rfl rfl (Nat.le_of_ble_eq_true rfl) g26 (by decide) ⟨by decide, by decide⟩ (Nat.le_of_ble_eq_true rfl) ?_ ?_
        rotate_left
        · exact fun Ex Xx Ix Rx hp => hp.2.2.2.elim
        intro rv Xx I27 Rx hp
        obtain ⟨e1, e2, hp⟩ := hp
        rw [e1, e2]
        clear e1 e2
        obtain ⟨r28, e1, h⟩ := h rv I27 hp
        rw [e1]
        clear e1
        change J 69 [jy r28, jy 0, .ref q20] _ (0, 0) _ _ _
        obtain ⟨g29, h⟩ := h
        refine jy_iast hS rfl g23.1 (Nat.le_of_lt g23.2) g29 ?_
        intro I30 e9
        have h := h I30 e9
        clear e9
        refine jy_aload_n hS rfl rfl ?_
        refine jy_getR hS rfl (by decide) g19 g21 ?_
        refine jy_iconst hS rfl ?_
        refine jy_dup2 hS rfl rfl rfl ?_
        obtain ⟨g31, h⟩ := h
        refine jy_iald hS rfl g23.1 (Nat.le_of_lt g23.2) g31 ?_
        refine jy_iload hS rfl rfl ?_
        refine jy_iadd hS rfl ?_
        obtain ⟨g32, h⟩ := h
        refine jy_iast hS rfl g23.1 (Nat.le_of_lt g23.2) g32 ?_
        intro I33 e9
        have h := h I33 e9
        clear e9
        refine jy_aload_n hS rfl rfl ?_
        refine jy_getR hS rfl (by decide) g19 g21 ?_
        refine jy_iconst hS rfl ?_
        obtain ⟨g34, h⟩ := h
        refine jy_iald hS rfl g23.1 (Nat.le_of_lt g23.2) g34 ?_
        refine jy_if_ne hS rfl (jy_rng _) (fun hq => ?_) (fun hq => ?_)
        · have h := h.1 hq
          refine jy_aload_n hS rfl rfl ?_
          refine jy_getR hS rfl (by decide) g19 g21 ?_
          refine jy_iconst hS rfl ?_
          refine jy_iload hS rfl rfl ?_
          obtain ⟨g35, h⟩ := h
          refine jy_iast hS rfl g23.1 (Nat.le_of_lt g23.2) g35 ?_
          intro I36 e9
          have h := h I36 e9
          clear e9
          refine jy_aload_n hS rfl rfl ?_
          refine jy_getR hS rfl (by decide) g19 g21 ?_
          refine jy_iconst hS rfl ?_
          refine jy_dup2 hS rfl rfl rfl ?_
          obtain ⟨g37, h⟩ := h
          refine jy_iald hS rfl g23.1 (Nat.le_of_lt g23.2) g37 ?_
          refine jy_iconst hS rfl ?_
          refine jy_iadd hS rfl ?_
          obtain ⟨g38, h⟩ := h
          refine jy_iast hS rfl g23.1 (Nat.le_of_lt g23.2) g38 ?_
          intro I39 e9
          have h := h I39 e9
          clear e9
          exact jy_join hS h rfl (jy_sub_s (jy_sub_s (jy_sub_s (jy_sub_s (jy_sub_s (jy_sub_n jy_sub_0))))))
        · have h := h.2 hq
          refine jy_aload_n hS rfl rfl ?_
          refine jy_getR hS rfl (by decide) g19 g21 ?_
          refine jy_iconst hS rfl ?_
          refine jy_iload hS rfl rfl ?_
          obtain ⟨g40, h⟩ := h
          refine jy_iast hS rfl g23.1 (Nat.le_of_lt g23.2) g40 ?_
          intro I41 e9
          have h := h I41 e9
          clear e9
          exact jy_join hS h rfl (jy_sub_s (jy_sub_s (jy_sub_s (jy_sub_s (jy_sub_s (jy_sub_s jy_sub_0))))))
  · intro l4 l5 I h
    unfold wz_51_98 at h
    refine jy_aload_n hS rfl rfl ?_
    obtain ⟨g42, h⟩ := h
    obtain ⟨q43, h⟩ := h
    obtain ⟨g44, h⟩ := h
    refine jy_getR hS rfl (by decide) g42 g44 ?_
    refine jy_iconst hS rfl ?_
    refine jy_iload hS rfl rfl ?_
    obtain ⟨n45, h⟩ := h
    obtain ⟨g46, h⟩ := h
    obtain ⟨g47, h⟩ := h
    refine jy_iast hS rfl g46.1 (Nat.le_of_lt g46.2) g47 ?_
    intro I48 e9
    have h := h I48 e9
    clear e9
    refine jy_aload_n hS rfl rfl ?_
    refine jy_getR hS rfl (by decide) g42 g44 ?_
    refine jy_iconst hS rfl ?_
    refine jy_dup2 hS rfl rfl rfl ?_
    obtain ⟨g49, h⟩ := h
    refine jy_iald hS rfl g46.1 (Nat.le_of_lt g46.2) g49 ?_
    refine jy_iconst hS rfl ?_
    refine jy_iadd hS rfl ?_
    obtain ⟨g50, h⟩ := h
    refine jy_iast hS rfl g46.1 (Nat.le_of_lt g46.2) g50 ?_
    intro I51 e9
    have h := h I51 e9
    clear e9
    exact jy_join hS h rfl (jy_sub_s (jy_sub_s (jy_sub_s (jy_sub_s (jy_sub_s (jy_sub_n jy_sub_0))))))
  · intro l4 I h
    unfold wz_51_116 at h
    refine jy_iinc hS rfl rfl (L' := [some (.ref a0), some (.ref a1), some (.ref a2), some (jy a3), some (jy (l4 + 1)), none]) rfl ?_
    refine jy_goto hS rfl ?_
    exact jy_join hS h rfl (jy_sub_s (jy_sub_s (jy_sub_s (jy_sub_s (jy_sub_s (jy_sub_n jy_sub_0))))))
theorem jt_52 : jx_ml 52 = 5 ∧ jx_rt 52 = some .int ∧ jx_hz 52 = [] ∧ decide ((jx_nm 52).name = "<init>") = false ∧ jx_code 52 = jx_c52 := by decide +kernel
/-- GC$Law.haltOf -/
def wz_52 (V : jx_V) (X : jx_X) (R : jx_R) (Q : Option Value → jx_I → Prop) (QE : String → jx_I → Prop)  (a0 : Nat) (a1 : Nat) (a2 : Nat) (a3 : Int) (a4 : Int) (I : jx_I) : Prop :=
  (X.2.1 a0 = some (3, 0)) ∧ (
  ∃ Q2 : Option Value → jx_I → Prop, (
  (jc V 2 51 (0, 0) [.ref a0, .ref a1, .ref a2, jy a3] X I R Q2 (fun _ _ => False)) ∧ (
  ∀ rv I4, Q2 rv I4 → rv = none ∧ (
  ∃ q6 : Nat, (
  (R a0 2 = some q6) ∧ (
  ∃ n8 : Nat, (
  (X.2.1 q6 = some (100, n8) ∧ n8 < 2147483648) ∧ (
  (0 ≤ (4 : Int) ∧ (4 : Int) < n8) ∧ (
  (a4 ≤ (I4 q6 (4 : Int).toNat).toInt → (
    ∃ Q11 : Option Value → jx_I → Prop, (
    (jc V 1 53 (0, 0) [.ref a0] X I4 R Q11 (fun _ _ => False)) ∧ (
    ∀ rv I13, Q11 rv I13 → ∃ r14 : Int, rv = some (jy r14) ∧ (
    ∃ Q15 : Option Value → jx_I → Prop, (
    (jc V 1 329 (0, 0) [jy 99, jy r14] X I13 R Q15 (fun _ _ => False)) ∧ (
    ∀ rv I17, Q15 rv I17 → ∃ r18 : Int, rv = some (jy r18) ∧ (
    ∃ Q19 : Option Value → jx_I → Prop, (
    (jc V 1 328 (0, 0) [jy 0, jy r18] X I17 R Q19 (fun _ _ => False)) ∧ (
    ∀ rv I21, Q19 rv I21 → ∃ r22 : Int, rv = some (jy r22) ∧ (
    Q (some (jy r22)) I21)))))))))
  )) ∧ (¬ a4 ≤ (I4 q6 (4 : Int).toNat).toInt → (
    Q (some (jy 0)) I4
  )))))))))))
set_option maxRecDepth 20000 in
theorem wm_52 {V : jx_V} (hV : V.1.stackTraces = false) {X : jx_X} {R : jx_R} {I : jx_I} {Q : Option Value → jx_I → Prop} {QE : String → jx_I → Prop} {a0 : Nat} {a1 : Nat} {a2 : Nat} {a3 : Int} {a4 : Int} (r_a3 : -2147483648 ≤ a3 ∧ a3 < 2147483648) (r_a4 : -2147483648 ≤ a4 ∧ a4 < 2147483648) 
    (h : wz_52 V X R Q QE  a0 a1 a2 a3 a4 I) : jc V 3 52 (0, 0) [.ref a0, .ref a1, .ref a2, jy a3, jy a4] X I R Q QE := by
  refine jy_met hV (by decide) (n := 5) (rt := some .int) (hh := []) (ini := false) (C := jx_c52) (L := [some (.ref a0), some (.ref a1), some (.ref a2), some (jy a3), some (jy a4)]) jt_52 (Nat.le_of_ble_eq_true rfl) rfl ?_
  intro J hS
  unfold wz_52 at h
  refine jy_aload_n hS rfl rfl ?_
  refine jy_aload_n hS rfl rfl ?_
  refine jy_aload_n hS rfl rfl ?_
  refine jy_iload_n hS rfl rfl ?_
  obtain ⟨g1, h⟩ := h
  obtain ⟨Q2, h⟩ := h
  obtain ⟨g3, h⟩ := h
  refine jy_callV hS rfl rfl rfl (Nat.le_of_ble_eq_true rfl) (Or.inl g1) g3 (by decide) ⟨by decide, by decide⟩ (Nat.le_of_ble_eq_true rfl) ?_ ?_
  rotate_left
  · exact fun Ex Xx Ix Rx hp => hp.2.2.2.elim
  intro rv Xx I4 Rx hp
  obtain ⟨e1, e2, hp⟩ := hp
  rw [e1, e2]
  clear e1 e2
  obtain ⟨e1, h⟩ := h rv I4 hp
  rw [e1]
  clear e1
  change J 7 [] _ (0, 0) _ _ _
  refine jy_aload_n hS rfl rfl ?_
  obtain ⟨q6, h⟩ := h
  obtain ⟨g7, h⟩ := h
  refine jy_getR hS rfl (by decide) g1 g7 ?_
  refine jy_iconst hS rfl ?_
  obtain ⟨n8, h⟩ := h
  obtain ⟨g9, h⟩ := h
  obtain ⟨g10, h⟩ := h
  refine jy_iald hS rfl g9.1 (Nat.le_of_lt g9.2) g10 ?_
  refine jy_iload hS rfl rfl ?_
  refine jy_icmp_ge hS rfl ⟨(jy_rng _), r_a4⟩ (fun hq => ?_) (fun hq => ?_)
  · have h := h.1 hq
    refine jy_iconst hS rfl ?_
    refine jy_bipush hS rfl (by decide) ?_
    refine jy_aload_n hS rfl rfl ?_
    obtain ⟨Q11, h⟩ := h
    obtain ⟨g12, h⟩ := h
    refine jy_callV hS rfl rfl rfl (Nat.le_of_ble_eq_true rfl) (Or.inl g1) g12 (by decide) ⟨by decide, by decide⟩ (Nat.le_of_ble_eq_true rfl) ?_ ?_
    rotate_left
    · exact fun Ex Xx Ix Rx hp => hp.2.2.2.elim
    intro rv Xx I13 Rx hp
    obtain ⟨e1, e2, hp⟩ := hp
    rw [e1, e2]
    clear e1 e2
    obtain ⟨r14, e1, h⟩ := h rv I13 hp
    rw [e1]
    clear e1
    change J 27 [jy r14, jy 99, jy 0] _ (0, 0) _ _ _
    obtain ⟨Q15, h⟩ := h
    obtain ⟨g16, h⟩ := h
    refine jy_callS hS rfl rfl rfl (Nat.le_of_ble_eq_true rfl) g16 (by decide) ⟨by decide, by decide⟩ (Nat.le_of_ble_eq_true rfl) ?_ ?_
    rotate_left
    · exact fun Ex Xx Ix Rx hp => hp.2.2.2.elim
    intro rv Xx I17 Rx hp
    obtain ⟨e1, e2, hp⟩ := hp
    rw [e1, e2]
    clear e1 e2
    obtain ⟨r18, e1, h⟩ := h rv I17 hp
    rw [e1]
    clear e1
    change J 30 [jy r18, jy 0] _ (0, 0) _ _ _
    obtain ⟨Q19, h⟩ := h
    obtain ⟨g20, h⟩ := h
    refine jy_callS hS rfl rfl rfl (Nat.le_of_ble_eq_true rfl) g20 (by decide) ⟨by decide, by decide⟩ (Nat.le_of_ble_eq_true rfl) ?_ ?_
    rotate_left
    · exact fun Ex Xx Ix Rx hp => hp.2.2.2.elim
    intro rv Xx I21 Rx hp
    obtain ⟨e1, e2, hp⟩ := hp
    rw [e1, e2]
    clear e1 e2
    obtain ⟨r22, e1, h⟩ := h rv I21 hp
    rw [e1]
    clear e1
    change J 33 [jy r22] _ (0, 0) _ _ _
    exact jy_iret hS rfl rfl ⟨rfl, rfl, h⟩
  · have h := h.2 hq
    refine jy_iconst hS rfl ?_
    exact jy_iret hS rfl rfl ⟨rfl, rfl, h⟩
theorem jt_53 : jx_ml 53 = 6 ∧ jx_rt 53 = some .int ∧ jx_hz 53 = [] ∧ decide ((jx_nm 53).name = "<init>") = false ∧ jx_code 53 = jx_c53 := by decide +kernel
/-- GC$Law.reckon, from 4 -/
def wz_53_4 (V : jx_V) (X : jx_X) (R : jx_R) (Q : Option Value → jx_I → Prop) (QE : String → jx_I → Prop) (J4 : Int → Int → jx_I → Prop) (J55 : Nat → Int → Int → Int → Int → jx_I → Prop) (J128 : Nat → Int → Int → Int → Int → jx_I → Prop) (J129 : Int → Int → jx_I → Prop) (a0 : Nat) (l1 : Int) (l2 : Int) (I : jx_I) : Prop :=
  (X.2.1 a0 = some (3, 0)) ∧ (
  (-2147483648 ≤ l2 ∧ l2 < 2147483648) ∧ (
  ((I a0 3).toInt ≤ l2 → (
    (-2147483648 ≤ l1 ∧ l1 < 2147483648) ∧ (
    (l1 ≤ 0 → (
      Q (some (jy 0)) I
    )) ∧ (¬ l1 ≤ 0 → (
      ∃ q4 : Nat, (
      (R a0 1 = some q4) ∧ (
      ∃ n6 : Nat, (
      (X.2.1 q4 = some (100, n6) ∧ n6 < 2147483648) ∧ (
      (0 ≤ (0 : Int) ∧ (0 : Int) < n6) ∧ (
      Q (some (jy ((I q4 (0 : Int).toNat).toInt))) I)))))
    )))
  )) ∧ (¬ (I a0 3).toInt ≤ l2 → (
    ∃ q9 : Nat, (
    (R a0 0 = some q9) ∧ (
    ∃ n11 : Nat, (
    (X.2.1 q9 = some (100, n11) ∧ n11 < 2147483648) ∧ (
    (0 ≤ l2 ∧ l2 < n11) ∧ (
    (105 ≤ (I q9 l2.toNat).toInt → (
      (-2147483648 ≤ l1 ∧ l1 < 2147483648) ∧ (
      (l1 < 2 → (
        J4 l1 (l2 + 1) I
      )) ∧ (¬ l1 < 2 → (
        ∃ q15 : Nat, (
        (R a0 1 = some q15) ∧ (
        ∃ n17 : Nat, (
        (X.2.1 q15 = some (100, n17) ∧ n17 < 2147483648) ∧ (
        (0 ≤ ((l1 + (-1)) - 1) ∧ ((l1 + (-1)) - 1) < n17) ∧ (
        (0 ≤ (l1 + (-1)) ∧ (l1 + (-1)) < n17) ∧ (
        ((I q9 l2.toNat).toInt ≠ 105 → (
          ((I q9 l2.toNat).toInt ≠ 106 → (
            J128 q15 ((l1 + (-1)) - 1) ((I q15 ((l1 + (-1)) - 1).toNat).toInt * (I q15 (l1 + (-1)).toNat).toInt) (l1 + (-1)) l2 I
          )) ∧ ((I q9 l2.toNat).toInt = 106 → (
            J128 q15 ((l1 + (-1)) - 1) ((I q15 ((l1 + (-1)) - 1).toNat).toInt - (I q15 (l1 + (-1)).toNat).toInt) (l1 + (-1)) l2 I
          ))
        )) ∧ ((I q9 l2.toNat).toInt = 105 → (
          J128 q15 ((l1 + (-1)) - 1) ((I q15 ((l1 + (-1)) - 1).toNat).toInt + (I q15 (l1 + (-1)).toNat).toInt) (l1 + (-1)) l2 I
        ))))))))
      )))
    )) ∧ (¬ 105 ≤ (I q9 l2.toNat).toInt → (
      (-2147483648 ≤ l1 ∧ l1 < 2147483648) ∧ (
      (32 ≤ l1 → (
        J4 l1 (l2 + 1) I
      )) ∧ (¬ 32 ≤ l1 → (
        ∃ q22 : Nat, (
        (R a0 1 = some q22) ∧ (
        (100 ≤ (I q9 l2.toNat).toInt → (
          ∃ q24 : Nat, (
          (R a0 2 = some q24) ∧ (
          ∃ n26 : Nat, (
          (X.2.1 q24 = some (100, n26) ∧ n26 < 2147483648) ∧ (
          (0 ≤ ((I q9 l2.toNat).toInt - 100) ∧ ((I q9 l2.toNat).toInt - 100) < n26) ∧ (
          J55 q22 l1 ((I q24 ((I q9 l2.toNat).toInt - 100).toNat).toInt) l1 l2 I)))))
        )) ∧ (¬ 100 ≤ (I q9 l2.toNat).toInt → (
          J55 q22 l1 ((I q9 l2.toNat).toInt) l1 l2 I
        ))))
      )))
    )))))))
  ))))
/-- GC$Law.reckon, from 55 -/
def wz_53_55 (V : jx_V) (X : jx_X) (R : jx_R) (Q : Option Value → jx_I → Prop) (QE : String → jx_I → Prop) (J4 : Int → Int → jx_I → Prop) (J55 : Nat → Int → Int → Int → Int → jx_I → Prop) (J128 : Nat → Int → Int → Int → Int → jx_I → Prop) (J129 : Int → Int → jx_I → Prop) (a0 : Nat) (s0 : Nat) (s1 : Int) (s2 : Int) (l1 : Int) (l2 : Int) (I : jx_I) : Prop :=
  ∃ n29 : Nat, (
  (X.2.1 s0 = some (100, n29) ∧ n29 < 2147483648) ∧ (
  (0 ≤ s1 ∧ s1 < n29) ∧ (
  ∀ I32 : jx_I, I32 = jx_u I s0 s1.toNat (Int32.ofInt s2) → (
  J129 (l1 + 1) l2 I32))))
/-- GC$Law.reckon, from 128 -/
def wz_53_128 (V : jx_V) (X : jx_X) (R : jx_R) (Q : Option Value → jx_I → Prop) (QE : String → jx_I → Prop) (J4 : Int → Int → jx_I → Prop) (J55 : Nat → Int → Int → Int → Int → jx_I → Prop) (J128 : Nat → Int → Int → Int → Int → jx_I → Prop) (J129 : Int → Int → jx_I → Prop) (a0 : Nat) (s0 : Nat) (s1 : Int) (s2 : Int) (l1 : Int) (l2 : Int) (I : jx_I) : Prop :=
  ∃ n33 : Nat, (
  (X.2.1 s0 = some (100, n33) ∧ n33 < 2147483648) ∧ (
  (0 ≤ s1 ∧ s1 < n33) ∧ (
  ∀ I36 : jx_I, I36 = jx_u I s0 s1.toNat (Int32.ofInt s2) → (
  J129 l1 l2 I36))))
/-- GC$Law.reckon, from 129 -/
def wz_53_129 (V : jx_V) (X : jx_X) (R : jx_R) (Q : Option Value → jx_I → Prop) (QE : String → jx_I → Prop) (J4 : Int → Int → jx_I → Prop) (J55 : Nat → Int → Int → Int → Int → jx_I → Prop) (J128 : Nat → Int → Int → Int → Int → jx_I → Prop) (J129 : Int → Int → jx_I → Prop) (a0 : Nat) (l1 : Int) (l2 : Int) (I : jx_I) : Prop :=
  J4 l1 (l2 + 1) I
/-- GC$Law.reckon -/
def wz_53 (V : jx_V) (X : jx_X) (R : jx_R) (Q : Option Value → jx_I → Prop) (QE : String → jx_I → Prop) (J4 : Int → Int → jx_I → Prop) (J55 : Nat → Int → Int → Int → Int → jx_I → Prop) (J128 : Nat → Int → Int → Int → Int → jx_I → Prop) (J129 : Int → Int → jx_I → Prop) (a0 : Nat) (I : jx_I) : Prop :=
  J4 0 0 I
set_option maxRecDepth 20000 in
theorem wm_53 {V : jx_V} (hV : V.1.stackTraces = false) {X : jx_X} {R : jx_R} {I : jx_I} {Q : Option Value → jx_I → Prop} {QE : String → jx_I → Prop} {a0 : Nat}  
    (h : ∀ (J4 : Int → Int → jx_I → Prop) (J55 : Nat → Int → Int → Int → Int → jx_I → Prop) (J128 : Nat → Int → Int → Int → Int → jx_I → Prop) (J129 : Int → Int → jx_I → Prop), ((∀ (l1 : Int) (l2 : Int) I, wz_53_4 V X R Q QE J4 J55 J128 J129 a0 l1 l2 I → J4 l1 l2 I) ∧ (∀ (s0 : Nat) (s1 : Int) (s2 : Int) (l1 : Int) (l2 : Int) I, wz_53_55 V X R Q QE J4 J55 J128 J129 a0 s0 s1 s2 l1 l2 I → J55 s0 s1 s2 l1 l2 I) ∧ (∀ (s0 : Nat) (s1 : Int) (s2 : Int) (l1 : Int) (l2 : Int) I, wz_53_128 V X R Q QE J4 J55 J128 J129 a0 s0 s1 s2 l1 l2 I → J128 s0 s1 s2 l1 l2 I) ∧ (∀ (l1 : Int) (l2 : Int) I, wz_53_129 V X R Q QE J4 J55 J128 J129 a0 l1 l2 I → J129 l1 l2 I)) → wz_53 V X R Q QE J4 J55 J128 J129 a0 I) : jc V 1 53 (0, 0) [.ref a0] X I R Q QE := by
  refine jy_met hV (by decide) (n := 6) (rt := some .int) (hh := []) (ini := false) (C := jx_c53) (L := [some (.ref a0), none, none, none, none, none]) jt_53 (Nat.le_of_ble_eq_true rfl) rfl ?_
  intro J hS
  have h := h (fun l1 l2 I => J 4 [] [some (.ref a0), some (jy l1), some (jy l2), none, none, none] (0, 0) X I R) (fun s0 s1 s2 l1 l2 I => J 55 [jy s2, jy s1, .ref s0] [some (.ref a0), some (jy l1), some (jy l2), none, none, none] (0, 0) X I R) (fun s0 s1 s2 l1 l2 I => J 128 [jy s2, jy s1, .ref s0] [some (.ref a0), some (jy l1), some (jy l2), none, none, none] (0, 0) X I R) (fun l1 l2 I => J 129 [] [some (.ref a0), some (jy l1), some (jy l2), none, none, none] (0, 0) X I R) ?_
  · unfold wz_53 at h
    refine jy_iconst hS rfl ?_
    refine jy_istore_n hS rfl (Nat.le_of_ble_eq_true rfl) (L' := [some (.ref a0), some (jy 0), none, none, none, none]) rfl ?_
    refine jy_iconst hS rfl ?_
    refine jy_istore_n hS rfl (Nat.le_of_ble_eq_true rfl) (L' := [some (.ref a0), some (jy 0), some (jy 0), none, none, none]) rfl ?_
    exact jy_join hS h rfl (jy_sub_s (jy_sub_s (jy_sub_s (jy_sub_n (jy_sub_n (jy_sub_n jy_sub_0))))))
  refine ⟨?_, ?_, ?_, ?_⟩
  · intro l1 l2 I h
    unfold wz_53_4 at h
    refine jy_iload_n hS rfl rfl ?_
    refine jy_aload_n hS rfl rfl ?_
    obtain ⟨g1, h⟩ := h
    refine jy_getI hS rfl (by decide) g1 ?_
    obtain ⟨g2, h⟩ := h
    refine jy_icmp_ge hS rfl ⟨g2, (jy_rng _)⟩ (fun hq => ?_) (fun hq => ?_)
    · have h := h.1 hq
      refine jy_iload_n hS rfl rfl ?_
      obtain ⟨g3, h⟩ := h
      refine jy_if_le hS rfl g3 (fun hq => ?_) (fun hq => ?_)
      · have h := h.1 hq
        refine jy_iconst hS rfl ?_
        exact jy_iret hS rfl rfl ⟨rfl, rfl, h⟩
      · have h := h.2 hq
        refine jy_aload_n hS rfl rfl ?_
        obtain ⟨q4, h⟩ := h
        obtain ⟨g5, h⟩ := h
        refine jy_getR hS rfl (by decide) g1 g5 ?_
        refine jy_iconst hS rfl ?_
        obtain ⟨n6, h⟩ := h
        obtain ⟨g7, h⟩ := h
        obtain ⟨g8, h⟩ := h
        refine jy_iald hS rfl g7.1 (Nat.le_of_lt g7.2) g8 ?_
        refine jy_goto hS rfl ?_
        exact jy_iret hS rfl rfl ⟨rfl, rfl, h⟩
    · have h := h.2 hq
      refine jy_aload_n hS rfl rfl ?_
      obtain ⟨q9, h⟩ := h
      obtain ⟨g10, h⟩ := h
      refine jy_getR hS rfl (by decide) g1 g10 ?_
      refine jy_iload_n hS rfl rfl ?_
      obtain ⟨n11, h⟩ := h
      obtain ⟨g12, h⟩ := h
      obtain ⟨g13, h⟩ := h
      refine jy_iald hS rfl g12.1 (Nat.le_of_lt g12.2) g13 ?_
      refine jy_istore_n hS rfl (Nat.le_of_ble_eq_true rfl) (L' := [some (.ref a0), some (jy l1), some (jy l2), some (jy ((I q9 l2.toNat).toInt)), none, none]) rfl ?_
      refine jy_iload_n hS rfl rfl ?_
      refine jy_bipush hS rfl (by decide) ?_
      refine jy_icmp_ge hS rfl ⟨(jy_rng _), ⟨by decide, by decide⟩⟩ (fun hq => ?_) (fun hq => ?_)
      · have h := h.1 hq
        refine jy_iload_n hS rfl rfl ?_
        refine jy_iconst hS rfl ?_
        obtain ⟨g14, h⟩ := h
        refine jy_icmp_lt hS rfl ⟨g14, ⟨by decide, by decide⟩⟩ (fun hq => ?_) (fun hq => ?_)
        · have h := h.1 hq
          refine jy_iinc hS rfl rfl (L' := [some (.ref a0), some (jy l1), some (jy (l2 + 1)), some (jy ((I q9 l2.toNat).toInt)), none, none]) rfl ?_
          refine jy_goto hS rfl ?_
          exact jy_join hS h rfl (jy_sub_s (jy_sub_s (jy_sub_s (jy_sub_n (jy_sub_n (jy_sub_n jy_sub_0))))))
        · have h := h.2 hq
          refine jy_iinc hS rfl rfl (L' := [some (.ref a0), some (jy (l1 + (-1))), some (jy l2), some (jy ((I q9 l2.toNat).toInt)), none, none]) rfl ?_
          refine jy_aload_n hS rfl rfl ?_
          obtain ⟨q15, h⟩ := h
          obtain ⟨g16, h⟩ := h
          refine jy_getR hS rfl (by decide) g1 g16 ?_
          refine jy_iload_n hS rfl rfl ?_
          refine jy_iconst hS rfl ?_
          refine jy_isub hS rfl ?_
          obtain ⟨n17, h⟩ := h
          obtain ⟨g18, h⟩ := h
          obtain ⟨g19, h⟩ := h
          refine jy_iald hS rfl g18.1 (Nat.le_of_lt g18.2) g19 ?_
          refine jy_istore hS rfl (Nat.le_of_ble_eq_true rfl) (L' := [some (.ref a0), some (jy (l1 + (-1))), some (jy l2), some (jy ((I q9 l2.toNat).toInt)), some (jy ((I q15 ((l1 + (-1)) - 1).toNat).toInt)), none]) rfl ?_
          refine jy_aload_n hS rfl rfl ?_
          refine jy_getR hS rfl (by decide) g1 g16 ?_
          refine jy_iload_n hS rfl rfl ?_
          obtain ⟨g20, h⟩ := h
          refine jy_iald hS rfl g18.1 (Nat.le_of_lt g18.2) g20 ?_
          refine jy_istore hS rfl (Nat.le_of_ble_eq_true rfl) (L' := [some (.ref a0), some (jy (l1 + (-1))), some (jy l2), some (jy ((I q9 l2.toNat).toInt)), some (jy ((I q15 ((l1 + (-1)) - 1).toNat).toInt)), some (jy ((I q15 (l1 + (-1)).toNat).toInt))]) rfl ?_
          refine jy_aload_n hS rfl rfl ?_
          refine jy_getR hS rfl (by decide) g1 g16 ?_
          refine jy_iload_n hS rfl rfl ?_
          refine jy_iconst hS rfl ?_
          refine jy_isub hS rfl ?_
          refine jy_iload_n hS rfl rfl ?_
          refine jy_bipush hS rfl (by decide) ?_
          refine jy_icmp_ne hS rfl ⟨(jy_rng _), ⟨by decide, by decide⟩⟩ (fun hq => ?_) (fun hq => ?_)
          · have h := h.1 hq
            refine jy_iload_n hS rfl rfl ?_
            refine jy_bipush hS rfl (by decide) ?_
            refine jy_icmp_ne hS rfl ⟨(jy_rng _), ⟨by decide, by decide⟩⟩ (fun hq => ?_) (fun hq => ?_)
            · have h := h.1 hq
              refine jy_iload hS rfl rfl ?_
              refine jy_iload hS rfl rfl ?_
              refine jy_imul hS rfl ?_
              exact jy_join hS h rfl (jy_sub_s (jy_sub_s (jy_sub_s (jy_sub_n (jy_sub_n (jy_sub_n jy_sub_0))))))
            · have h := h.2 hq
              refine jy_iload hS rfl rfl ?_
              refine jy_iload hS rfl rfl ?_
              refine jy_isub hS rfl ?_
              refine jy_goto hS rfl ?_
              exact jy_join hS h rfl (jy_sub_s (jy_sub_s (jy_sub_s (jy_sub_n (jy_sub_n (jy_sub_n jy_sub_0))))))
          · have h := h.2 hq
            refine jy_iload hS rfl rfl ?_
            refine jy_iload hS rfl rfl ?_
            refine jy_iadd hS rfl ?_
            refine jy_goto hS rfl ?_
            exact jy_join hS h rfl (jy_sub_s (jy_sub_s (jy_sub_s (jy_sub_n (jy_sub_n (jy_sub_n jy_sub_0))))))
      · have h := h.2 hq
        refine jy_iload_n hS rfl rfl ?_
        refine jy_bipush hS rfl (by decide) ?_
        obtain ⟨g21, h⟩ := h
        refine jy_icmp_ge hS rfl ⟨g21, ⟨by decide, by decide⟩⟩ (fun hq => ?_) (fun hq => ?_)
        · have h := h.1 hq
          refine jy_iinc hS rfl rfl (L' := [some (.ref a0), some (jy l1), some (jy (l2 + 1)), some (jy ((I q9 l2.toNat).toInt)), none, none]) rfl ?_
          refine jy_goto hS rfl ?_
          exact jy_join hS h rfl (jy_sub_s (jy_sub_s (jy_sub_s (jy_sub_n (jy_sub_n (jy_sub_n jy_sub_0))))))
        · have h := h.2 hq
          refine jy_aload_n hS rfl rfl ?_
          obtain ⟨q22, h⟩ := h
          obtain ⟨g23, h⟩ := h
          refine jy_getR hS rfl (by decide) g1 g23 ?_
          refine jy_iload_n hS rfl rfl ?_
          refine jy_iload_n hS rfl rfl ?_
          refine jy_bipush hS rfl (by decide) ?_
          refine jy_icmp_ge hS rfl ⟨(jy_rng _), ⟨by decide, by decide⟩⟩ (fun hq => ?_) (fun hq => ?_)
          · have h := h.1 hq
            refine jy_aload_n hS rfl rfl ?_
            obtain ⟨q24, h⟩ := h
            obtain ⟨g25, h⟩ := h
            refine jy_getR hS rfl (by decide) g1 g25 ?_
            refine jy_iload_n hS rfl rfl ?_
            refine jy_bipush hS rfl (by decide) ?_
            refine jy_isub hS rfl ?_
            obtain ⟨n26, h⟩ := h
            obtain ⟨g27, h⟩ := h
            obtain ⟨g28, h⟩ := h
            refine jy_iald hS rfl g27.1 (Nat.le_of_lt g27.2) g28 ?_
            exact jy_join hS h rfl (jy_sub_s (jy_sub_s (jy_sub_s (jy_sub_n (jy_sub_n (jy_sub_n jy_sub_0))))))
          · have h := h.2 hq
            refine jy_iload_n hS rfl rfl ?_
            refine jy_goto hS rfl ?_
            exact jy_join hS h rfl (jy_sub_s (jy_sub_s (jy_sub_s (jy_sub_n (jy_sub_n (jy_sub_n jy_sub_0))))))
  · intro s0 s1 s2 l1 l2 I h
    unfold wz_53_55 at h
    obtain ⟨n29, h⟩ := h
    obtain ⟨g30, h⟩ := h
    obtain ⟨g31, h⟩ := h
    refine jy_iast hS rfl g30.1 (Nat.le_of_lt g30.2) g31 ?_
    intro I32 e9
    have h := h I32 e9
    clear e9
    refine jy_iinc hS rfl rfl (L' := [some (.ref a0), some (jy (l1 + 1)), some (jy l2), none, none, none]) rfl ?_
    refine jy_goto hS rfl ?_
    exact jy_join hS h rfl (jy_sub_s (jy_sub_s (jy_sub_s (jy_sub_n (jy_sub_n (jy_sub_n jy_sub_0))))))
  · intro s0 s1 s2 l1 l2 I h
    unfold wz_53_128 at h
    obtain ⟨n33, h⟩ := h
    obtain ⟨g34, h⟩ := h
    obtain ⟨g35, h⟩ := h
    refine jy_iast hS rfl g34.1 (Nat.le_of_lt g34.2) g35 ?_
    intro I36 e9
    have h := h I36 e9
    clear e9
    exact jy_join hS h rfl (jy_sub_s (jy_sub_s (jy_sub_s (jy_sub_n (jy_sub_n (jy_sub_n jy_sub_0))))))
  · intro l1 l2 I h
    unfold wz_53_129 at h
    refine jy_iinc hS rfl rfl (L' := [some (.ref a0), some (jy l1), some (jy (l2 + 1)), none, none, none]) rfl ?_
    refine jy_goto hS rfl ?_
    exact jy_join hS h rfl (jy_sub_s (jy_sub_s (jy_sub_s (jy_sub_n (jy_sub_n (jy_sub_n jy_sub_0))))))
theorem jt_55 : jx_ml 55 = 1 ∧ jx_rt 55 = none ∧ jx_hz 55 = [] ∧ decide ((jx_nm 55).name = "<init>") = false ∧ jx_code 55 = jx_c55 := by decide +kernel
/-- GC$Plan.forget -/
def wz_55 (V : jx_V) (X : jx_X) (R : jx_R) (Q : Option Value → jx_I → Prop) (QE : String → jx_I → Prop)  (a0 : Nat) (I : jx_I) : Prop :=
  (X.2.1 a0 = some (4, 0)) ∧ (
  ∀ I2 : jx_I, I2 = jx_u I a0 11 (Int32.ofInt 0) → (
  ∀ I3 : jx_I, I3 = jx_u I2 a0 12 (Int32.ofInt 0) → (
  Q none I3)))
set_option maxRecDepth 20000 in
theorem wm_55 {V : jx_V} (hV : V.1.stackTraces = false) {X : jx_X} {R : jx_R} {I : jx_I} {Q : Option Value → jx_I → Prop} {QE : String → jx_I → Prop} {a0 : Nat}  
    (h : wz_55 V X R Q QE  a0 I) : jc V 1 55 (0, 0) [.ref a0] X I R Q QE := by
  refine jy_met hV (by decide) (n := 1) (rt := none) (hh := []) (ini := false) (C := jx_c55) (L := [some (.ref a0)]) jt_55 (Nat.le_of_ble_eq_true rfl) rfl ?_
  intro J hS
  unfold wz_55 at h
  refine jy_aload_n hS rfl rfl ?_
  refine jy_iconst hS rfl ?_
  obtain ⟨g1, h⟩ := h
  refine jy_putI hS rfl (by decide) g1 ?_
  intro I2 e9
  have h := h I2 e9
  clear e9
  refine jy_aload_n hS rfl rfl ?_
  refine jy_iconst hS rfl ?_
  refine jy_putI hS rfl (by decide) g1 ?_
  intro I3 e9
  have h := h I3 e9
  clear e9
  exact jy_ret hS rfl rfl ⟨rfl, rfl, h⟩
theorem jt_56 : jx_ml 56 = 7 ∧ jx_rt 56 = some .boolean ∧ jx_hz 56 = [] ∧ decide ((jx_nm 56).name = "<init>") = false ∧ jx_code 56 = jx_c56 := by decide +kernel
/-- GC$Plan.readSteps, from 6 -/
def wz_56_6 (d : Nat) (V : jx_V) (X : jx_X) (R : jx_R) (Q : Option Value → jx_I → Prop) (QE : String → jx_I → Prop) (J6 : Int → Int → jx_I → Prop) (J79 : Int → Int → jx_I → Prop) (a0 : Nat) (a1 : Nat) (a2 : Nat) (a3 : Int) (l4 : Int) (l5 : Int) (I : jx_I) : Prop :=
  (-2147483648 ≤ l5 ∧ l5 < 2147483648) ∧ (
  (100 < l5 → (
    (X.2.1 a1 = some (8, 0)) ∧ (
    (2 < d) ∧ (
    ∃ Q3 : Option Value → jx_I → Prop, (
    (jc V 2 107 (0, 0) [.ref a1, jy 3] X I R Q3 (fun _ _ => False)) ∧ (
    ∀ rv I6, Q3 rv I6 → ∃ r7 : Int, rv = some (jy r7) ∧ (
    (r7 = 0 ∨ r7 = 1) ∧ (
    Q (some (jy r7)) I6))))))
  )) ∧ (¬ 100 < l5 → (
    (a3 ≠ 0 → (
      (X.2.1 a1 = some (8, 0)) ∧ (
      (2 < d) ∧ (
      ∃ Q10 : Option Value → jx_I → Prop, (
      (jc V 2 112 (0, 0) [.ref a1, jy 93] X I R Q10 (fun _ _ => False)) ∧ (
      ∀ rv I13, Q10 rv I13 → ∃ r14 : Int, rv = some (jy r14) ∧ (
      (-2147483648 ≤ r14 ∧ r14 < 2147483648) ∧ (
      (r14 = 0 → (
        (X.2.1 a0 = some (4, 0)) ∧ (
        ∃ d18 : Nat, d18 < d ∧ (
        ∃ Q17 : Option Value → jx_I → Prop, (
        (jc V d18 57 (0, 0) [.ref a0, .ref a1, .ref a2, jy a3] X I13 R Q17 (fun _ _ => False)) ∧ (
        ∀ rv I21, Q17 rv I21 → ∃ r22 : Int, rv = some (jy r22) ∧ (
        (-2147483648 ≤ r22 ∧ r22 < 2147483648) ∧ (
        (r22 = 0 → (
          Q (some (jy 0)) I21
        )) ∧ (¬ r22 = 0 → (
          (3 < d) ∧ (
          ∃ Q24 : Option Value → jx_I → Prop, (
          (jc V 3 113 (0, 0) [.ref a1, jy 59] X I21 R Q24 (fun _ _ => False)) ∧ (
          ∀ rv I27, Q24 rv I27 → ∃ r28 : Int, rv = some (jy r28) ∧ (
          (-2147483648 ≤ r28 ∧ r28 < 2147483648) ∧ (
          (r28 ≠ 0 → (
            (-2147483648 ≤ l4 ∧ l4 < 2147483648) ∧ (
            (l4 < 0 → (
              J6 ((I13 a0 11).toInt) (l5 + 1) I27
            )) ∧ (¬ l4 < 0 → (
              ∃ q31 : Nat, (
              (R a0 2 = some q31) ∧ (
              ∃ n33 : Nat, (
              (X.2.1 q31 = some (100, n33) ∧ n33 < 2147483648) ∧ (
              (0 ≤ l4 ∧ l4 < n33) ∧ (
              ∀ I36 : jx_I, I36 = jx_u I27 q31 l4.toNat (Int32.ofInt ((I13 a0 11).toInt)) → (
              J79 l5 ((I13 a0 11).toInt) I36))))))
            )))
          )) ∧ (r28 = 0 → (
            Q (some (jy 0)) I27
          )))))))
        ))))))))
      )) ∧ (¬ r14 = 0 → (
        Q (some (jy 1)) I13
      ))))))))
    )) ∧ (a3 = 0 → (
      (X.2.1 a1 = some (8, 0)) ∧ (
      (1 < d) ∧ (
      ∃ Q38 : Option Value → jx_I → Prop, (
      (jc V 1 110 (0, 0) [.ref a1] X I R Q38 (fun _ _ => False)) ∧ (
      ∀ rv I41, Q38 rv I41 → ∃ r42 : Int, rv = some (jy r42) ∧ (
      (-2147483648 ≤ r42 ∧ r42 < 2147483648) ∧ (
      (r42 = 0 → (
        (X.2.1 a0 = some (4, 0)) ∧ (
        ∃ d46 : Nat, d46 < d ∧ (
        ∃ Q45 : Option Value → jx_I → Prop, (
        (jc V d46 57 (0, 0) [.ref a0, .ref a1, .ref a2, jy a3] X I41 R Q45 (fun _ _ => False)) ∧ (
        ∀ rv I49, Q45 rv I49 → ∃ r50 : Int, rv = some (jy r50) ∧ (
        (-2147483648 ≤ r50 ∧ r50 < 2147483648) ∧ (
        (r50 = 0 → (
          Q (some (jy 0)) I49
        )) ∧ (¬ r50 = 0 → (
          (3 < d) ∧ (
          ∃ Q52 : Option Value → jx_I → Prop, (
          (jc V 3 113 (0, 0) [.ref a1, jy 59] X I49 R Q52 (fun _ _ => False)) ∧ (
          ∀ rv I55, Q52 rv I55 → ∃ r56 : Int, rv = some (jy r56) ∧ (
          (-2147483648 ≤ r56 ∧ r56 < 2147483648) ∧ (
          (r56 ≠ 0 → (
            (-2147483648 ≤ l4 ∧ l4 < 2147483648) ∧ (
            (l4 < 0 → (
              J6 ((I41 a0 11).toInt) (l5 + 1) I55
            )) ∧ (¬ l4 < 0 → (
              ∃ q59 : Nat, (
              (R a0 2 = some q59) ∧ (
              ∃ n61 : Nat, (
              (X.2.1 q59 = some (100, n61) ∧ n61 < 2147483648) ∧ (
              (0 ≤ l4 ∧ l4 < n61) ∧ (
              ∀ I64 : jx_I, I64 = jx_u I55 q59 l4.toNat (Int32.ofInt ((I41 a0 11).toInt)) → (
              J79 l5 ((I41 a0 11).toInt) I64))))))
            )))
          )) ∧ (r56 = 0 → (
            Q (some (jy 0)) I55
          )))))))
        ))))))))
      )) ∧ (¬ r42 = 0 → (
        Q (some (jy 1)) I41
      ))))))))
    ))
  )))
/-- GC$Plan.readSteps, from 79 -/
def wz_56_79 (d : Nat) (V : jx_V) (X : jx_X) (R : jx_R) (Q : Option Value → jx_I → Prop) (QE : String → jx_I → Prop) (J6 : Int → Int → jx_I → Prop) (J79 : Int → Int → jx_I → Prop) (a0 : Nat) (a1 : Nat) (a2 : Nat) (a3 : Int) (l5 : Int) (l6 : Int) (I : jx_I) : Prop :=
  J6 l6 (l5 + 1) I
/-- GC$Plan.readSteps -/
def wz_56 (d : Nat) (V : jx_V) (X : jx_X) (R : jx_R) (Q : Option Value → jx_I → Prop) (QE : String → jx_I → Prop) (J6 : Int → Int → jx_I → Prop) (J79 : Int → Int → jx_I → Prop) (a0 : Nat) (a1 : Nat) (a2 : Nat) (a3 : Int) (I : jx_I) : Prop :=
  J6 (-1) 0 I
set_option maxRecDepth 20000 in
theorem wm_56 {V : jx_V} (hV : V.1.stackTraces = false) {d : Nat} {X : jx_X} {R : jx_R} {I : jx_I} {Q : Option Value → jx_I → Prop} {QE : String → jx_I → Prop} {a0 : Nat} {a1 : Nat} {a2 : Nat} {a3 : Int} (r_a3 : -2147483648 ≤ a3 ∧ a3 < 2147483648) 
    (h : ∀ (J6 : Int → Int → jx_I → Prop) (J79 : Int → Int → jx_I → Prop), ((∀ (l4 : Int) (l5 : Int) I, wz_56_6 d V X R Q QE J6 J79 a0 a1 a2 a3 l4 l5 I → J6 l4 l5 I) ∧ (∀ (l5 : Int) (l6 : Int) I, wz_56_79 d V X R Q QE J6 J79 a0 a1 a2 a3 l5 l6 I → J79 l5 l6 I)) → wz_56 d V X R Q QE J6 J79 a0 a1 a2 a3 I) : jc V d 56 (0, 0) [.ref a0, .ref a1, .ref a2, jy a3] X I R Q QE := by
  refine jy_met hV (by decide) (n := 7) (rt := some .boolean) (hh := []) (ini := false) (C := jx_c56) (L := [some (.ref a0), some (.ref a1), some (.ref a2), some (jy a3), none, none, none]) jt_56 (Nat.le_of_ble_eq_true rfl) rfl ?_
  intro J hS
  have h := h (fun l4 l5 I => J 6 [] [some (.ref a0), some (.ref a1), some (.ref a2), some (jy a3), some (jy l4), some (jy l5), none] (0, 0) X I R) (fun l5 l6 I => J 79 [] [some (.ref a0), some (.ref a1), some (.ref a2), some (jy a3), none, some (jy l5), some (jy l6)] (0, 0) X I R) ?_
  · unfold wz_56 at h
    refine jy_iconst hS rfl ?_
    refine jy_istore hS rfl (Nat.le_of_ble_eq_true rfl) (L' := [some (.ref a0), some (.ref a1), some (.ref a2), some (jy a3), some (jy (-1)), none, none]) rfl ?_
    refine jy_iconst hS rfl ?_
    refine jy_istore hS rfl (Nat.le_of_ble_eq_true rfl) (L' := [some (.ref a0), some (.ref a1), some (.ref a2), some (jy a3), some (jy (-1)), some (jy 0), none]) rfl ?_
    exact jy_join hS h rfl (jy_sub_s (jy_sub_s (jy_sub_s (jy_sub_s (jy_sub_s (jy_sub_s (jy_sub_n jy_sub_0)))))))
  refine ⟨?_, ?_⟩
  · intro l4 l5 I h
    unfold wz_56_6 at h
    refine jy_iload hS rfl rfl ?_
    refine jy_bipush hS rfl (by decide) ?_
    obtain ⟨g1, h⟩ := h
    refine jy_icmp_gt hS rfl ⟨g1, ⟨by decide, by decide⟩⟩ (fun hq => ?_) (fun hq => ?_)
    · have h := h.1 hq
      refine jy_aload_n hS rfl rfl ?_
      refine jy_iconst hS rfl ?_
      obtain ⟨g2, h⟩ := h
      obtain ⟨g4, h⟩ := h
      obtain ⟨Q3, h⟩ := h
      obtain ⟨g5, h⟩ := h
      refine jy_callV hS rfl rfl rfl (Nat.le_of_ble_eq_true rfl) (Or.inl g2) g5 g4 ⟨by decide, by decide⟩ (Nat.le_of_ble_eq_true rfl) ?_ ?_
      rotate_left
      · exact fun Ex Xx Ix Rx hp => hp.2.2.2.elim
      intro rv Xx I6 Rx hp
      obtain ⟨e1, e2, hp⟩ := hp
      rw [e1, e2]
      clear e1 e2
      obtain ⟨r7, e1, h⟩ := h rv I6 hp
      rw [e1]
      clear e1
      change J 94 [jy r7] _ (0, 0) _ _ _
      obtain ⟨g8, h⟩ := h
      exact jy_iret hS rfl (by rcases g8 with q | q <;> rw [q] <;> rfl) ⟨rfl, rfl, h⟩
    · have h := h.2 hq
      refine jy_iload_n hS rfl rfl ?_
      refine jy_if_ne hS rfl r_a3 (fun hq => ?_) (fun hq => ?_)
      · have h := h.1 hq
        refine jy_aload_n hS rfl rfl ?_
        refine jy_bipush hS rfl (by decide) ?_
        obtain ⟨g9, h⟩ := h
        obtain ⟨g11, h⟩ := h
        obtain ⟨Q10, h⟩ := h
        obtain ⟨g12, h⟩ := h
        refine jy_callV hS rfl rfl rfl (Nat.le_of_ble_eq_true rfl) (Or.inl g9) g12 g11 ⟨by decide, by decide⟩ (Nat.le_of_ble_eq_true rfl) ?_ ?_
        rotate_left
        · exact fun Ex Xx Ix Rx hp => hp.2.2.2.elim
        intro rv Xx I13 Rx hp
        obtain ⟨e1, e2, hp⟩ := hp
        rw [e1, e2]
        clear e1 e2
        obtain ⟨r14, e1, h⟩ := h rv I13 hp
        rw [e1]
        clear e1
        change J 33 [jy r14] _ (0, 0) _ _ _
        obtain ⟨g15, h⟩ := h
        refine jy_if_eq hS rfl g15 (fun hq => ?_) (fun hq => ?_)
        · have h := h.1 hq
          refine jy_aload_n hS rfl rfl ?_
          obtain ⟨g16, h⟩ := h
          refine jy_getI hS rfl (by decide) g16 ?_
          refine jy_istore hS rfl (Nat.le_of_ble_eq_true rfl) (L' := [some (.ref a0), some (.ref a1), some (.ref a2), some (jy a3), some (jy l4), some (jy l5), some (jy ((I13 a0 11).toInt))]) rfl ?_
          refine jy_aload_n hS rfl rfl ?_
          refine jy_aload_n hS rfl rfl ?_
          refine jy_aload_n hS rfl rfl ?_
          refine jy_iload_n hS rfl rfl ?_
          obtain ⟨d18, g19, h⟩ := h
          obtain ⟨Q17, h⟩ := h
          obtain ⟨g20, h⟩ := h
          refine jy_callV hS rfl rfl rfl (Nat.le_of_ble_eq_true rfl) (Or.inl g16) g20 g19 ⟨by decide, by decide⟩ (Nat.le_of_ble_eq_true rfl) ?_ ?_
          rotate_left
          · exact fun Ex Xx Ix Rx hp => hp.2.2.2.elim
          intro rv Xx I21 Rx hp
          obtain ⟨e1, e2, hp⟩ := hp
          rw [e1, e2]
          clear e1 e2
          obtain ⟨r22, e1, h⟩ := h rv I21 hp
          rw [e1]
          clear e1
          change J 51 [jy r22] _ (0, 0) _ _ _
          obtain ⟨g23, h⟩ := h
          refine jy_if_eq hS rfl g23 (fun hq => ?_) (fun hq => ?_)
          · have h := h.1 hq
            refine jy_iconst hS rfl ?_
            exact jy_iret hS rfl rfl ⟨rfl, rfl, h⟩
          · have h := h.2 hq
            refine jy_aload_n hS rfl rfl ?_
            refine jy_bipush hS rfl (by decide) ?_
            obtain ⟨g25, h⟩ := h
            obtain ⟨Q24, h⟩ := h
            obtain ⟨g26, h⟩ := h
            refine jy_callV hS rfl rfl rfl (Nat.le_of_ble_eq_true rfl) (Or.inl g9) g26 g25 ⟨by decide, by decide⟩ (Nat.le_of_ble_eq_true rfl) ?_ ?_
            rotate_left
            · exact fun Ex Xx Ix Rx hp => hp.2.2.2.elim
            intro rv Xx I27 Rx hp
            obtain ⟨e1, e2, hp⟩ := hp
            rw [e1, e2]
            clear e1 e2
            obtain ⟨r28, e1, h⟩ := h rv I27 hp
            rw [e1]
            clear e1
            change J 60 [jy r28] _ (0, 0) _ _ _
            obtain ⟨g29, h⟩ := h
            refine jy_if_ne hS rfl g29 (fun hq => ?_) (fun hq => ?_)
            · have h := h.1 hq
              refine jy_iload hS rfl rfl ?_
              obtain ⟨g30, h⟩ := h
              refine jy_if_lt hS rfl g30 (fun hq => ?_) (fun hq => ?_)
              · have h := h.1 hq
                refine jy_iload hS rfl rfl ?_
                refine jy_istore hS rfl (Nat.le_of_ble_eq_true rfl) (L' := [some (.ref a0), some (.ref a1), some (.ref a2), some (jy a3), some (jy ((I13 a0 11).toInt)), some (jy l5), some (jy ((I13 a0 11).toInt))]) rfl ?_
                refine jy_iinc hS rfl rfl (L' := [some (.ref a0), some (.ref a1), some (.ref a2), some (jy a3), some (jy ((I13 a0 11).toInt)), some (jy (l5 + 1)), some (jy ((I13 a0 11).toInt))]) rfl ?_
                refine jy_goto hS rfl ?_
                exact jy_join hS h rfl (jy_sub_s (jy_sub_s (jy_sub_s (jy_sub_s (jy_sub_s (jy_sub_s (jy_sub_n jy_sub_0)))))))
              · have h := h.2 hq
                refine jy_aload_n hS rfl rfl ?_
                obtain ⟨q31, h⟩ := h
                obtain ⟨g32, h⟩ := h
                refine jy_getR hS rfl (by decide) g16 g32 ?_
                refine jy_iload hS rfl rfl ?_
                refine jy_iload hS rfl rfl ?_
                obtain ⟨n33, h⟩ := h
                obtain ⟨g34, h⟩ := h
                obtain ⟨g35, h⟩ := h
                refine jy_iast hS rfl g34.1 (Nat.le_of_lt g34.2) g35 ?_
                intro I36 e9
                have h := h I36 e9
                clear e9
                exact jy_join hS h rfl (jy_sub_s (jy_sub_s (jy_sub_s (jy_sub_s (jy_sub_n (jy_sub_s (jy_sub_s jy_sub_0)))))))
            · have h := h.2 hq
              refine jy_iconst hS rfl ?_
              exact jy_iret hS rfl rfl ⟨rfl, rfl, h⟩
        · have h := h.2 hq
          refine jy_iconst hS rfl ?_
          exact jy_iret hS rfl rfl ⟨rfl, rfl, h⟩
      · have h := h.2 hq
        refine jy_aload_n hS rfl rfl ?_
        obtain ⟨g37, h⟩ := h
        obtain ⟨g39, h⟩ := h
        obtain ⟨Q38, h⟩ := h
        obtain ⟨g40, h⟩ := h
        refine jy_callV hS rfl rfl rfl (Nat.le_of_ble_eq_true rfl) (Or.inl g37) g40 g39 ⟨by decide, by decide⟩ (Nat.le_of_ble_eq_true rfl) ?_ ?_
        rotate_left
        · exact fun Ex Xx Ix Rx hp => hp.2.2.2.elim
        intro rv Xx I41 Rx hp
        obtain ⟨e1, e2, hp⟩ := hp
        rw [e1, e2]
        clear e1 e2
        obtain ⟨r42, e1, h⟩ := h rv I41 hp
        rw [e1]
        clear e1
        change J 21 [jy r42] _ (0, 0) _ _ _
        obtain ⟨g43, h⟩ := h
        refine jy_if_eq hS rfl g43 (fun hq => ?_) (fun hq => ?_)
        · have h := h.1 hq
          refine jy_aload_n hS rfl rfl ?_
          obtain ⟨g44, h⟩ := h
          refine jy_getI hS rfl (by decide) g44 ?_
          refine jy_istore hS rfl (Nat.le_of_ble_eq_true rfl) (L' := [some (.ref a0), some (.ref a1), some (.ref a2), some (jy a3), some (jy l4), some (jy l5), some (jy ((I41 a0 11).toInt))]) rfl ?_
          refine jy_aload_n hS rfl rfl ?_
          refine jy_aload_n hS rfl rfl ?_
          refine jy_aload_n hS rfl rfl ?_
          refine jy_iload_n hS rfl rfl ?_
          obtain ⟨d46, g47, h⟩ := h
          obtain ⟨Q45, h⟩ := h
          obtain ⟨g48, h⟩ := h
          refine jy_callV hS rfl rfl rfl (Nat.le_of_ble_eq_true rfl) (Or.inl g44) g48 g47 ⟨by decide, by decide⟩ (Nat.le_of_ble_eq_true rfl) ?_ ?_
          rotate_left
          · exact fun Ex Xx Ix Rx hp => hp.2.2.2.elim
          intro rv Xx I49 Rx hp
          obtain ⟨e1, e2, hp⟩ := hp
          rw [e1, e2]
          clear e1 e2
          obtain ⟨r50, e1, h⟩ := h rv I49 hp
          rw [e1]
          clear e1
          change J 51 [jy r50] _ (0, 0) _ _ _
          obtain ⟨g51, h⟩ := h
          refine jy_if_eq hS rfl g51 (fun hq => ?_) (fun hq => ?_)
          · have h := h.1 hq
            refine jy_iconst hS rfl ?_
            exact jy_iret hS rfl rfl ⟨rfl, rfl, h⟩
          · have h := h.2 hq
            refine jy_aload_n hS rfl rfl ?_
            refine jy_bipush hS rfl (by decide) ?_
            obtain ⟨g53, h⟩ := h
            obtain ⟨Q52, h⟩ := h
            obtain ⟨g54, h⟩ := h
            refine jy_callV hS rfl rfl rfl (Nat.le_of_ble_eq_true rfl) (Or.inl g37) g54 g53 ⟨by decide, by decide⟩ (Nat.le_of_ble_eq_true rfl) ?_ ?_
            rotate_left
            · exact fun Ex Xx Ix Rx hp => hp.2.2.2.elim
            intro rv Xx I55 Rx hp
            obtain ⟨e1, e2, hp⟩ := hp
            rw [e1, e2]
            clear e1 e2
            obtain ⟨r56, e1, h⟩ := h rv I55 hp
            rw [e1]
            clear e1
            change J 60 [jy r56] _ (0, 0) _ _ _
            obtain ⟨g57, h⟩ := h
            refine jy_if_ne hS rfl g57 (fun hq => ?_) (fun hq => ?_)
            · have h := h.1 hq
              refine jy_iload hS rfl rfl ?_
              obtain ⟨g58, h⟩ := h
              refine jy_if_lt hS rfl g58 (fun hq => ?_) (fun hq => ?_)
              · have h := h.1 hq
                refine jy_iload hS rfl rfl ?_
                refine jy_istore hS rfl (Nat.le_of_ble_eq_true rfl) (L' := [some (.ref a0), some (.ref a1), some (.ref a2), some (jy a3), some (jy ((I41 a0 11).toInt)), some (jy l5), some (jy ((I41 a0 11).toInt))]) rfl ?_
                refine jy_iinc hS rfl rfl (L' := [some (.ref a0), some (.ref a1), some (.ref a2), some (jy a3), some (jy ((I41 a0 11).toInt)), some (jy (l5 + 1)), some (jy ((I41 a0 11).toInt))]) rfl ?_
                refine jy_goto hS rfl ?_
                exact jy_join hS h rfl (jy_sub_s (jy_sub_s (jy_sub_s (jy_sub_s (jy_sub_s (jy_sub_s (jy_sub_n jy_sub_0)))))))
              · have h := h.2 hq
                refine jy_aload_n hS rfl rfl ?_
                obtain ⟨q59, h⟩ := h
                obtain ⟨g60, h⟩ := h
                refine jy_getR hS rfl (by decide) g44 g60 ?_
                refine jy_iload hS rfl rfl ?_
                refine jy_iload hS rfl rfl ?_
                obtain ⟨n61, h⟩ := h
                obtain ⟨g62, h⟩ := h
                obtain ⟨g63, h⟩ := h
                refine jy_iast hS rfl g62.1 (Nat.le_of_lt g62.2) g63 ?_
                intro I64 e9
                have h := h I64 e9
                clear e9
                exact jy_join hS h rfl (jy_sub_s (jy_sub_s (jy_sub_s (jy_sub_s (jy_sub_n (jy_sub_s (jy_sub_s jy_sub_0)))))))
            · have h := h.2 hq
              refine jy_iconst hS rfl ?_
              exact jy_iret hS rfl rfl ⟨rfl, rfl, h⟩
        · have h := h.2 hq
          refine jy_goto hS rfl ?_
          refine jy_iconst hS rfl ?_
          exact jy_iret hS rfl rfl ⟨rfl, rfl, h⟩
  · intro l5 l6 I h
    unfold wz_56_79 at h
    refine jy_iload hS rfl rfl ?_
    refine jy_istore hS rfl (Nat.le_of_ble_eq_true rfl) (L' := [some (.ref a0), some (.ref a1), some (.ref a2), some (jy a3), some (jy l6), some (jy l5), some (jy l6)]) rfl ?_
    refine jy_iinc hS rfl rfl (L' := [some (.ref a0), some (.ref a1), some (.ref a2), some (jy a3), some (jy l6), some (jy (l5 + 1)), some (jy l6)]) rfl ?_
    refine jy_goto hS rfl ?_
    exact jy_join hS h rfl (jy_sub_s (jy_sub_s (jy_sub_s (jy_sub_s (jy_sub_s (jy_sub_s (jy_sub_n jy_sub_0)))))))
theorem jt_57 : jx_ml 57 = 6 ∧ jx_rt 57 = some .boolean ∧ jx_hz 57 = [] ∧ decide ((jx_nm 57).name = "<init>") = false ∧ jx_code 57 = jx_c57 := by decide +kernel
/-- GC$Plan.readStep, from 138 -/
def wz_57_138 (d : Nat) (V : jx_V) (X : jx_X) (R : jx_R) (Q : Option Value → jx_I → Prop) (QE : String → jx_I → Prop) (J138 : Int → jx_I → Prop) (a0 : Nat) (a1 : Nat) (a2 : Nat) (a3 : Int) (l5 : Int) (I : jx_I) : Prop :=
  (X.2.1 a0 = some (4, 0)) ∧ (
  ∃ q74 : Nat, (
  (R a0 1 = some q74) ∧ (
  ∃ n76 : Nat, (
  (X.2.1 q74 = some (100, n76) ∧ n76 < 2147483648) ∧ (
  (0 ≤ l5 ∧ l5 < n76) ∧ (
  ((I q74 l5.toNat).toInt < 0 → (
    Q (some (jy 0)) I
  )) ∧ (¬ (I q74 l5.toNat).toInt < 0 → (
    Q (some (jy 1)) I
  ))))))))
/-- GC$Plan.readStep -/
def wz_57 (d : Nat) (V : jx_V) (X : jx_X) (R : jx_R) (Q : Option Value → jx_I → Prop) (QE : String → jx_I → Prop) (J138 : Int → jx_I → Prop) (a0 : Nat) (a1 : Nat) (a2 : Nat) (a3 : Int) (I : jx_I) : Prop :=
  (X.2.1 a1 = some (8, 0)) ∧ (
  (2 < d) ∧ (
  ∃ Q2 : Option Value → jx_I → Prop, (
  (jc V 2 116 (0, 0) [.ref a1] X I R Q2 (fun _ _ => False)) ∧ (
  ∀ rv I5, Q2 rv I5 → rv = none ∧ (
  (X.2.1 a0 = some (4, 0)) ∧ (
  (7 < d) ∧ (
  ∃ Q8 : Option Value → jx_I → Prop, (
  (jc V 7 65 (0, 0) [.ref a0, .ref a1] X I5 R Q8 (fun _ _ => False)) ∧ (
  ∀ rv I11, Q8 rv I11 → ∃ r12 : Int, rv = some (jy r12) ∧ (
  (-2147483648 ≤ r12 ∧ r12 < 2147483648) ∧ (
  (0 ≤ r12 → (
    ((I11 a0 11).toInt < 100 → (
      ∀ I14 : jx_I, I14 = jx_u I11 a0 11 (Int32.ofInt ((I11 a0 11).toInt + 1)) → (
      ∃ q15 : Nat, (
      (R a0 0 = some q15) ∧ (
      ∃ n17 : Nat, (
      (X.2.1 q15 = some (100, n17) ∧ n17 < 2147483648) ∧ (
      (0 ≤ (I11 a0 11).toInt ∧ (I11 a0 11).toInt < n17) ∧ (
      ∀ I20 : jx_I, I20 = jx_u I14 q15 ((I11 a0 11).toInt).toNat (Int32.ofInt r12) → (
      ∃ q21 : Nat, (
      (R a0 1 = some q21) ∧ (
      ∃ n23 : Nat, (
      (X.2.1 q21 = some (100, n23) ∧ n23 < 2147483648) ∧ (
      (0 ≤ (I11 a0 11).toInt ∧ (I11 a0 11).toInt < n23) ∧ (
      ∀ I26 : jx_I, I26 = jx_u I20 q21 ((I11 a0 11).toInt).toNat (Int32.ofInt 0) → (
      ∃ q27 : Nat, (
      (R a0 2 = some q27) ∧ (
      ∃ n29 : Nat, (
      (X.2.1 q27 = some (100, n29) ∧ n29 < 2147483648) ∧ (
      (0 ≤ (I11 a0 11).toInt ∧ (I11 a0 11).toInt < n29) ∧ (
      ∀ I32 : jx_I, I32 = jx_u I26 q27 ((I11 a0 11).toInt).toNat (Int32.ofInt (-1)) → (
      ∃ q33 : Nat, (
      (R a0 3 = some q33) ∧ (
      ∃ n35 : Nat, (
      (X.2.1 q33 = some (100, n35) ∧ n35 < 2147483648) ∧ (
      (0 ≤ (I11 a0 11).toInt ∧ (I11 a0 11).toInt < n35) ∧ (
      ∀ I38 : jx_I, I38 = jx_u I32 q33 ((I11 a0 11).toInt).toNat (Int32.ofInt (-1)) → (
      ∃ q39 : Nat, (
      (R a0 4 = some q39) ∧ (
      ∃ n41 : Nat, (
      (X.2.1 q39 = some (100, n41) ∧ n41 < 2147483648) ∧ (
      (0 ≤ (I11 a0 11).toInt ∧ (I11 a0 11).toInt < n41) ∧ (
      ∀ I44 : jx_I, I44 = jx_u I38 q39 ((I11 a0 11).toInt).toNat (Int32.ofInt (-1)) → (
      (r12 < 7 → (
        (r12 = 2 → (
          (0 ≤ (I11 a0 11).toInt ∧ (I11 a0 11).toInt < n23) ∧ (
          ((I44 q21 ((I11 a0 11).toInt).toNat).toInt < 0 → (
            Q (some (jy 0)) I44
          )) ∧ (¬ (I44 q21 ((I11 a0 11).toInt).toNat).toInt < 0 → (
            Q (some (jy 1)) I44
          )))
        )) ∧ (¬ r12 = 2 → (
          (r12 = 3 → (
            (0 ≤ (I11 a0 11).toInt ∧ (I11 a0 11).toInt < n23) ∧ (
            ((I44 q21 ((I11 a0 11).toInt).toNat).toInt < 0 → (
              Q (some (jy 0)) I44
            )) ∧ (¬ (I44 q21 ((I11 a0 11).toInt).toNat).toInt < 0 → (
              Q (some (jy 1)) I44
            )))
          )) ∧ (¬ r12 = 3 → (
            (3 < d) ∧ (
            ∃ Q47 : Option Value → jx_I → Prop, (
            (jc V 3 58 (0, 0) [.ref a0, .ref a1, .ref a2, jy r12] X I44 R Q47 (fun _ _ => False)) ∧ (
            ∀ rv I50, Q47 rv I50 → ∃ r51 : Int, rv = some (jy r51) ∧ (
            (0 ≤ (I11 a0 11).toInt ∧ (I11 a0 11).toInt < n23) ∧ (
            ∀ I53 : jx_I, I53 = jx_u I50 q21 ((I11 a0 11).toInt).toNat (Int32.ofInt r51) → (
            J138 ((I11 a0 11).toInt) I53))))))
          ))
        ))
      )) ∧ (¬ r12 < 7 → (
        ∃ d55 : Nat, d55 < d ∧ (
        ∃ Q54 : Option Value → jx_I → Prop, (
        (jc V d55 59 (0, 0) [.ref a0, .ref a1, .ref a2, jy ((I11 a0 11).toInt), jy a3] X I44 R Q54 (fun _ _ => False)) ∧ (
        ∀ rv I58, Q54 rv I58 → ∃ r59 : Int, rv = some (jy r59) ∧ (
        (r59 = 0 ∨ r59 = 1) ∧ (
        Q (some (jy r59)) I58)))))
      )))))))))))))))))))))))))))))))))
    )) ∧ (¬ (I11 a0 11).toInt < 100 → (
      (2 < d) ∧ (
      ∃ Q61 : Option Value → jx_I → Prop, (
      (jc V 2 108 (0, 0) [.ref a1, jy 3] X I11 R Q61 (fun _ _ => False)) ∧ (
      ∀ rv I64, Q61 rv I64 → ∃ r65 : Int, rv = some (jy r65) ∧ (
      (r65 = 0 ∨ r65 = 1) ∧ (
      Q (some (jy r65)) I64)))))
    ))
  )) ∧ (¬ 0 ≤ r12 → (
    (2 < d) ∧ (
    ∃ Q67 : Option Value → jx_I → Prop, (
    (jc V 2 108 (0, 0) [.ref a1, jy 1] X I11 R Q67 (fun _ _ => False)) ∧ (
    ∀ rv I70, Q67 rv I70 → ∃ r71 : Int, rv = some (jy r71) ∧ (
    (r71 = 0 ∨ r71 = 1) ∧ (
    Q (some (jy r71)) I70)))))
  )))))))))))))
set_option maxRecDepth 20000 in
theorem wm_57 {V : jx_V} (hV : V.1.stackTraces = false) {d : Nat} {X : jx_X} {R : jx_R} {I : jx_I} {Q : Option Value → jx_I → Prop} {QE : String → jx_I → Prop} {a0 : Nat} {a1 : Nat} {a2 : Nat} {a3 : Int} (r_a3 : -2147483648 ≤ a3 ∧ a3 < 2147483648) 
    (h : ∀ (J138 : Int → jx_I → Prop), ((∀ (l5 : Int) I, wz_57_138 d V X R Q QE J138 a0 a1 a2 a3 l5 I → J138 l5 I)) → wz_57 d V X R Q QE J138 a0 a1 a2 a3 I) : jc V d 57 (0, 0) [.ref a0, .ref a1, .ref a2, jy a3] X I R Q QE := by
  refine jy_met hV (by decide) (n := 6) (rt := some .boolean) (hh := []) (ini := false) (C := jx_c57) (L := [some (.ref a0), some (.ref a1), some (.ref a2), some (jy a3), none, none]) jt_57 (Nat.le_of_ble_eq_true rfl) rfl ?_
  intro J hS
  have h := h (fun l5 I => J 138 [] [some (.ref a0), none, none, none, none, some (jy l5)] (0, 0) X I R) ?_
  · unfold wz_57 at h
    refine jy_aload_n hS rfl rfl ?_
    obtain ⟨g1, h⟩ := h
    obtain ⟨g3, h⟩ := h
    obtain ⟨Q2, h⟩ := h
    obtain ⟨g4, h⟩ := h
    refine jy_callV hS rfl rfl rfl (Nat.le_of_ble_eq_true rfl) (Or.inl g1) g4 g3 ⟨by decide, by decide⟩ (Nat.le_of_ble_eq_true rfl) ?_ ?_
    rotate_left
    · exact fun Ex Xx Ix Rx hp => hp.2.2.2.elim
    intro rv Xx I5 Rx hp
    obtain ⟨e1, e2, hp⟩ := hp
    rw [e1, e2]
    clear e1 e2
    obtain ⟨e1, h⟩ := h rv I5 hp
    rw [e1]
    clear e1
    change J 4 [] _ (0, 0) _ _ _
    refine jy_aload_n hS rfl rfl ?_
    refine jy_aload_n hS rfl rfl ?_
    obtain ⟨g7, h⟩ := h
    obtain ⟨g9, h⟩ := h
    obtain ⟨Q8, h⟩ := h
    obtain ⟨g10, h⟩ := h
    refine jy_callV hS rfl rfl rfl (Nat.le_of_ble_eq_true rfl) (Or.inl g7) g10 g9 ⟨by decide, by decide⟩ (Nat.le_of_ble_eq_true rfl) ?_ ?_
    rotate_left
    · exact fun Ex Xx Ix Rx hp => hp.2.2.2.elim
    intro rv Xx I11 Rx hp
    obtain ⟨e1, e2, hp⟩ := hp
    rw [e1, e2]
    clear e1 e2
    obtain ⟨r12, e1, h⟩ := h rv I11 hp
    rw [e1]
    clear e1
    change J 9 [jy r12] _ (0, 0) _ _ _
    refine jy_istore hS rfl (Nat.le_of_ble_eq_true rfl) (L' := [some (.ref a0), some (.ref a1), some (.ref a2), some (jy a3), some (jy r12), none]) rfl ?_
    refine jy_iload hS rfl rfl ?_
    obtain ⟨g13, h⟩ := h
    refine jy_if_ge hS rfl g13 (fun hq => ?_) (fun hq => ?_)
    · have h := h.1 hq
      refine jy_aload_n hS rfl rfl ?_
      refine jy_getI hS rfl (by decide) g7 ?_
      refine jy_bipush hS rfl (by decide) ?_
      refine jy_icmp_lt hS rfl ⟨(jy_rng _), ⟨by decide, by decide⟩⟩ (fun hq => ?_) (fun hq => ?_)
      · have h := h.1 hq
        refine jy_aload_n hS rfl rfl ?_
        refine jy_getI hS rfl (by decide) g7 ?_
        refine jy_istore hS rfl (Nat.le_of_ble_eq_true rfl) (L' := [some (.ref a0), some (.ref a1), some (.ref a2), some (jy a3), some (jy r12), some (jy ((I11 a0 11).toInt))]) rfl ?_
        refine jy_aload_n hS rfl rfl ?_
        refine jy_dup hS rfl rfl ?_
        refine jy_getI hS rfl (by decide) g7 ?_
        refine jy_iconst hS rfl ?_
        refine jy_iadd hS rfl ?_
        refine jy_putI hS rfl (by decide) g7 ?_
        intro I14 e9
        have h := h I14 e9
        clear e9
        refine jy_aload_n hS rfl rfl ?_
        obtain ⟨q15, h⟩ := h
        obtain ⟨g16, h⟩ := h
        refine jy_getR hS rfl (by decide) g7 g16 ?_
        refine jy_iload hS rfl rfl ?_
        refine jy_iload hS rfl rfl ?_
        obtain ⟨n17, h⟩ := h
        obtain ⟨g18, h⟩ := h
        obtain ⟨g19, h⟩ := h
        refine jy_iast hS rfl g18.1 (Nat.le_of_lt g18.2) g19 ?_
        intro I20 e9
        have h := h I20 e9
        clear e9
        refine jy_aload_n hS rfl rfl ?_
        obtain ⟨q21, h⟩ := h
        obtain ⟨g22, h⟩ := h
        refine jy_getR hS rfl (by decide) g7 g22 ?_
        refine jy_iload hS rfl rfl ?_
        refine jy_iconst hS rfl ?_
        obtain ⟨n23, h⟩ := h
        obtain ⟨g24, h⟩ := h
        obtain ⟨g25, h⟩ := h
        refine jy_iast hS rfl g24.1 (Nat.le_of_lt g24.2) g25 ?_
        intro I26 e9
        have h := h I26 e9
        clear e9
        refine jy_aload_n hS rfl rfl ?_
        obtain ⟨q27, h⟩ := h
        obtain ⟨g28, h⟩ := h
        refine jy_getR hS rfl (by decide) g7 g28 ?_
        refine jy_iload hS rfl rfl ?_
        refine jy_iconst hS rfl ?_
        obtain ⟨n29, h⟩ := h
        obtain ⟨g30, h⟩ := h
        obtain ⟨g31, h⟩ := h
        refine jy_iast hS rfl g30.1 (Nat.le_of_lt g30.2) g31 ?_
        intro I32 e9
        have h := h I32 e9
        clear e9
        refine jy_aload_n hS rfl rfl ?_
        obtain ⟨q33, h⟩ := h
        obtain ⟨g34, h⟩ := h
        refine jy_getR hS rfl (by decide) g7 g34 ?_
        refine jy_iload hS rfl rfl ?_
        refine jy_iconst hS rfl ?_
        obtain ⟨n35, h⟩ := h
        obtain ⟨g36, h⟩ := h
        obtain ⟨g37, h⟩ := h
        refine jy_iast hS rfl g36.1 (Nat.le_of_lt g36.2) g37 ?_
        intro I38 e9
        have h := h I38 e9
        clear e9
        refine jy_aload_n hS rfl rfl ?_
        obtain ⟨q39, h⟩ := h
        obtain ⟨g40, h⟩ := h
        refine jy_getR hS rfl (by decide) g7 g40 ?_
        refine jy_iload hS rfl rfl ?_
        refine jy_iconst hS rfl ?_
        obtain ⟨n41, h⟩ := h
        obtain ⟨g42, h⟩ := h
        obtain ⟨g43, h⟩ := h
        refine jy_iast hS rfl g42.1 (Nat.le_of_lt g42.2) g43 ?_
        intro I44 e9
        have h := h I44 e9
        clear e9
        refine jy_iload hS rfl rfl ?_
        refine jy_bipush hS rfl (by decide) ?_
        refine jy_icmp_lt hS rfl ⟨g13, ⟨by decide, by decide⟩⟩ (fun hq => ?_) (fun hq => ?_)
        · have h := h.1 hq
          refine jy_iload hS rfl rfl ?_
          refine jy_iconst hS rfl ?_
          refine jy_icmp_eq hS rfl ⟨g13, ⟨by decide, by decide⟩⟩ (fun hq => ?_) (fun hq => ?_)
          · have h := h.1 hq
            refine jy_aload_n hS rfl rfl ?_
            refine jy_getR hS rfl (by decide) g7 g22 ?_
            refine jy_iload hS rfl rfl ?_
            obtain ⟨g45, h⟩ := h
            refine jy_iald hS rfl g24.1 (Nat.le_of_lt g24.2) g45 ?_
            refine jy_if_lt hS rfl (jy_rng _) (fun hq => ?_) (fun hq => ?_)
            · have h := h.1 hq
              refine jy_iconst hS rfl ?_
              exact jy_iret hS rfl rfl ⟨rfl, rfl, h⟩
            · have h := h.2 hq
              refine jy_iconst hS rfl ?_
              refine jy_goto hS rfl ?_
              exact jy_iret hS rfl rfl ⟨rfl, rfl, h⟩
          · have h := h.2 hq
            refine jy_iload hS rfl rfl ?_
            refine jy_iconst hS rfl ?_
            refine jy_icmp_eq hS rfl ⟨g13, ⟨by decide, by decide⟩⟩ (fun hq => ?_) (fun hq => ?_)
            · have h := h.1 hq
              refine jy_aload_n hS rfl rfl ?_
              refine jy_getR hS rfl (by decide) g7 g22 ?_
              refine jy_iload hS rfl rfl ?_
              obtain ⟨g46, h⟩ := h
              refine jy_iald hS rfl g24.1 (Nat.le_of_lt g24.2) g46 ?_
              refine jy_if_lt hS rfl (jy_rng _) (fun hq => ?_) (fun hq => ?_)
              · have h := h.1 hq
                refine jy_iconst hS rfl ?_
                exact jy_iret hS rfl rfl ⟨rfl, rfl, h⟩
              · have h := h.2 hq
                refine jy_iconst hS rfl ?_
                refine jy_goto hS rfl ?_
                exact jy_iret hS rfl rfl ⟨rfl, rfl, h⟩
            · have h := h.2 hq
              refine jy_aload_n hS rfl rfl ?_
              refine jy_getR hS rfl (by decide) g7 g22 ?_
              refine jy_iload hS rfl rfl ?_
              refine jy_aload_n hS rfl rfl ?_
              refine jy_aload_n hS rfl rfl ?_
              refine jy_aload_n hS rfl rfl ?_
              refine jy_iload hS rfl rfl ?_
              obtain ⟨g48, h⟩ := h
              obtain ⟨Q47, h⟩ := h
              obtain ⟨g49, h⟩ := h
              refine jy_callV hS rfl rfl rfl (Nat.le_of_ble_eq_true rfl) (Or.inl g7) g49 g48 ⟨by decide, by decide⟩ (Nat.le_of_ble_eq_true rfl) ?_ ?_
              rotate_left
              · exact fun Ex Xx Ix Rx hp => hp.2.2.2.elim
              intro rv Xx I50 Rx hp
              obtain ⟨e1, e2, hp⟩ := hp
              rw [e1, e2]
              clear e1 e2
              obtain ⟨r51, e1, h⟩ := h rv I50 hp
              rw [e1]
              clear e1
              change J 137 [jy r51, jy ((I11 a0 11).toInt), .ref q21] _ (0, 0) _ _ _
              obtain ⟨g52, h⟩ := h
              refine jy_iast hS rfl g24.1 (Nat.le_of_lt g24.2) g52 ?_
              intro I53 e9
              have h := h I53 e9
              clear e9
              exact jy_join hS h rfl (jy_sub_s (jy_sub_n (jy_sub_n (jy_sub_n (jy_sub_n (jy_sub_s jy_sub_0))))))
        · have h := h.2 hq
          refine jy_aload_n hS rfl rfl ?_
          refine jy_aload_n hS rfl rfl ?_
          refine jy_aload_n hS rfl rfl ?_
          refine jy_iload hS rfl rfl ?_
          refine jy_iload_n hS rfl rfl ?_
          obtain ⟨d55, g56, h⟩ := h
          obtain ⟨Q54, h⟩ := h
          obtain ⟨g57, h⟩ := h
          refine jy_callV hS rfl rfl rfl (Nat.le_of_ble_eq_true rfl) (Or.inl g7) g57 g56 ⟨by decide, by decide⟩ (Nat.le_of_ble_eq_true rfl) ?_ ?_
          rotate_left
          · exact fun Ex Xx Ix Rx hp => hp.2.2.2.elim
          intro rv Xx I58 Rx hp
          obtain ⟨e1, e2, hp⟩ := hp
          rw [e1, e2]
          clear e1 e2
          obtain ⟨r59, e1, h⟩ := h rv I58 hp
          rw [e1]
          clear e1
          change J 110 [jy r59] _ (0, 0) _ _ _
          obtain ⟨g60, h⟩ := h
          exact jy_iret hS rfl (by rcases g60 with q | q <;> rw [q] <;> rfl) ⟨rfl, rfl, h⟩
      · have h := h.2 hq
        refine jy_aload_n hS rfl rfl ?_
        refine jy_iconst hS rfl ?_
        obtain ⟨g62, h⟩ := h
        obtain ⟨Q61, h⟩ := h
        obtain ⟨g63, h⟩ := h
        refine jy_callV hS rfl rfl rfl (Nat.le_of_ble_eq_true rfl) (Or.inl g1) g63 g62 ⟨by decide, by decide⟩ (Nat.le_of_ble_eq_true rfl) ?_ ?_
        rotate_left
        · exact fun Ex Xx Ix Rx hp => hp.2.2.2.elim
        intro rv Xx I64 Rx hp
        obtain ⟨e1, e2, hp⟩ := hp
        rw [e1, e2]
        clear e1 e2
        obtain ⟨r65, e1, h⟩ := h rv I64 hp
        rw [e1]
        clear e1
        change J 36 [jy r65] _ (0, 0) _ _ _
        obtain ⟨g66, h⟩ := h
        exact jy_iret hS rfl (by rcases g66 with q | q <;> rw [q] <;> rfl) ⟨rfl, rfl, h⟩
    · have h := h.2 hq
      refine jy_aload_n hS rfl rfl ?_
      refine jy_iconst hS rfl ?_
      obtain ⟨g68, h⟩ := h
      obtain ⟨Q67, h⟩ := h
      obtain ⟨g69, h⟩ := h
      refine jy_callV hS rfl rfl rfl (Nat.le_of_ble_eq_true rfl) (Or.inl g1) g69 g68 ⟨by decide, by decide⟩ (Nat.le_of_ble_eq_true rfl) ?_ ?_
      rotate_left
      · exact fun Ex Xx Ix Rx hp => hp.2.2.2.elim
      intro rv Xx I70 Rx hp
      obtain ⟨e1, e2, hp⟩ := hp
      rw [e1, e2]
      clear e1 e2
      obtain ⟨r71, e1, h⟩ := h rv I70 hp
      rw [e1]
      clear e1
      change J 21 [jy r71] _ (0, 0) _ _ _
      obtain ⟨g72, h⟩ := h
      exact jy_iret hS rfl (by rcases g72 with q | q <;> rw [q] <;> rfl) ⟨rfl, rfl, h⟩
  · intro l5 I h
    unfold wz_57_138 at h
    refine jy_aload_n hS rfl rfl ?_
    obtain ⟨g73, h⟩ := h
    obtain ⟨q74, h⟩ := h
    obtain ⟨g75, h⟩ := h
    refine jy_getR hS rfl (by decide) g73 g75 ?_
    refine jy_iload hS rfl rfl ?_
    obtain ⟨n76, h⟩ := h
    obtain ⟨g77, h⟩ := h
    obtain ⟨g78, h⟩ := h
    refine jy_iald hS rfl g77.1 (Nat.le_of_lt g77.2) g78 ?_
    refine jy_if_lt hS rfl (jy_rng _) (fun hq => ?_) (fun hq => ?_)
    · have h := h.1 hq
      refine jy_iconst hS rfl ?_
      exact jy_iret hS rfl rfl ⟨rfl, rfl, h⟩
    · have h := h.2 hq
      refine jy_iconst hS rfl ?_
      refine jy_goto hS rfl ?_
      exact jy_iret hS rfl rfl ⟨rfl, rfl, h⟩
theorem jt_58 : jx_ml 58 = 4 ∧ jx_rt 58 = some .int ∧ jx_hz 58 = [] ∧ decide ((jx_nm 58).name = "<init>") = false ∧ jx_code 58 = jx_c58 := by decide +kernel
/-- GC$Plan.readNumberOf, from 31 -/
def wz_58_31 (V : jx_V) (X : jx_X) (R : jx_R) (Q : Option Value → jx_I → Prop) (QE : String → jx_I → Prop) (J31 : Nat → Int → Int → jx_I → Prop) (a0 : Nat) (a1 : Nat) (a2 : Nat) (a3 : Int) (s0 : Nat) (s1 : Int) (s2 : Int) (I : jx_I) : Prop :=
  (X.2.1 s0 = some (8, 0)) ∧ (
  ∃ Q4 : Option Value → jx_I → Prop, (
  (jc V 2 118 (0, 0) [.ref s0, jy s1, jy s2] X I R Q4 (fun _ _ => False)) ∧ (
  ∀ rv I6, Q4 rv I6 → ∃ r7 : Int, rv = some (jy r7) ∧ (
  Q (some (jy r7)) I6))))
/-- GC$Plan.readNumberOf -/
def wz_58 (V : jx_V) (X : jx_X) (R : jx_R) (Q : Option Value → jx_I → Prop) (QE : String → jx_I → Prop) (J31 : Nat → Int → Int → jx_I → Prop) (a0 : Nat) (a1 : Nat) (a2 : Nat) (a3 : Int) (I : jx_I) : Prop :=
  (a3 ≠ 0 → (
    (a3 ≠ 1 → (
      (X.2.1 a2 = some (2, 0)) ∧ (
      J31 a1 0 ((I a2 8).toInt - 1) I)
    )) ∧ (a3 = 1 → (
      J31 a1 0 99 I
    ))
  )) ∧ (a3 = 0 → (
    (X.2.1 a2 = some (2, 0)) ∧ (
    J31 a1 0 ((I a2 7).toInt - 1) I)
  ))
set_option maxRecDepth 20000 in
theorem wm_58 {V : jx_V} (hV : V.1.stackTraces = false) {X : jx_X} {R : jx_R} {I : jx_I} {Q : Option Value → jx_I → Prop} {QE : String → jx_I → Prop} {a0 : Nat} {a1 : Nat} {a2 : Nat} {a3 : Int} (r_a3 : -2147483648 ≤ a3 ∧ a3 < 2147483648) 
    (h : ∀ (J31 : Nat → Int → Int → jx_I → Prop), ((∀ (s0 : Nat) (s1 : Int) (s2 : Int) I, wz_58_31 V X R Q QE J31 a0 a1 a2 a3 s0 s1 s2 I → J31 s0 s1 s2 I)) → wz_58 V X R Q QE J31 a0 a1 a2 a3 I) : jc V 3 58 (0, 0) [.ref a0, .ref a1, .ref a2, jy a3] X I R Q QE := by
  refine jy_met hV (by decide) (n := 4) (rt := some .int) (hh := []) (ini := false) (C := jx_c58) (L := [some (.ref a0), some (.ref a1), some (.ref a2), some (jy a3)]) jt_58 (Nat.le_of_ble_eq_true rfl) rfl ?_
  intro J hS
  have h := h (fun s0 s1 s2 I => J 31 [jy s2, jy s1, .ref s0] [none, none, none, none] (0, 0) X I R) ?_
  · unfold wz_58 at h
    refine jy_aload_n hS rfl rfl ?_
    refine jy_iconst hS rfl ?_
    refine jy_iload_n hS rfl rfl ?_
    refine jy_if_ne hS rfl r_a3 (fun hq => ?_) (fun hq => ?_)
    · have h := h.1 hq
      refine jy_iload_n hS rfl rfl ?_
      refine jy_iconst hS rfl ?_
      refine jy_icmp_ne hS rfl ⟨r_a3, ⟨by decide, by decide⟩⟩ (fun hq => ?_) (fun hq => ?_)
      · have h := h.1 hq
        refine jy_aload_n hS rfl rfl ?_
        obtain ⟨g1, h⟩ := h
        refine jy_getI hS rfl (by decide) g1 ?_
        refine jy_iconst hS rfl ?_
        refine jy_isub hS rfl ?_
        exact jy_join hS h rfl (jy_sub_n (jy_sub_n (jy_sub_n (jy_sub_n jy_sub_0))))
      · have h := h.2 hq
        refine jy_bipush hS rfl (by decide) ?_
        refine jy_goto hS rfl ?_
        exact jy_join hS h rfl (jy_sub_n (jy_sub_n (jy_sub_n (jy_sub_n jy_sub_0))))
    · have h := h.2 hq
      refine jy_aload_n hS rfl rfl ?_
      obtain ⟨g2, h⟩ := h
      refine jy_getI hS rfl (by decide) g2 ?_
      refine jy_iconst hS rfl ?_
      refine jy_isub hS rfl ?_
      refine jy_goto hS rfl ?_
      exact jy_join hS h rfl (jy_sub_n (jy_sub_n (jy_sub_n (jy_sub_n jy_sub_0))))
  · intro s0 s1 s2 I h
    unfold wz_58_31 at h
    obtain ⟨g3, h⟩ := h
    obtain ⟨Q4, h⟩ := h
    obtain ⟨g5, h⟩ := h
    refine jy_callV hS rfl rfl rfl (Nat.le_of_ble_eq_true rfl) (Or.inl g3) g5 (by decide) ⟨by decide, by decide⟩ (Nat.le_of_ble_eq_true rfl) ?_ ?_
    rotate_left
    · exact fun Ex Xx Ix Rx hp => hp.2.2.2.elim
    intro rv Xx I6 Rx hp
    obtain ⟨e1, e2, hp⟩ := hp
    rw [e1, e2]
    clear e1 e2
    obtain ⟨r7, e1, h⟩ := h rv I6 hp
    rw [e1]
    clear e1
    change J 34 [jy r7] _ (0, 0) _ _ _
    exact jy_iret hS rfl rfl ⟨rfl, rfl, h⟩
theorem jt_59 : jx_ml 59 = 7 ∧ jx_rt 59 = some .boolean ∧ jx_hz 59 = [] ∧ decide ((jx_nm 59).name = "<init>") = false ∧ jx_code 59 = jx_c59 := by decide +kernel
/-- GC$Plan.readNested, from 86 -/
def wz_59_86 (d : Nat) (V : jx_V) (X : jx_X) (R : jx_R) (Q : Option Value → jx_I → Prop) (QE : String → jx_I → Prop) (J86 : Nat → Int → Int → jx_I → Prop) (a0 : Nat) (a1 : Nat) (a2 : Nat) (a3 : Int) (a4 : Int) (s0 : Nat) (s1 : Int) (s2 : Int) (I : jx_I) : Prop :=
  ∃ n44 : Nat, (
  (X.2.1 s0 = some (100, n44) ∧ n44 < 2147483648) ∧ (
  (0 ≤ s1 ∧ s1 < n44) ∧ (
  ∀ I47 : jx_I, I47 = jx_u I s0 s1.toNat (Int32.ofInt s2) → (
  (X.2.1 a0 = some (4, 0)) ∧ (
  ∃ q49 : Nat, (
  (R a0 0 = some q49) ∧ (
  ∃ n51 : Nat, (
  (X.2.1 q49 = some (100, n51) ∧ n51 < 2147483648) ∧ (
  (0 ≤ a3 ∧ a3 < n51) ∧ (
  ((I47 q49 a3.toNat).toInt ≠ 9 → (
    Q (some (jy 1)) I47
  )) ∧ ((I47 q49 a3.toNat).toInt = 9 → (
    (X.2.1 a1 = some (8, 0)) ∧ (
    (1 < d) ∧ (
    ∃ Q55 : Option Value → jx_I → Prop, (
    (jc V 1 115 (0, 0) [.ref a1] X I47 R Q55 (fun _ _ => False)) ∧ (
    ∀ rv I58, Q55 rv I58 → ∃ r59 : Int, rv = some (jy r59) ∧ (
    (-2147483648 ≤ r59 ∧ r59 < 2147483648) ∧ (
    (r59 ≠ 0 → (
      (2 < d) ∧ (
      ∃ Q61 : Option Value → jx_I → Prop, (
      (jc V 2 116 (0, 0) [.ref a1] X I58 R Q61 (fun _ _ => False)) ∧ (
      ∀ rv I64, Q61 rv I64 → rv = none ∧ (
      (5 < d) ∧ (
      ∃ Q66 : Option Value → jx_I → Prop, (
      (jc V 5 117 (0, 0) [.ref a1, .ref (V.2.2.2.1 33)] X I64 R Q66 (fun _ _ => False)) ∧ (
      ∀ rv I69, Q66 rv I69 → ∃ r70 : Int, rv = some (jy r70) ∧ (
      (-2147483648 ≤ r70 ∧ r70 < 2147483648) ∧ (
      (r70 ≠ 0 → (
        ∃ d73 : Nat, d73 < d ∧ (
        ∃ Q72 : Option Value → jx_I → Prop, (
        (jc V d73 60 (0, 0) [.ref a0, .ref a1, .ref a2, jy a4] X I69 R Q72 (fun _ _ => False)) ∧ (
        ∀ rv I76, Q72 rv I76 → ∃ r77 : Int, rv = some (jy r77) ∧ (
        (-2147483648 ≤ r77 ∧ r77 < 2147483648) ∧ (
        (r77 ≠ 0 → (
          ∃ q79 : Nat, (
          (R a0 4 = some q79) ∧ (
          ((I76 a0 11).toInt ≤ (I69 a0 11).toInt → (
            ∃ n81 : Nat, (
            (X.2.1 q79 = some (100, n81) ∧ n81 < 2147483648) ∧ (
            (0 ≤ a3 ∧ a3 < n81) ∧ (
            ∀ I84 : jx_I, I84 = jx_u I76 q79 a3.toNat (Int32.ofInt (-1)) → (
            Q (some (jy 1)) I84))))
          )) ∧ (¬ (I76 a0 11).toInt ≤ (I69 a0 11).toInt → (
            ∃ n85 : Nat, (
            (X.2.1 q79 = some (100, n85) ∧ n85 < 2147483648) ∧ (
            (0 ≤ a3 ∧ a3 < n85) ∧ (
            ∀ I88 : jx_I, I88 = jx_u I76 q79 a3.toNat (Int32.ofInt ((I69 a0 11).toInt)) → (
            Q (some (jy 1)) I88))))
          ))))
        )) ∧ (r77 = 0 → (
          Q (some (jy 0)) I76
        )))))))
      )) ∧ (r70 = 0 → (
        (2 < d) ∧ (
        ∃ Q89 : Option Value → jx_I → Prop, (
        (jc V 2 108 (0, 0) [.ref a1, jy 1] X I69 R Q89 (fun _ _ => False)) ∧ (
        ∀ rv I92, Q89 rv I92 → ∃ r93 : Int, rv = some (jy r93) ∧ (
        (r93 = 0 ∨ r93 = 1) ∧ (
        Q (some (jy r93)) I92)))))
      )))))))))))
    )) ∧ (r59 = 0 → (
      Q (some (jy 1)) I58
    ))))))))
  ))))))))))))
/-- GC$Plan.readNested -/
def wz_59 (d : Nat) (V : jx_V) (X : jx_X) (R : jx_R) (Q : Option Value → jx_I → Prop) (QE : String → jx_I → Prop) (J86 : Nat → Int → Int → jx_I → Prop) (a0 : Nat) (a1 : Nat) (a2 : Nat) (a3 : Int) (a4 : Int) (I : jx_I) : Prop :=
  (X.2.1 a0 = some (4, 0)) ∧ (
  ∃ q2 : Nat, (
  (R a0 0 = some q2) ∧ (
  ∃ n4 : Nat, (
  (X.2.1 q2 = some (100, n4) ∧ n4 < 2147483648) ∧ (
  (0 ≤ a3 ∧ a3 < n4) ∧ (
  ((I q2 a3.toNat).toInt ≠ 7 → (
    (8 < d) ∧ (
    ∃ Q7 : Option Value → jx_I → Prop, (
    (jc V 8 61 (0, 0) [.ref a0, .ref a1, .ref a2, jy a3] X I R Q7 (fun _ _ => False)) ∧ (
    ∀ rv I10, Q7 rv I10 → ∃ r11 : Int, rv = some (jy r11) ∧ (
    (-2147483648 ≤ r11 ∧ r11 < 2147483648) ∧ (
    (r11 ≠ 0 → (
      ∃ d14 : Nat, d14 < d ∧ (
      ∃ Q13 : Option Value → jx_I → Prop, (
      (jc V d14 60 (0, 0) [.ref a0, .ref a1, .ref a2, jy a4] X I10 R Q13 (fun _ _ => False)) ∧ (
      ∀ rv I17, Q13 rv I17 → ∃ r18 : Int, rv = some (jy r18) ∧ (
      (-2147483648 ≤ r18 ∧ r18 < 2147483648) ∧ (
      (r18 ≠ 0 → (
        ∃ q20 : Nat, (
        (R a0 3 = some q20) ∧ (
        ((I17 a0 11).toInt ≤ (I10 a0 11).toInt → (
          J86 q20 a3 (-1) I17
        )) ∧ (¬ (I17 a0 11).toInt ≤ (I10 a0 11).toInt → (
          J86 q20 a3 ((I10 a0 11).toInt) I17
        ))))
      )) ∧ (r18 = 0 → (
        Q (some (jy 0)) I17
      )))))))
    )) ∧ (r11 = 0 → (
      Q (some (jy 0)) I10
    )))))))
  )) ∧ ((I q2 a3.toNat).toInt = 7 → (
    ∃ q22 : Nat, (
    (R a0 1 = some q22) ∧ (
    (X.2.1 a1 = some (8, 0)) ∧ (
    (2 < d) ∧ (
    ∃ Q25 : Option Value → jx_I → Prop, (
    (jc V 2 118 (0, 0) [.ref a1, jy 0, jy 20] X I R Q25 (fun _ _ => False)) ∧ (
    ∀ rv I28, Q25 rv I28 → ∃ r29 : Int, rv = some (jy r29) ∧ (
    ∃ n30 : Nat, (
    (X.2.1 q22 = some (100, n30) ∧ n30 < 2147483648) ∧ (
    (0 ≤ a3 ∧ a3 < n30) ∧ (
    ∀ I33 : jx_I, I33 = jx_u I28 q22 a3.toNat (Int32.ofInt r29) → (
    (0 ≤ a3 ∧ a3 < n30) ∧ (
    (0 ≤ (I33 q22 a3.toNat).toInt → (
      ∃ d36 : Nat, d36 < d ∧ (
      ∃ Q35 : Option Value → jx_I → Prop, (
      (jc V d36 60 (0, 0) [.ref a0, .ref a1, .ref a2, jy a4] X I33 R Q35 (fun _ _ => False)) ∧ (
      ∀ rv I39, Q35 rv I39 → ∃ r40 : Int, rv = some (jy r40) ∧ (
      (-2147483648 ≤ r40 ∧ r40 < 2147483648) ∧ (
      (r40 ≠ 0 → (
        ∃ q42 : Nat, (
        (R a0 3 = some q42) ∧ (
        ((I39 a0 11).toInt ≤ (I33 a0 11).toInt → (
          J86 q42 a3 (-1) I39
        )) ∧ (¬ (I39 a0 11).toInt ≤ (I33 a0 11).toInt → (
          J86 q42 a3 ((I33 a0 11).toInt) I39
        ))))
      )) ∧ (r40 = 0 → (
        Q (some (jy 0)) I39
      )))))))
    )) ∧ (¬ 0 ≤ (I33 q22 a3.toNat).toInt → (
      Q (some (jy 0)) I33
    ))))))))))))))
  ))))))))
set_option maxRecDepth 20000 in
theorem wm_59 {V : jx_V} (hV : V.1.stackTraces = false) {d : Nat} {X : jx_X} {R : jx_R} {I : jx_I} {Q : Option Value → jx_I → Prop} {QE : String → jx_I → Prop} {a0 : Nat} {a1 : Nat} {a2 : Nat} {a3 : Int} {a4 : Int} (r_a3 : -2147483648 ≤ a3 ∧ a3 < 2147483648) (r_a4 : -2147483648 ≤ a4 ∧ a4 < 2147483648) 
    (h : ∀ (J86 : Nat → Int → Int → jx_I → Prop), ((∀ (s0 : Nat) (s1 : Int) (s2 : Int) I, wz_59_86 d V X R Q QE J86 a0 a1 a2 a3 a4 s0 s1 s2 I → J86 s0 s1 s2 I)) → wz_59 d V X R Q QE J86 a0 a1 a2 a3 a4 I) : jc V d 59 (0, 0) [.ref a0, .ref a1, .ref a2, jy a3, jy a4] X I R Q QE := by
  refine jy_met hV (by decide) (n := 7) (rt := some .boolean) (hh := []) (ini := false) (C := jx_c59) (L := [some (.ref a0), some (.ref a1), some (.ref a2), some (jy a3), some (jy a4), none, none]) jt_59 (Nat.le_of_ble_eq_true rfl) rfl ?_
  intro J hS
  have h := h (fun s0 s1 s2 I => J 86 [jy s2, jy s1, .ref s0] [some (.ref a0), some (.ref a1), some (.ref a2), some (jy a3), some (jy a4), none, none] (0, 0) X I R) ?_
  · unfold wz_59 at h
    refine jy_aload_n hS rfl rfl ?_
    obtain ⟨g1, h⟩ := h
    obtain ⟨q2, h⟩ := h
    obtain ⟨g3, h⟩ := h
    refine jy_getR hS rfl (by decide) g1 g3 ?_
    refine jy_iload_n hS rfl rfl ?_
    obtain ⟨n4, h⟩ := h
    obtain ⟨g5, h⟩ := h
    obtain ⟨g6, h⟩ := h
    refine jy_iald hS rfl g5.1 (Nat.le_of_lt g5.2) g6 ?_
    refine jy_bipush hS rfl (by decide) ?_
    refine jy_icmp_ne hS rfl ⟨(jy_rng _), ⟨by decide, by decide⟩⟩ (fun hq => ?_) (fun hq => ?_)
    · have h := h.1 hq
      refine jy_aload_n hS rfl rfl ?_
      refine jy_aload_n hS rfl rfl ?_
      refine jy_aload_n hS rfl rfl ?_
      refine jy_iload_n hS rfl rfl ?_
      obtain ⟨g8, h⟩ := h
      obtain ⟨Q7, h⟩ := h
      obtain ⟨g9, h⟩ := h
      refine jy_callV hS rfl rfl rfl (Nat.le_of_ble_eq_true rfl) (Or.inl g1) g9 g8 ⟨by decide, by decide⟩ (Nat.le_of_ble_eq_true rfl) ?_ ?_
      rotate_left
      · exact fun Ex Xx Ix Rx hp => hp.2.2.2.elim
      intro rv Xx I10 Rx hp
      obtain ⟨e1, e2, hp⟩ := hp
      rw [e1, e2]
      clear e1 e2
      obtain ⟨r11, e1, h⟩ := h rv I10 hp
      rw [e1]
      clear e1
      change J 42 [jy r11] _ (0, 0) _ _ _
      obtain ⟨g12, h⟩ := h
      refine jy_if_ne hS rfl g12 (fun hq => ?_) (fun hq => ?_)
      · have h := h.1 hq
        refine jy_aload_n hS rfl rfl ?_
        refine jy_getI hS rfl (by decide) g1 ?_
        refine jy_istore hS rfl (Nat.le_of_ble_eq_true rfl) (L' := [some (.ref a0), some (.ref a1), some (.ref a2), some (jy a3), some (jy a4), some (jy ((I10 a0 11).toInt)), none]) rfl ?_
        refine jy_aload_n hS rfl rfl ?_
        refine jy_aload_n hS rfl rfl ?_
        refine jy_aload_n hS rfl rfl ?_
        refine jy_iload hS rfl rfl ?_
        obtain ⟨d14, g15, h⟩ := h
        obtain ⟨Q13, h⟩ := h
        obtain ⟨g16, h⟩ := h
        refine jy_callV hS rfl rfl rfl (Nat.le_of_ble_eq_true rfl) (Or.inl g1) g16 g15 ⟨by decide, by decide⟩ (Nat.le_of_ble_eq_true rfl) ?_ ?_
        rotate_left
        · exact fun Ex Xx Ix Rx hp => hp.2.2.2.elim
        intro rv Xx I17 Rx hp
        obtain ⟨e1, e2, hp⟩ := hp
        rw [e1, e2]
        clear e1 e2
        obtain ⟨r18, e1, h⟩ := h rv I17 hp
        rw [e1]
        clear e1
        change J 61 [jy r18] _ (0, 0) _ _ _
        obtain ⟨g19, h⟩ := h
        refine jy_if_ne hS rfl g19 (fun hq => ?_) (fun hq => ?_)
        · have h := h.1 hq
          refine jy_aload_n hS rfl rfl ?_
          obtain ⟨q20, h⟩ := h
          obtain ⟨g21, h⟩ := h
          refine jy_getR hS rfl (by decide) g1 g21 ?_
          refine jy_iload_n hS rfl rfl ?_
          refine jy_aload_n hS rfl rfl ?_
          refine jy_getI hS rfl (by decide) g1 ?_
          refine jy_iload hS rfl rfl ?_
          refine jy_icmp_le hS rfl ⟨(jy_rng _), (jy_rng _)⟩ (fun hq => ?_) (fun hq => ?_)
          · have h := h.1 hq
            refine jy_iconst hS rfl ?_
            exact jy_join hS h rfl (jy_sub_s (jy_sub_s (jy_sub_s (jy_sub_s (jy_sub_s (jy_sub_n (jy_sub_n jy_sub_0)))))))
          · have h := h.2 hq
            refine jy_iload hS rfl rfl ?_
            refine jy_goto hS rfl ?_
            exact jy_join hS h rfl (jy_sub_s (jy_sub_s (jy_sub_s (jy_sub_s (jy_sub_s (jy_sub_n (jy_sub_n jy_sub_0)))))))
        · have h := h.2 hq
          refine jy_iconst hS rfl ?_
          exact jy_iret hS rfl rfl ⟨rfl, rfl, h⟩
      · have h := h.2 hq
        refine jy_iconst hS rfl ?_
        exact jy_iret hS rfl rfl ⟨rfl, rfl, h⟩
    · have h := h.2 hq
      refine jy_aload_n hS rfl rfl ?_
      obtain ⟨q22, h⟩ := h
      obtain ⟨g23, h⟩ := h
      refine jy_getR hS rfl (by decide) g1 g23 ?_
      refine jy_iload_n hS rfl rfl ?_
      refine jy_aload_n hS rfl rfl ?_
      refine jy_iconst hS rfl ?_
      refine jy_bipush hS rfl (by decide) ?_
      obtain ⟨g24, h⟩ := h
      obtain ⟨g26, h⟩ := h
      obtain ⟨Q25, h⟩ := h
      obtain ⟨g27, h⟩ := h
      refine jy_callV hS rfl rfl rfl (Nat.le_of_ble_eq_true rfl) (Or.inl g24) g27 g26 ⟨by decide, by decide⟩ (Nat.le_of_ble_eq_true rfl) ?_ ?_
      rotate_left
      · exact fun Ex Xx Ix Rx hp => hp.2.2.2.elim
      intro rv Xx I28 Rx hp
      obtain ⟨e1, e2, hp⟩ := hp
      rw [e1, e2]
      clear e1 e2
      obtain ⟨r29, e1, h⟩ := h rv I28 hp
      rw [e1]
      clear e1
      change J 23 [jy r29, jy a3, .ref q22] _ (0, 0) _ _ _
      obtain ⟨n30, h⟩ := h
      obtain ⟨g31, h⟩ := h
      obtain ⟨g32, h⟩ := h
      refine jy_iast hS rfl g31.1 (Nat.le_of_lt g31.2) g32 ?_
      intro I33 e9
      have h := h I33 e9
      clear e9
      refine jy_aload_n hS rfl rfl ?_
      refine jy_getR hS rfl (by decide) g1 g23 ?_
      refine jy_iload_n hS rfl rfl ?_
      obtain ⟨g34, h⟩ := h
      refine jy_iald hS rfl g31.1 (Nat.le_of_lt g31.2) g34 ?_
      refine jy_if_ge hS rfl (jy_rng _) (fun hq => ?_) (fun hq => ?_)
      · have h := h.1 hq
        refine jy_aload_n hS rfl rfl ?_
        refine jy_getI hS rfl (by decide) g1 ?_
        refine jy_istore hS rfl (Nat.le_of_ble_eq_true rfl) (L' := [some (.ref a0), some (.ref a1), some (.ref a2), some (jy a3), some (jy a4), some (jy ((I33 a0 11).toInt)), none]) rfl ?_
        refine jy_aload_n hS rfl rfl ?_
        refine jy_aload_n hS rfl rfl ?_
        refine jy_aload_n hS rfl rfl ?_
        refine jy_iload hS rfl rfl ?_
        obtain ⟨d36, g37, h⟩ := h
        obtain ⟨Q35, h⟩ := h
        obtain ⟨g38, h⟩ := h
        refine jy_callV hS rfl rfl rfl (Nat.le_of_ble_eq_true rfl) (Or.inl g1) g38 g37 ⟨by decide, by decide⟩ (Nat.le_of_ble_eq_true rfl) ?_ ?_
        rotate_left
        · exact fun Ex Xx Ix Rx hp => hp.2.2.2.elim
        intro rv Xx I39 Rx hp
        obtain ⟨e1, e2, hp⟩ := hp
        rw [e1, e2]
        clear e1 e2
        obtain ⟨r40, e1, h⟩ := h rv I39 hp
        rw [e1]
        clear e1
        change J 61 [jy r40] _ (0, 0) _ _ _
        obtain ⟨g41, h⟩ := h
        refine jy_if_ne hS rfl g41 (fun hq => ?_) (fun hq => ?_)
        · have h := h.1 hq
          refine jy_aload_n hS rfl rfl ?_
          obtain ⟨q42, h⟩ := h
          obtain ⟨g43, h⟩ := h
          refine jy_getR hS rfl (by decide) g1 g43 ?_
          refine jy_iload_n hS rfl rfl ?_
          refine jy_aload_n hS rfl rfl ?_
          refine jy_getI hS rfl (by decide) g1 ?_
          refine jy_iload hS rfl rfl ?_
          refine jy_icmp_le hS rfl ⟨(jy_rng _), (jy_rng _)⟩ (fun hq => ?_) (fun hq => ?_)
          · have h := h.1 hq
            refine jy_iconst hS rfl ?_
            exact jy_join hS h rfl (jy_sub_s (jy_sub_s (jy_sub_s (jy_sub_s (jy_sub_s (jy_sub_n (jy_sub_n jy_sub_0)))))))
          · have h := h.2 hq
            refine jy_iload hS rfl rfl ?_
            refine jy_goto hS rfl ?_
            exact jy_join hS h rfl (jy_sub_s (jy_sub_s (jy_sub_s (jy_sub_s (jy_sub_s (jy_sub_n (jy_sub_n jy_sub_0)))))))
        · have h := h.2 hq
          refine jy_iconst hS rfl ?_
          exact jy_iret hS rfl rfl ⟨rfl, rfl, h⟩
      · have h := h.2 hq
        refine jy_iconst hS rfl ?_
        exact jy_iret hS rfl rfl ⟨rfl, rfl, h⟩
  · intro s0 s1 s2 I h
    unfold wz_59_86 at h
    obtain ⟨n44, h⟩ := h
    obtain ⟨g45, h⟩ := h
    obtain ⟨g46, h⟩ := h
    refine jy_iast hS rfl g45.1 (Nat.le_of_lt g45.2) g46 ?_
    intro I47 e9
    have h := h I47 e9
    clear e9
    refine jy_aload_n hS rfl rfl ?_
    obtain ⟨g48, h⟩ := h
    obtain ⟨q49, h⟩ := h
    obtain ⟨g50, h⟩ := h
    refine jy_getR hS rfl (by decide) g48 g50 ?_
    refine jy_iload_n hS rfl rfl ?_
    obtain ⟨n51, h⟩ := h
    obtain ⟨g52, h⟩ := h
    obtain ⟨g53, h⟩ := h
    refine jy_iald hS rfl g52.1 (Nat.le_of_lt g52.2) g53 ?_
    refine jy_bipush hS rfl (by decide) ?_
    refine jy_icmp_ne hS rfl ⟨(jy_rng _), ⟨by decide, by decide⟩⟩ (fun hq => ?_) (fun hq => ?_)
    · have h := h.1 hq
      refine jy_iconst hS rfl ?_
      exact jy_iret hS rfl rfl ⟨rfl, rfl, h⟩
    · have h := h.2 hq
      refine jy_aload_n hS rfl rfl ?_
      obtain ⟨g54, h⟩ := h
      obtain ⟨g56, h⟩ := h
      obtain ⟨Q55, h⟩ := h
      obtain ⟨g57, h⟩ := h
      refine jy_callV hS rfl rfl rfl (Nat.le_of_ble_eq_true rfl) (Or.inl g54) g57 g56 ⟨by decide, by decide⟩ (Nat.le_of_ble_eq_true rfl) ?_ ?_
      rotate_left
      · exact fun Ex Xx Ix Rx hp => hp.2.2.2.elim
      intro rv Xx I58 Rx hp
      obtain ⟨e1, e2, hp⟩ := hp
      rw [e1, e2]
      clear e1 e2
      obtain ⟨r59, e1, h⟩ := h rv I58 hp
      rw [e1]
      clear e1
      change J 102 [jy r59] _ (0, 0) _ _ _
      obtain ⟨g60, h⟩ := h
      refine jy_if_ne hS rfl g60 (fun hq => ?_) (fun hq => ?_)
      · have h := h.1 hq
        refine jy_aload_n hS rfl rfl ?_
        obtain ⟨g62, h⟩ := h
        obtain ⟨Q61, h⟩ := h
        obtain ⟨g63, h⟩ := h
        refine jy_callV hS rfl rfl rfl (Nat.le_of_ble_eq_true rfl) (Or.inl g54) g63 g62 ⟨by decide, by decide⟩ (Nat.le_of_ble_eq_true rfl) ?_ ?_
        rotate_left
        · exact fun Ex Xx Ix Rx hp => hp.2.2.2.elim
        intro rv Xx I64 Rx hp
        obtain ⟨e1, e2, hp⟩ := hp
        rw [e1, e2]
        clear e1 e2
        obtain ⟨e1, h⟩ := h rv I64 hp
        rw [e1]
        clear e1
        change J 111 [] _ (0, 0) _ _ _
        refine jy_aload_n hS rfl rfl ?_
        refine jy_ldcS hS rfl ?_
        obtain ⟨g67, h⟩ := h
        obtain ⟨Q66, h⟩ := h
        obtain ⟨g68, h⟩ := h
        refine jy_callV hS rfl rfl rfl (Nat.le_of_ble_eq_true rfl) (Or.inl g54) g68 g67 ⟨by decide, by decide⟩ (Nat.le_of_ble_eq_true rfl) ?_ ?_
        rotate_left
        · exact fun Ex Xx Ix Rx hp => hp.2.2.2.elim
        intro rv Xx I69 Rx hp
        obtain ⟨e1, e2, hp⟩ := hp
        rw [e1, e2]
        clear e1 e2
        obtain ⟨r70, e1, h⟩ := h rv I69 hp
        rw [e1]
        clear e1
        change J 117 [jy r70] _ (0, 0) _ _ _
        obtain ⟨g71, h⟩ := h
        refine jy_if_ne hS rfl g71 (fun hq => ?_) (fun hq => ?_)
        · have h := h.1 hq
          refine jy_aload_n hS rfl rfl ?_
          refine jy_getI hS rfl (by decide) g48 ?_
          refine jy_istore hS rfl (Nat.le_of_ble_eq_true rfl) (L' := [some (.ref a0), some (.ref a1), some (.ref a2), some (jy a3), some (jy a4), none, some (jy ((I69 a0 11).toInt))]) rfl ?_
          refine jy_aload_n hS rfl rfl ?_
          refine jy_aload_n hS rfl rfl ?_
          refine jy_aload_n hS rfl rfl ?_
          refine jy_iload hS rfl rfl ?_
          obtain ⟨d73, g74, h⟩ := h
          obtain ⟨Q72, h⟩ := h
          obtain ⟨g75, h⟩ := h
          refine jy_callV hS rfl rfl rfl (Nat.le_of_ble_eq_true rfl) (Or.inl g48) g75 g74 ⟨by decide, by decide⟩ (Nat.le_of_ble_eq_true rfl) ?_ ?_
          rotate_left
          · exact fun Ex Xx Ix Rx hp => hp.2.2.2.elim
          intro rv Xx I76 Rx hp
          obtain ⟨e1, e2, hp⟩ := hp
          rw [e1, e2]
          clear e1 e2
          obtain ⟨r77, e1, h⟩ := h rv I76 hp
          rw [e1]
          clear e1
          change J 140 [jy r77] _ (0, 0) _ _ _
          obtain ⟨g78, h⟩ := h
          refine jy_if_ne hS rfl g78 (fun hq => ?_) (fun hq => ?_)
          · have h := h.1 hq
            refine jy_aload_n hS rfl rfl ?_
            obtain ⟨q79, h⟩ := h
            obtain ⟨g80, h⟩ := h
            refine jy_getR hS rfl (by decide) g48 g80 ?_
            refine jy_iload_n hS rfl rfl ?_
            refine jy_aload_n hS rfl rfl ?_
            refine jy_getI hS rfl (by decide) g48 ?_
            refine jy_iload hS rfl rfl ?_
            refine jy_icmp_le hS rfl ⟨(jy_rng _), (jy_rng _)⟩ (fun hq => ?_) (fun hq => ?_)
            · have h := h.1 hq
              refine jy_iconst hS rfl ?_
              obtain ⟨n81, h⟩ := h
              obtain ⟨g82, h⟩ := h
              obtain ⟨g83, h⟩ := h
              refine jy_iast hS rfl g82.1 (Nat.le_of_lt g82.2) g83 ?_
              intro I84 e9
              have h := h I84 e9
              clear e9
              refine jy_iconst hS rfl ?_
              exact jy_iret hS rfl rfl ⟨rfl, rfl, h⟩
            · have h := h.2 hq
              refine jy_iload hS rfl rfl ?_
              refine jy_goto hS rfl ?_
              obtain ⟨n85, h⟩ := h
              obtain ⟨g86, h⟩ := h
              obtain ⟨g87, h⟩ := h
              refine jy_iast hS rfl g86.1 (Nat.le_of_lt g86.2) g87 ?_
              intro I88 e9
              have h := h I88 e9
              clear e9
              refine jy_iconst hS rfl ?_
              exact jy_iret hS rfl rfl ⟨rfl, rfl, h⟩
          · have h := h.2 hq
            refine jy_iconst hS rfl ?_
            exact jy_iret hS rfl rfl ⟨rfl, rfl, h⟩
        · have h := h.2 hq
          refine jy_aload_n hS rfl rfl ?_
          refine jy_iconst hS rfl ?_
          obtain ⟨g90, h⟩ := h
          obtain ⟨Q89, h⟩ := h
          obtain ⟨g91, h⟩ := h
          refine jy_callV hS rfl rfl rfl (Nat.le_of_ble_eq_true rfl) (Or.inl g54) g91 g90 ⟨by decide, by decide⟩ (Nat.le_of_ble_eq_true rfl) ?_ ?_
          rotate_left
          · exact fun Ex Xx Ix Rx hp => hp.2.2.2.elim
          intro rv Xx I92 Rx hp
          obtain ⟨e1, e2, hp⟩ := hp
          rw [e1, e2]
          clear e1 e2
          obtain ⟨r93, e1, h⟩ := h rv I92 hp
          rw [e1]
          clear e1
          change J 125 [jy r93] _ (0, 0) _ _ _
          obtain ⟨g94, h⟩ := h
          exact jy_iret hS rfl (by rcases g94 with q | q <;> rw [q] <;> rfl) ⟨rfl, rfl, h⟩
      · have h := h.2 hq
        refine jy_iconst hS rfl ?_
        exact jy_iret hS rfl rfl ⟨rfl, rfl, h⟩
theorem jt_60 : jx_ml 60 = 4 ∧ jx_rt 60 = some .boolean ∧ jx_hz 60 = [] ∧ decide ((jx_nm 60).name = "<init>") = false ∧ jx_code 60 = jx_c60 := by decide +kernel
/-- GC$Plan.readBlock -/
def wz_60 (d : Nat) (V : jx_V) (X : jx_X) (R : jx_R) (Q : Option Value → jx_I → Prop) (QE : String → jx_I → Prop)  (a0 : Nat) (a1 : Nat) (a2 : Nat) (a3 : Int) (I : jx_I) : Prop :=
  (a3 < 6 → (
    (X.2.1 a1 = some (8, 0)) ∧ (
    (3 < d) ∧ (
    ∃ Q2 : Option Value → jx_I → Prop, (
    (jc V 3 113 (0, 0) [.ref a1, jy 91] X I R Q2 (fun _ _ => False)) ∧ (
    ∀ rv I5, Q2 rv I5 → ∃ r6 : Int, rv = some (jy r6) ∧ (
    (-2147483648 ≤ r6 ∧ r6 < 2147483648) ∧ (
    (r6 = 0 → (
      Q (some (jy 0)) I5
    )) ∧ (¬ r6 = 0 → (
      (X.2.1 a0 = some (4, 0)) ∧ (
      ∃ d10 : Nat, d10 < d ∧ (
      ∃ Q9 : Option Value → jx_I → Prop, (
      (jc V d10 56 (0, 0) [.ref a0, .ref a1, .ref a2, jy (a3 + 1)] X I5 R Q9 (fun _ _ => False)) ∧ (
      ∀ rv I13, Q9 rv I13 → ∃ r14 : Int, rv = some (jy r14) ∧ (
      (-2147483648 ≤ r14 ∧ r14 < 2147483648) ∧ (
      (r14 = 0 → (
        Q (some (jy 0)) I13
      )) ∧ (¬ r14 = 0 → (
        Q (some (jy 1)) I13
      ))))))))
    ))))))))
  )) ∧ (¬ a3 < 6 → (
    (X.2.1 a1 = some (8, 0)) ∧ (
    (1 < d) ∧ (
    ∃ Q17 : Option Value → jx_I → Prop, (
    (jc V 1 111 (0, 0) [.ref a1, jy 91] X I R Q17 (fun _ _ => False)) ∧ (
    ∀ rv I20, Q17 rv I20 → ∃ r21 : Int, rv = some (jy r21) ∧ (
    (-2147483648 ≤ r21 ∧ r21 < 2147483648) ∧ (
    (r21 = 0 → (
      (3 < d) ∧ (
      ∃ Q23 : Option Value → jx_I → Prop, (
      (jc V 3 113 (0, 0) [.ref a1, jy 91] X I20 R Q23 (fun _ _ => False)) ∧ (
      ∀ rv I26, Q23 rv I26 → ∃ r27 : Int, rv = some (jy r27) ∧ (
      (-2147483648 ≤ r27 ∧ r27 < 2147483648) ∧ (
      (r27 = 0 → (
        Q (some (jy 0)) I26
      )) ∧ (¬ r27 = 0 → (
        (X.2.1 a0 = some (4, 0)) ∧ (
        ∃ d31 : Nat, d31 < d ∧ (
        ∃ Q30 : Option Value → jx_I → Prop, (
        (jc V d31 56 (0, 0) [.ref a0, .ref a1, .ref a2, jy (a3 + 1)] X I26 R Q30 (fun _ _ => False)) ∧ (
        ∀ rv I34, Q30 rv I34 → ∃ r35 : Int, rv = some (jy r35) ∧ (
        (-2147483648 ≤ r35 ∧ r35 < 2147483648) ∧ (
        (r35 = 0 → (
          Q (some (jy 0)) I34
        )) ∧ (¬ r35 = 0 → (
          Q (some (jy 1)) I34
        ))))))))
      )))))))
    )) ∧ (¬ r21 = 0 → (
      (2 < d) ∧ (
      ∃ Q37 : Option Value → jx_I → Prop, (
      (jc V 2 107 (0, 0) [.ref a1, jy 3] X I20 R Q37 (fun _ _ => False)) ∧ (
      ∀ rv I40, Q37 rv I40 → ∃ r41 : Int, rv = some (jy r41) ∧ (
      (r41 = 0 ∨ r41 = 1) ∧ (
      Q (some (jy r41)) I40)))))
    ))))))))
  ))
set_option maxRecDepth 20000 in
theorem wm_60 {V : jx_V} (hV : V.1.stackTraces = false) {d : Nat} {X : jx_X} {R : jx_R} {I : jx_I} {Q : Option Value → jx_I → Prop} {QE : String → jx_I → Prop} {a0 : Nat} {a1 : Nat} {a2 : Nat} {a3 : Int} (r_a3 : -2147483648 ≤ a3 ∧ a3 < 2147483648) 
    (h : wz_60 d V X R Q QE  a0 a1 a2 a3 I) : jc V d 60 (0, 0) [.ref a0, .ref a1, .ref a2, jy a3] X I R Q QE := by
  refine jy_met hV (by decide) (n := 4) (rt := some .boolean) (hh := []) (ini := false) (C := jx_c60) (L := [some (.ref a0), some (.ref a1), some (.ref a2), some (jy a3)]) jt_60 (Nat.le_of_ble_eq_true rfl) rfl ?_
  intro J hS
  unfold wz_60 at h
  refine jy_iload_n hS rfl rfl ?_
  refine jy_bipush hS rfl (by decide) ?_
  refine jy_icmp_lt hS rfl ⟨r_a3, ⟨by decide, by decide⟩⟩ (fun hq => ?_) (fun hq => ?_)
  · have h := h.1 hq
    refine jy_aload_n hS rfl rfl ?_
    refine jy_bipush hS rfl (by decide) ?_
    obtain ⟨g1, h⟩ := h
    obtain ⟨g3, h⟩ := h
    obtain ⟨Q2, h⟩ := h
    obtain ⟨g4, h⟩ := h
    refine jy_callV hS rfl rfl rfl (Nat.le_of_ble_eq_true rfl) (Or.inl g1) g4 g3 ⟨by decide, by decide⟩ (Nat.le_of_ble_eq_true rfl) ?_ ?_
    rotate_left
    · exact fun Ex Xx Ix Rx hp => hp.2.2.2.elim
    intro rv Xx I5 Rx hp
    obtain ⟨e1, e2, hp⟩ := hp
    rw [e1, e2]
    clear e1 e2
    obtain ⟨r6, e1, h⟩ := h rv I5 hp
    rw [e1]
    clear e1
    change J 27 [jy r6] _ (0, 0) _ _ _
    obtain ⟨g7, h⟩ := h
    refine jy_if_eq hS rfl g7 (fun hq => ?_) (fun hq => ?_)
    · have h := h.1 hq
      refine jy_iconst hS rfl ?_
      exact jy_iret hS rfl rfl ⟨rfl, rfl, h⟩
    · have h := h.2 hq
      refine jy_aload_n hS rfl rfl ?_
      refine jy_aload_n hS rfl rfl ?_
      refine jy_aload_n hS rfl rfl ?_
      refine jy_iload_n hS rfl rfl ?_
      refine jy_iconst hS rfl ?_
      refine jy_iadd hS rfl ?_
      obtain ⟨g8, h⟩ := h
      obtain ⟨d10, g11, h⟩ := h
      obtain ⟨Q9, h⟩ := h
      obtain ⟨g12, h⟩ := h
      refine jy_callV hS rfl rfl rfl (Nat.le_of_ble_eq_true rfl) (Or.inl g8) g12 g11 ⟨by decide, by decide⟩ (Nat.le_of_ble_eq_true rfl) ?_ ?_
      rotate_left
      · exact fun Ex Xx Ix Rx hp => hp.2.2.2.elim
      intro rv Xx I13 Rx hp
      obtain ⟨e1, e2, hp⟩ := hp
      rw [e1, e2]
      clear e1 e2
      obtain ⟨r14, e1, h⟩ := h rv I13 hp
      rw [e1]
      clear e1
      change J 39 [jy r14] _ (0, 0) _ _ _
      obtain ⟨g15, h⟩ := h
      refine jy_if_eq hS rfl g15 (fun hq => ?_) (fun hq => ?_)
      · have h := h.1 hq
        refine jy_iconst hS rfl ?_
        exact jy_iret hS rfl rfl ⟨rfl, rfl, h⟩
      · have h := h.2 hq
        refine jy_iconst hS rfl ?_
        refine jy_goto hS rfl ?_
        exact jy_iret hS rfl rfl ⟨rfl, rfl, h⟩
  · have h := h.2 hq
    refine jy_aload_n hS rfl rfl ?_
    refine jy_bipush hS rfl (by decide) ?_
    obtain ⟨g16, h⟩ := h
    obtain ⟨g18, h⟩ := h
    obtain ⟨Q17, h⟩ := h
    obtain ⟨g19, h⟩ := h
    refine jy_callV hS rfl rfl rfl (Nat.le_of_ble_eq_true rfl) (Or.inl g16) g19 g18 ⟨by decide, by decide⟩ (Nat.le_of_ble_eq_true rfl) ?_ ?_
    rotate_left
    · exact fun Ex Xx Ix Rx hp => hp.2.2.2.elim
    intro rv Xx I20 Rx hp
    obtain ⟨e1, e2, hp⟩ := hp
    rw [e1, e2]
    clear e1 e2
    obtain ⟨r21, e1, h⟩ := h rv I20 hp
    rw [e1]
    clear e1
    change J 12 [jy r21] _ (0, 0) _ _ _
    obtain ⟨g22, h⟩ := h
    refine jy_if_eq hS rfl g22 (fun hq => ?_) (fun hq => ?_)
    · have h := h.1 hq
      refine jy_aload_n hS rfl rfl ?_
      refine jy_bipush hS rfl (by decide) ?_
      obtain ⟨g24, h⟩ := h
      obtain ⟨Q23, h⟩ := h
      obtain ⟨g25, h⟩ := h
      refine jy_callV hS rfl rfl rfl (Nat.le_of_ble_eq_true rfl) (Or.inl g16) g25 g24 ⟨by decide, by decide⟩ (Nat.le_of_ble_eq_true rfl) ?_ ?_
      rotate_left
      · exact fun Ex Xx Ix Rx hp => hp.2.2.2.elim
      intro rv Xx I26 Rx hp
      obtain ⟨e1, e2, hp⟩ := hp
      rw [e1, e2]
      clear e1 e2
      obtain ⟨r27, e1, h⟩ := h rv I26 hp
      rw [e1]
      clear e1
      change J 27 [jy r27] _ (0, 0) _ _ _
      obtain ⟨g28, h⟩ := h
      refine jy_if_eq hS rfl g28 (fun hq => ?_) (fun hq => ?_)
      · have h := h.1 hq
        refine jy_iconst hS rfl ?_
        exact jy_iret hS rfl rfl ⟨rfl, rfl, h⟩
      · have h := h.2 hq
        refine jy_aload_n hS rfl rfl ?_
        refine jy_aload_n hS rfl rfl ?_
        refine jy_aload_n hS rfl rfl ?_
        refine jy_iload_n hS rfl rfl ?_
        refine jy_iconst hS rfl ?_
        refine jy_iadd hS rfl ?_
        obtain ⟨g29, h⟩ := h
        obtain ⟨d31, g32, h⟩ := h
        obtain ⟨Q30, h⟩ := h
        obtain ⟨g33, h⟩ := h
        refine jy_callV hS rfl rfl rfl (Nat.le_of_ble_eq_true rfl) (Or.inl g29) g33 g32 ⟨by decide, by decide⟩ (Nat.le_of_ble_eq_true rfl) ?_ ?_
        rotate_left
        · exact fun Ex Xx Ix Rx hp => hp.2.2.2.elim
        intro rv Xx I34 Rx hp
        obtain ⟨e1, e2, hp⟩ := hp
        rw [e1, e2]
        clear e1 e2
        obtain ⟨r35, e1, h⟩ := h rv I34 hp
        rw [e1]
        clear e1
        change J 39 [jy r35] _ (0, 0) _ _ _
        obtain ⟨g36, h⟩ := h
        refine jy_if_eq hS rfl g36 (fun hq => ?_) (fun hq => ?_)
        · have h := h.1 hq
          refine jy_iconst hS rfl ?_
          exact jy_iret hS rfl rfl ⟨rfl, rfl, h⟩
        · have h := h.2 hq
          refine jy_iconst hS rfl ?_
          refine jy_goto hS rfl ?_
          exact jy_iret hS rfl rfl ⟨rfl, rfl, h⟩
    · have h := h.2 hq
      refine jy_aload_n hS rfl rfl ?_
      refine jy_iconst hS rfl ?_
      obtain ⟨g38, h⟩ := h
      obtain ⟨Q37, h⟩ := h
      obtain ⟨g39, h⟩ := h
      refine jy_callV hS rfl rfl rfl (Nat.le_of_ble_eq_true rfl) (Or.inl g16) g39 g38 ⟨by decide, by decide⟩ (Nat.le_of_ble_eq_true rfl) ?_ ?_
      rotate_left
      · exact fun Ex Xx Ix Rx hp => hp.2.2.2.elim
      intro rv Xx I40 Rx hp
      obtain ⟨e1, e2, hp⟩ := hp
      rw [e1, e2]
      clear e1 e2
      obtain ⟨r41, e1, h⟩ := h rv I40 hp
      rw [e1]
      clear e1
      change J 20 [jy r41] _ (0, 0) _ _ _
      obtain ⟨g42, h⟩ := h
      exact jy_iret hS rfl (by rcases g42 with q | q <;> rw [q] <;> rfl) ⟨rfl, rfl, h⟩
theorem jt_61 : jx_ml 61 = 7 ∧ jx_rt 61 = some .boolean ∧ jx_hz 61 = [] ∧ decide ((jx_nm 61).name = "<init>") = false ∧ jx_code 61 = jx_c61 := by decide +kernel
/-- GC$Plan.readTest, from 26 -/
def wz_61_26 (V : jx_V) (X : jx_X) (R : jx_R) (Q : Option Value → jx_I → Prop) (QE : String → jx_I → Prop) (J26 : Int → Int → Int → jx_I → Prop) (J77 : Int → Int → Int → jx_I → Prop) (J142 : Int → Int → Int → jx_I → Prop) (a0 : Nat) (a1 : Nat) (a2 : Nat) (a3 : Int) (l4 : Int) (l5 : Int) (l6 : Int) (I : jx_I) : Prop :=
  (-2147483648 ≤ l6 ∧ l6 < 2147483648) ∧ (
  (200 ≤ l6 → (
    (X.2.1 a1 = some (8, 0)) ∧ (
    ∃ Q16 : Option Value → jx_I → Prop, (
    (jc V 2 107 (0, 0) [.ref a1, jy 3] X I R Q16 (fun _ _ => False)) ∧ (
    ∀ rv I18, Q16 rv I18 → ∃ r19 : Int, rv = some (jy r19) ∧ (
    (r19 = 0 ∨ r19 = 1) ∧ (
    Q (some (jy r19)) I18)))))
  )) ∧ (¬ 200 ≤ l6 → (
    (X.2.1 a0 = some (4, 0)) ∧ (
    ∃ Q22 : Option Value → jx_I → Prop, (
    (jc V 7 63 (0, 0) [.ref a0, .ref a1, .ref a2, jy (l4 * l5)] X I R Q22 (fun _ _ => False)) ∧ (
    ∀ rv I24, Q22 rv I24 → ∃ r25 : Int, rv = some (jy r25) ∧ (
    (-2147483648 ≤ r25 ∧ r25 < 2147483648) ∧ (
    (r25 ≠ 0 → (
      (X.2.1 a1 = some (8, 0)) ∧ (
      ∃ Q28 : Option Value → jx_I → Prop, (
      (jc V 2 112 (0, 0) [.ref a1, jy 43] X I24 R Q28 (fun _ _ => False)) ∧ (
      ∀ rv I30, Q28 rv I30 → ∃ r31 : Int, rv = some (jy r31) ∧ (
      (-2147483648 ≤ r31 ∧ r31 < 2147483648) ∧ (
      (r31 = 0 → (
        ∃ Q33 : Option Value → jx_I → Prop, (
        (jc V 2 112 (0, 0) [.ref a1, jy 45] X I30 R Q33 (fun _ _ => False)) ∧ (
        ∀ rv I35, Q33 rv I35 → ∃ r36 : Int, rv = some (jy r36) ∧ (
        (-2147483648 ≤ r36 ∧ r36 < 2147483648) ∧ (
        (r36 = 0 → (
          J77 0 l4 l6 I35
        )) ∧ (¬ r36 = 0 → (
          J77 (-1) l4 l6 I35
        ))))))
      )) ∧ (¬ r31 = 0 → (
        J77 1 l4 l6 I30
      )))))))
    )) ∧ (r25 = 0 → (
      Q (some (jy 0)) I24
    )))))))
  )))
/-- GC$Plan.readTest, from 77 -/
def wz_61_77 (V : jx_V) (X : jx_X) (R : jx_R) (Q : Option Value → jx_I → Prop) (QE : String → jx_I → Prop) (J26 : Int → Int → Int → jx_I → Prop) (J77 : Int → Int → Int → jx_I → Prop) (J142 : Int → Int → Int → jx_I → Prop) (a0 : Nat) (a1 : Nat) (a2 : Nat) (a3 : Int) (s0 : Int) (l4 : Int) (l6 : Int) (I : jx_I) : Prop :=
  (-2147483648 ≤ s0 ∧ s0 < 2147483648) ∧ (
  (s0 ≠ 0 → (
    (s0 ≠ 0 → (
      J26 l4 s0 (l6 + 1) I
    )) ∧ (s0 = 0 → (
      (X.2.1 a0 = some (4, 0)) ∧ (
      ∃ q40 : Nat, (
      (R a0 7 = some q40) ∧ (
      ∃ Q42 : Option Value → jx_I → Prop, (
      (jc V 3 62 (0, 0) [.ref a0, .ref a1] X I R Q42 (fun _ _ => False)) ∧ (
      ∀ rv I44, Q42 rv I44 → ∃ r45 : Int, rv = some (jy r45) ∧ (
      ∃ n46 : Nat, (
      (X.2.1 q40 = some (100, n46) ∧ n46 < 2147483648) ∧ (
      (0 ≤ a3 ∧ a3 < n46) ∧ (
      ∀ I49 : jx_I, I49 = jx_u I44 q40 a3.toNat (Int32.ofInt r45) → (
      (0 ≤ a3 ∧ a3 < n46) ∧ (
      (0 ≤ (I49 q40 a3.toNat).toInt → (
        J142 (-1) 1 l6 I49
      )) ∧ (¬ 0 ≤ (I49 q40 a3.toNat).toInt → (
        (X.2.1 a1 = some (8, 0)) ∧ (
        ∃ Q52 : Option Value → jx_I → Prop, (
        (jc V 2 107 (0, 0) [.ref a1, jy 1] X I49 R Q52 (fun _ _ => False)) ∧ (
        ∀ rv I54, Q52 rv I54 → ∃ r55 : Int, rv = some (jy r55) ∧ (
        (r55 = 0 ∨ r55 = 1) ∧ (
        Q (some (jy r55)) I54)))))
      )))))))))))))
    ))
  )) ∧ (s0 = 0 → (
    (X.2.1 a0 = some (4, 0)) ∧ (
    ∃ q58 : Nat, (
    (R a0 7 = some q58) ∧ (
    ∃ n60 : Nat, (
    (X.2.1 q58 = some (100, n60) ∧ n60 < 2147483648) ∧ (
    (0 ≤ a3 ∧ a3 < n60) ∧ (
    ((I q58 a3.toNat).toInt < 0 → (
      (s0 ≠ 0 → (
        J26 l4 s0 (l6 + 1) I
      )) ∧ (s0 = 0 → (
        ∃ Q63 : Option Value → jx_I → Prop, (
        (jc V 3 62 (0, 0) [.ref a0, .ref a1] X I R Q63 (fun _ _ => False)) ∧ (
        ∀ rv I65, Q63 rv I65 → ∃ r66 : Int, rv = some (jy r66) ∧ (
        (0 ≤ a3 ∧ a3 < n60) ∧ (
        ∀ I68 : jx_I, I68 = jx_u I65 q58 a3.toNat (Int32.ofInt r66) → (
        (0 ≤ a3 ∧ a3 < n60) ∧ (
        (0 ≤ (I68 q58 a3.toNat).toInt → (
          J142 (-1) 1 l6 I68
        )) ∧ (¬ 0 ≤ (I68 q58 a3.toNat).toInt → (
          (X.2.1 a1 = some (8, 0)) ∧ (
          ∃ Q71 : Option Value → jx_I → Prop, (
          (jc V 2 107 (0, 0) [.ref a1, jy 1] X I68 R Q71 (fun _ _ => False)) ∧ (
          ∀ rv I73, Q71 rv I73 → ∃ r74 : Int, rv = some (jy r74) ∧ (
          (r74 = 0 ∨ r74 = 1) ∧ (
          Q (some (jy r74)) I73)))))
        ))))))))
      ))
    )) ∧ (¬ (I q58 a3.toNat).toInt < 0 → (
      ∃ q76 : Nat, (
      (R a0 6 = some q76) ∧ (
      ∃ n78 : Nat, (
      (X.2.1 q76 = some (100, n78) ∧ n78 < 2147483648) ∧ (
      (0 ≤ a3 ∧ a3 < n78) ∧ (
      ∀ I81 : jx_I, I81 = jx_u I q76 a3.toNat (Int32.ofInt ((I a0 12).toInt)) → (
      Q (some (jy 1)) I81))))))
    ))))))))
  )))
/-- GC$Plan.readTest, from 142 -/
def wz_61_142 (V : jx_V) (X : jx_X) (R : jx_R) (Q : Option Value → jx_I → Prop) (QE : String → jx_I → Prop) (J26 : Int → Int → Int → jx_I → Prop) (J77 : Int → Int → Int → jx_I → Prop) (J142 : Int → Int → Int → jx_I → Prop) (a0 : Nat) (a1 : Nat) (a2 : Nat) (a3 : Int) (l4 : Int) (l5 : Int) (l6 : Int) (I : jx_I) : Prop :=
  J26 l4 l5 (l6 + 1) I
/-- GC$Plan.readTest -/
def wz_61 (V : jx_V) (X : jx_X) (R : jx_R) (Q : Option Value → jx_I → Prop) (QE : String → jx_I → Prop) (J26 : Int → Int → Int → jx_I → Prop) (J77 : Int → Int → Int → jx_I → Prop) (J142 : Int → Int → Int → jx_I → Prop) (a0 : Nat) (a1 : Nat) (a2 : Nat) (a3 : Int) (I : jx_I) : Prop :=
  (X.2.1 a0 = some (4, 0)) ∧ (
  ∃ q2 : Nat, (
  (R a0 5 = some q2) ∧ (
  ∃ n4 : Nat, (
  (X.2.1 q2 = some (100, n4) ∧ n4 < 2147483648) ∧ (
  (0 ≤ a3 ∧ a3 < n4) ∧ (
  ∀ I7 : jx_I, I7 = jx_u I q2 a3.toNat (Int32.ofInt ((I a0 12).toInt)) → (
  ∃ q8 : Nat, (
  (R a0 7 = some q8) ∧ (
  ∃ n10 : Nat, (
  (X.2.1 q8 = some (100, n10) ∧ n10 < 2147483648) ∧ (
  (0 ≤ a3 ∧ a3 < n10) ∧ (
  ∀ I13 : jx_I, I13 = jx_u I7 q8 a3.toNat (Int32.ofInt (-1)) → (
  J26 1 1 0 I13)))))))))))))
set_option maxRecDepth 20000 in
theorem wm_61 {V : jx_V} (hV : V.1.stackTraces = false) {X : jx_X} {R : jx_R} {I : jx_I} {Q : Option Value → jx_I → Prop} {QE : String → jx_I → Prop} {a0 : Nat} {a1 : Nat} {a2 : Nat} {a3 : Int} (r_a3 : -2147483648 ≤ a3 ∧ a3 < 2147483648) 
    (h : ∀ (J26 : Int → Int → Int → jx_I → Prop) (J77 : Int → Int → Int → jx_I → Prop) (J142 : Int → Int → Int → jx_I → Prop), ((∀ (l4 : Int) (l5 : Int) (l6 : Int) I, wz_61_26 V X R Q QE J26 J77 J142 a0 a1 a2 a3 l4 l5 l6 I → J26 l4 l5 l6 I) ∧ (∀ (s0 : Int) (l4 : Int) (l6 : Int) I, wz_61_77 V X R Q QE J26 J77 J142 a0 a1 a2 a3 s0 l4 l6 I → J77 s0 l4 l6 I) ∧ (∀ (l4 : Int) (l5 : Int) (l6 : Int) I, wz_61_142 V X R Q QE J26 J77 J142 a0 a1 a2 a3 l4 l5 l6 I → J142 l4 l5 l6 I)) → wz_61 V X R Q QE J26 J77 J142 a0 a1 a2 a3 I) : jc V 8 61 (0, 0) [.ref a0, .ref a1, .ref a2, jy a3] X I R Q QE := by
  refine jy_met hV (by decide) (n := 7) (rt := some .boolean) (hh := []) (ini := false) (C := jx_c61) (L := [some (.ref a0), some (.ref a1), some (.ref a2), some (jy a3), none, none, none]) jt_61 (Nat.le_of_ble_eq_true rfl) rfl ?_
  intro J hS
  have h := h (fun l4 l5 l6 I => J 26 [] [some (.ref a0), some (.ref a1), some (.ref a2), some (jy a3), some (jy l4), some (jy l5), some (jy l6)] (0, 0) X I R) (fun s0 l4 l6 I => J 77 [jy s0] [some (.ref a0), some (.ref a1), some (.ref a2), some (jy a3), some (jy l4), none, some (jy l6)] (0, 0) X I R) (fun l4 l5 l6 I => J 142 [] [some (.ref a0), some (.ref a1), some (.ref a2), some (jy a3), some (jy l4), some (jy l5), some (jy l6)] (0, 0) X I R) ?_
  · unfold wz_61 at h
    refine jy_aload_n hS rfl rfl ?_
    obtain ⟨g1, h⟩ := h
    obtain ⟨q2, h⟩ := h
    obtain ⟨g3, h⟩ := h
    refine jy_getR hS rfl (by decide) g1 g3 ?_
    refine jy_iload_n hS rfl rfl ?_
    refine jy_aload_n hS rfl rfl ?_
    refine jy_getI hS rfl (by decide) g1 ?_
    obtain ⟨n4, h⟩ := h
    obtain ⟨g5, h⟩ := h
    obtain ⟨g6, h⟩ := h
    refine jy_iast hS rfl g5.1 (Nat.le_of_lt g5.2) g6 ?_
    intro I7 e9
    have h := h I7 e9
    clear e9
    refine jy_aload_n hS rfl rfl ?_
    obtain ⟨q8, h⟩ := h
    obtain ⟨g9, h⟩ := h
    refine jy_getR hS rfl (by decide) g1 g9 ?_
    refine jy_iload_n hS rfl rfl ?_
    refine jy_iconst hS rfl ?_
    obtain ⟨n10, h⟩ := h
    obtain ⟨g11, h⟩ := h
    obtain ⟨g12, h⟩ := h
    refine jy_iast hS rfl g11.1 (Nat.le_of_lt g11.2) g12 ?_
    intro I13 e9
    have h := h I13 e9
    clear e9
    refine jy_iconst hS rfl ?_
    refine jy_istore hS rfl (Nat.le_of_ble_eq_true rfl) (L' := [some (.ref a0), some (.ref a1), some (.ref a2), some (jy a3), some (jy 1), none, none]) rfl ?_
    refine jy_iconst hS rfl ?_
    refine jy_istore hS rfl (Nat.le_of_ble_eq_true rfl) (L' := [some (.ref a0), some (.ref a1), some (.ref a2), some (jy a3), some (jy 1), some (jy 1), none]) rfl ?_
    refine jy_iconst hS rfl ?_
    refine jy_istore hS rfl (Nat.le_of_ble_eq_true rfl) (L' := [some (.ref a0), some (.ref a1), some (.ref a2), some (jy a3), some (jy 1), some (jy 1), some (jy 0)]) rfl ?_
    exact jy_join hS h rfl (jy_sub_s (jy_sub_s (jy_sub_s (jy_sub_s (jy_sub_s (jy_sub_s (jy_sub_s jy_sub_0)))))))
  refine ⟨?_, ?_, ?_⟩
  · intro l4 l5 l6 I h
    unfold wz_61_26 at h
    refine jy_iload hS rfl rfl ?_
    refine jy_sipush hS rfl (by decide) ?_
    obtain ⟨g14, h⟩ := h
    refine jy_icmp_ge hS rfl ⟨g14, ⟨by decide, by decide⟩⟩ (fun hq => ?_) (fun hq => ?_)
    · have h := h.1 hq
      refine jy_aload_n hS rfl rfl ?_
      refine jy_iconst hS rfl ?_
      obtain ⟨g15, h⟩ := h
      obtain ⟨Q16, h⟩ := h
      obtain ⟨g17, h⟩ := h
      refine jy_callV hS rfl rfl rfl (Nat.le_of_ble_eq_true rfl) (Or.inl g15) g17 (by decide) ⟨by decide, by decide⟩ (Nat.le_of_ble_eq_true rfl) ?_ ?_
      rotate_left
      · exact fun Ex Xx Ix Rx hp => hp.2.2.2.elim
      intro rv Xx I18 Rx hp
      obtain ⟨e1, e2, hp⟩ := hp
      rw [e1, e2]
      clear e1 e2
      obtain ⟨r19, e1, h⟩ := h rv I18 hp
      rw [e1]
      clear e1
      change J 153 [jy r19] _ (0, 0) _ _ _
      obtain ⟨g20, h⟩ := h
      exact jy_iret hS rfl (by rcases g20 with q | q <;> rw [q] <;> rfl) ⟨rfl, rfl, h⟩
    · have h := h.2 hq
      refine jy_aload_n hS rfl rfl ?_
      refine jy_aload_n hS rfl rfl ?_
      refine jy_aload_n hS rfl rfl ?_
      refine jy_iload hS rfl rfl ?_
      refine jy_iload hS rfl rfl ?_
      refine jy_imul hS rfl ?_
      obtain ⟨g21, h⟩ := h
      obtain ⟨Q22, h⟩ := h
      obtain ⟨g23, h⟩ := h
      refine jy_callV hS rfl rfl rfl (Nat.le_of_ble_eq_true rfl) (Or.inl g21) g23 (by decide) ⟨by decide, by decide⟩ (Nat.le_of_ble_eq_true rfl) ?_ ?_
      rotate_left
      · exact fun Ex Xx Ix Rx hp => hp.2.2.2.elim
      intro rv Xx I24 Rx hp
      obtain ⟨e1, e2, hp⟩ := hp
      rw [e1, e2]
      clear e1 e2
      obtain ⟨r25, e1, h⟩ := h rv I24 hp
      rw [e1]
      clear e1
      change J 45 [jy r25] _ (0, 0) _ _ _
      obtain ⟨g26, h⟩ := h
      refine jy_if_ne hS rfl g26 (fun hq => ?_) (fun hq => ?_)
      · have h := h.1 hq
        refine jy_aload_n hS rfl rfl ?_
        refine jy_bipush hS rfl (by decide) ?_
        obtain ⟨g27, h⟩ := h
        obtain ⟨Q28, h⟩ := h
        obtain ⟨g29, h⟩ := h
        refine jy_callV hS rfl rfl rfl (Nat.le_of_ble_eq_true rfl) (Or.inl g27) g29 (by decide) ⟨by decide, by decide⟩ (Nat.le_of_ble_eq_true rfl) ?_ ?_
        rotate_left
        · exact fun Ex Xx Ix Rx hp => hp.2.2.2.elim
        intro rv Xx I30 Rx hp
        obtain ⟨e1, e2, hp⟩ := hp
        rw [e1, e2]
        clear e1 e2
        obtain ⟨r31, e1, h⟩ := h rv I30 hp
        rw [e1]
        clear e1
        change J 56 [jy r31] _ (0, 0) _ _ _
        obtain ⟨g32, h⟩ := h
        refine jy_if_eq hS rfl g32 (fun hq => ?_) (fun hq => ?_)
        · have h := h.1 hq
          refine jy_aload_n hS rfl rfl ?_
          refine jy_bipush hS rfl (by decide) ?_
          obtain ⟨Q33, h⟩ := h
          obtain ⟨g34, h⟩ := h
          refine jy_callV hS rfl rfl rfl (Nat.le_of_ble_eq_true rfl) (Or.inl g27) g34 (by decide) ⟨by decide, by decide⟩ (Nat.le_of_ble_eq_true rfl) ?_ ?_
          rotate_left
          · exact fun Ex Xx Ix Rx hp => hp.2.2.2.elim
          intro rv Xx I35 Rx hp
          obtain ⟨e1, e2, hp⟩ := hp
          rw [e1, e2]
          clear e1 e2
          obtain ⟨r36, e1, h⟩ := h rv I35 hp
          rw [e1]
          clear e1
          change J 69 [jy r36] _ (0, 0) _ _ _
          obtain ⟨g37, h⟩ := h
          refine jy_if_eq hS rfl g37 (fun hq => ?_) (fun hq => ?_)
          · have h := h.1 hq
            refine jy_iconst hS rfl ?_
            exact jy_join hS h rfl (jy_sub_s (jy_sub_s (jy_sub_s (jy_sub_s (jy_sub_s (jy_sub_n (jy_sub_s jy_sub_0)))))))
          · have h := h.2 hq
            refine jy_iconst hS rfl ?_
            refine jy_goto hS rfl ?_
            exact jy_join hS h rfl (jy_sub_s (jy_sub_s (jy_sub_s (jy_sub_s (jy_sub_s (jy_sub_n (jy_sub_s jy_sub_0)))))))
        · have h := h.2 hq
          refine jy_iconst hS rfl ?_
          refine jy_goto hS rfl ?_
          exact jy_join hS h rfl (jy_sub_s (jy_sub_s (jy_sub_s (jy_sub_s (jy_sub_s (jy_sub_n (jy_sub_s jy_sub_0)))))))
      · have h := h.2 hq
        refine jy_iconst hS rfl ?_
        exact jy_iret hS rfl rfl ⟨rfl, rfl, h⟩
  · intro s0 l4 l6 I h
    unfold wz_61_77 at h
    refine jy_istore hS rfl (Nat.le_of_ble_eq_true rfl) (L' := [some (.ref a0), some (.ref a1), some (.ref a2), some (jy a3), some (jy l4), some (jy s0), some (jy l6)]) rfl ?_
    refine jy_iload hS rfl rfl ?_
    obtain ⟨g38, h⟩ := h
    refine jy_if_ne hS rfl g38 (fun hq => ?_) (fun hq => ?_)
    · have h := h.1 hq
      refine jy_iload hS rfl rfl ?_
      refine jy_if_ne hS rfl g38 (fun hq => ?_) (fun hq => ?_)
      · have h := h.1 hq
        refine jy_iinc hS rfl rfl (L' := [some (.ref a0), some (.ref a1), some (.ref a2), some (jy a3), some (jy l4), some (jy s0), some (jy (l6 + 1))]) rfl ?_
        refine jy_goto hS rfl ?_
        exact jy_join hS h rfl (jy_sub_s (jy_sub_s (jy_sub_s (jy_sub_s (jy_sub_s (jy_sub_s (jy_sub_s jy_sub_0)))))))
      · have h := h.2 hq
        refine jy_aload_n hS rfl rfl ?_
        obtain ⟨g39, h⟩ := h
        obtain ⟨q40, h⟩ := h
        obtain ⟨g41, h⟩ := h
        refine jy_getR hS rfl (by decide) g39 g41 ?_
        refine jy_iload_n hS rfl rfl ?_
        refine jy_aload_n hS rfl rfl ?_
        refine jy_aload_n hS rfl rfl ?_
        obtain ⟨Q42, h⟩ := h
        obtain ⟨g43, h⟩ := h
        refine jy_callV hS rfl rfl rfl (Nat.le_of_ble_eq_true rfl) (Or.inl g39) g43 (by decide) ⟨by decide, by decide⟩ (Nat.le_of_ble_eq_true rfl) ?_ ?_
        rotate_left
        · exact fun Ex Xx Ix Rx hp => hp.2.2.2.elim
        intro rv Xx I44 Rx hp
        obtain ⟨e1, e2, hp⟩ := hp
        rw [e1, e2]
        clear e1 e2
        obtain ⟨r45, e1, h⟩ := h rv I44 hp
        rw [e1]
        clear e1
        change J 120 [jy r45, jy a3, .ref q40] _ (0, 0) _ _ _
        obtain ⟨n46, h⟩ := h
        obtain ⟨g47, h⟩ := h
        obtain ⟨g48, h⟩ := h
        refine jy_iast hS rfl g47.1 (Nat.le_of_lt g47.2) g48 ?_
        intro I49 e9
        have h := h I49 e9
        clear e9
        refine jy_aload_n hS rfl rfl ?_
        refine jy_getR hS rfl (by decide) g39 g41 ?_
        refine jy_iload_n hS rfl rfl ?_
        obtain ⟨g50, h⟩ := h
        refine jy_iald hS rfl g47.1 (Nat.le_of_lt g47.2) g50 ?_
        refine jy_if_ge hS rfl (jy_rng _) (fun hq => ?_) (fun hq => ?_)
        · have h := h.1 hq
          refine jy_iconst hS rfl ?_
          refine jy_istore hS rfl (Nat.le_of_ble_eq_true rfl) (L' := [some (.ref a0), some (.ref a1), some (.ref a2), some (jy a3), some (jy (-1)), some (jy s0), some (jy l6)]) rfl ?_
          refine jy_iconst hS rfl ?_
          refine jy_istore hS rfl (Nat.le_of_ble_eq_true rfl) (L' := [some (.ref a0), some (.ref a1), some (.ref a2), some (jy a3), some (jy (-1)), some (jy 1), some (jy l6)]) rfl ?_
          exact jy_join hS h rfl (jy_sub_s (jy_sub_s (jy_sub_s (jy_sub_s (jy_sub_s (jy_sub_s (jy_sub_s jy_sub_0)))))))
        · have h := h.2 hq
          refine jy_aload_n hS rfl rfl ?_
          refine jy_iconst hS rfl ?_
          obtain ⟨g51, h⟩ := h
          obtain ⟨Q52, h⟩ := h
          obtain ⟨g53, h⟩ := h
          refine jy_callV hS rfl rfl rfl (Nat.le_of_ble_eq_true rfl) (Or.inl g51) g53 (by decide) ⟨by decide, by decide⟩ (Nat.le_of_ble_eq_true rfl) ?_ ?_
          rotate_left
          · exact fun Ex Xx Ix Rx hp => hp.2.2.2.elim
          intro rv Xx I54 Rx hp
          obtain ⟨e1, e2, hp⟩ := hp
          rw [e1, e2]
          clear e1 e2
          obtain ⟨r55, e1, h⟩ := h rv I54 hp
          rw [e1]
          clear e1
          change J 135 [jy r55] _ (0, 0) _ _ _
          obtain ⟨g56, h⟩ := h
          exact jy_iret hS rfl (by rcases g56 with q | q <;> rw [q] <;> rfl) ⟨rfl, rfl, h⟩
    · have h := h.2 hq
      refine jy_aload_n hS rfl rfl ?_
      obtain ⟨g57, h⟩ := h
      obtain ⟨q58, h⟩ := h
      obtain ⟨g59, h⟩ := h
      refine jy_getR hS rfl (by decide) g57 g59 ?_
      refine jy_iload_n hS rfl rfl ?_
      obtain ⟨n60, h⟩ := h
      obtain ⟨g61, h⟩ := h
      obtain ⟨g62, h⟩ := h
      refine jy_iald hS rfl g61.1 (Nat.le_of_lt g61.2) g62 ?_
      refine jy_if_lt hS rfl (jy_rng _) (fun hq => ?_) (fun hq => ?_)
      · have h := h.1 hq
        refine jy_iload hS rfl rfl ?_
        refine jy_if_ne hS rfl g38 (fun hq => ?_) (fun hq => ?_)
        · have h := h.1 hq
          refine jy_iinc hS rfl rfl (L' := [some (.ref a0), some (.ref a1), some (.ref a2), some (jy a3), some (jy l4), some (jy s0), some (jy (l6 + 1))]) rfl ?_
          refine jy_goto hS rfl ?_
          exact jy_join hS h rfl (jy_sub_s (jy_sub_s (jy_sub_s (jy_sub_s (jy_sub_s (jy_sub_s (jy_sub_s jy_sub_0)))))))
        · have h := h.2 hq
          refine jy_aload_n hS rfl rfl ?_
          refine jy_getR hS rfl (by decide) g57 g59 ?_
          refine jy_iload_n hS rfl rfl ?_
          refine jy_aload_n hS rfl rfl ?_
          refine jy_aload_n hS rfl rfl ?_
          obtain ⟨Q63, h⟩ := h
          obtain ⟨g64, h⟩ := h
          refine jy_callV hS rfl rfl rfl (Nat.le_of_ble_eq_true rfl) (Or.inl g57) g64 (by decide) ⟨by decide, by decide⟩ (Nat.le_of_ble_eq_true rfl) ?_ ?_
          rotate_left
          · exact fun Ex Xx Ix Rx hp => hp.2.2.2.elim
          intro rv Xx I65 Rx hp
          obtain ⟨e1, e2, hp⟩ := hp
          rw [e1, e2]
          clear e1 e2
          obtain ⟨r66, e1, h⟩ := h rv I65 hp
          rw [e1]
          clear e1
          change J 120 [jy r66, jy a3, .ref q58] _ (0, 0) _ _ _
          obtain ⟨g67, h⟩ := h
          refine jy_iast hS rfl g61.1 (Nat.le_of_lt g61.2) g67 ?_
          intro I68 e9
          have h := h I68 e9
          clear e9
          refine jy_aload_n hS rfl rfl ?_
          refine jy_getR hS rfl (by decide) g57 g59 ?_
          refine jy_iload_n hS rfl rfl ?_
          obtain ⟨g69, h⟩ := h
          refine jy_iald hS rfl g61.1 (Nat.le_of_lt g61.2) g69 ?_
          refine jy_if_ge hS rfl (jy_rng _) (fun hq => ?_) (fun hq => ?_)
          · have h := h.1 hq
            refine jy_iconst hS rfl ?_
            refine jy_istore hS rfl (Nat.le_of_ble_eq_true rfl) (L' := [some (.ref a0), some (.ref a1), some (.ref a2), some (jy a3), some (jy (-1)), some (jy s0), some (jy l6)]) rfl ?_
            refine jy_iconst hS rfl ?_
            refine jy_istore hS rfl (Nat.le_of_ble_eq_true rfl) (L' := [some (.ref a0), some (.ref a1), some (.ref a2), some (jy a3), some (jy (-1)), some (jy 1), some (jy l6)]) rfl ?_
            exact jy_join hS h rfl (jy_sub_s (jy_sub_s (jy_sub_s (jy_sub_s (jy_sub_s (jy_sub_s (jy_sub_s jy_sub_0)))))))
          · have h := h.2 hq
            refine jy_aload_n hS rfl rfl ?_
            refine jy_iconst hS rfl ?_
            obtain ⟨g70, h⟩ := h
            obtain ⟨Q71, h⟩ := h
            obtain ⟨g72, h⟩ := h
            refine jy_callV hS rfl rfl rfl (Nat.le_of_ble_eq_true rfl) (Or.inl g70) g72 (by decide) ⟨by decide, by decide⟩ (Nat.le_of_ble_eq_true rfl) ?_ ?_
            rotate_left
            · exact fun Ex Xx Ix Rx hp => hp.2.2.2.elim
            intro rv Xx I73 Rx hp
            obtain ⟨e1, e2, hp⟩ := hp
            rw [e1, e2]
            clear e1 e2
            obtain ⟨r74, e1, h⟩ := h rv I73 hp
            rw [e1]
            clear e1
            change J 135 [jy r74] _ (0, 0) _ _ _
            obtain ⟨g75, h⟩ := h
            exact jy_iret hS rfl (by rcases g75 with q | q <;> rw [q] <;> rfl) ⟨rfl, rfl, h⟩
      · have h := h.2 hq
        refine jy_aload_n hS rfl rfl ?_
        obtain ⟨q76, h⟩ := h
        obtain ⟨g77, h⟩ := h
        refine jy_getR hS rfl (by decide) g57 g77 ?_
        refine jy_iload_n hS rfl rfl ?_
        refine jy_aload_n hS rfl rfl ?_
        refine jy_getI hS rfl (by decide) g57 ?_
        obtain ⟨n78, h⟩ := h
        obtain ⟨g79, h⟩ := h
        obtain ⟨g80, h⟩ := h
        refine jy_iast hS rfl g79.1 (Nat.le_of_lt g79.2) g80 ?_
        intro I81 e9
        have h := h I81 e9
        clear e9
        refine jy_iconst hS rfl ?_
        exact jy_iret hS rfl rfl ⟨rfl, rfl, h⟩
  · intro l4 l5 l6 I h
    unfold wz_61_142 at h
    refine jy_iinc hS rfl rfl (L' := [some (.ref a0), some (.ref a1), some (.ref a2), some (jy a3), some (jy l4), some (jy l5), some (jy (l6 + 1))]) rfl ?_
    refine jy_goto hS rfl ?_
    exact jy_join hS h rfl (jy_sub_s (jy_sub_s (jy_sub_s (jy_sub_s (jy_sub_s (jy_sub_s (jy_sub_s jy_sub_0)))))))
theorem jt_62 : jx_ml 62 = 2 ∧ jx_rt 62 = some .int ∧ jx_hz 62 = [] ∧ decide ((jx_nm 62).name = "<init>") = false ∧ jx_code 62 = jx_c62 := by decide +kernel
/-- GC$Plan.readRelation -/
def wz_62 (V : jx_V) (X : jx_X) (R : jx_R) (Q : Option Value → jx_I → Prop) (QE : String → jx_I → Prop)  (a0 : Nat) (a1 : Nat) (I : jx_I) : Prop :=
  (X.2.1 a1 = some (8, 0)) ∧ (
  ∃ Q2 : Option Value → jx_I → Prop, (
  (jc V 2 112 (0, 0) [.ref a1, jy 60] X I R Q2 (fun _ _ => False)) ∧ (
  ∀ rv I4, Q2 rv I4 → ∃ r5 : Int, rv = some (jy r5) ∧ (
  (-2147483648 ≤ r5 ∧ r5 < 2147483648) ∧ (
  (r5 = 0 → (
    ∃ Q7 : Option Value → jx_I → Prop, (
    (jc V 2 112 (0, 0) [.ref a1, jy 62] X I4 R Q7 (fun _ _ => False)) ∧ (
    ∀ rv I9, Q7 rv I9 → ∃ r10 : Int, rv = some (jy r10) ∧ (
    (-2147483648 ≤ r10 ∧ r10 < 2147483648) ∧ (
    (r10 = 0 → (
      ∃ Q12 : Option Value → jx_I → Prop, (
      (jc V 2 112 (0, 0) [.ref a1, jy 61] X I9 R Q12 (fun _ _ => False)) ∧ (
      ∀ rv I14, Q12 rv I14 → ∃ r15 : Int, rv = some (jy r15) ∧ (
      (-2147483648 ≤ r15 ∧ r15 < 2147483648) ∧ (
      (r15 = 0 → (
        Q (some (jy (-1))) I14
      )) ∧ (¬ r15 = 0 → (
        Q (some (jy 2)) I14
      ))))))
    )) ∧ (¬ r10 = 0 → (
      Q (some (jy 1)) I9
    ))))))
  )) ∧ (¬ r5 = 0 → (
    Q (some (jy 0)) I4
  )))))))
set_option maxRecDepth 20000 in
theorem wm_62 {V : jx_V} (hV : V.1.stackTraces = false) {X : jx_X} {R : jx_R} {I : jx_I} {Q : Option Value → jx_I → Prop} {QE : String → jx_I → Prop} {a0 : Nat} {a1 : Nat}  
    (h : wz_62 V X R Q QE  a0 a1 I) : jc V 3 62 (0, 0) [.ref a0, .ref a1] X I R Q QE := by
  refine jy_met hV (by decide) (n := 2) (rt := some .int) (hh := []) (ini := false) (C := jx_c62) (L := [some (.ref a0), some (.ref a1)]) jt_62 (Nat.le_of_ble_eq_true rfl) rfl ?_
  intro J hS
  unfold wz_62 at h
  refine jy_aload_n hS rfl rfl ?_
  refine jy_bipush hS rfl (by decide) ?_
  obtain ⟨g1, h⟩ := h
  obtain ⟨Q2, h⟩ := h
  obtain ⟨g3, h⟩ := h
  refine jy_callV hS rfl rfl rfl (Nat.le_of_ble_eq_true rfl) (Or.inl g1) g3 (by decide) ⟨by decide, by decide⟩ (Nat.le_of_ble_eq_true rfl) ?_ ?_
  rotate_left
  · exact fun Ex Xx Ix Rx hp => hp.2.2.2.elim
  intro rv Xx I4 Rx hp
  obtain ⟨e1, e2, hp⟩ := hp
  rw [e1, e2]
  clear e1 e2
  obtain ⟨r5, e1, h⟩ := h rv I4 hp
  rw [e1]
  clear e1
  change J 6 [jy r5] _ (0, 0) _ _ _
  obtain ⟨g6, h⟩ := h
  refine jy_if_eq hS rfl g6 (fun hq => ?_) (fun hq => ?_)
  · have h := h.1 hq
    refine jy_aload_n hS rfl rfl ?_
    refine jy_bipush hS rfl (by decide) ?_
    obtain ⟨Q7, h⟩ := h
    obtain ⟨g8, h⟩ := h
    refine jy_callV hS rfl rfl rfl (Nat.le_of_ble_eq_true rfl) (Or.inl g1) g8 (by decide) ⟨by decide, by decide⟩ (Nat.le_of_ble_eq_true rfl) ?_ ?_
    rotate_left
    · exact fun Ex Xx Ix Rx hp => hp.2.2.2.elim
    intro rv Xx I9 Rx hp
    obtain ⟨e1, e2, hp⟩ := hp
    rw [e1, e2]
    clear e1 e2
    obtain ⟨r10, e1, h⟩ := h rv I9 hp
    rw [e1]
    clear e1
    change J 17 [jy r10] _ (0, 0) _ _ _
    obtain ⟨g11, h⟩ := h
    refine jy_if_eq hS rfl g11 (fun hq => ?_) (fun hq => ?_)
    · have h := h.1 hq
      refine jy_aload_n hS rfl rfl ?_
      refine jy_bipush hS rfl (by decide) ?_
      obtain ⟨Q12, h⟩ := h
      obtain ⟨g13, h⟩ := h
      refine jy_callV hS rfl rfl rfl (Nat.le_of_ble_eq_true rfl) (Or.inl g1) g13 (by decide) ⟨by decide, by decide⟩ (Nat.le_of_ble_eq_true rfl) ?_ ?_
      rotate_left
      · exact fun Ex Xx Ix Rx hp => hp.2.2.2.elim
      intro rv Xx I14 Rx hp
      obtain ⟨e1, e2, hp⟩ := hp
      rw [e1, e2]
      clear e1 e2
      obtain ⟨r15, e1, h⟩ := h rv I14 hp
      rw [e1]
      clear e1
      change J 28 [jy r15] _ (0, 0) _ _ _
      obtain ⟨g16, h⟩ := h
      refine jy_if_eq hS rfl g16 (fun hq => ?_) (fun hq => ?_)
      · have h := h.1 hq
        refine jy_iconst hS rfl ?_
        exact jy_iret hS rfl rfl ⟨rfl, rfl, h⟩
      · have h := h.2 hq
        refine jy_iconst hS rfl ?_
        refine jy_goto hS rfl ?_
        exact jy_iret hS rfl rfl ⟨rfl, rfl, h⟩
    · have h := h.2 hq
      refine jy_iconst hS rfl ?_
      exact jy_iret hS rfl rfl ⟨rfl, rfl, h⟩
  · have h := h.2 hq
    refine jy_iconst hS rfl ?_
    exact jy_iret hS rfl rfl ⟨rfl, rfl, h⟩
