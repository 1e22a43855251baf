theorem jt_288 : jx_ml 288 = 9 ∧ jx_rt 288 = some .int ∧ jx_hz 288 = [] ∧ decide ((jx_nm 288).name = "<init>") = false ∧ jx_code 288 = jx_c288 := by decide +kernel
/-- GCModel.compared, from 33 -/
def wz_288_33 (V : jx_V) (X : jx_X) (R : jx_R) (Q : Option Value → jx_I → Prop) (QE : String → jx_I → Prop) (J33 : Nat → Int → jx_I → Prop) (J48 : Int → Int → jx_I → Prop) (J84 : Int → Int → Int → Int → Int → jx_I → Prop) (J126 : Int → Int → Int → Int → Int → Int → jx_I → Prop) (J161 : Int → Int → Int → Int → Int → Int → jx_I → Prop) (a0 : Nat) (a1 : Int) (a2 : Int) (s0 : Nat) (s1 : Int) (I : jx_I) : Prop :=
  (X.2.1 s0 = some (12, 0)) ∧ (
  ∃ Q14 : Option Value → jx_I → Prop, (
  (jc V 1 202 (0, 0) [.ref s0, jy s1, jy 1, jy 2] X I R Q14 (fun _ _ => False)) ∧ (
  ∀ rv I16, Q14 rv I16 → ∃ r17 : Int, rv = some (jy r17) ∧ (
  (-2147483648 ≤ r17 ∧ r17 < 2147483648) ∧ (
  (r17 = 0 → (
    J48 0 0 I16
  )) ∧ (¬ r17 = 0 → (
    Q (some (jy 0)) I16
  )))))))
/-- GCModel.compared, from 48 -/
def wz_288_48 (V : jx_V) (X : jx_X) (R : jx_R) (Q : Option Value → jx_I → Prop) (QE : String → jx_I → Prop) (J33 : Nat → Int → jx_I → Prop) (J48 : Int → Int → jx_I → Prop) (J84 : Int → Int → Int → Int → Int → jx_I → Prop) (J126 : Int → Int → Int → Int → Int → Int → jx_I → Prop) (J161 : Int → Int → Int → Int → Int → Int → jx_I → Prop) (a0 : Nat) (a1 : Int) (a2 : Int) (l3 : Int) (l4 : Int) (I : jx_I) : Prop :=
  (X.2.1 a0 = some (12, 0)) ∧ (
  ∃ q20 : Nat, (
  (R a0 11 = some q20) ∧ (
  ∃ n22 : Nat, (
  (X.2.1 q20 = some (100, n22) ∧ n22 < 2147483648) ∧ (
  (0 ≤ (0 : Int) ∧ (0 : Int) < n22) ∧ (
  (-2147483648 ≤ l4 ∧ l4 < 2147483648) ∧ (
  ((I q20 (0 : Int).toNat).toInt ≤ l4 → (
    Q (some (jy l3)) I
  )) ∧ (¬ (I q20 (0 : Int).toNat).toInt ≤ l4 → (
    ∃ Q26 : Option Value → jx_I → Prop, (
    (jc V 1 287 (0, 0) [.ref a0, jy a2, jy l4] X I R Q26 (fun _ _ => False)) ∧ (
    ∀ rv I28, Q26 rv I28 → ∃ r29 : Int, rv = some (jy r29) ∧ (
    ∃ Q30 : Option Value → jx_I → Prop, (
    (jc V 1 287 (0, 0) [.ref a0, jy a1, jy l4] X I28 R Q30 (fun _ _ => False)) ∧ (
    ∀ rv I32, Q30 rv I32 → ∃ r33 : Int, rv = some (jy r33) ∧ (
    J84 l3 l4 ((Int32.ofInt r29 / Int32.ofInt 2).toInt) ((Int32.ofInt r33 / Int32.ofInt 2).toInt) 0 I32))))))
  )))))))))
/-- GCModel.compared, from 84 -/
def wz_288_84 (V : jx_V) (X : jx_X) (R : jx_R) (Q : Option Value → jx_I → Prop) (QE : String → jx_I → Prop) (J33 : Nat → Int → jx_I → Prop) (J48 : Int → Int → jx_I → Prop) (J84 : Int → Int → Int → Int → Int → jx_I → Prop) (J126 : Int → Int → Int → Int → Int → Int → jx_I → Prop) (J161 : Int → Int → Int → Int → Int → Int → jx_I → Prop) (a0 : Nat) (a1 : Int) (a2 : Int) (l3 : Int) (l4 : Int) (l5 : Int) (l6 : Int) (l7 : Int) (I : jx_I) : Prop :=
  (X.2.1 a0 = some (12, 0)) ∧ (
  ∃ q35 : Nat, (
  (R a0 11 = some q35) ∧ (
  ∃ n37 : Nat, (
  (X.2.1 q35 = some (100, n37) ∧ n37 < 2147483648) ∧ (
  (0 ≤ (1 : Int) ∧ (1 : Int) < n37) ∧ (
  (-2147483648 ≤ l7 ∧ l7 < 2147483648) ∧ (
  ((I q35 (1 : Int).toNat).toInt ≤ l7 → (
    J48 l3 (l4 + 1) I
  )) ∧ (¬ (I q35 (1 : Int).toNat).toInt ≤ l7 → (
    ((Int32.ofInt ((Int32.ofInt a1 >>> (Int32.ofInt l7 &&& 31)).toInt) &&& Int32.ofInt 1).toInt ≠ 1 → (
      ((Int32.ofInt ((Int32.ofInt a2 >>> (Int32.ofInt l7 &&& 31)).toInt) &&& Int32.ofInt 1).toInt ≠ 1 → (
        J126 0 l3 l4 l5 l6 l7 I
      )) ∧ ((Int32.ofInt ((Int32.ofInt a2 >>> (Int32.ofInt l7 &&& 31)).toInt) &&& Int32.ofInt 1).toInt = 1 → (
        J126 l6 l3 l4 l5 l6 l7 I
      ))
    )) ∧ ((Int32.ofInt ((Int32.ofInt a1 >>> (Int32.ofInt l7 &&& 31)).toInt) &&& Int32.ofInt 1).toInt = 1 → (
      J126 l5 l3 l4 l5 l6 l7 I
    ))
  )))))))))
/-- GCModel.compared, from 126 -/
def wz_288_126 (V : jx_V) (X : jx_X) (R : jx_R) (Q : Option Value → jx_I → Prop) (QE : String → jx_I → Prop) (J33 : Nat → Int → jx_I → Prop) (J48 : Int → Int → jx_I → Prop) (J84 : Int → Int → Int → Int → Int → jx_I → Prop) (J126 : Int → Int → Int → Int → Int → Int → jx_I → Prop) (J161 : Int → Int → Int → Int → Int → Int → jx_I → Prop) (a0 : Nat) (a1 : Int) (a2 : Int) (s0 : Int) (l3 : Int) (l4 : Int) (l5 : Int) (l6 : Int) (l7 : Int) (I : jx_I) : Prop :=
  (X.2.1 a0 = some (12, 0)) ∧ (
  ∃ q42 : Nat, (
  (R a0 29 = some q42) ∧ (
  ∃ n44 : Nat, (
  (X.2.1 q42 = some (104, n44) ∧ n44 < 2147483648) ∧ (
  (0 ≤ l7 ∧ l7 < n44) ∧ (
  ∃ q47 : Nat, (
  (R q42 l7.toNat = some q47) ∧ (
  ∃ n49 : Nat, (
  (X.2.1 q47 = some (100, n49) ∧ n49 < 2147483648) ∧ (
  (0 ≤ l4 ∧ l4 < n49) ∧ (
  (-2147483648 ≤ s0 ∧ s0 < 2147483648) ∧ (
  (s0 ≤ (I q47 l4.toNat).toInt → (
    J161 l3 0 l4 l5 l6 l7 I
  )) ∧ (¬ s0 ≤ (I q47 l4.toNat).toInt → (
    (0 ≤ l7 ∧ l7 < n44) ∧ (
    ∃ q54 : Nat, (
    (R q42 l7.toNat = some q54) ∧ (
    ∃ n56 : Nat, (
    (X.2.1 q54 = some (100, n56) ∧ n56 < 2147483648) ∧ (
    (0 ≤ l4 ∧ l4 < n56) ∧ (
    J161 l3 (s0 - (I q54 l4.toNat).toInt) l4 l5 l6 l7 I))))))
  ))))))))))))))
/-- GCModel.compared, from 161 -/
def wz_288_161 (V : jx_V) (X : jx_X) (R : jx_R) (Q : Option Value → jx_I → Prop) (QE : String → jx_I → Prop) (J33 : Nat → Int → jx_I → Prop) (J48 : Int → Int → jx_I → Prop) (J84 : Int → Int → Int → Int → Int → jx_I → Prop) (J126 : Int → Int → Int → Int → Int → Int → jx_I → Prop) (J161 : Int → Int → Int → Int → Int → Int → jx_I → Prop) (a0 : Nat) (a1 : Int) (a2 : Int) (s0 : Int) (s1 : Int) (l4 : Int) (l5 : Int) (l6 : Int) (l7 : Int) (I : jx_I) : Prop :=
  J84 (s0 + s1) l4 l5 l6 (l7 + 1) I
/-- GCModel.compared -/
def wz_288 (V : jx_V) (X : jx_X) (R : jx_R) (Q : Option Value → jx_I → Prop) (QE : String → jx_I → Prop) (J33 : Nat → Int → jx_I → Prop) (J48 : Int → Int → jx_I → Prop) (J84 : Int → Int → Int → Int → Int → jx_I → Prop) (J126 : Int → Int → Int → Int → Int → Int → jx_I → Prop) (J161 : Int → Int → Int → Int → Int → Int → jx_I → Prop) (a0 : Nat) (a1 : Int) (a2 : Int) (I : jx_I) : Prop :=
  (X.2.1 a0 = some (12, 0)) ∧ (
  ∀ I2 : jx_I, I2 = jx_u I a0 0 (Int32.ofInt 0) → (
  ∃ Q3 : Option Value → jx_I → Prop, (
  (jc V 2 250 (0, 0) [.ref a0, jy a1] X I2 R Q3 (fun _ _ => False)) ∧ (
  ∀ rv I5, Q3 rv I5 → ∃ r6 : Int, rv = some (jy r6) ∧ (
  (-2147483648 ≤ r6 ∧ r6 < 2147483648) ∧ (
  (r6 = 0 → (
    J33 a0 1 I5
  )) ∧ (¬ r6 = 0 → (
    ∃ Q8 : Option Value → jx_I → Prop, (
    (jc V 2 250 (0, 0) [.ref a0, jy a2] X I5 R Q8 (fun _ _ => False)) ∧ (
    ∀ rv I10, Q8 rv I10 → ∃ r11 : Int, rv = some (jy r11) ∧ (
    (-2147483648 ≤ r11 ∧ r11 < 2147483648) ∧ (
    (r11 = 0 → (
      J33 a0 1 I10
    )) ∧ (¬ r11 = 0 → (
      ((Int32.ofInt a1 &&& Int32.ofInt a2).toInt = 0 → (
        J33 a0 0 I10
      )) ∧ (¬ (Int32.ofInt a1 &&& Int32.ofInt a2).toInt = 0 → (
        J33 a0 1 I10
      ))
    ))))))
  ))))))))
set_option maxRecDepth 20000 in
theorem wm_288 {V : jx_V} (hV : V.1.stackTraces = false) {X : jx_X} {R : jx_R} {I : jx_I} {Q : Option Value → jx_I → Prop} {QE : String → jx_I → Prop} {a0 : Nat} {a1 : Int} {a2 : Int} (r_a1 : -2147483648 ≤ a1 ∧ a1 < 2147483648) (r_a2 : -2147483648 ≤ a2 ∧ a2 < 2147483648) 
    (h : ∀ (J33 : Nat → Int → jx_I → Prop) (J48 : Int → Int → jx_I → Prop) (J84 : Int → Int → Int → Int → Int → jx_I → Prop) (J126 : Int → Int → Int → Int → Int → Int → jx_I → Prop) (J161 : Int → Int → Int → Int → Int → Int → jx_I → Prop), ((∀ (s0 : Nat) (s1 : Int) I, wz_288_33 V X R Q QE J33 J48 J84 J126 J161 a0 a1 a2 s0 s1 I → J33 s0 s1 I) ∧ (∀ (l3 : Int) (l4 : Int) I, wz_288_48 V X R Q QE J33 J48 J84 J126 J161 a0 a1 a2 l3 l4 I → J48 l3 l4 I) ∧ (∀ (l3 : Int) (l4 : Int) (l5 : Int) (l6 : Int) (l7 : Int) I, wz_288_84 V X R Q QE J33 J48 J84 J126 J161 a0 a1 a2 l3 l4 l5 l6 l7 I → J84 l3 l4 l5 l6 l7 I) ∧ (∀ (s0 : Int) (l3 : Int) (l4 : Int) (l5 : Int) (l6 : Int) (l7 : Int) I, wz_288_126 V X R Q QE J33 J48 J84 J126 J161 a0 a1 a2 s0 l3 l4 l5 l6 l7 I → J126 s0 l3 l4 l5 l6 l7 I) ∧ (∀ (s0 : Int) (s1 : Int) (l4 : Int) (l5 : Int) (l6 : Int) (l7 : Int) I, wz_288_161 V X R Q QE J33 J48 J84 J126 J161 a0 a1 a2 s0 s1 l4 l5 l6 l7 I → J161 s0 s1 l4 l5 l6 l7 I)) → wz_288 V X R Q QE J33 J48 J84 J126 J161 a0 a1 a2 I) : jc V 3 288 (0, 0) [.ref a0, jy a1, jy a2] X I R Q QE := by
  refine jy_met hV (by decide) (n := 9) (rt := some .int) (hh := []) (ini := false) (C := jx_c288) (L := [some (.ref a0), some (jy a1), some (jy a2), none, none, none, none, none, none]) jt_288 (Nat.le_of_ble_eq_true rfl) rfl ?_
  intro J hS
  have h := h (fun s0 s1 I => J 33 [jy s1, .ref s0] [some (.ref a0), some (jy a1), some (jy a2), none, none, none, none, none, none] (0, 0) X I R) (fun l3 l4 I => J 48 [] [some (.ref a0), some (jy a1), some (jy a2), some (jy l3), some (jy l4), none, none, none, none] (0, 0) X I R) (fun l3 l4 l5 l6 l7 I => J 84 [] [some (.ref a0), some (jy a1), some (jy a2), some (jy l3), some (jy l4), some (jy l5), some (jy l6), some (jy l7), none] (0, 0) X I R) (fun s0 l3 l4 l5 l6 l7 I => J 126 [jy s0] [some (.ref a0), some (jy a1), some (jy a2), some (jy l3), some (jy l4), some (jy l5), some (jy l6), some (jy l7), none] (0, 0) X I R) (fun s0 s1 l4 l5 l6 l7 I => J 161 [jy s1, jy s0] [some (.ref a0), some (jy a1), some (jy a2), none, some (jy l4), some (jy l5), some (jy l6), some (jy l7), none] (0, 0) X I R) ?_
  · unfold wz_288 at h
    refine jy_aload_n hS rfl rfl ?_
    refine jy_iconst hS rfl ?_
    obtain ⟨g1, h⟩ := h
    refine jy_putI hS rfl (by decide) g1 ?_
    intro I2 e9
    have h := h I2 e9
    clear e9
    refine jy_aload_n hS rfl rfl ?_
    refine jy_aload_n hS rfl rfl ?_
    refine jy_iload_n hS rfl rfl ?_
    obtain ⟨Q3, h⟩ := h
    obtain ⟨g4, h⟩ := h
    refine jy_callV hS rfl rfl rfl (Nat.le_of_ble_eq_true rfl) (Or.inl g1) g4 (by decide) ⟨by decide, by decide⟩ (Nat.le_of_ble_eq_true rfl) ?_ ?_
    rotate_left
    · exact fun Ex Xx Ix Rx hp => hp.2.2.2.elim
    intro rv Xx I5 Rx hp
    obtain ⟨e1, e2, hp⟩ := hp
    rw [e1, e2]
    clear e1 e2
    obtain ⟨r6, e1, h⟩ := h rv I5 hp
    rw [e1]
    clear e1
    change J 11 [jy r6, .ref a0] _ (0, 0) _ _ _
    obtain ⟨g7, h⟩ := h
    refine jy_if_eq hS rfl g7 (fun hq => ?_) (fun hq => ?_)
    · have h := h.1 hq
      refine jy_iconst hS rfl ?_
      refine jy_goto hS rfl ?_
      exact jy_join hS h rfl (jy_sub_s (jy_sub_s (jy_sub_s (jy_sub_n (jy_sub_n (jy_sub_n (jy_sub_n (jy_sub_n (jy_sub_n jy_sub_0)))))))))
    · have h := h.2 hq
      refine jy_aload_n hS rfl rfl ?_
      refine jy_iload_n hS rfl rfl ?_
      obtain ⟨Q8, h⟩ := h
      obtain ⟨g9, h⟩ := h
      refine jy_callV hS rfl rfl rfl (Nat.le_of_ble_eq_true rfl) (Or.inl g1) g9 (by decide) ⟨by decide, by decide⟩ (Nat.le_of_ble_eq_true rfl) ?_ ?_
      rotate_left
      · exact fun Ex Xx Ix Rx hp => hp.2.2.2.elim
      intro rv Xx I10 Rx hp
      obtain ⟨e1, e2, hp⟩ := hp
      rw [e1, e2]
      clear e1 e2
      obtain ⟨r11, e1, h⟩ := h rv I10 hp
      rw [e1]
      clear e1
      change J 19 [jy r11, .ref a0] _ (0, 0) _ _ _
      obtain ⟨g12, h⟩ := h
      refine jy_if_eq hS rfl g12 (fun hq => ?_) (fun hq => ?_)
      · have h := h.1 hq
        refine jy_iconst hS rfl ?_
        refine jy_goto hS rfl ?_
        exact jy_join hS h rfl (jy_sub_s (jy_sub_s (jy_sub_s (jy_sub_n (jy_sub_n (jy_sub_n (jy_sub_n (jy_sub_n (jy_sub_n jy_sub_0)))))))))
      · have h := h.2 hq
        refine jy_iload_n hS rfl rfl ?_
        refine jy_iload_n hS rfl rfl ?_
        refine jy_iandX hS rfl rfl ?_
        refine jy_if_eq hS rfl (jy_rng _) (fun hq => ?_) (fun hq => ?_)
        · have h := h.1 hq
          refine jy_iconst hS rfl ?_
          exact jy_join hS h rfl (jy_sub_s (jy_sub_s (jy_sub_s (jy_sub_n (jy_sub_n (jy_sub_n (jy_sub_n (jy_sub_n (jy_sub_n jy_sub_0)))))))))
        · have h := h.2 hq
          refine jy_iconst hS rfl ?_
          refine jy_goto hS rfl ?_
          exact jy_join hS h rfl (jy_sub_s (jy_sub_s (jy_sub_s (jy_sub_n (jy_sub_n (jy_sub_n (jy_sub_n (jy_sub_n (jy_sub_n jy_sub_0)))))))))
  refine ⟨?_, ?_, ?_, ?_, ?_⟩
  · intro s0 s1 I h
    unfold wz_288_33 at h
    refine jy_iconst hS rfl ?_
    refine jy_iconst hS rfl ?_
    obtain ⟨g13, h⟩ := h
    obtain ⟨Q14, h⟩ := h
    obtain ⟨g15, h⟩ := h
    refine jy_callV hS rfl rfl rfl (Nat.le_of_ble_eq_true rfl) (Or.inl g13) g15 (by decide) ⟨by decide, by decide⟩ (Nat.le_of_ble_eq_true rfl) ?_ ?_
    rotate_left
    · exact fun Ex Xx Ix Rx hp => hp.2.2.2.elim
    intro rv Xx I16 Rx hp
    obtain ⟨e1, e2, hp⟩ := hp
    rw [e1, e2]
    clear e1 e2
    obtain ⟨r17, e1, h⟩ := h rv I16 hp
    rw [e1]
    clear e1
    change J 38 [jy r17] _ (0, 0) _ _ _
    obtain ⟨g18, h⟩ := h
    refine jy_if_eq hS rfl g18 (fun hq => ?_) (fun hq => ?_)
    · have h := h.1 hq
      refine jy_iconst hS rfl ?_
      refine jy_istore_n hS rfl (Nat.le_of_ble_eq_true rfl) (L' := [some (.ref a0), some (jy a1), some (jy a2), some (jy 0), none, none, none, none, none]) rfl ?_
      refine jy_iconst hS rfl ?_
      refine jy_istore hS rfl (Nat.le_of_ble_eq_true rfl) (L' := [some (.ref a0), some (jy a1), some (jy a2), some (jy 0), some (jy 0), none, none, none, none]) rfl ?_
      exact jy_join hS h rfl (jy_sub_s (jy_sub_s (jy_sub_s (jy_sub_s (jy_sub_s (jy_sub_n (jy_sub_n (jy_sub_n (jy_sub_n jy_sub_0)))))))))
    · have h := h.2 hq
      refine jy_iconst hS rfl ?_
      exact jy_iret hS rfl rfl ⟨rfl, rfl, h⟩
  · intro l3 l4 I h
    unfold wz_288_48 at h
    refine jy_iload hS rfl rfl ?_
    refine jy_aload_n hS rfl rfl ?_
    obtain ⟨g19, h⟩ := h
    obtain ⟨q20, h⟩ := h
    obtain ⟨g21, h⟩ := h
    refine jy_getR hS rfl (by decide) g19 g21 ?_
    refine jy_iconst hS rfl ?_
    obtain ⟨n22, h⟩ := h
    obtain ⟨g23, h⟩ := h
    obtain ⟨g24, h⟩ := h
    refine jy_iald hS rfl g23.1 (Nat.le_of_lt g23.2) g24 ?_
    obtain ⟨g25, h⟩ := h
    refine jy_icmp_ge hS rfl ⟨g25, (jy_rng _)⟩ (fun hq => ?_) (fun hq => ?_)
    · have h := h.1 hq
      refine jy_iload_n hS rfl rfl ?_
      exact jy_iret hS rfl rfl ⟨rfl, rfl, h⟩
    · have h := h.2 hq
      refine jy_aload_n hS rfl rfl ?_
      refine jy_iload_n hS rfl rfl ?_
      refine jy_iload hS rfl rfl ?_
      obtain ⟨Q26, h⟩ := h
      obtain ⟨g27, h⟩ := h
      refine jy_callV hS rfl rfl rfl (Nat.le_of_ble_eq_true rfl) (Or.inl g19) g27 (by decide) ⟨by decide, by decide⟩ (Nat.le_of_ble_eq_true rfl) ?_ ?_
      rotate_left
      · exact fun Ex Xx Ix Rx hp => hp.2.2.2.elim
      intro rv Xx I28 Rx hp
      obtain ⟨e1, e2, hp⟩ := hp
      rw [e1, e2]
      clear e1 e2
      obtain ⟨r29, e1, h⟩ := h rv I28 hp
      rw [e1]
      clear e1
      change J 66 [jy r29] _ (0, 0) _ _ _
      refine jy_iconst hS rfl ?_
      refine jy_idivX hS rfl ⟨⟨by decide, by decide⟩, by decide⟩ rfl ?_
      refine jy_istore hS rfl (Nat.le_of_ble_eq_true rfl) (L' := [some (.ref a0), some (jy a1), some (jy a2), some (jy l3), some (jy l4), some (jy ((Int32.ofInt r29 / Int32.ofInt 2).toInt)), none, none, none]) rfl ?_
      refine jy_aload_n hS rfl rfl ?_
      refine jy_iload_n hS rfl rfl ?_
      refine jy_iload hS rfl rfl ?_
      obtain ⟨Q30, h⟩ := h
      obtain ⟨g31, h⟩ := h
      refine jy_callV hS rfl rfl rfl (Nat.le_of_ble_eq_true rfl) (Or.inl g19) g31 (by decide) ⟨by decide, by decide⟩ (Nat.le_of_ble_eq_true rfl) ?_ ?_
      rotate_left
      · exact fun Ex Xx Ix Rx hp => hp.2.2.2.elim
      intro rv Xx I32 Rx hp
      obtain ⟨e1, e2, hp⟩ := hp
      rw [e1, e2]
      clear e1 e2
      obtain ⟨r33, e1, h⟩ := h rv I32 hp
      rw [e1]
      clear e1
      change J 77 [jy r33] _ (0, 0) _ _ _
      refine jy_iconst hS rfl ?_
      refine jy_idivX hS rfl ⟨⟨by decide, by decide⟩, by decide⟩ rfl ?_
      refine jy_istore hS rfl (Nat.le_of_ble_eq_true rfl) (L' := [some (.ref a0), some (jy a1), some (jy a2), some (jy l3), some (jy l4), some (jy ((Int32.ofInt r29 / Int32.ofInt 2).toInt)), some (jy ((Int32.ofInt r33 / Int32.ofInt 2).toInt)), none, none]) rfl ?_
      refine jy_iconst hS rfl ?_
      refine jy_istore hS rfl (Nat.le_of_ble_eq_true rfl) (L' := [some (.ref a0), some (jy a1), some (jy a2), some (jy l3), some (jy l4), some (jy ((Int32.ofInt r29 / Int32.ofInt 2).toInt)), some (jy ((Int32.ofInt r33 / Int32.ofInt 2).toInt)), some (jy 0), none]) rfl ?_
      exact jy_join hS h rfl (jy_sub_s (jy_sub_s (jy_sub_s (jy_sub_s (jy_sub_s (jy_sub_s (jy_sub_s (jy_sub_s (jy_sub_n jy_sub_0)))))))))
  · intro l3 l4 l5 l6 l7 I h
    unfold wz_288_84 at h
    refine jy_iload hS rfl rfl ?_
    refine jy_aload_n hS rfl rfl ?_
    obtain ⟨g34, h⟩ := h
    obtain ⟨q35, h⟩ := h
    obtain ⟨g36, h⟩ := h
    refine jy_getR hS rfl (by decide) g34 g36 ?_
    refine jy_iconst hS rfl ?_
    obtain ⟨n37, h⟩ := h
    obtain ⟨g38, h⟩ := h
    obtain ⟨g39, h⟩ := h
    refine jy_iald hS rfl g38.1 (Nat.le_of_lt g38.2) g39 ?_
    obtain ⟨g40, h⟩ := h
    refine jy_icmp_ge hS rfl ⟨g40, (jy_rng _)⟩ (fun hq => ?_) (fun hq => ?_)
    · have h := h.1 hq
      refine jy_iinc hS rfl rfl (L' := [some (.ref a0), some (jy a1), some (jy a2), some (jy l3), some (jy (l4 + 1)), some (jy l5), some (jy l6), some (jy l7), none]) rfl ?_
      refine jy_goto hS rfl ?_
      exact jy_join hS h rfl (jy_sub_s (jy_sub_s (jy_sub_s (jy_sub_s (jy_sub_s (jy_sub_n (jy_sub_n (jy_sub_n (jy_sub_n jy_sub_0)))))))))
    · have h := h.2 hq
      refine jy_iload_n hS rfl rfl ?_
      refine jy_iload hS rfl rfl ?_
      refine jy_ishrX hS rfl rfl ?_
      refine jy_iconst hS rfl ?_
      refine jy_iandX hS rfl rfl ?_
      refine jy_iconst hS rfl ?_
      refine jy_icmp_ne hS rfl ⟨(jy_rng _), ⟨by decide, by decide⟩⟩ (fun hq => ?_) (fun hq => ?_)
      · have h := h.1 hq
        refine jy_iload_n hS rfl rfl ?_
        refine jy_iload hS rfl rfl ?_
        refine jy_ishrX hS rfl rfl ?_
        refine jy_iconst hS rfl ?_
        refine jy_iandX hS rfl rfl ?_
        refine jy_iconst hS rfl ?_
        refine jy_icmp_ne hS rfl ⟨(jy_rng _), ⟨by decide, by decide⟩⟩ (fun hq => ?_) (fun hq => ?_)
        · have h := h.1 hq
          refine jy_iconst hS rfl ?_
          exact jy_join hS h rfl (jy_sub_s (jy_sub_s (jy_sub_s (jy_sub_s (jy_sub_s (jy_sub_s (jy_sub_s (jy_sub_s (jy_sub_n jy_sub_0)))))))))
        · have h := h.2 hq
          refine jy_iload hS rfl rfl ?_
          refine jy_goto hS rfl ?_
          exact jy_join hS h rfl (jy_sub_s (jy_sub_s (jy_sub_s (jy_sub_s (jy_sub_s (jy_sub_s (jy_sub_s (jy_sub_s (jy_sub_n jy_sub_0)))))))))
      · have h := h.2 hq
        refine jy_iload hS rfl rfl ?_
        refine jy_goto hS rfl ?_
        exact jy_join hS h rfl (jy_sub_s (jy_sub_s (jy_sub_s (jy_sub_s (jy_sub_s (jy_sub_s (jy_sub_s (jy_sub_s (jy_sub_n jy_sub_0)))))))))
  · intro s0 l3 l4 l5 l6 l7 I h
    unfold wz_288_126 at h
    refine jy_istore hS rfl (Nat.le_of_ble_eq_true rfl) (L' := [some (.ref a0), some (jy a1), some (jy a2), some (jy l3), some (jy l4), some (jy l5), some (jy l6), some (jy l7), some (jy s0)]) rfl ?_
    refine jy_iload_n hS rfl rfl ?_
    refine jy_iload hS rfl rfl ?_
    refine jy_aload_n hS rfl rfl ?_
    obtain ⟨g41, h⟩ := h
    obtain ⟨q42, h⟩ := h
    obtain ⟨g43, h⟩ := h
    refine jy_getR hS rfl (by decide) g41 g43 ?_
    refine jy_iload hS rfl rfl ?_
    obtain ⟨n44, h⟩ := h
    obtain ⟨g45, h⟩ := h
    obtain ⟨g46, h⟩ := h
    obtain ⟨q47, h⟩ := h
    obtain ⟨g48, h⟩ := h
    refine jy_aald hS rfl g45.1 (by decide) (Nat.le_of_lt g45.2) g46 g48 ?_
    refine jy_iload hS rfl rfl ?_
    obtain ⟨n49, h⟩ := h
    obtain ⟨g50, h⟩ := h
    obtain ⟨g51, h⟩ := h
    refine jy_iald hS rfl g50.1 (Nat.le_of_lt g50.2) g51 ?_
    obtain ⟨g52, h⟩ := h
    refine jy_icmp_le hS rfl ⟨g52, (jy_rng _)⟩ (fun hq => ?_) (fun hq => ?_)
    · have h := h.1 hq
      refine jy_iconst hS rfl ?_
      exact jy_join hS h rfl (jy_sub_s (jy_sub_s (jy_sub_s (jy_sub_n (jy_sub_s (jy_sub_s (jy_sub_s (jy_sub_s (jy_sub_n jy_sub_0)))))))))
    · have h := h.2 hq
      refine jy_iload hS rfl rfl ?_
      refine jy_aload_n hS rfl rfl ?_
      refine jy_getR hS rfl (by decide) g41 g43 ?_
      refine jy_iload hS rfl rfl ?_
      obtain ⟨g53, h⟩ := h
      obtain ⟨q54, h⟩ := h
      obtain ⟨g55, h⟩ := h
      refine jy_aald hS rfl g45.1 (by decide) (Nat.le_of_lt g45.2) g53 g55 ?_
      refine jy_iload hS rfl rfl ?_
      obtain ⟨n56, h⟩ := h
      obtain ⟨g57, h⟩ := h
      obtain ⟨g58, h⟩ := h
      refine jy_iald hS rfl g57.1 (Nat.le_of_lt g57.2) g58 ?_
      refine jy_isub hS rfl ?_
      refine jy_goto hS rfl ?_
      exact jy_join hS h rfl (jy_sub_s (jy_sub_s (jy_sub_s (jy_sub_n (jy_sub_s (jy_sub_s (jy_sub_s (jy_sub_s (jy_sub_n jy_sub_0)))))))))
  · intro s0 s1 l4 l5 l6 l7 I h
    unfold wz_288_161 at h
    refine jy_iadd hS rfl ?_
    refine jy_istore_n hS rfl (Nat.le_of_ble_eq_true rfl) (L' := [some (.ref a0), some (jy a1), some (jy a2), some (jy (s0 + s1)), some (jy l4), some (jy l5), some (jy l6), some (jy l7), none]) rfl ?_
    refine jy_iinc hS rfl rfl (L' := [some (.ref a0), some (jy a1), some (jy a2), some (jy (s0 + s1)), some (jy l4), some (jy l5), some (jy l6), some (jy (l7 + 1)), none]) rfl ?_
    refine jy_goto hS rfl ?_
    exact jy_join hS h rfl (jy_sub_s (jy_sub_s (jy_sub_s (jy_sub_s (jy_sub_s (jy_sub_s (jy_sub_s (jy_sub_s (jy_sub_n jy_sub_0)))))))))
theorem jt_289 : jx_ml 289 = 5 ∧ jx_rt 289 = some .int ∧ jx_hz 289 = [] ∧ decide ((jx_nm 289).name = "<init>") = false ∧ jx_code 289 = jx_c289 := by decide +kernel
/-- GCModel.race, from 21 -/
def wz_289_21 (V : jx_V) (X : jx_X) (R : jx_R) (Q : Option Value → jx_I → Prop) (QE : String → jx_I → Prop) (J21 : Nat → Int → jx_I → Prop) (J40 : Int → Int → Int → jx_I → Prop) (a0 : Nat) (a1 : Int) (s0 : Nat) (s1 : Int) (I : jx_I) : Prop :=
  (X.2.1 s0 = some (12, 0)) ∧ (
  ∃ Q9 : Option Value → jx_I → Prop, (
  (jc V 2 260 (0, 0) [.ref s0, jy s1] X I R Q9 (fun _ _ => False)) ∧ (
  ∀ rv I11, Q9 rv I11 → ∃ r12 : Int, rv = some (jy r12) ∧ (
  (-2147483648 ≤ r12 ∧ r12 < 2147483648) ∧ (
  (r12 = 0 → (
    (X.2.1 a0 = some (12, 0)) ∧ (
    ∃ Q15 : Option Value → jx_I → Prop, (
    (jc V 1 243 (0, 0) [.ref a0] X I11 R Q15 (fun _ _ => False)) ∧ (
    ∀ rv I17, Q15 rv I17 → rv = none ∧ (
    J40 0 0 1 I17))))
  )) ∧ (¬ r12 = 0 → (
    Q (some (jy 0)) I11
  )))))))
/-- GCModel.race, from 40 -/
def wz_289_40 (V : jx_V) (X : jx_X) (R : jx_R) (Q : Option Value → jx_I → Prop) (QE : String → jx_I → Prop) (J21 : Nat → Int → jx_I → Prop) (J40 : Int → Int → Int → jx_I → Prop) (a0 : Nat) (a1 : Int) (l2 : Int) (l3 : Int) (l4 : Int) (I : jx_I) : Prop :=
  (X.2.1 a0 = some (12, 0)) ∧ (
  (-2147483648 ≤ l4 ∧ l4 < 2147483648) ∧ (
  ((I a0 37).toInt ≤ l4 → (
    Q (some (jy (-1))) I
  )) ∧ (¬ (I a0 37).toInt ≤ l4 → (
    ∃ q21 : Nat, (
    (R a0 21 = some q21) ∧ (
    ∃ q23 : Nat, (
    (R a0 35 = some q23) ∧ (
    ∃ n25 : Nat, (
    (X.2.1 q23 = some (100, n25) ∧ n25 < 2147483648) ∧ (
    (0 ≤ (l4 - 1) ∧ (l4 - 1) < n25) ∧ (
    ∃ n28 : Nat, (
    (X.2.1 q21 = some (104, n28) ∧ n28 < 2147483648) ∧ (
    (0 ≤ (I q23 (l4 - 1).toNat).toInt ∧ (I q23 (l4 - 1).toNat).toInt < n28) ∧ (
    ∃ q31 : Nat, (
    (R q21 ((I q23 (l4 - 1).toNat).toInt).toNat = some q31) ∧ (
    (0 ≤ l4 ∧ l4 < n25) ∧ (
    ∃ n34 : Nat, (
    (X.2.1 q31 = some (100, n34) ∧ n34 < 2147483648) ∧ (
    (0 ≤ (I q23 l4.toNat).toInt ∧ (I q23 l4.toNat).toInt < n34) ∧ (
    (0 ≤ l4 ∧ l4 < n25) ∧ (
    ∃ Q38 : Option Value → jx_I → Prop, (
    (jc V 4 255 (0, 0) [.ref a0, jy ((I q23 l4.toNat).toInt)] X I R Q38 (fun _ _ => False)) ∧ (
    ∀ rv I40, Q38 rv I40 → ∃ r41 : Int, rv = some (jy r41) ∧ (
    (-2147483648 ≤ (a1 + (l2 + (I q31 ((I q23 l4.toNat).toInt).toNat).toInt)) ∧ (a1 + (l2 + (I q31 ((I q23 l4.toNat).toInt).toNat).toInt)) < 2147483648) ∧ (
    (-2147483648 ≤ ((l2 + (I q31 ((I q23 l4.toNat).toInt).toNat).toInt) + (l3 + r41)) ∧ ((l2 + (I q31 ((I q23 l4.toNat).toInt).toNat).toInt) + (l3 + r41)) < 2147483648) ∧ (
    (((l2 + (I q31 ((I q23 l4.toNat).toInt).toNat).toInt) + (l3 + r41)) < (a1 + (l2 + (I q31 ((I q23 l4.toNat).toInt).toNat).toInt)) → (
      J40 (l2 + (I q31 ((I q23 l4.toNat).toInt).toNat).toInt) (l3 + r41) (l4 + 1) I40
    )) ∧ (¬ ((l2 + (I q31 ((I q23 l4.toNat).toInt).toNat).toInt) + (l3 + r41)) < (a1 + (l2 + (I q31 ((I q23 l4.toNat).toInt).toNat).toInt)) → (
      Q (some (jy l4)) I40
    ))))))))))))))))))))))))
  ))))
/-- GCModel.race -/
def wz_289 (V : jx_V) (X : jx_X) (R : jx_R) (Q : Option Value → jx_I → Prop) (QE : String → jx_I → Prop) (J21 : Nat → Int → jx_I → Prop) (J40 : Int → Int → Int → jx_I → Prop) (a0 : Nat) (a1 : Int) (I : jx_I) : Prop :=
  (X.2.1 a0 = some (12, 0)) ∧ (
  ∀ I2 : jx_I, I2 = jx_u I a0 0 (Int32.ofInt 0) → (
  ∃ Q3 : Option Value → jx_I → Prop, (
  (jc V 1 203 (0, 0) [jy a1, jy 0, jy 99] X I2 R Q3 (fun _ _ => False)) ∧ (
  ∀ rv I5, Q3 rv I5 → ∃ r6 : Int, rv = some (jy r6) ∧ (
  (-2147483648 ≤ r6 ∧ r6 < 2147483648) ∧ (
  (r6 ≠ 0 → (
    J21 a0 0 I5
  )) ∧ (r6 = 0 → (
    J21 a0 1 I5
  ))))))))
set_option maxRecDepth 20000 in
theorem wm_289 {V : jx_V} (hV : V.1.stackTraces = false) {X : jx_X} {R : jx_R} {I : jx_I} {Q : Option Value → jx_I → Prop} {QE : String → jx_I → Prop} {a0 : Nat} {a1 : Int} (r_a1 : -2147483648 ≤ a1 ∧ a1 < 2147483648) 
    (h : ∀ (J21 : Nat → Int → jx_I → Prop) (J40 : Int → Int → Int → jx_I → Prop), ((∀ (s0 : Nat) (s1 : Int) I, wz_289_21 V X R Q QE J21 J40 a0 a1 s0 s1 I → J21 s0 s1 I) ∧ (∀ (l2 : Int) (l3 : Int) (l4 : Int) I, wz_289_40 V X R Q QE J21 J40 a0 a1 l2 l3 l4 I → J40 l2 l3 l4 I)) → wz_289 V X R Q QE J21 J40 a0 a1 I) : jc V 5 289 (0, 0) [.ref a0, jy a1] X I R Q QE := by
  refine jy_met hV (by decide) (n := 5) (rt := some .int) (hh := []) (ini := false) (C := jx_c289) (L := [some (.ref a0), some (jy a1), none, none, none]) jt_289 (Nat.le_of_ble_eq_true rfl) rfl ?_
  intro J hS
  have h := h (fun s0 s1 I => J 21 [jy s1, .ref s0] [some (.ref a0), some (jy a1), none, none, none] (0, 0) X I R) (fun l2 l3 l4 I => J 40 [] [some (.ref a0), some (jy a1), some (jy l2), some (jy l3), some (jy l4)] (0, 0) X I R) ?_
  · unfold wz_289 at h
    refine jy_aload_n hS rfl rfl ?_
    refine jy_iconst hS rfl ?_
    obtain ⟨g1, h⟩ := h
    refine jy_putI hS rfl (by decide) g1 ?_
    intro I2 e9
    have h := h I2 e9
    clear e9
    refine jy_aload_n hS rfl rfl ?_
    refine jy_iload_n hS rfl rfl ?_
    refine jy_iconst hS rfl ?_
    refine jy_bipush hS rfl (by decide) ?_
    obtain ⟨Q3, h⟩ := h
    obtain ⟨g4, h⟩ := h
    refine jy_callS hS rfl rfl rfl (Nat.le_of_ble_eq_true rfl) g4 (by decide) ⟨by decide, by decide⟩ (Nat.le_of_ble_eq_true rfl) ?_ ?_
    rotate_left
    · exact fun Ex Xx Ix Rx hp => hp.2.2.2.elim
    intro rv Xx I5 Rx hp
    obtain ⟨e1, e2, hp⟩ := hp
    rw [e1, e2]
    clear e1 e2
    obtain ⟨r6, e1, h⟩ := h rv I5 hp
    rw [e1]
    clear e1
    change J 13 [jy r6, .ref a0] _ (0, 0) _ _ _
    obtain ⟨g7, h⟩ := h
    refine jy_if_ne hS rfl g7 (fun hq => ?_) (fun hq => ?_)
    · have h := h.1 hq
      refine jy_iconst hS rfl ?_
      exact jy_join hS h rfl (jy_sub_s (jy_sub_s (jy_sub_n (jy_sub_n (jy_sub_n jy_sub_0)))))
    · have h := h.2 hq
      refine jy_iconst hS rfl ?_
      refine jy_goto hS rfl ?_
      exact jy_join hS h rfl (jy_sub_s (jy_sub_s (jy_sub_n (jy_sub_n (jy_sub_n jy_sub_0)))))
  refine ⟨?_, ?_⟩
  · intro s0 s1 I h
    unfold wz_289_21 at h
    obtain ⟨g8, h⟩ := h
    obtain ⟨Q9, h⟩ := h
    obtain ⟨g10, h⟩ := h
    refine jy_callV hS rfl rfl rfl (Nat.le_of_ble_eq_true rfl) (Or.inl g8) g10 (by decide) ⟨by decide, by decide⟩ (Nat.le_of_ble_eq_true rfl) ?_ ?_
    rotate_left
    · exact fun Ex Xx Ix Rx hp => hp.2.2.2.elim
    intro rv Xx I11 Rx hp
    obtain ⟨e1, e2, hp⟩ := hp
    rw [e1, e2]
    clear e1 e2
    obtain ⟨r12, e1, h⟩ := h rv I11 hp
    rw [e1]
    clear e1
    change J 24 [jy r12] _ (0, 0) _ _ _
    obtain ⟨g13, h⟩ := h
    refine jy_if_eq hS rfl g13 (fun hq => ?_) (fun hq => ?_)
    · have h := h.1 hq
      refine jy_aload_n hS rfl rfl ?_
      obtain ⟨g14, h⟩ := h
      obtain ⟨Q15, h⟩ := h
      obtain ⟨g16, h⟩ := h
      refine jy_callV hS rfl rfl rfl (Nat.le_of_ble_eq_true rfl) (Or.inl g14) g16 (by decide) ⟨by decide, by decide⟩ (Nat.le_of_ble_eq_true rfl) ?_ ?_
      rotate_left
      · exact fun Ex Xx Ix Rx hp => hp.2.2.2.elim
      intro rv Xx I17 Rx hp
      obtain ⟨e1, e2, hp⟩ := hp
      rw [e1, e2]
      clear e1 e2
      obtain ⟨e1, h⟩ := h rv I17 hp
      rw [e1]
      clear e1
      change J 33 [] _ (0, 0) _ _ _
      refine jy_iconst hS rfl ?_
      refine jy_istore_n hS rfl (Nat.le_of_ble_eq_true rfl) (L' := [some (.ref a0), some (jy a1), some (jy 0), none, none]) rfl ?_
      refine jy_iconst hS rfl ?_
      refine jy_istore_n hS rfl (Nat.le_of_ble_eq_true rfl) (L' := [some (.ref a0), some (jy a1), some (jy 0), some (jy 0), none]) rfl ?_
      refine jy_iconst hS rfl ?_
      refine jy_istore hS rfl (Nat.le_of_ble_eq_true rfl) (L' := [some (.ref a0), some (jy a1), some (jy 0), some (jy 0), some (jy 1)]) rfl ?_
      exact jy_join hS h rfl (jy_sub_s (jy_sub_s (jy_sub_s (jy_sub_s (jy_sub_s jy_sub_0)))))
    · have h := h.2 hq
      refine jy_iconst hS rfl ?_
      exact jy_iret hS rfl rfl ⟨rfl, rfl, h⟩
  · intro l2 l3 l4 I h
    unfold wz_289_40 at h
    refine jy_iload hS rfl rfl ?_
    refine jy_aload_n hS rfl rfl ?_
    obtain ⟨g19, h⟩ := h
    refine jy_getI hS rfl (by decide) g19 ?_
    obtain ⟨g20, h⟩ := h
    refine jy_icmp_ge hS rfl ⟨g20, (jy_rng _)⟩ (fun hq => ?_) (fun hq => ?_)
    · have h := h.1 hq
      refine jy_iconst hS rfl ?_
      exact jy_iret hS rfl rfl ⟨rfl, rfl, h⟩
    · have h := h.2 hq
      refine jy_iload_n hS rfl rfl ?_
      refine jy_aload_n hS rfl rfl ?_
      obtain ⟨q21, h⟩ := h
      obtain ⟨g22, h⟩ := h
      refine jy_getR hS rfl (by decide) g19 g22 ?_
      refine jy_aload_n hS rfl rfl ?_
      obtain ⟨q23, h⟩ := h
      obtain ⟨g24, h⟩ := h
      refine jy_getR hS rfl (by decide) g19 g24 ?_
      refine jy_iload hS rfl rfl ?_
      refine jy_iconst hS rfl ?_
      refine jy_isub hS rfl ?_
      obtain ⟨n25, h⟩ := h
      obtain ⟨g26, h⟩ := h
      obtain ⟨g27, h⟩ := h
      refine jy_iald hS rfl g26.1 (Nat.le_of_lt g26.2) g27 ?_
      obtain ⟨n28, h⟩ := h
      obtain ⟨g29, h⟩ := h
      obtain ⟨g30, h⟩ := h
      obtain ⟨q31, h⟩ := h
      obtain ⟨g32, h⟩ := h
      refine jy_aald hS rfl g29.1 (by decide) (Nat.le_of_lt g29.2) g30 g32 ?_
      refine jy_aload_n hS rfl rfl ?_
      refine jy_getR hS rfl (by decide) g19 g24 ?_
      refine jy_iload hS rfl rfl ?_
      obtain ⟨g33, h⟩ := h
      refine jy_iald hS rfl g26.1 (Nat.le_of_lt g26.2) g33 ?_
      obtain ⟨n34, h⟩ := h
      obtain ⟨g35, h⟩ := h
      obtain ⟨g36, h⟩ := h
      refine jy_iald hS rfl g35.1 (Nat.le_of_lt g35.2) g36 ?_
      refine jy_iadd hS rfl ?_
      refine jy_istore_n hS rfl (Nat.le_of_ble_eq_true rfl) (L' := [some (.ref a0), some (jy a1), some (jy (l2 + (I q31 ((I q23 l4.toNat).toInt).toNat).toInt)), some (jy l3), some (jy l4)]) rfl ?_
      refine jy_iload_n hS rfl rfl ?_
      refine jy_aload_n hS rfl rfl ?_
      refine jy_aload_n hS rfl rfl ?_
      refine jy_getR hS rfl (by decide) g19 g24 ?_
      refine jy_iload hS rfl rfl ?_
      obtain ⟨g37, h⟩ := h
      refine jy_iald hS rfl g26.1 (Nat.le_of_lt g26.2) g37 ?_
      obtain ⟨Q38, h⟩ := h
      obtain ⟨g39, h⟩ := h
      refine jy_callV hS rfl rfl rfl (Nat.le_of_ble_eq_true rfl) (Or.inl g19) g39 (by decide) ⟨by decide, by decide⟩ (Nat.le_of_ble_eq_true rfl) ?_ ?_
      rotate_left
      · exact fun Ex Xx Ix Rx hp => hp.2.2.2.elim
      intro rv Xx I40 Rx hp
      obtain ⟨e1, e2, hp⟩ := hp
      rw [e1, e2]
      clear e1 e2
      obtain ⟨r41, e1, h⟩ := h rv I40 hp
      rw [e1]
      clear e1
      change J 86 [jy r41, jy l3] _ (0, 0) _ _ _
      refine jy_iadd hS rfl ?_
      refine jy_istore_n hS rfl (Nat.le_of_ble_eq_true rfl) (L' := [some (.ref a0), some (jy a1), some (jy (l2 + (I q31 ((I q23 l4.toNat).toInt).toNat).toInt)), some (jy (l3 + r41)), some (jy l4)]) rfl ?_
      refine jy_iload_n hS rfl rfl ?_
      refine jy_iload_n hS rfl rfl ?_
      refine jy_iadd hS rfl ?_
      refine jy_iload_n hS rfl rfl ?_
      refine jy_iload_n hS rfl rfl ?_
      refine jy_iadd hS rfl ?_
      obtain ⟨g42, h⟩ := h
      obtain ⟨g43, h⟩ := h
      refine jy_icmp_gt hS rfl ⟨g42, g43⟩ (fun hq => ?_) (fun hq => ?_)
      · have h := h.1 hq
        refine jy_iinc hS rfl rfl (L' := [some (.ref a0), some (jy a1), some (jy (l2 + (I q31 ((I q23 l4.toNat).toInt).toNat).toInt)), some (jy (l3 + r41)), some (jy (l4 + 1))]) rfl ?_
        refine jy_goto hS rfl ?_
        exact jy_join hS h rfl (jy_sub_s (jy_sub_s (jy_sub_s (jy_sub_s (jy_sub_s jy_sub_0)))))
      · have h := h.2 hq
        refine jy_iload hS rfl rfl ?_
        exact jy_iret hS rfl rfl ⟨rfl, rfl, h⟩
theorem jt_290 : jx_ml 290 = 6 ∧ jx_rt 290 = some .int ∧ jx_hz 290 = [] ∧ decide ((jx_nm 290).name = "<init>") = false ∧ jx_code 290 = jx_c290 := by decide +kernel
/-- GCModel.doubtOf, from 15 -/
def wz_290_15 (V : jx_V) (X : jx_X) (R : jx_R) (Q : Option Value → jx_I → Prop) (QE : String → jx_I → Prop) (J15 : Int → Int → Int → jx_I → Prop) (J52 : Int → Int → Int → Int → jx_I → Prop) (a0 : Nat) (a1 : Int) (a2 : Int) (l3 : Int) (l4 : Int) (l5 : Int) (I : jx_I) : Prop :=
  (X.2.1 a0 = some (12, 0)) ∧ (
  (-2147483648 ≤ l5 ∧ l5 < 2147483648) ∧ (
  ((I a0 37).toInt ≤ l5 → (
    Q (some (jy l4)) I
  )) ∧ (¬ (I a0 37).toInt ≤ l5 → (
    (a2 ≤ (Int32.ofInt ((Int32.ofInt ((l3 * 1103515245) + 12345) >>> (Int32.ofInt 16 &&& 31)).toInt) &&& Int32.ofInt 7).toInt → (
      J52 l4 0 ((l3 * 1103515245) + 12345) l5 I
    )) ∧ (¬ a2 ≤ (Int32.ofInt ((Int32.ofInt ((l3 * 1103515245) + 12345) >>> (Int32.ofInt 16 &&& 31)).toInt) &&& Int32.ofInt 7).toInt → (
      J52 l4 1 ((l3 * 1103515245) + 12345) l5 I
    ))
  ))))
/-- GCModel.doubtOf, from 52 -/
def wz_290_52 (V : jx_V) (X : jx_X) (R : jx_R) (Q : Option Value → jx_I → Prop) (QE : String → jx_I → Prop) (J15 : Int → Int → Int → jx_I → Prop) (J52 : Int → Int → Int → Int → jx_I → Prop) (a0 : Nat) (a1 : Int) (a2 : Int) (s0 : Int) (s1 : Int) (l3 : Int) (l5 : Int) (I : jx_I) : Prop :=
  J15 l3 (s0 + s1) (l5 + 1) I
/-- GCModel.doubtOf -/
def wz_290 (V : jx_V) (X : jx_X) (R : jx_R) (Q : Option Value → jx_I → Prop) (QE : String → jx_I → Prop) (J15 : Int → Int → Int → jx_I → Prop) (J52 : Int → Int → Int → Int → jx_I → Prop) (a0 : Nat) (a1 : Int) (a2 : Int) (I : jx_I) : Prop :=
  (X.2.1 a0 = some (12, 0)) ∧ (
  ∃ Q2 : Option Value → jx_I → Prop, (
  (jc V 1 243 (0, 0) [.ref a0] X I R Q2 (fun _ _ => False)) ∧ (
  ∀ rv I4, Q2 rv I4 → rv = none ∧ (
  ∃ Q6 : Option Value → jx_I → Prop, (
  (jc V 5 258 (0, 0) [.ref a0] X I4 R Q6 (fun _ _ => False)) ∧ (
  ∀ rv I8, Q6 rv I8 → ∃ r9 : Int, rv = some (jy r9) ∧ (
  J15 a1 r9 1 I8)))))))
set_option maxRecDepth 20000 in
theorem wm_290 {V : jx_V} (hV : V.1.stackTraces = false) {X : jx_X} {R : jx_R} {I : jx_I} {Q : Option Value → jx_I → Prop} {QE : String → jx_I → Prop} {a0 : Nat} {a1 : Int} {a2 : Int} (r_a1 : -2147483648 ≤ a1 ∧ a1 < 2147483648) (r_a2 : -2147483648 ≤ a2 ∧ a2 < 2147483648) 
    (h : ∀ (J15 : Int → Int → Int → jx_I → Prop) (J52 : Int → Int → Int → Int → jx_I → Prop), ((∀ (l3 : Int) (l4 : Int) (l5 : Int) I, wz_290_15 V X R Q QE J15 J52 a0 a1 a2 l3 l4 l5 I → J15 l3 l4 l5 I) ∧ (∀ (s0 : Int) (s1 : Int) (l3 : Int) (l5 : Int) I, wz_290_52 V X R Q QE J15 J52 a0 a1 a2 s0 s1 l3 l5 I → J52 s0 s1 l3 l5 I)) → wz_290 V X R Q QE J15 J52 a0 a1 a2 I) : jc V 6 290 (0, 0) [.ref a0, jy a1, jy a2] X I R Q QE := by
  refine jy_met hV (by decide) (n := 6) (rt := some .int) (hh := []) (ini := false) (C := jx_c290) (L := [some (.ref a0), some (jy a1), some (jy a2), none, none, none]) jt_290 (Nat.le_of_ble_eq_true rfl) rfl ?_
  intro J hS
  have h := h (fun l3 l4 l5 I => J 15 [] [some (.ref a0), none, some (jy a2), some (jy l3), some (jy l4), some (jy l5)] (0, 0) X I R) (fun s0 s1 l3 l5 I => J 52 [jy s1, jy s0] [some (.ref a0), none, some (jy a2), some (jy l3), none, some (jy l5)] (0, 0) X I R) ?_
  · unfold wz_290 at h
    refine jy_iload_n hS rfl rfl ?_
    refine jy_istore_n hS rfl (Nat.le_of_ble_eq_true rfl) (L' := [some (.ref a0), some (jy a1), some (jy a2), some (jy a1), none, none]) rfl ?_
    refine jy_aload_n hS rfl rfl ?_
    obtain ⟨g1, h⟩ := h
    obtain ⟨Q2, h⟩ := h
    obtain ⟨g3, h⟩ := h
    refine jy_callV hS rfl rfl rfl (Nat.le_of_ble_eq_true rfl) (Or.inl g1) g3 (by decide) ⟨by decide, by decide⟩ (Nat.le_of_ble_eq_true rfl) ?_ ?_
    rotate_left
    · exact fun Ex Xx Ix Rx hp => hp.2.2.2.elim
    intro rv Xx I4 Rx hp
    obtain ⟨e1, e2, hp⟩ := hp
    rw [e1, e2]
    clear e1 e2
    obtain ⟨e1, h⟩ := h rv I4 hp
    rw [e1]
    clear e1
    change J 6 [] _ (0, 0) _ _ _
    refine jy_aload_n hS rfl rfl ?_
    obtain ⟨Q6, h⟩ := h
    obtain ⟨g7, h⟩ := h
    refine jy_callV hS rfl rfl rfl (Nat.le_of_ble_eq_true rfl) (Or.inl g1) g7 (by decide) ⟨by decide, by decide⟩ (Nat.le_of_ble_eq_true rfl) ?_ ?_
    rotate_left
    · exact fun Ex Xx Ix Rx hp => hp.2.2.2.elim
    intro rv Xx I8 Rx hp
    obtain ⟨e1, e2, hp⟩ := hp
    rw [e1, e2]
    clear e1 e2
    obtain ⟨r9, e1, h⟩ := h rv I8 hp
    rw [e1]
    clear e1
    change J 10 [jy r9] _ (0, 0) _ _ _
    refine jy_istore hS rfl (Nat.le_of_ble_eq_true rfl) (L' := [some (.ref a0), some (jy a1), some (jy a2), some (jy a1), some (jy r9), none]) rfl ?_
    refine jy_iconst hS rfl ?_
    refine jy_istore hS rfl (Nat.le_of_ble_eq_true rfl) (L' := [some (.ref a0), some (jy a1), some (jy a2), some (jy a1), some (jy r9), some (jy 1)]) rfl ?_
    exact jy_join hS h rfl (jy_sub_s (jy_sub_n (jy_sub_s (jy_sub_s (jy_sub_s (jy_sub_s jy_sub_0))))))
  refine ⟨?_, ?_⟩
  · intro l3 l4 l5 I h
    unfold wz_290_15 at h
    refine jy_iload hS rfl rfl ?_
    refine jy_aload_n hS rfl rfl ?_
    obtain ⟨g10, h⟩ := h
    refine jy_getI hS rfl (by decide) g10 ?_
    obtain ⟨g11, h⟩ := h
    refine jy_icmp_ge hS rfl ⟨g11, (jy_rng _)⟩ (fun hq => ?_) (fun hq => ?_)
    · have h := h.1 hq
      refine jy_iload hS rfl rfl ?_
      exact jy_iret hS rfl rfl ⟨rfl, rfl, h⟩
    · have h := h.2 hq
      refine jy_iload_n hS rfl rfl ?_
      refine jy_ldcw hS rfl (n := 1103515245) (by decide) ?_
      refine jy_imul hS rfl ?_
      refine jy_sipush hS rfl (by decide) ?_
      refine jy_iadd hS rfl ?_
      refine jy_istore_n hS rfl (Nat.le_of_ble_eq_true rfl) (L' := [some (.ref a0), none, some (jy a2), some (jy ((l3 * 1103515245) + 12345)), some (jy l4), some (jy l5)]) rfl ?_
      refine jy_iload hS rfl rfl ?_
      refine jy_iload_n hS rfl rfl ?_
      refine jy_bipush hS rfl (by decide) ?_
      refine jy_ishrX hS rfl rfl ?_
      refine jy_bipush hS rfl (by decide) ?_
      refine jy_iandX hS rfl rfl ?_
      refine jy_iload_n hS rfl rfl ?_
      refine jy_icmp_ge hS rfl ⟨(jy_rng _), r_a2⟩ (fun hq => ?_) (fun hq => ?_)
      · have h := h.1 hq
        refine jy_iconst hS rfl ?_
        exact jy_join hS h rfl (jy_sub_s (jy_sub_n (jy_sub_s (jy_sub_s (jy_sub_n (jy_sub_s jy_sub_0))))))
      · have h := h.2 hq
        refine jy_iconst hS rfl ?_
        refine jy_goto hS rfl ?_
        exact jy_join hS h rfl (jy_sub_s (jy_sub_n (jy_sub_s (jy_sub_s (jy_sub_n (jy_sub_s jy_sub_0))))))
  · intro s0 s1 l3 l5 I h
    unfold wz_290_52 at h
    refine jy_iadd hS rfl ?_
    refine jy_istore hS rfl (Nat.le_of_ble_eq_true rfl) (L' := [some (.ref a0), none, some (jy a2), some (jy l3), some (jy (s0 + s1)), some (jy l5)]) rfl ?_
    refine jy_iinc hS rfl rfl (L' := [some (.ref a0), none, some (jy a2), some (jy l3), some (jy (s0 + s1)), some (jy (l5 + 1))]) rfl ?_
    refine jy_goto hS rfl ?_
    exact jy_join hS h rfl (jy_sub_s (jy_sub_n (jy_sub_s (jy_sub_s (jy_sub_s (jy_sub_s jy_sub_0))))))
theorem jt_291 : jx_ml 291 = 3 ∧ jx_rt 291 = some .int ∧ jx_hz 291 = [] ∧ decide ((jx_nm 291).name = "<init>") = false ∧ jx_code 291 = jx_c291 := by decide +kernel
/-- GCModel.doubt, from 21 -/
def wz_291_21 (V : jx_V) (X : jx_X) (R : jx_R) (Q : Option Value → jx_I → Prop) (QE : String → jx_I → Prop) (J21 : Nat → Int → jx_I → Prop) (a0 : Nat) (a1 : Int) (a2 : Int) (s0 : Nat) (s1 : Int) (I : jx_I) : Prop :=
  (X.2.1 s0 = some (12, 0)) ∧ (
  ∃ Q9 : Option Value → jx_I → Prop, (
  (jc V 2 260 (0, 0) [.ref s0, jy s1] X I R Q9 (fun _ _ => False)) ∧ (
  ∀ rv I11, Q9 rv I11 → ∃ r12 : Int, rv = some (jy r12) ∧ (
  (-2147483648 ≤ r12 ∧ r12 < 2147483648) ∧ (
  (r12 = 0 → (
    (X.2.1 a0 = some (12, 0)) ∧ (
    ∃ Q15 : Option Value → jx_I → Prop, (
    (jc V 6 290 (0, 0) [.ref a0, jy a1, jy a2] X I11 R Q15 (fun _ _ => False)) ∧ (
    ∀ rv I17, Q15 rv I17 → ∃ r18 : Int, rv = some (jy r18) ∧ (
    Q (some (jy r18)) I17))))
  )) ∧ (¬ r12 = 0 → (
    Q (some (jy 0)) I11
  )))))))
/-- GCModel.doubt -/
def wz_291 (V : jx_V) (X : jx_X) (R : jx_R) (Q : Option Value → jx_I → Prop) (QE : String → jx_I → Prop) (J21 : Nat → Int → jx_I → Prop) (a0 : Nat) (a1 : Int) (a2 : Int) (I : jx_I) : Prop :=
  (X.2.1 a0 = some (12, 0)) ∧ (
  ∀ I2 : jx_I, I2 = jx_u I a0 0 (Int32.ofInt 0) → (
  ∃ Q3 : Option Value → jx_I → Prop, (
  (jc V 1 203 (0, 0) [jy a2, jy 0, jy 8] X I2 R Q3 (fun _ _ => False)) ∧ (
  ∀ rv I5, Q3 rv I5 → ∃ r6 : Int, rv = some (jy r6) ∧ (
  (-2147483648 ≤ r6 ∧ r6 < 2147483648) ∧ (
  (r6 ≠ 0 → (
    J21 a0 0 I5
  )) ∧ (r6 = 0 → (
    J21 a0 1 I5
  ))))))))
set_option maxRecDepth 20000 in
theorem wm_291 {V : jx_V} (hV : V.1.stackTraces = false) {X : jx_X} {R : jx_R} {I : jx_I} {Q : Option Value → jx_I → Prop} {QE : String → jx_I → Prop} {a0 : Nat} {a1 : Int} {a2 : Int} (r_a1 : -2147483648 ≤ a1 ∧ a1 < 2147483648) (r_a2 : -2147483648 ≤ a2 ∧ a2 < 2147483648) 
    (h : ∀ (J21 : Nat → Int → jx_I → Prop), ((∀ (s0 : Nat) (s1 : Int) I, wz_291_21 V X R Q QE J21 a0 a1 a2 s0 s1 I → J21 s0 s1 I)) → wz_291 V X R Q QE J21 a0 a1 a2 I) : jc V 7 291 (0, 0) [.ref a0, jy a1, jy a2] X I R Q QE := by
  refine jy_met hV (by decide) (n := 3) (rt := some .int) (hh := []) (ini := false) (C := jx_c291) (L := [some (.ref a0), some (jy a1), some (jy a2)]) jt_291 (Nat.le_of_ble_eq_true rfl) rfl ?_
  intro J hS
  have h := h (fun s0 s1 I => J 21 [jy s1, .ref s0] [some (.ref a0), some (jy a1), some (jy a2)] (0, 0) X I R) ?_
  · unfold wz_291 at h
    refine jy_aload_n hS rfl rfl ?_
    refine jy_iconst hS rfl ?_
    obtain ⟨g1, h⟩ := h
    refine jy_putI hS rfl (by decide) g1 ?_
    intro I2 e9
    have h := h I2 e9
    clear e9
    refine jy_aload_n hS rfl rfl ?_
    refine jy_iload_n hS rfl rfl ?_
    refine jy_iconst hS rfl ?_
    refine jy_bipush hS rfl (by decide) ?_
    obtain ⟨Q3, h⟩ := h
    obtain ⟨g4, h⟩ := h
    refine jy_callS hS rfl rfl rfl (Nat.le_of_ble_eq_true rfl) g4 (by decide) ⟨by decide, by decide⟩ (Nat.le_of_ble_eq_true rfl) ?_ ?_
    rotate_left
    · exact fun Ex Xx Ix Rx hp => hp.2.2.2.elim
    intro rv Xx I5 Rx hp
    obtain ⟨e1, e2, hp⟩ := hp
    rw [e1, e2]
    clear e1 e2
    obtain ⟨r6, e1, h⟩ := h rv I5 hp
    rw [e1]
    clear e1
    change J 13 [jy r6, .ref a0] _ (0, 0) _ _ _
    obtain ⟨g7, h⟩ := h
    refine jy_if_ne hS rfl g7 (fun hq => ?_) (fun hq => ?_)
    · have h := h.1 hq
      refine jy_iconst hS rfl ?_
      exact jy_join hS h rfl (jy_sub_s (jy_sub_s (jy_sub_s jy_sub_0)))
    · have h := h.2 hq
      refine jy_iconst hS rfl ?_
      refine jy_goto hS rfl ?_
      exact jy_join hS h rfl (jy_sub_s (jy_sub_s (jy_sub_s jy_sub_0)))
  · intro s0 s1 I h
    unfold wz_291_21 at h
    obtain ⟨g8, h⟩ := h
    obtain ⟨Q9, h⟩ := h
    obtain ⟨g10, h⟩ := h
    refine jy_callV hS rfl rfl rfl (Nat.le_of_ble_eq_true rfl) (Or.inl g8) g10 (by decide) ⟨by decide, by decide⟩ (Nat.le_of_ble_eq_true rfl) ?_ ?_
    rotate_left
    · exact fun Ex Xx Ix Rx hp => hp.2.2.2.elim
    intro rv Xx I11 Rx hp
    obtain ⟨e1, e2, hp⟩ := hp
    rw [e1, e2]
    clear e1 e2
    obtain ⟨r12, e1, h⟩ := h rv I11 hp
    rw [e1]
    clear e1
    change J 24 [jy r12] _ (0, 0) _ _ _
    obtain ⟨g13, h⟩ := h
    refine jy_if_eq hS rfl g13 (fun hq => ?_) (fun hq => ?_)
    · have h := h.1 hq
      refine jy_aload_n hS rfl rfl ?_
      refine jy_iload_n hS rfl rfl ?_
      refine jy_iload_n hS rfl rfl ?_
      obtain ⟨g14, h⟩ := h
      obtain ⟨Q15, h⟩ := h
      obtain ⟨g16, h⟩ := h
      refine jy_callV hS rfl rfl rfl (Nat.le_of_ble_eq_true rfl) (Or.inl g14) g16 (by decide) ⟨by decide, by decide⟩ (Nat.le_of_ble_eq_true rfl) ?_ ?_
      rotate_left
      · exact fun Ex Xx Ix Rx hp => hp.2.2.2.elim
      intro rv Xx I17 Rx hp
      obtain ⟨e1, e2, hp⟩ := hp
      rw [e1, e2]
      clear e1 e2
      obtain ⟨r18, e1, h⟩ := h rv I17 hp
      rw [e1]
      clear e1
      change J 35 [jy r18] _ (0, 0) _ _ _
      exact jy_iret hS rfl rfl ⟨rfl, rfl, h⟩
    · have h := h.2 hq
      refine jy_iconst hS rfl ?_
      exact jy_iret hS rfl rfl ⟨rfl, rfl, h⟩
theorem jt_292 : jx_ml 292 = 10 ∧ jx_rt 292 = some .int ∧ jx_hz 292 = [] ∧ decide ((jx_nm 292).name = "<init>") = false ∧ jx_code 292 = jx_c292 := by decide +kernel
/-- GCModel.span, from 41 -/
def wz_292_41 (V : jx_V) (X : jx_X) (R : jx_R) (Q : Option Value → jx_I → Prop) (QE : String → jx_I → Prop) (J41 : Nat → Int → jx_I → Prop) (J61 : Int → Int → Int → Int → jx_I → Prop) (J105 : Int → Int → Int → Int → Int → jx_I → Prop) (J121 : Int → Int → Int → Int → jx_I → Prop) (a0 : Nat) (a1 : Int) (a2 : Int) (a3 : Int) (a4 : Int) (s0 : Nat) (s1 : Int) (I : jx_I) : Prop :=
  (X.2.1 s0 = some (12, 0)) ∧ (
  ∃ Q19 : Option Value → jx_I → Prop, (
  (jc V 2 260 (0, 0) [.ref s0, jy s1] X I R Q19 (fun _ _ => False)) ∧ (
  ∀ rv I21, Q19 rv I21 → ∃ r22 : Int, rv = some (jy r22) ∧ (
  (-2147483648 ≤ r22 ∧ r22 < 2147483648) ∧ (
  (r22 = 0 → (
    J61 0 (-1) (-1) 0 I21
  )) ∧ (¬ r22 = 0 → (
    Q (some (jy 0)) I21
  )))))))
/-- GCModel.span, from 61 -/
def wz_292_61 (V : jx_V) (X : jx_X) (R : jx_R) (Q : Option Value → jx_I → Prop) (QE : String → jx_I → Prop) (J41 : Nat → Int → jx_I → Prop) (J61 : Int → Int → Int → Int → jx_I → Prop) (J105 : Int → Int → Int → Int → Int → jx_I → Prop) (J121 : Int → Int → Int → Int → jx_I → Prop) (a0 : Nat) (a1 : Int) (a2 : Int) (a3 : Int) (a4 : Int) (l5 : Int) (l6 : Int) (l7 : Int) (l8 : Int) (I : jx_I) : Prop :=
  (-2147483648 ≤ l8 ∧ l8 < 2147483648) ∧ (
  (a3 ≤ l8 → (
    (a4 ≠ 0 → (
      (a4 ≠ 1 → (
        Q (some (jy l5)) I
      )) ∧ (a4 = 1 → (
        Q (some (jy l7)) I
      ))
    )) ∧ (a4 = 0 → (
      Q (some (jy l6)) I
    ))
  )) ∧ (¬ a3 ≤ l8 → (
    (X.2.1 a0 = some (12, 0)) ∧ (
    ∃ Q26 : Option Value → jx_I → Prop, (
    (jc V 6 290 (0, 0) [.ref a0, jy (a1 + l8), jy a2] X I R Q26 (fun _ _ => False)) ∧ (
    ∀ rv I28, Q26 rv I28 → ∃ r29 : Int, rv = some (jy r29) ∧ (
    (-2147483648 ≤ l6 ∧ l6 < 2147483648) ∧ (
    (l6 = (-1) → (
      J105 r29 (l5 + r29) l7 l8 r29 I28
    )) ∧ (¬ l6 = (-1) → (
      (-2147483648 ≤ r29 ∧ r29 < 2147483648) ∧ (
      (l6 ≤ r29 → (
        J105 l6 (l5 + r29) l7 l8 r29 I28
      )) ∧ (¬ l6 ≤ r29 → (
        J105 r29 (l5 + r29) l7 l8 r29 I28
      )))
    )))))))
  )))
/-- GCModel.span, from 105 -/
def wz_292_105 (V : jx_V) (X : jx_X) (R : jx_R) (Q : Option Value → jx_I → Prop) (QE : String → jx_I → Prop) (J41 : Nat → Int → jx_I → Prop) (J61 : Int → Int → Int → Int → jx_I → Prop) (J105 : Int → Int → Int → Int → Int → jx_I → Prop) (J121 : Int → Int → Int → Int → jx_I → Prop) (a0 : Nat) (a1 : Int) (a2 : Int) (a3 : Int) (a4 : Int) (s0 : Int) (l5 : Int) (l7 : Int) (l8 : Int) (l9 : Int) (I : jx_I) : Prop :=
  (-2147483648 ≤ l9 ∧ l9 < 2147483648) ∧ (
  (-2147483648 ≤ l7 ∧ l7 < 2147483648) ∧ (
  (l9 ≤ l7 → (
    J121 l7 l5 s0 l8 I
  )) ∧ (¬ l9 ≤ l7 → (
    J121 l9 l5 s0 l8 I
  ))))
/-- GCModel.span, from 121 -/
def wz_292_121 (V : jx_V) (X : jx_X) (R : jx_R) (Q : Option Value → jx_I → Prop) (QE : String → jx_I → Prop) (J41 : Nat → Int → jx_I → Prop) (J61 : Int → Int → Int → Int → jx_I → Prop) (J105 : Int → Int → Int → Int → Int → jx_I → Prop) (J121 : Int → Int → Int → Int → jx_I → Prop) (a0 : Nat) (a1 : Int) (a2 : Int) (a3 : Int) (a4 : Int) (s0 : Int) (l5 : Int) (l6 : Int) (l8 : Int) (I : jx_I) : Prop :=
  J61 l5 l6 s0 (l8 + 1) I
/-- GCModel.span -/
def wz_292 (V : jx_V) (X : jx_X) (R : jx_R) (Q : Option Value → jx_I → Prop) (QE : String → jx_I → Prop) (J41 : Nat → Int → jx_I → Prop) (J61 : Int → Int → Int → Int → jx_I → Prop) (J105 : Int → Int → Int → Int → Int → jx_I → Prop) (J121 : Int → Int → Int → Int → jx_I → Prop) (a0 : Nat) (a1 : Int) (a2 : Int) (a3 : Int) (a4 : Int) (I : jx_I) : Prop :=
  (X.2.1 a0 = some (12, 0)) ∧ (
  ∀ I2 : jx_I, I2 = jx_u I a0 0 (Int32.ofInt 0) → (
  ∃ Q3 : Option Value → jx_I → Prop, (
  (jc V 1 203 (0, 0) [jy a2, jy 0, jy 8] X I2 R Q3 (fun _ _ => False)) ∧ (
  ∀ rv I5, Q3 rv I5 → ∃ r6 : Int, rv = some (jy r6) ∧ (
  (-2147483648 ≤ r6 ∧ r6 < 2147483648) ∧ (
  (r6 = 0 → (
    J41 a0 1 I5
  )) ∧ (¬ r6 = 0 → (
    ∃ Q8 : Option Value → jx_I → Prop, (
    (jc V 1 203 (0, 0) [jy a3, jy 1, jy 60] X I5 R Q8 (fun _ _ => False)) ∧ (
    ∀ rv I10, Q8 rv I10 → ∃ r11 : Int, rv = some (jy r11) ∧ (
    (-2147483648 ≤ r11 ∧ r11 < 2147483648) ∧ (
    (r11 = 0 → (
      J41 a0 1 I10
    )) ∧ (¬ r11 = 0 → (
      ∃ Q13 : Option Value → jx_I → Prop, (
      (jc V 1 203 (0, 0) [jy a4, jy 0, jy 2] X I10 R Q13 (fun _ _ => False)) ∧ (
      ∀ rv I15, Q13 rv I15 → ∃ r16 : Int, rv = some (jy r16) ∧ (
      (-2147483648 ≤ r16 ∧ r16 < 2147483648) ∧ (
      (r16 ≠ 0 → (
        J41 a0 0 I15
      )) ∧ (r16 = 0 → (
        J41 a0 1 I15
      ))))))
    ))))))
  ))))))))
set_option maxRecDepth 20000 in
theorem wm_292 {V : jx_V} (hV : V.1.stackTraces = false) {X : jx_X} {R : jx_R} {I : jx_I} {Q : Option Value → jx_I → Prop} {QE : String → jx_I → Prop} {a0 : Nat} {a1 : Int} {a2 : Int} {a3 : Int} {a4 : Int} (r_a1 : -2147483648 ≤ a1 ∧ a1 < 2147483648) (r_a2 : -2147483648 ≤ a2 ∧ a2 < 2147483648) (r_a3 : -2147483648 ≤ a3 ∧ a3 < 2147483648) (r_a4 : -2147483648 ≤ a4 ∧ a4 < 2147483648) 
    (h : ∀ (J41 : Nat → Int → jx_I → Prop) (J61 : Int → Int → Int → Int → jx_I → Prop) (J105 : Int → Int → Int → Int → Int → jx_I → Prop) (J121 : Int → Int → Int → Int → jx_I → Prop), ((∀ (s0 : Nat) (s1 : Int) I, wz_292_41 V X R Q QE J41 J61 J105 J121 a0 a1 a2 a3 a4 s0 s1 I → J41 s0 s1 I) ∧ (∀ (l5 : Int) (l6 : Int) (l7 : Int) (l8 : Int) I, wz_292_61 V X R Q QE J41 J61 J105 J121 a0 a1 a2 a3 a4 l5 l6 l7 l8 I → J61 l5 l6 l7 l8 I) ∧ (∀ (s0 : Int) (l5 : Int) (l7 : Int) (l8 : Int) (l9 : Int) I, wz_292_105 V X R Q QE J41 J61 J105 J121 a0 a1 a2 a3 a4 s0 l5 l7 l8 l9 I → J105 s0 l5 l7 l8 l9 I) ∧ (∀ (s0 : Int) (l5 : Int) (l6 : Int) (l8 : Int) I, wz_292_121 V X R Q QE J41 J61 J105 J121 a0 a1 a2 a3 a4 s0 l5 l6 l8 I → J121 s0 l5 l6 l8 I)) → wz_292 V X R Q QE J41 J61 J105 J121 a0 a1 a2 a3 a4 I) : jc V 7 292 (0, 0) [.ref a0, jy a1, jy a2, jy a3, jy a4] X I R Q QE := by
  refine jy_met hV (by decide) (n := 10) (rt := some .int) (hh := []) (ini := false) (C := jx_c292) (L := [some (.ref a0), some (jy a1), some (jy a2), some (jy a3), some (jy a4), none, none, none, none, none]) jt_292 (Nat.le_of_ble_eq_true rfl) rfl ?_
  intro J hS
  have h := h (fun s0 s1 I => J 41 [jy s1, .ref s0] [some (.ref a0), some (jy a1), some (jy a2), some (jy a3), some (jy a4), none, none, none, none, none] (0, 0) X I R) (fun l5 l6 l7 l8 I => J 61 [] [some (.ref a0), some (jy a1), some (jy a2), some (jy a3), some (jy a4), some (jy l5), some (jy l6), some (jy l7), some (jy l8), none] (0, 0) X I R) (fun s0 l5 l7 l8 l9 I => J 105 [jy s0] [some (.ref a0), some (jy a1), some (jy a2), some (jy a3), some (jy a4), some (jy l5), none, some (jy l7), some (jy l8), some (jy l9)] (0, 0) X I R) (fun s0 l5 l6 l8 I => J 121 [jy s0] [some (.ref a0), some (jy a1), some (jy a2), some (jy a3), some (jy a4), some (jy l5), some (jy l6), none, some (jy l8), none] (0, 0) X I R) ?_
  · unfold wz_292 at h
    refine jy_aload_n hS rfl rfl ?_
    refine jy_iconst hS rfl ?_
    obtain ⟨g1, h⟩ := h
    refine jy_putI hS rfl (by decide) g1 ?_
    intro I2 e9
    have h := h I2 e9
    clear e9
    refine jy_aload_n hS rfl rfl ?_
    refine jy_iload_n hS rfl rfl ?_
    refine jy_iconst hS rfl ?_
    refine jy_bipush hS rfl (by decide) ?_
    obtain ⟨Q3, h⟩ := h
    obtain ⟨g4, h⟩ := h
    refine jy_callS hS rfl rfl rfl (Nat.le_of_ble_eq_true rfl) g4 (by decide) ⟨by decide, by decide⟩ (Nat.le_of_ble_eq_true rfl) ?_ ?_
    rotate_left
    · exact fun Ex Xx Ix Rx hp => hp.2.2.2.elim
    intro rv Xx I5 Rx hp
    obtain ⟨e1, e2, hp⟩ := hp
    rw [e1, e2]
    clear e1 e2
    obtain ⟨r6, e1, h⟩ := h rv I5 hp
    rw [e1]
    clear e1
    change J 13 [jy r6, .ref a0] _ (0, 0) _ _ _
    obtain ⟨g7, h⟩ := h
    refine jy_if_eq hS rfl g7 (fun hq => ?_) (fun hq => ?_)
    · have h := h.1 hq
      refine jy_iconst hS rfl ?_
      refine jy_goto hS rfl ?_
      exact jy_join hS h rfl (jy_sub_s (jy_sub_s (jy_sub_s (jy_sub_s (jy_sub_s (jy_sub_n (jy_sub_n (jy_sub_n (jy_sub_n (jy_sub_n jy_sub_0))))))))))
    · have h := h.2 hq
      refine jy_iload_n hS rfl rfl ?_
      refine jy_iconst hS rfl ?_
      refine jy_bipush hS rfl (by decide) ?_
      obtain ⟨Q8, h⟩ := h
      obtain ⟨g9, h⟩ := h
      refine jy_callS hS rfl rfl rfl (Nat.le_of_ble_eq_true rfl) g9 (by decide) ⟨by decide, by decide⟩ (Nat.le_of_ble_eq_true rfl) ?_ ?_
      rotate_left
      · exact fun Ex Xx Ix Rx hp => hp.2.2.2.elim
      intro rv Xx I10 Rx hp
      obtain ⟨e1, e2, hp⟩ := hp
      rw [e1, e2]
      clear e1 e2
      obtain ⟨r11, e1, h⟩ := h rv I10 hp
      rw [e1]
      clear e1
      change J 23 [jy r11, .ref a0] _ (0, 0) _ _ _
      obtain ⟨g12, h⟩ := h
      refine jy_if_eq hS rfl g12 (fun hq => ?_) (fun hq => ?_)
      · have h := h.1 hq
        refine jy_iconst hS rfl ?_
        refine jy_goto hS rfl ?_
        exact jy_join hS h rfl (jy_sub_s (jy_sub_s (jy_sub_s (jy_sub_s (jy_sub_s (jy_sub_n (jy_sub_n (jy_sub_n (jy_sub_n (jy_sub_n jy_sub_0))))))))))
      · have h := h.2 hq
        refine jy_iload hS rfl rfl ?_
        refine jy_iconst hS rfl ?_
        refine jy_iconst hS rfl ?_
        obtain ⟨Q13, h⟩ := h
        obtain ⟨g14, h⟩ := h
        refine jy_callS hS rfl rfl rfl (Nat.le_of_ble_eq_true rfl) g14 (by decide) ⟨by decide, by decide⟩ (Nat.le_of_ble_eq_true rfl) ?_ ?_
        rotate_left
        · exact fun Ex Xx Ix Rx hp => hp.2.2.2.elim
        intro rv Xx I15 Rx hp
        obtain ⟨e1, e2, hp⟩ := hp
        rw [e1, e2]
        clear e1 e2
        obtain ⟨r16, e1, h⟩ := h rv I15 hp
        rw [e1]
        clear e1
        change J 33 [jy r16, .ref a0] _ (0, 0) _ _ _
        obtain ⟨g17, h⟩ := h
        refine jy_if_ne hS rfl g17 (fun hq => ?_) (fun hq => ?_)
        · have h := h.1 hq
          refine jy_iconst hS rfl ?_
          exact jy_join hS h rfl (jy_sub_s (jy_sub_s (jy_sub_s (jy_sub_s (jy_sub_s (jy_sub_n (jy_sub_n (jy_sub_n (jy_sub_n (jy_sub_n jy_sub_0))))))))))
        · have h := h.2 hq
          refine jy_iconst hS rfl ?_
          refine jy_goto hS rfl ?_
          exact jy_join hS h rfl (jy_sub_s (jy_sub_s (jy_sub_s (jy_sub_s (jy_sub_s (jy_sub_n (jy_sub_n (jy_sub_n (jy_sub_n (jy_sub_n jy_sub_0))))))))))
  refine ⟨?_, ?_, ?_, ?_⟩
  · intro s0 s1 I h
    unfold wz_292_41 at h
    obtain ⟨g18, h⟩ := h
    obtain ⟨Q19, h⟩ := h
    obtain ⟨g20, h⟩ := h
    refine jy_callV hS rfl rfl rfl (Nat.le_of_ble_eq_true rfl) (Or.inl g18) g20 (by decide) ⟨by decide, by decide⟩ (Nat.le_of_ble_eq_true rfl) ?_ ?_
    rotate_left
    · exact fun Ex Xx Ix Rx hp => hp.2.2.2.elim
    intro rv Xx I21 Rx hp
    obtain ⟨e1, e2, hp⟩ := hp
    rw [e1, e2]
    clear e1 e2
    obtain ⟨r22, e1, h⟩ := h rv I21 hp
    rw [e1]
    clear e1
    change J 44 [jy r22] _ (0, 0) _ _ _
    obtain ⟨g23, h⟩ := h
    refine jy_if_eq hS rfl g23 (fun hq => ?_) (fun hq => ?_)
    · have h := h.1 hq
      refine jy_iconst hS rfl ?_
      refine jy_istore hS rfl (Nat.le_of_ble_eq_true rfl) (L' := [some (.ref a0), some (jy a1), some (jy a2), some (jy a3), some (jy a4), some (jy 0), none, none, none, none]) rfl ?_
      refine jy_iconst hS rfl ?_
      refine jy_istore hS rfl (Nat.le_of_ble_eq_true rfl) (L' := [some (.ref a0), some (jy a1), some (jy a2), some (jy a3), some (jy a4), some (jy 0), some (jy (-1)), none, none, none]) rfl ?_
      refine jy_iconst hS rfl ?_
      refine jy_istore hS rfl (Nat.le_of_ble_eq_true rfl) (L' := [some (.ref a0), some (jy a1), some (jy a2), some (jy a3), some (jy a4), some (jy 0), some (jy (-1)), some (jy (-1)), none, none]) rfl ?_
      refine jy_iconst hS rfl ?_
      refine jy_istore hS rfl (Nat.le_of_ble_eq_true rfl) (L' := [some (.ref a0), some (jy a1), some (jy a2), some (jy a3), some (jy a4), some (jy 0), some (jy (-1)), some (jy (-1)), some (jy 0), none]) rfl ?_
      exact jy_join hS h rfl (jy_sub_s (jy_sub_s (jy_sub_s (jy_sub_s (jy_sub_s (jy_sub_s (jy_sub_s (jy_sub_s (jy_sub_s (jy_sub_n jy_sub_0))))))))))
    · have h := h.2 hq
      refine jy_iconst hS rfl ?_
      exact jy_iret hS rfl rfl ⟨rfl, rfl, h⟩
  · intro l5 l6 l7 l8 I h
    unfold wz_292_61 at h
    refine jy_iload hS rfl rfl ?_
    refine jy_iload_n hS rfl rfl ?_
    obtain ⟨g24, h⟩ := h
    refine jy_icmp_ge hS rfl ⟨g24, r_a3⟩ (fun hq => ?_) (fun hq => ?_)
    · have h := h.1 hq
      refine jy_iload hS rfl rfl ?_
      refine jy_if_ne hS rfl r_a4 (fun hq => ?_) (fun hq => ?_)
      · have h := h.1 hq
        refine jy_iload hS rfl rfl ?_
        refine jy_iconst hS rfl ?_
        refine jy_icmp_ne hS rfl ⟨r_a4, ⟨by decide, by decide⟩⟩ (fun hq => ?_) (fun hq => ?_)
        · have h := h.1 hq
          refine jy_iload hS rfl rfl ?_
          exact jy_iret hS rfl rfl ⟨rfl, rfl, h⟩
        · have h := h.2 hq
          refine jy_iload hS rfl rfl ?_
          refine jy_goto hS rfl ?_
          exact jy_iret hS rfl rfl ⟨rfl, rfl, h⟩
      · have h := h.2 hq
        refine jy_iload hS rfl rfl ?_
        refine jy_goto hS rfl ?_
        exact jy_iret hS rfl rfl ⟨rfl, rfl, h⟩
    · have h := h.2 hq
      refine jy_aload_n hS rfl rfl ?_
      refine jy_iload_n hS rfl rfl ?_
      refine jy_iload hS rfl rfl ?_
      refine jy_iadd hS rfl ?_
      refine jy_iload_n hS rfl rfl ?_
      obtain ⟨g25, h⟩ := h
      obtain ⟨Q26, h⟩ := h
      obtain ⟨g27, h⟩ := h
      refine jy_callV hS rfl rfl rfl (Nat.le_of_ble_eq_true rfl) (Or.inl g25) g27 (by decide) ⟨by decide, by decide⟩ (Nat.le_of_ble_eq_true rfl) ?_ ?_
      rotate_left
      · exact fun Ex Xx Ix Rx hp => hp.2.2.2.elim
      intro rv Xx I28 Rx hp
      obtain ⟨e1, e2, hp⟩ := hp
      rw [e1, e2]
      clear e1 e2
      obtain ⟨r29, e1, h⟩ := h rv I28 hp
      rw [e1]
      clear e1
      change J 76 [jy r29] _ (0, 0) _ _ _
      refine jy_istore hS rfl (Nat.le_of_ble_eq_true rfl) (L' := [some (.ref a0), some (jy a1), some (jy a2), some (jy a3), some (jy a4), some (jy l5), some (jy l6), some (jy l7), some (jy l8), some (jy r29)]) rfl ?_
      refine jy_iload hS rfl rfl ?_
      refine jy_iload hS rfl rfl ?_
      refine jy_iadd hS rfl ?_
      refine jy_istore hS rfl (Nat.le_of_ble_eq_true rfl) (L' := [some (.ref a0), some (jy a1), some (jy a2), some (jy a3), some (jy a4), some (jy (l5 + r29)), some (jy l6), some (jy l7), some (jy l8), some (jy r29)]) rfl ?_
      refine jy_iload hS rfl rfl ?_
      refine jy_iconst hS rfl ?_
      obtain ⟨g30, h⟩ := h
      refine jy_icmp_eq hS rfl ⟨g30, ⟨by decide, by decide⟩⟩ (fun hq => ?_) (fun hq => ?_)
      · have h := h.1 hq
        refine jy_iload hS rfl rfl ?_
        refine jy_goto hS rfl ?_
        exact jy_join hS h rfl (jy_sub_s (jy_sub_s (jy_sub_s (jy_sub_s (jy_sub_s (jy_sub_s (jy_sub_n (jy_sub_s (jy_sub_s (jy_sub_s jy_sub_0))))))))))
      · have h := h.2 hq
        refine jy_iload hS rfl rfl ?_
        refine jy_iload hS rfl rfl ?_
        obtain ⟨g31, h⟩ := h
        refine jy_icmp_ge hS rfl ⟨g31, g30⟩ (fun hq => ?_) (fun hq => ?_)
        · have h := h.1 hq
          refine jy_iload hS rfl rfl ?_
          exact jy_join hS h rfl (jy_sub_s (jy_sub_s (jy_sub_s (jy_sub_s (jy_sub_s (jy_sub_s (jy_sub_n (jy_sub_s (jy_sub_s (jy_sub_s jy_sub_0))))))))))
        · have h := h.2 hq
          refine jy_iload hS rfl rfl ?_
          refine jy_goto hS rfl ?_
          exact jy_join hS h rfl (jy_sub_s (jy_sub_s (jy_sub_s (jy_sub_s (jy_sub_s (jy_sub_s (jy_sub_n (jy_sub_s (jy_sub_s (jy_sub_s jy_sub_0))))))))))
  · intro s0 l5 l7 l8 l9 I h
    unfold wz_292_105 at h
    refine jy_istore hS rfl (Nat.le_of_ble_eq_true rfl) (L' := [some (.ref a0), some (jy a1), some (jy a2), some (jy a3), some (jy a4), some (jy l5), some (jy s0), some (jy l7), some (jy l8), some (jy l9)]) rfl ?_
    refine jy_iload hS rfl rfl ?_
    refine jy_iload hS rfl rfl ?_
    obtain ⟨g32, h⟩ := h
    obtain ⟨g33, h⟩ := h
    refine jy_icmp_le hS rfl ⟨g32, g33⟩ (fun hq => ?_) (fun hq => ?_)
    · have h := h.1 hq
      refine jy_iload hS rfl rfl ?_
      exact jy_join hS h rfl (jy_sub_s (jy_sub_s (jy_sub_s (jy_sub_s (jy_sub_s (jy_sub_s (jy_sub_s (jy_sub_n (jy_sub_s (jy_sub_n jy_sub_0))))))))))
    · have h := h.2 hq
      refine jy_iload hS rfl rfl ?_
      refine jy_goto hS rfl ?_
      exact jy_join hS h rfl (jy_sub_s (jy_sub_s (jy_sub_s (jy_sub_s (jy_sub_s (jy_sub_s (jy_sub_s (jy_sub_n (jy_sub_s (jy_sub_n jy_sub_0))))))))))
  · intro s0 l5 l6 l8 I h
    unfold wz_292_121 at h
    refine jy_istore hS rfl (Nat.le_of_ble_eq_true rfl) (L' := [some (.ref a0), some (jy a1), some (jy a2), some (jy a3), some (jy a4), some (jy l5), some (jy l6), some (jy s0), some (jy l8), none]) rfl ?_
    refine jy_iinc hS rfl rfl (L' := [some (.ref a0), some (jy a1), some (jy a2), some (jy a3), some (jy a4), some (jy l5), some (jy l6), some (jy s0), some (jy (l8 + 1)), none]) rfl ?_
    refine jy_goto hS rfl ?_
    exact jy_join hS h rfl (jy_sub_s (jy_sub_s (jy_sub_s (jy_sub_s (jy_sub_s (jy_sub_s (jy_sub_s (jy_sub_s (jy_sub_s (jy_sub_n jy_sub_0))))))))))
theorem jt_293 : jx_ml 293 = 5 ∧ jx_rt 293 = some .int ∧ jx_hz 293 = [] ∧ decide ((jx_nm 293).name = "<init>") = false ∧ jx_code 293 = jx_c293 := by decide +kernel
/-- GCModel.behind, from 7 -/
def wz_293_7 (V : jx_V) (X : jx_X) (R : jx_R) (Q : Option Value → jx_I → Prop) (QE : String → jx_I → Prop) (J7 : Int → jx_I → Prop) (J35 : Int → Int → jx_I → Prop) (a0 : Nat) (a1 : Int) (a2 : Int) (a3 : Int) (l4 : Int) (I : jx_I) : Prop :=
  (-2147483648 ≤ l4 ∧ l4 < 2147483648) ∧ (
  (24 < l4 → (
    Q (some (jy (-1))) I
  )) ∧ (¬ 24 < l4 → (
    (X.2.1 a0 = some (12, 0)) ∧ (
    ∃ Q8 : Option Value → jx_I → Prop, (
    (jc V 5 258 (0, 0) [.ref a0] X I R Q8 (fun _ _ => False)) ∧ (
    ∀ rv I10, Q8 rv I10 → ∃ r11 : Int, rv = some (jy r11) ∧ (
    ∃ q12 : Nat, (
    (R a0 42 = some q12) ∧ (
    ∃ n14 : Nat, (
    (X.2.1 q12 = some (104, n14) ∧ n14 < 2147483648) ∧ (
    (0 ≤ a2 ∧ a2 < n14) ∧ (
    ∃ q17 : Nat, (
    (R q12 a2.toNat = some q17) ∧ (
    ∃ n19 : Nat, (
    (X.2.1 q17 = some (100, n19) ∧ n19 < 2147483648) ∧ (
    (0 ≤ a1 ∧ a1 < n19) ∧ (
    ((I10 q17 a1.toNat).toInt ≤ 0 → (
      J35 0 l4 I10
    )) ∧ (¬ (I10 q17 a1.toNat).toInt ≤ 0 → (
      J35 1 l4 I10
    ))))))))))))))))
  )))
/-- GCModel.behind, from 35 -/
def wz_293_35 (V : jx_V) (X : jx_X) (R : jx_R) (Q : Option Value → jx_I → Prop) (QE : String → jx_I → Prop) (J7 : Int → jx_I → Prop) (J35 : Int → Int → jx_I → Prop) (a0 : Nat) (a1 : Int) (a2 : Int) (a3 : Int) (s0 : Int) (l4 : Int) (I : jx_I) : Prop :=
  (-2147483648 ≤ s0 ∧ s0 < 2147483648) ∧ (
  (s0 ≠ a3 → (
    J7 (l4 + 1) I
  )) ∧ (s0 = a3 → (
    Q (some (jy l4)) I
  )))
/-- GCModel.behind -/
def wz_293 (V : jx_V) (X : jx_X) (R : jx_R) (Q : Option Value → jx_I → Prop) (QE : String → jx_I → Prop) (J7 : Int → jx_I → Prop) (J35 : Int → Int → jx_I → Prop) (a0 : Nat) (a1 : Int) (a2 : Int) (a3 : Int) (I : jx_I) : Prop :=
  (X.2.1 a0 = some (12, 0)) ∧ (
  ∃ Q2 : Option Value → jx_I → Prop, (
  (jc V 1 243 (0, 0) [.ref a0] X I R Q2 (fun _ _ => False)) ∧ (
  ∀ rv I4, Q2 rv I4 → rv = none ∧ (
  J7 1 I4))))
set_option maxRecDepth 20000 in
theorem wm_293 {V : jx_V} (hV : V.1.stackTraces = false) {X : jx_X} {R : jx_R} {I : jx_I} {Q : Option Value → jx_I → Prop} {QE : String → jx_I → Prop} {a0 : Nat} {a1 : Int} {a2 : Int} {a3 : Int} (r_a1 : -2147483648 ≤ a1 ∧ a1 < 2147483648) (r_a2 : -2147483648 ≤ a2 ∧ a2 < 2147483648) (r_a3 : -2147483648 ≤ a3 ∧ a3 < 2147483648) 
    (h : ∀ (J7 : Int → jx_I → Prop) (J35 : Int → Int → jx_I → Prop), ((∀ (l4 : Int) I, wz_293_7 V X R Q QE J7 J35 a0 a1 a2 a3 l4 I → J7 l4 I) ∧ (∀ (s0 : Int) (l4 : Int) I, wz_293_35 V X R Q QE J7 J35 a0 a1 a2 a3 s0 l4 I → J35 s0 l4 I)) → wz_293 V X R Q QE J7 J35 a0 a1 a2 a3 I) : jc V 6 293 (0, 0) [.ref a0, jy a1, jy a2, jy a3] X I R Q QE := by
  refine jy_met hV (by decide) (n := 5) (rt := some .int) (hh := []) (ini := false) (C := jx_c293) (L := [some (.ref a0), some (jy a1), some (jy a2), some (jy a3), none]) jt_293 (Nat.le_of_ble_eq_true rfl) rfl ?_
  intro J hS
  have h := h (fun l4 I => J 7 [] [some (.ref a0), some (jy a1), some (jy a2), some (jy a3), some (jy l4)] (0, 0) X I R) (fun s0 l4 I => J 35 [jy s0] [some (.ref a0), some (jy a1), some (jy a2), some (jy a3), some (jy l4)] (0, 0) X I R) ?_
  · unfold wz_293 at h
    refine jy_aload_n hS rfl rfl ?_
    obtain ⟨g1, h⟩ := h
    obtain ⟨Q2, h⟩ := h
    obtain ⟨g3, h⟩ := h
    refine jy_callV hS rfl rfl rfl (Nat.le_of_ble_eq_true rfl) (Or.inl g1) g3 (by decide) ⟨by decide, by decide⟩ (Nat.le_of_ble_eq_true rfl) ?_ ?_
    rotate_left
    · exact fun Ex Xx Ix Rx hp => hp.2.2.2.elim
    intro rv Xx I4 Rx hp
    obtain ⟨e1, e2, hp⟩ := hp
    rw [e1, e2]
    clear e1 e2
    obtain ⟨e1, h⟩ := h rv I4 hp
    rw [e1]
    clear e1
    change J 4 [] _ (0, 0) _ _ _
    refine jy_iconst hS rfl ?_
    refine jy_istore hS rfl (Nat.le_of_ble_eq_true rfl) (L' := [some (.ref a0), some (jy a1), some (jy a2), some (jy a3), some (jy 1)]) rfl ?_
    exact jy_join hS h rfl (jy_sub_s (jy_sub_s (jy_sub_s (jy_sub_s (jy_sub_s jy_sub_0)))))
  refine ⟨?_, ?_⟩
  · intro l4 I h
    unfold wz_293_7 at h
    refine jy_iload hS rfl rfl ?_
    refine jy_bipush hS rfl (by decide) ?_
    obtain ⟨g6, h⟩ := h
    refine jy_icmp_gt hS rfl ⟨g6, ⟨by decide, by decide⟩⟩ (fun hq => ?_) (fun hq => ?_)
    · have h := h.1 hq
      refine jy_iconst hS rfl ?_
      exact jy_iret hS rfl rfl ⟨rfl, rfl, h⟩
    · have h := h.2 hq
      refine jy_aload_n hS rfl rfl ?_
      obtain ⟨g7, h⟩ := h
      obtain ⟨Q8, h⟩ := h
      obtain ⟨g9, h⟩ := h
      refine jy_callV hS rfl rfl rfl (Nat.le_of_ble_eq_true rfl) (Or.inl g7) g9 (by decide) ⟨by decide, by decide⟩ (Nat.le_of_ble_eq_true rfl) ?_ ?_
      rotate_left
      · exact fun Ex Xx Ix Rx hp => hp.2.2.2.elim
      intro rv Xx I10 Rx hp
      obtain ⟨e1, e2, hp⟩ := hp
      rw [e1, e2]
      clear e1 e2
      obtain ⟨r11, e1, h⟩ := h rv I10 hp
      rw [e1]
      clear e1
      change J 18 [jy r11] _ (0, 0) _ _ _
      refine jy_pop hS rfl rfl ?_
      refine jy_aload_n hS rfl rfl ?_
      obtain ⟨q12, h⟩ := h
      obtain ⟨g13, h⟩ := h
      refine jy_getR hS rfl (by decide) g7 g13 ?_
      refine jy_iload_n hS rfl rfl ?_
      obtain ⟨n14, h⟩ := h
      obtain ⟨g15, h⟩ := h
      obtain ⟨g16, h⟩ := h
      obtain ⟨q17, h⟩ := h
      obtain ⟨g18, h⟩ := h
      refine jy_aald hS rfl g15.1 (by decide) (Nat.le_of_lt g15.2) g16 g18 ?_
      refine jy_iload_n hS rfl rfl ?_
      obtain ⟨n19, h⟩ := h
      obtain ⟨g20, h⟩ := h
      obtain ⟨g21, h⟩ := h
      refine jy_iald hS rfl g20.1 (Nat.le_of_lt g20.2) g21 ?_
      refine jy_if_le hS rfl (jy_rng _) (fun hq => ?_) (fun hq => ?_)
      · have h := h.1 hq
        refine jy_iconst hS rfl ?_
        exact jy_join hS h rfl (jy_sub_s (jy_sub_s (jy_sub_s (jy_sub_s (jy_sub_s jy_sub_0)))))
      · have h := h.2 hq
        refine jy_iconst hS rfl ?_
        refine jy_goto hS rfl ?_
        exact jy_join hS h rfl (jy_sub_s (jy_sub_s (jy_sub_s (jy_sub_s (jy_sub_s jy_sub_0)))))
  · intro s0 l4 I h
    unfold wz_293_35 at h
    refine jy_iload_n hS rfl rfl ?_
    obtain ⟨g22, h⟩ := h
    refine jy_icmp_ne hS rfl ⟨g22, r_a3⟩ (fun hq => ?_) (fun hq => ?_)
    · have h := h.1 hq
      refine jy_iinc hS rfl rfl (L' := [some (.ref a0), some (jy a1), some (jy a2), some (jy a3), some (jy (l4 + 1))]) rfl ?_
      refine jy_goto hS rfl ?_
      exact jy_join hS h rfl (jy_sub_s (jy_sub_s (jy_sub_s (jy_sub_s (jy_sub_s jy_sub_0)))))
    · have h := h.2 hq
      refine jy_iload hS rfl rfl ?_
      exact jy_iret hS rfl rfl ⟨rfl, rfl, h⟩
theorem jt_294 : jx_ml 294 = 3 ∧ jx_rt 294 = some .boolean ∧ jx_hz 294 = [] ∧ decide ((jx_nm 294).name = "<init>") = false ∧ jx_code 294 = jx_c294 := by decide +kernel
/-- GCModel.badThree, from 14 -/
def wz_294_14 (V : jx_V) (X : jx_X) (R : jx_R) (Q : Option Value → jx_I → Prop) (QE : String → jx_I → Prop) (J14 : Nat → Int → jx_I → Prop) (J36 : Nat → Int → jx_I → Prop) (J57 : Nat → Int → jx_I → Prop) (a0 : Nat) (a1 : Int) (a2 : Int) (s0 : Nat) (s1 : Int) (I : jx_I) : Prop :=
  (X.2.1 s0 = some (12, 0)) ∧ (
  ∃ Q8 : Option Value → jx_I → Prop, (
  (jc V 1 202 (0, 0) [.ref s0, jy s1, jy 1, jy 0] X I R Q8 (fun _ _ => False)) ∧ (
  ∀ rv I10, Q8 rv I10 → ∃ r11 : Int, rv = some (jy r11) ∧ (
  (-2147483648 ≤ r11 ∧ r11 < 2147483648) ∧ (
  (r11 ≠ 0 → (
    Q (some (jy 1)) I10
  )) ∧ (r11 = 0 → (
    (X.2.1 a0 = some (12, 0)) ∧ (
    ∃ Q14 : Option Value → jx_I → Prop, (
    (jc V 2 233 (0, 0) [.ref a0, jy a2] X I10 R Q14 (fun _ _ => False)) ∧ (
    ∀ rv I16, Q14 rv I16 → ∃ r17 : Int, rv = some (jy r17) ∧ (
    (-2147483648 ≤ r17 ∧ r17 < 2147483648) ∧ (
    (r17 ≠ 0 → (
      J36 a0 0 I16
    )) ∧ (r17 = 0 → (
      J36 a0 1 I16
    )))))))
  )))))))
/-- GCModel.badThree, from 36 -/
def wz_294_36 (V : jx_V) (X : jx_X) (R : jx_R) (Q : Option Value → jx_I → Prop) (QE : String → jx_I → Prop) (J14 : Nat → Int → jx_I → Prop) (J36 : Nat → Int → jx_I → Prop) (J57 : Nat → Int → jx_I → Prop) (a0 : Nat) (a1 : Int) (a2 : Int) (s0 : Nat) (s1 : Int) (I : jx_I) : Prop :=
  (X.2.1 s0 = some (12, 0)) ∧ (
  ∃ Q20 : Option Value → jx_I → Prop, (
  (jc V 1 202 (0, 0) [.ref s0, jy s1, jy 2, jy 1] X I R Q20 (fun _ _ => False)) ∧ (
  ∀ rv I22, Q20 rv I22 → ∃ r23 : Int, rv = some (jy r23) ∧ (
  (-2147483648 ≤ r23 ∧ r23 < 2147483648) ∧ (
  (r23 ≠ 0 → (
    Q (some (jy 1)) I22
  )) ∧ (r23 = 0 → (
    (X.2.1 a0 = some (12, 0)) ∧ (
    ((I22 a0 37).toInt ≠ 0 → (
      J57 a0 0 I22
    )) ∧ ((I22 a0 37).toInt = 0 → (
      J57 a0 1 I22
    )))
  )))))))
/-- GCModel.badThree, from 57 -/
def wz_294_57 (V : jx_V) (X : jx_X) (R : jx_R) (Q : Option Value → jx_I → Prop) (QE : String → jx_I → Prop) (J14 : Nat → Int → jx_I → Prop) (J36 : Nat → Int → jx_I → Prop) (J57 : Nat → Int → jx_I → Prop) (a0 : Nat) (a1 : Int) (a2 : Int) (s0 : Nat) (s1 : Int) (I : jx_I) : Prop :=
  (X.2.1 s0 = some (12, 0)) ∧ (
  ∃ Q27 : Option Value → jx_I → Prop, (
  (jc V 1 202 (0, 0) [.ref s0, jy s1, jy 3, jy 3] X I R Q27 (fun _ _ => False)) ∧ (
  ∀ rv I29, Q27 rv I29 → ∃ r30 : Int, rv = some (jy r30) ∧ (
  (-2147483648 ≤ r30 ∧ r30 < 2147483648) ∧ (
  (r30 = 0 → (
    Q (some (jy 0)) I29
  )) ∧ (¬ r30 = 0 → (
    Q (some (jy 1)) I29
  )))))))
/-- GCModel.badThree -/
def wz_294 (V : jx_V) (X : jx_X) (R : jx_R) (Q : Option Value → jx_I → Prop) (QE : String → jx_I → Prop) (J14 : Nat → Int → jx_I → Prop) (J36 : Nat → Int → jx_I → Prop) (J57 : Nat → Int → jx_I → Prop) (a0 : Nat) (a1 : Int) (a2 : Int) (I : jx_I) : Prop :=
  (X.2.1 a0 = some (12, 0)) ∧ (
  ∃ Q2 : Option Value → jx_I → Prop, (
  (jc V 2 232 (0, 0) [.ref a0, jy a1] X I R Q2 (fun _ _ => False)) ∧ (
  ∀ rv I4, Q2 rv I4 → ∃ r5 : Int, rv = some (jy r5) ∧ (
  (-2147483648 ≤ r5 ∧ r5 < 2147483648) ∧ (
  (r5 ≠ 0 → (
    J14 a0 0 I4
  )) ∧ (r5 = 0 → (
    J14 a0 1 I4
  )))))))
set_option maxRecDepth 20000 in
theorem wm_294 {V : jx_V} (hV : V.1.stackTraces = false) {X : jx_X} {R : jx_R} {I : jx_I} {Q : Option Value → jx_I → Prop} {QE : String → jx_I → Prop} {a0 : Nat} {a1 : Int} {a2 : Int} (r_a1 : -2147483648 ≤ a1 ∧ a1 < 2147483648) (r_a2 : -2147483648 ≤ a2 ∧ a2 < 2147483648) 
    (h : ∀ (J14 : Nat → Int → jx_I → Prop) (J36 : Nat → Int → jx_I → Prop) (J57 : Nat → Int → jx_I → Prop), ((∀ (s0 : Nat) (s1 : Int) I, wz_294_14 V X R Q QE J14 J36 J57 a0 a1 a2 s0 s1 I → J14 s0 s1 I) ∧ (∀ (s0 : Nat) (s1 : Int) I, wz_294_36 V X R Q QE J14 J36 J57 a0 a1 a2 s0 s1 I → J36 s0 s1 I) ∧ (∀ (s0 : Nat) (s1 : Int) I, wz_294_57 V X R Q QE J14 J36 J57 a0 a1 a2 s0 s1 I → J57 s0 s1 I)) → wz_294 V X R Q QE J14 J36 J57 a0 a1 a2 I) : jc V 3 294 (0, 0) [.ref a0, jy a1, jy a2] X I R Q QE := by
  refine jy_met hV (by decide) (n := 3) (rt := some .boolean) (hh := []) (ini := false) (C := jx_c294) (L := [some (.ref a0), some (jy a1), some (jy a2)]) jt_294 (Nat.le_of_ble_eq_true rfl) rfl ?_
  intro J hS
  have h := h (fun s0 s1 I => J 14 [jy s1, .ref s0] [some (.ref a0), none, some (jy a2)] (0, 0) X I R) (fun s0 s1 I => J 36 [jy s1, .ref s0] [some (.ref a0), none, none] (0, 0) X I R) (fun s0 s1 I => J 57 [jy s1, .ref s0] [none, none, none] (0, 0) X I R) ?_
  · unfold wz_294 at h
    refine jy_aload_n hS rfl rfl ?_
    refine jy_aload_n hS rfl rfl ?_
    refine jy_iload_n hS rfl rfl ?_
    obtain ⟨g1, h⟩ := h
    obtain ⟨Q2, h⟩ := h
    obtain ⟨g3, h⟩ := h
    refine jy_callV hS rfl rfl rfl (Nat.le_of_ble_eq_true rfl) (Or.inl g1) g3 (by decide) ⟨by decide, by decide⟩ (Nat.le_of_ble_eq_true rfl) ?_ ?_
    rotate_left
    · exact fun Ex Xx Ix Rx hp => hp.2.2.2.elim
    intro rv Xx I4 Rx hp
    obtain ⟨e1, e2, hp⟩ := hp
    rw [e1, e2]
    clear e1 e2
    obtain ⟨r5, e1, h⟩ := h rv I4 hp
    rw [e1]
    clear e1
    change J 6 [jy r5, .ref a0] _ (0, 0) _ _ _
    obtain ⟨g6, h⟩ := h
    refine jy_if_ne hS rfl g6 (fun hq => ?_) (fun hq => ?_)
    · have h := h.1 hq
      refine jy_iconst hS rfl ?_
      exact jy_join hS h rfl (jy_sub_s (jy_sub_n (jy_sub_s jy_sub_0)))
    · have h := h.2 hq
      refine jy_iconst hS rfl ?_
      refine jy_goto hS rfl ?_
      exact jy_join hS h rfl (jy_sub_s (jy_sub_n (jy_sub_s jy_sub_0)))
  refine ⟨?_, ?_, ?_⟩
  · intro s0 s1 I h
    unfold wz_294_14 at h
    refine jy_iconst hS rfl ?_
    refine jy_iconst hS rfl ?_
    obtain ⟨g7, h⟩ := h
    obtain ⟨Q8, h⟩ := h
    obtain ⟨g9, h⟩ := h
    refine jy_callV hS rfl rfl rfl (Nat.le_of_ble_eq_true rfl) (Or.inl g7) g9 (by decide) ⟨by decide, by decide⟩ (Nat.le_of_ble_eq_true rfl) ?_ ?_
    rotate_left
    · exact fun Ex Xx Ix Rx hp => hp.2.2.2.elim
    intro rv Xx I10 Rx hp
    obtain ⟨e1, e2, hp⟩ := hp
    rw [e1, e2]
    clear e1 e2
    obtain ⟨r11, e1, h⟩ := h rv I10 hp
    rw [e1]
    clear e1
    change J 19 [jy r11] _ (0, 0) _ _ _
    obtain ⟨g12, h⟩ := h
    refine jy_if_ne hS rfl g12 (fun hq => ?_) (fun hq => ?_)
    · have h := h.1 hq
      refine jy_iconst hS rfl ?_
      refine jy_goto hS rfl ?_
      exact jy_iret hS rfl rfl ⟨rfl, rfl, h⟩
    · have h := h.2 hq
      refine jy_aload_n hS rfl rfl ?_
      refine jy_aload_n hS rfl rfl ?_
      refine jy_iload_n hS rfl rfl ?_
      obtain ⟨g13, h⟩ := h
      obtain ⟨Q14, h⟩ := h
      obtain ⟨g15, h⟩ := h
      refine jy_callV hS rfl rfl rfl (Nat.le_of_ble_eq_true rfl) (Or.inl g13) g15 (by decide) ⟨by decide, by decide⟩ (Nat.le_of_ble_eq_true rfl) ?_ ?_
      rotate_left
      · exact fun Ex Xx Ix Rx hp => hp.2.2.2.elim
      intro rv Xx I16 Rx hp
      obtain ⟨e1, e2, hp⟩ := hp
      rw [e1, e2]
      clear e1 e2
      obtain ⟨r17, e1, h⟩ := h rv I16 hp
      rw [e1]
      clear e1
      change J 28 [jy r17, .ref a0] _ (0, 0) _ _ _
      obtain ⟨g18, h⟩ := h
      refine jy_if_ne hS rfl g18 (fun hq => ?_) (fun hq => ?_)
      · have h := h.1 hq
        refine jy_iconst hS rfl ?_
        exact jy_join hS h rfl (jy_sub_s (jy_sub_n (jy_sub_n jy_sub_0)))
      · have h := h.2 hq
        refine jy_iconst hS rfl ?_
        refine jy_goto hS rfl ?_
        exact jy_join hS h rfl (jy_sub_s (jy_sub_n (jy_sub_n jy_sub_0)))
  · intro s0 s1 I h
    unfold wz_294_36 at h
    refine jy_iconst hS rfl ?_
    refine jy_iconst hS rfl ?_
    obtain ⟨g19, h⟩ := h
    obtain ⟨Q20, h⟩ := h
    obtain ⟨g21, h⟩ := h
    refine jy_callV hS rfl rfl rfl (Nat.le_of_ble_eq_true rfl) (Or.inl g19) g21 (by decide) ⟨by decide, by decide⟩ (Nat.le_of_ble_eq_true rfl) ?_ ?_
    rotate_left
    · exact fun Ex Xx Ix Rx hp => hp.2.2.2.elim
    intro rv Xx I22 Rx hp
    obtain ⟨e1, e2, hp⟩ := hp
    rw [e1, e2]
    clear e1 e2
    obtain ⟨r23, e1, h⟩ := h rv I22 hp
    rw [e1]
    clear e1
    change J 41 [jy r23] _ (0, 0) _ _ _
    obtain ⟨g24, h⟩ := h
    refine jy_if_ne hS rfl g24 (fun hq => ?_) (fun hq => ?_)
    · have h := h.1 hq
      refine jy_iconst hS rfl ?_
      refine jy_goto hS rfl ?_
      exact jy_iret hS rfl rfl ⟨rfl, rfl, h⟩
    · have h := h.2 hq
      refine jy_aload_n hS rfl rfl ?_
      refine jy_aload_n hS rfl rfl ?_
      obtain ⟨g25, h⟩ := h
      refine jy_getI hS rfl (by decide) g25 ?_
      refine jy_if_ne hS rfl (jy_rng _) (fun hq => ?_) (fun hq => ?_)
      · have h := h.1 hq
        refine jy_iconst hS rfl ?_
        exact jy_join hS h rfl (jy_sub_n (jy_sub_n (jy_sub_n jy_sub_0)))
      · have h := h.2 hq
        refine jy_iconst hS rfl ?_
        refine jy_goto hS rfl ?_
        exact jy_join hS h rfl (jy_sub_n (jy_sub_n (jy_sub_n jy_sub_0)))
  · intro s0 s1 I h
    unfold wz_294_57 at h
    refine jy_iconst hS rfl ?_
    refine jy_iconst hS rfl ?_
    obtain ⟨g26, h⟩ := h
    obtain ⟨Q27, h⟩ := h
    obtain ⟨g28, h⟩ := h
    refine jy_callV hS rfl rfl rfl (Nat.le_of_ble_eq_true rfl) (Or.inl g26) g28 (by decide) ⟨by decide, by decide⟩ (Nat.le_of_ble_eq_true rfl) ?_ ?_
    rotate_left
    · exact fun Ex Xx Ix Rx hp => hp.2.2.2.elim
    intro rv Xx I29 Rx hp
    obtain ⟨e1, e2, hp⟩ := hp
    rw [e1, e2]
    clear e1 e2
    obtain ⟨r30, e1, h⟩ := h rv I29 hp
    rw [e1]
    clear e1
    change J 62 [jy r30] _ (0, 0) _ _ _
    obtain ⟨g31, h⟩ := h
    refine jy_if_eq hS rfl g31 (fun hq => ?_) (fun hq => ?_)
    · have h := h.1 hq
      refine jy_iconst hS rfl ?_
      exact jy_iret hS rfl rfl ⟨rfl, rfl, h⟩
    · have h := h.2 hq
      refine jy_iconst hS rfl ?_
      refine jy_goto hS rfl ?_
      exact jy_iret hS rfl rfl ⟨rfl, rfl, h⟩
theorem jt_295 : jx_ml 295 = 3 ∧ jx_rt 295 = some .int ∧ jx_hz 295 = [] ∧ decide ((jx_nm 295).name = "<init>") = false ∧ jx_code 295 = jx_c295 := by decide +kernel
/-- GCModel.learnt -/
def wz_295 (V : jx_V) (X : jx_X) (R : jx_R) (Q : Option Value → jx_I → Prop) (QE : String → jx_I → Prop)  (a0 : Nat) (a1 : Int) (a2 : Int) (I : jx_I) : Prop :=
  (X.2.1 a0 = some (12, 0)) ∧ (
  ∀ I2 : jx_I, I2 = jx_u I a0 0 (Int32.ofInt 0) → (
  ∃ Q3 : Option Value → jx_I → Prop, (
  (jc V 3 294 (0, 0) [.ref a0, jy a1, jy a2] X I2 R Q3 (fun _ _ => False)) ∧ (
  ∀ rv I5, Q3 rv I5 → ∃ r6 : Int, rv = some (jy r6) ∧ (
  (-2147483648 ≤ r6 ∧ r6 < 2147483648) ∧ (
  (r6 = 0 → (
    ∃ Q8 : Option Value → jx_I → Prop, (
    (jc V 6 293 (0, 0) [.ref a0, jy a1, jy a2, jy 1] X I5 R Q8 (fun _ _ => False)) ∧ (
    ∀ rv I10, Q8 rv I10 → ∃ r11 : Int, rv = some (jy r11) ∧ (
    Q (some (jy r11)) I10)))
  )) ∧ (¬ r6 = 0 → (
    Q (some (jy 0)) I5
  ))))))))
set_option maxRecDepth 20000 in
theorem wm_295 {V : jx_V} (hV : V.1.stackTraces = false) {X : jx_X} {R : jx_R} {I : jx_I} {Q : Option Value → jx_I → Prop} {QE : String → jx_I → Prop} {a0 : Nat} {a1 : Int} {a2 : Int} (r_a1 : -2147483648 ≤ a1 ∧ a1 < 2147483648) (r_a2 : -2147483648 ≤ a2 ∧ a2 < 2147483648) 
    (h : wz_295 V X R Q QE  a0 a1 a2 I) : jc V 7 295 (0, 0) [.ref a0, jy a1, jy a2] X I R Q QE := by
  refine jy_met hV (by decide) (n := 3) (rt := some .int) (hh := []) (ini := false) (C := jx_c295) (L := [some (.ref a0), some (jy a1), some (jy a2)]) jt_295 (Nat.le_of_ble_eq_true rfl) rfl ?_
  intro J hS
  unfold wz_295 at h
  refine jy_aload_n hS rfl rfl ?_
  refine jy_iconst hS rfl ?_
  obtain ⟨g1, h⟩ := h
  refine jy_putI hS rfl (by decide) g1 ?_
  intro I2 e9
  have h := h I2 e9
  clear e9
  refine jy_aload_n hS rfl rfl ?_
  refine jy_iload_n hS rfl rfl ?_
  refine jy_iload_n hS rfl rfl ?_
  obtain ⟨Q3, h⟩ := h
  obtain ⟨g4, h⟩ := h
  refine jy_callV hS rfl rfl rfl (Nat.le_of_ble_eq_true rfl) (Or.inl g1) g4 (by decide) ⟨by decide, by decide⟩ (Nat.le_of_ble_eq_true rfl) ?_ ?_
  rotate_left
  · exact fun Ex Xx Ix Rx hp => hp.2.2.2.elim
  intro rv Xx I5 Rx hp
  obtain ⟨e1, e2, hp⟩ := hp
  rw [e1, e2]
  clear e1 e2
  obtain ⟨r6, e1, h⟩ := h rv I5 hp
  rw [e1]
  clear e1
  change J 11 [jy r6] _ (0, 0) _ _ _
  obtain ⟨g7, h⟩ := h
  refine jy_if_eq hS rfl g7 (fun hq => ?_) (fun hq => ?_)
  · have h := h.1 hq
    refine jy_aload_n hS rfl rfl ?_
    refine jy_iload_n hS rfl rfl ?_
    refine jy_iload_n hS rfl rfl ?_
    refine jy_iconst hS rfl ?_
    obtain ⟨Q8, h⟩ := h
    obtain ⟨g9, h⟩ := h
    refine jy_callV hS rfl rfl rfl (Nat.le_of_ble_eq_true rfl) (Or.inl g1) g9 (by decide) ⟨by decide, by decide⟩ (Nat.le_of_ble_eq_true rfl) ?_ ?_
    rotate_left
    · exact fun Ex Xx Ix Rx hp => hp.2.2.2.elim
    intro rv Xx I10 Rx hp
    obtain ⟨e1, e2, hp⟩ := hp
    rw [e1, e2]
    clear e1 e2
    obtain ⟨r11, e1, h⟩ := h rv I10 hp
    rw [e1]
    clear e1
    change J 23 [jy r11] _ (0, 0) _ _ _
    exact jy_iret hS rfl rfl ⟨rfl, rfl, h⟩
  · have h := h.2 hq
    refine jy_iconst hS rfl ?_
    exact jy_iret hS rfl rfl ⟨rfl, rfl, h⟩
theorem jt_296 : jx_ml 296 = 3 ∧ jx_rt 296 = some .int ∧ jx_hz 296 = [] ∧ decide ((jx_nm 296).name = "<init>") = false ∧ jx_code 296 = jx_c296 := by decide +kernel
/-- GCModel.forgot -/
def wz_296 (V : jx_V) (X : jx_X) (R : jx_R) (Q : Option Value → jx_I → Prop) (QE : String → jx_I → Prop)  (a0 : Nat) (a1 : Int) (a2 : Int) (I : jx_I) : Prop :=
  (X.2.1 a0 = some (12, 0)) ∧ (
  ∀ I2 : jx_I, I2 = jx_u I a0 0 (Int32.ofInt 0) → (
  ∃ Q3 : Option Value → jx_I → Prop, (
  (jc V 3 294 (0, 0) [.ref a0, jy a1, jy a2] X I2 R Q3 (fun _ _ => False)) ∧ (
  ∀ rv I5, Q3 rv I5 → ∃ r6 : Int, rv = some (jy r6) ∧ (
  (-2147483648 ≤ r6 ∧ r6 < 2147483648) ∧ (
  (r6 = 0 → (
    ∃ Q8 : Option Value → jx_I → Prop, (
    (jc V 6 293 (0, 0) [.ref a0, jy a1, jy a2, jy 0] X I5 R Q8 (fun _ _ => False)) ∧ (
    ∀ rv I10, Q8 rv I10 → ∃ r11 : Int, rv = some (jy r11) ∧ (
    Q (some (jy r11)) I10)))
  )) ∧ (¬ r6 = 0 → (
    Q (some (jy 0)) I5
  ))))))))
set_option maxRecDepth 20000 in
theorem wm_296 {V : jx_V} (hV : V.1.stackTraces = false) {X : jx_X} {R : jx_R} {I : jx_I} {Q : Option Value → jx_I → Prop} {QE : String → jx_I → Prop} {a0 : Nat} {a1 : Int} {a2 : Int} (r_a1 : -2147483648 ≤ a1 ∧ a1 < 2147483648) (r_a2 : -2147483648 ≤ a2 ∧ a2 < 2147483648) 
    (h : wz_296 V X R Q QE  a0 a1 a2 I) : jc V 7 296 (0, 0) [.ref a0, jy a1, jy a2] X I R Q QE := by
  refine jy_met hV (by decide) (n := 3) (rt := some .int) (hh := []) (ini := false) (C := jx_c296) (L := [some (.ref a0), some (jy a1), some (jy a2)]) jt_296 (Nat.le_of_ble_eq_true rfl) rfl ?_
  intro J hS
  unfold wz_296 at h
  refine jy_aload_n hS rfl rfl ?_
  refine jy_iconst hS rfl ?_
  obtain ⟨g1, h⟩ := h
  refine jy_putI hS rfl (by decide) g1 ?_
  intro I2 e9
  have h := h I2 e9
  clear e9
  refine jy_aload_n hS rfl rfl ?_
  refine jy_iload_n hS rfl rfl ?_
  refine jy_iload_n hS rfl rfl ?_
  obtain ⟨Q3, h⟩ := h
  obtain ⟨g4, h⟩ := h
  refine jy_callV hS rfl rfl rfl (Nat.le_of_ble_eq_true rfl) (Or.inl g1) g4 (by decide) ⟨by decide, by decide⟩ (Nat.le_of_ble_eq_true rfl) ?_ ?_
  rotate_left
  · exact fun Ex Xx Ix Rx hp => hp.2.2.2.elim
  intro rv Xx I5 Rx hp
  obtain ⟨e1, e2, hp⟩ := hp
  rw [e1, e2]
  clear e1 e2
  obtain ⟨r6, e1, h⟩ := h rv I5 hp
  rw [e1]
  clear e1
  change J 11 [jy r6] _ (0, 0) _ _ _
  obtain ⟨g7, h⟩ := h
  refine jy_if_eq hS rfl g7 (fun hq => ?_) (fun hq => ?_)
  · have h := h.1 hq
    refine jy_aload_n hS rfl rfl ?_
    refine jy_iload_n hS rfl rfl ?_
    refine jy_iload_n hS rfl rfl ?_
    refine jy_iconst hS rfl ?_
    obtain ⟨Q8, h⟩ := h
    obtain ⟨g9, h⟩ := h
    refine jy_callV hS rfl rfl rfl (Nat.le_of_ble_eq_true rfl) (Or.inl g1) g9 (by decide) ⟨by decide, by decide⟩ (Nat.le_of_ble_eq_true rfl) ?_ ?_
    rotate_left
    · exact fun Ex Xx Ix Rx hp => hp.2.2.2.elim
    intro rv Xx I10 Rx hp
    obtain ⟨e1, e2, hp⟩ := hp
    rw [e1, e2]
    clear e1 e2
    obtain ⟨r11, e1, h⟩ := h rv I10 hp
    rw [e1]
    clear e1
    change J 23 [jy r11] _ (0, 0) _ _ _
    exact jy_iret hS rfl rfl ⟨rfl, rfl, h⟩
  · have h := h.2 hq
    refine jy_iconst hS rfl ?_
    exact jy_iret hS rfl rfl ⟨rfl, rfl, h⟩
theorem jt_297 : jx_ml 297 = 3 ∧ jx_rt 297 = some .int ∧ jx_hz 297 = [] ∧ decide ((jx_nm 297).name = "<init>") = false ∧ jx_code 297 = jx_c297 := by decide +kernel
/-- GCModel.soon, from 22 -/
def wz_297_22 (V : jx_V) (X : jx_X) (R : jx_R) (Q : Option Value → jx_I → Prop) (QE : String → jx_I → Prop) (J22 : Nat → Int → jx_I → Prop) (J36 : Int → jx_I → Prop) (a0 : Nat) (a1 : Int) (s0 : Nat) (s1 : Int) (I : jx_I) : Prop :=
  (X.2.1 s0 = some (12, 0)) ∧ (
  ∃ Q9 : Option Value → jx_I → Prop, (
  (jc V 2 260 (0, 0) [.ref s0, jy s1] X I R Q9 (fun _ _ => False)) ∧ (
  ∀ rv I11, Q9 rv I11 → ∃ r12 : Int, rv = some (jy r12) ∧ (
  (-2147483648 ≤ r12 ∧ r12 < 2147483648) ∧ (
  (r12 = 0 → (
    (X.2.1 a0 = some (12, 0)) ∧ (
    ∃ Q15 : Option Value → jx_I → Prop, (
    (jc V 1 243 (0, 0) [.ref a0] X I11 R Q15 (fun _ _ => False)) ∧ (
    ∀ rv I17, Q15 rv I17 → rv = none ∧ (
    J36 1 I17))))
  )) ∧ (¬ r12 = 0 → (
    Q (some (jy 0)) I11
  )))))))
/-- GCModel.soon, from 36 -/
def wz_297_36 (V : jx_V) (X : jx_X) (R : jx_R) (Q : Option Value → jx_I → Prop) (QE : String → jx_I → Prop) (J22 : Nat → Int → jx_I → Prop) (J36 : Int → jx_I → Prop) (a0 : Nat) (a1 : Int) (l2 : Int) (I : jx_I) : Prop :=
  (-2147483648 ≤ l2 ∧ l2 < 2147483648) ∧ (
  (24 < l2 → (
    Q (some (jy (-1))) I
  )) ∧ (¬ 24 < l2 → (
    (X.2.1 a0 = some (12, 0)) ∧ (
    ∃ Q21 : Option Value → jx_I → Prop, (
    (jc V 5 258 (0, 0) [.ref a0] X I R Q21 (fun _ _ => False)) ∧ (
    ∀ rv I23, Q21 rv I23 → ∃ r24 : Int, rv = some (jy r24) ∧ (
    (-2147483648 ≤ r24 ∧ r24 < 2147483648) ∧ (
    (a1 < r24 → (
      J36 (l2 + 1) I23
    )) ∧ (¬ a1 < r24 → (
      Q (some (jy l2)) I23
    )))))))
  )))
/-- GCModel.soon -/
def wz_297 (V : jx_V) (X : jx_X) (R : jx_R) (Q : Option Value → jx_I → Prop) (QE : String → jx_I → Prop) (J22 : Nat → Int → jx_I → Prop) (J36 : Int → jx_I → Prop) (a0 : Nat) (a1 : Int) (I : jx_I) : Prop :=
  (X.2.1 a0 = some (12, 0)) ∧ (
  ∀ I2 : jx_I, I2 = jx_u I a0 0 (Int32.ofInt 0) → (
  ∃ Q3 : Option Value → jx_I → Prop, (
  (jc V 1 203 (0, 0) [jy a1, jy 0, jy 9999] X I2 R Q3 (fun _ _ => False)) ∧ (
  ∀ rv I5, Q3 rv I5 → ∃ r6 : Int, rv = some (jy r6) ∧ (
  (-2147483648 ≤ r6 ∧ r6 < 2147483648) ∧ (
  (r6 ≠ 0 → (
    J22 a0 0 I5
  )) ∧ (r6 = 0 → (
    J22 a0 1 I5
  ))))))))
set_option maxRecDepth 20000 in
theorem wm_297 {V : jx_V} (hV : V.1.stackTraces = false) {X : jx_X} {R : jx_R} {I : jx_I} {Q : Option Value → jx_I → Prop} {QE : String → jx_I → Prop} {a0 : Nat} {a1 : Int} (r_a1 : -2147483648 ≤ a1 ∧ a1 < 2147483648) 
    (h : ∀ (J22 : Nat → Int → jx_I → Prop) (J36 : Int → jx_I → Prop), ((∀ (s0 : Nat) (s1 : Int) I, wz_297_22 V X R Q QE J22 J36 a0 a1 s0 s1 I → J22 s0 s1 I) ∧ (∀ (l2 : Int) I, wz_297_36 V X R Q QE J22 J36 a0 a1 l2 I → J36 l2 I)) → wz_297 V X R Q QE J22 J36 a0 a1 I) : jc V 6 297 (0, 0) [.ref a0, jy a1] X I R Q QE := by
  refine jy_met hV (by decide) (n := 3) (rt := some .int) (hh := []) (ini := false) (C := jx_c297) (L := [some (.ref a0), some (jy a1), none]) jt_297 (Nat.le_of_ble_eq_true rfl) rfl ?_
  intro J hS
  have h := h (fun s0 s1 I => J 22 [jy s1, .ref s0] [some (.ref a0), some (jy a1), none] (0, 0) X I R) (fun l2 I => J 36 [] [some (.ref a0), some (jy a1), some (jy l2)] (0, 0) X I R) ?_
  · unfold wz_297 at h
    refine jy_aload_n hS rfl rfl ?_
    refine jy_iconst hS rfl ?_
    obtain ⟨g1, h⟩ := h
    refine jy_putI hS rfl (by decide) g1 ?_
    intro I2 e9
    have h := h I2 e9
    clear e9
    refine jy_aload_n hS rfl rfl ?_
    refine jy_iload_n hS rfl rfl ?_
    refine jy_iconst hS rfl ?_
    refine jy_sipush hS rfl (by decide) ?_
    obtain ⟨Q3, h⟩ := h
    obtain ⟨g4, h⟩ := h
    refine jy_callS hS rfl rfl rfl (Nat.le_of_ble_eq_true rfl) g4 (by decide) ⟨by decide, by decide⟩ (Nat.le_of_ble_eq_true rfl) ?_ ?_
    rotate_left
    · exact fun Ex Xx Ix Rx hp => hp.2.2.2.elim
    intro rv Xx I5 Rx hp
    obtain ⟨e1, e2, hp⟩ := hp
    rw [e1, e2]
    clear e1 e2
    obtain ⟨r6, e1, h⟩ := h rv I5 hp
    rw [e1]
    clear e1
    change J 14 [jy r6, .ref a0] _ (0, 0) _ _ _
    obtain ⟨g7, h⟩ := h
    refine jy_if_ne hS rfl g7 (fun hq => ?_) (fun hq => ?_)
    · have h := h.1 hq
      refine jy_iconst hS rfl ?_
      exact jy_join hS h rfl (jy_sub_s (jy_sub_s (jy_sub_n jy_sub_0)))
    · have h := h.2 hq
      refine jy_iconst hS rfl ?_
      refine jy_goto hS rfl ?_
      exact jy_join hS h rfl (jy_sub_s (jy_sub_s (jy_sub_n jy_sub_0)))
  refine ⟨?_, ?_⟩
  · intro s0 s1 I h
    unfold wz_297_22 at h
    obtain ⟨g8, h⟩ := h
    obtain ⟨Q9, h⟩ := h
    obtain ⟨g10, h⟩ := h
    refine jy_callV hS rfl rfl rfl (Nat.le_of_ble_eq_true rfl) (Or.inl g8) g10 (by decide) ⟨by decide, by decide⟩ (Nat.le_of_ble_eq_true rfl) ?_ ?_
    rotate_left
    · exact fun Ex Xx Ix Rx hp => hp.2.2.2.elim
    intro rv Xx I11 Rx hp
    obtain ⟨e1, e2, hp⟩ := hp
    rw [e1, e2]
    clear e1 e2
    obtain ⟨r12, e1, h⟩ := h rv I11 hp
    rw [e1]
    clear e1
    change J 25 [jy r12] _ (0, 0) _ _ _
    obtain ⟨g13, h⟩ := h
    refine jy_if_eq hS rfl g13 (fun hq => ?_) (fun hq => ?_)
    · have h := h.1 hq
      refine jy_aload_n hS rfl rfl ?_
      obtain ⟨g14, h⟩ := h
      obtain ⟨Q15, h⟩ := h
      obtain ⟨g16, h⟩ := h
      refine jy_callV hS rfl rfl rfl (Nat.le_of_ble_eq_true rfl) (Or.inl g14) g16 (by decide) ⟨by decide, by decide⟩ (Nat.le_of_ble_eq_true rfl) ?_ ?_
      rotate_left
      · exact fun Ex Xx Ix Rx hp => hp.2.2.2.elim
      intro rv Xx I17 Rx hp
      obtain ⟨e1, e2, hp⟩ := hp
      rw [e1, e2]
      clear e1 e2
      obtain ⟨e1, h⟩ := h rv I17 hp
      rw [e1]
      clear e1
      change J 34 [] _ (0, 0) _ _ _
      refine jy_iconst hS rfl ?_
      refine jy_istore_n hS rfl (Nat.le_of_ble_eq_true rfl) (L' := [some (.ref a0), some (jy a1), some (jy 1)]) rfl ?_
      exact jy_join hS h rfl (jy_sub_s (jy_sub_s (jy_sub_s jy_sub_0)))
    · have h := h.2 hq
      refine jy_iconst hS rfl ?_
      exact jy_iret hS rfl rfl ⟨rfl, rfl, h⟩
  · intro l2 I h
    unfold wz_297_36 at h
    refine jy_iload_n hS rfl rfl ?_
    refine jy_bipush hS rfl (by decide) ?_
    obtain ⟨g19, h⟩ := h
    refine jy_icmp_gt hS rfl ⟨g19, ⟨by decide, by decide⟩⟩ (fun hq => ?_) (fun hq => ?_)
    · have h := h.1 hq
      refine jy_iconst hS rfl ?_
      exact jy_iret hS rfl rfl ⟨rfl, rfl, h⟩
    · have h := h.2 hq
      refine jy_aload_n hS rfl rfl ?_
      obtain ⟨g20, h⟩ := h
      obtain ⟨Q21, h⟩ := h
      obtain ⟨g22, h⟩ := h
      refine jy_callV hS rfl rfl rfl (Nat.le_of_ble_eq_true rfl) (Or.inl g20) g22 (by decide) ⟨by decide, by decide⟩ (Nat.le_of_ble_eq_true rfl) ?_ ?_
      rotate_left
      · exact fun Ex Xx Ix Rx hp => hp.2.2.2.elim
      intro rv Xx I23 Rx hp
      obtain ⟨e1, e2, hp⟩ := hp
      rw [e1, e2]
      clear e1 e2
      obtain ⟨r24, e1, h⟩ := h rv I23 hp
      rw [e1]
      clear e1
      change J 46 [jy r24] _ (0, 0) _ _ _
      refine jy_iload_n hS rfl rfl ?_
      obtain ⟨g25, h⟩ := h
      refine jy_icmp_gt hS rfl ⟨g25, r_a1⟩ (fun hq => ?_) (fun hq => ?_)
      · have h := h.1 hq
        refine jy_iinc hS rfl rfl (L' := [some (.ref a0), some (jy a1), some (jy (l2 + 1))]) rfl ?_
        refine jy_goto hS rfl ?_
        exact jy_join hS h rfl (jy_sub_s (jy_sub_s (jy_sub_s jy_sub_0)))
      · have h := h.2 hq
        refine jy_iload_n hS rfl rfl ?_
        exact jy_iret hS rfl rfl ⟨rfl, rfl, h⟩
theorem jt_298 : jx_ml 298 = 3 ∧ jx_rt 298 = some .boolean ∧ jx_hz 298 = [] ∧ decide ((jx_nm 298).name = "<init>") = false ∧ jx_code 298 = jx_c298 := by decide +kernel
/-- GCModel.quarrel, from 27 -/
def wz_298_27 (V : jx_V) (X : jx_X) (R : jx_R) (Q : Option Value → jx_I → Prop) (QE : String → jx_I → Prop) (J27 : Nat → Int → jx_I → Prop) (J46 : Nat → Int → jx_I → Prop) (a0 : Nat) (a1 : Int) (a2 : Int) (s0 : Nat) (s1 : Int) (I : jx_I) : Prop :=
  (X.2.1 s0 = some (12, 0)) ∧ (
  ∃ Q14 : Option Value → jx_I → Prop, (
  (jc V 1 202 (0, 0) [.ref s0, jy s1, jy 1, jy 1] X I R Q14 (fun _ _ => False)) ∧ (
  ∀ rv I16, Q14 rv I16 → ∃ r17 : Int, rv = some (jy r17) ∧ (
  (-2147483648 ≤ r17 ∧ r17 < 2147483648) ∧ (
  (r17 ≠ 0 → (
    Q (some (jy 0)) I16
  )) ∧ (r17 = 0 → (
    (a1 ≠ a2 → (
      J46 a0 0 I16
    )) ∧ (a1 = a2 → (
      J46 a0 1 I16
    ))
  )))))))
/-- GCModel.quarrel, from 46 -/
def wz_298_46 (V : jx_V) (X : jx_X) (R : jx_R) (Q : Option Value → jx_I → Prop) (QE : String → jx_I → Prop) (J27 : Nat → Int → jx_I → Prop) (J46 : Nat → Int → jx_I → Prop) (a0 : Nat) (a1 : Int) (a2 : Int) (s0 : Nat) (s1 : Int) (I : jx_I) : Prop :=
  (X.2.1 s0 = some (12, 0)) ∧ (
  ∃ Q20 : Option Value → jx_I → Prop, (
  (jc V 1 202 (0, 0) [.ref s0, jy s1, jy 2, jy 2] X I R Q20 (fun _ _ => False)) ∧ (
  ∀ rv I22, Q20 rv I22 → ∃ r23 : Int, rv = some (jy r23) ∧ (
  (-2147483648 ≤ r23 ∧ r23 < 2147483648) ∧ (
  (r23 = 0 → (
    (X.2.1 a0 = some (12, 0)) ∧ (
    ∃ q26 : Nat, (
    (R a0 19 = some q26) ∧ (
    ∃ n28 : Nat, (
    (X.2.1 q26 = some (100, n28) ∧ n28 < 2147483648) ∧ (
    (0 ≤ a1 ∧ a1 < n28) ∧ (
    ((Int32.ofInt ((Int32.ofInt ((I22 q26 a1.toNat).toInt) >>> (Int32.ofInt a2 &&& 31)).toInt) &&& Int32.ofInt 1).toInt ≠ 1 → (
      Q (some (jy 0)) I22
    )) ∧ ((Int32.ofInt ((Int32.ofInt ((I22 q26 a1.toNat).toInt) >>> (Int32.ofInt a2 &&& 31)).toInt) &&& Int32.ofInt 1).toInt = 1 → (
      Q (some (jy 1)) I22
    ))))))))
  )) ∧ (¬ r23 = 0 → (
    Q (some (jy 0)) I22
  )))))))
/-- GCModel.quarrel -/
def wz_298 (V : jx_V) (X : jx_X) (R : jx_R) (Q : Option Value → jx_I → Prop) (QE : String → jx_I → Prop) (J27 : Nat → Int → jx_I → Prop) (J46 : Nat → Int → jx_I → Prop) (a0 : Nat) (a1 : Int) (a2 : Int) (I : jx_I) : Prop :=
  (X.2.1 a0 = some (12, 0)) ∧ (
  ∀ I2 : jx_I, I2 = jx_u I a0 0 (Int32.ofInt 0) → (
  ∃ Q3 : Option Value → jx_I → Prop, (
  (jc V 2 233 (0, 0) [.ref a0, jy a1] X I2 R Q3 (fun _ _ => False)) ∧ (
  ∀ rv I5, Q3 rv I5 → ∃ r6 : Int, rv = some (jy r6) ∧ (
  (-2147483648 ≤ r6 ∧ r6 < 2147483648) ∧ (
  (r6 = 0 → (
    J27 a0 1 I5
  )) ∧ (¬ r6 = 0 → (
    ∃ Q8 : Option Value → jx_I → Prop, (
    (jc V 2 233 (0, 0) [.ref a0, jy a2] X I5 R Q8 (fun _ _ => False)) ∧ (
    ∀ rv I10, Q8 rv I10 → ∃ r11 : Int, rv = some (jy r11) ∧ (
    (-2147483648 ≤ r11 ∧ r11 < 2147483648) ∧ (
    (r11 ≠ 0 → (
      J27 a0 0 I10
    )) ∧ (r11 = 0 → (
      J27 a0 1 I10
    ))))))
  ))))))))
set_option maxRecDepth 20000 in
theorem wm_298 {V : jx_V} (hV : V.1.stackTraces = false) {X : jx_X} {R : jx_R} {I : jx_I} {Q : Option Value → jx_I → Prop} {QE : String → jx_I → Prop} {a0 : Nat} {a1 : Int} {a2 : Int} (r_a1 : -2147483648 ≤ a1 ∧ a1 < 2147483648) (r_a2 : -2147483648 ≤ a2 ∧ a2 < 2147483648) 
    (h : ∀ (J27 : Nat → Int → jx_I → Prop) (J46 : Nat → Int → jx_I → Prop), ((∀ (s0 : Nat) (s1 : Int) I, wz_298_27 V X R Q QE J27 J46 a0 a1 a2 s0 s1 I → J27 s0 s1 I) ∧ (∀ (s0 : Nat) (s1 : Int) I, wz_298_46 V X R Q QE J27 J46 a0 a1 a2 s0 s1 I → J46 s0 s1 I)) → wz_298 V X R Q QE J27 J46 a0 a1 a2 I) : jc V 3 298 (0, 0) [.ref a0, jy a1, jy a2] X I R Q QE := by
  refine jy_met hV (by decide) (n := 3) (rt := some .boolean) (hh := []) (ini := false) (C := jx_c298) (L := [some (.ref a0), some (jy a1), some (jy a2)]) jt_298 (Nat.le_of_ble_eq_true rfl) rfl ?_
  intro J hS
  have h := h (fun s0 s1 I => J 27 [jy s1, .ref s0] [some (.ref a0), some (jy a1), some (jy a2)] (0, 0) X I R) (fun s0 s1 I => J 46 [jy s1, .ref s0] [some (.ref a0), some (jy a1), some (jy a2)] (0, 0) X I R) ?_
  · unfold wz_298 at h
    refine jy_aload_n hS rfl rfl ?_
    refine jy_iconst hS rfl ?_
    obtain ⟨g1, h⟩ := h
    refine jy_putI hS rfl (by decide) g1 ?_
    intro I2 e9
    have h := h I2 e9
    clear e9
    refine jy_aload_n hS rfl rfl ?_
    refine jy_aload_n hS rfl rfl ?_
    refine jy_iload_n hS rfl rfl ?_
    obtain ⟨Q3, h⟩ := h
    obtain ⟨g4, h⟩ := h
    refine jy_callV hS rfl rfl rfl (Nat.le_of_ble_eq_true rfl) (Or.inl g1) g4 (by decide) ⟨by decide, by decide⟩ (Nat.le_of_ble_eq_true rfl) ?_ ?_
    rotate_left
    · exact fun Ex Xx Ix Rx hp => hp.2.2.2.elim
    intro rv Xx I5 Rx hp
    obtain ⟨e1, e2, hp⟩ := hp
    rw [e1, e2]
    clear e1 e2
    obtain ⟨r6, e1, h⟩ := h rv I5 hp
    rw [e1]
    clear e1
    change J 11 [jy r6, .ref a0] _ (0, 0) _ _ _
    obtain ⟨g7, h⟩ := h
    refine jy_if_eq hS rfl g7 (fun hq => ?_) (fun hq => ?_)
    · have h := h.1 hq
      refine jy_iconst hS rfl ?_
      refine jy_goto hS rfl ?_
      exact jy_join hS h rfl (jy_sub_s (jy_sub_s (jy_sub_s jy_sub_0)))
    · have h := h.2 hq
      refine jy_aload_n hS rfl rfl ?_
      refine jy_iload_n hS rfl rfl ?_
      obtain ⟨Q8, h⟩ := h
      obtain ⟨g9, h⟩ := h
      refine jy_callV hS rfl rfl rfl (Nat.le_of_ble_eq_true rfl) (Or.inl g1) g9 (by decide) ⟨by decide, by decide⟩ (Nat.le_of_ble_eq_true rfl) ?_ ?_
      rotate_left
      · exact fun Ex Xx Ix Rx hp => hp.2.2.2.elim
      intro rv Xx I10 Rx hp
      obtain ⟨e1, e2, hp⟩ := hp
      rw [e1, e2]
      clear e1 e2
      obtain ⟨r11, e1, h⟩ := h rv I10 hp
      rw [e1]
      clear e1
      change J 19 [jy r11, .ref a0] _ (0, 0) _ _ _
      obtain ⟨g12, h⟩ := h
      refine jy_if_ne hS rfl g12 (fun hq => ?_) (fun hq => ?_)
      · have h := h.1 hq
        refine jy_iconst hS rfl ?_
        exact jy_join hS h rfl (jy_sub_s (jy_sub_s (jy_sub_s jy_sub_0)))
      · have h := h.2 hq
        refine jy_iconst hS rfl ?_
        refine jy_goto hS rfl ?_
        exact jy_join hS h rfl (jy_sub_s (jy_sub_s (jy_sub_s jy_sub_0)))
  refine ⟨?_, ?_⟩
  · intro s0 s1 I h
    unfold wz_298_27 at h
    refine jy_iconst hS rfl ?_
    refine jy_iconst hS rfl ?_
    obtain ⟨g13, h⟩ := h
    obtain ⟨Q14, h⟩ := h
    obtain ⟨g15, h⟩ := h
    refine jy_callV hS rfl rfl rfl (Nat.le_of_ble_eq_true rfl) (Or.inl g13) g15 (by decide) ⟨by decide, by decide⟩ (Nat.le_of_ble_eq_true rfl) ?_ ?_
    rotate_left
    · exact fun Ex Xx Ix Rx hp => hp.2.2.2.elim
    intro rv Xx I16 Rx hp
    obtain ⟨e1, e2, hp⟩ := hp
    rw [e1, e2]
    clear e1 e2
    obtain ⟨r17, e1, h⟩ := h rv I16 hp
    rw [e1]
    clear e1
    change J 32 [jy r17] _ (0, 0) _ _ _
    obtain ⟨g18, h⟩ := h
    refine jy_if_ne hS rfl g18 (fun hq => ?_) (fun hq => ?_)
    · have h := h.1 hq
      refine jy_iconst hS rfl ?_
      exact jy_iret hS rfl rfl ⟨rfl, rfl, h⟩
    · have h := h.2 hq
      refine jy_aload_n hS rfl rfl ?_
      refine jy_iload_n hS rfl rfl ?_
      refine jy_iload_n hS rfl rfl ?_
      refine jy_icmp_ne hS rfl ⟨r_a1, r_a2⟩ (fun hq => ?_) (fun hq => ?_)
      · have h := h.1 hq
        refine jy_iconst hS rfl ?_
        exact jy_join hS h rfl (jy_sub_s (jy_sub_s (jy_sub_s jy_sub_0)))
      · have h := h.2 hq
        refine jy_iconst hS rfl ?_
        refine jy_goto hS rfl ?_
        exact jy_join hS h rfl (jy_sub_s (jy_sub_s (jy_sub_s jy_sub_0)))
  · intro s0 s1 I h
    unfold wz_298_46 at h
    refine jy_iconst hS rfl ?_
    refine jy_iconst hS rfl ?_
    obtain ⟨g19, h⟩ := h
    obtain ⟨Q20, h⟩ := h
    obtain ⟨g21, h⟩ := h
    refine jy_callV hS rfl rfl rfl (Nat.le_of_ble_eq_true rfl) (Or.inl g19) g21 (by decide) ⟨by decide, by decide⟩ (Nat.le_of_ble_eq_true rfl) ?_ ?_
    rotate_left
    · exact fun Ex Xx Ix Rx hp => hp.2.2.2.elim
    intro rv Xx I22 Rx hp
    obtain ⟨e1, e2, hp⟩ := hp
    rw [e1, e2]
    clear e1 e2
    obtain ⟨r23, e1, h⟩ := h rv I22 hp
    rw [e1]
    clear e1
    change J 51 [jy r23] _ (0, 0) _ _ _
    obtain ⟨g24, h⟩ := h
    refine jy_if_eq hS rfl g24 (fun hq => ?_) (fun hq => ?_)
    · have h := h.1 hq
      refine jy_aload_n hS rfl rfl ?_
      obtain ⟨g25, h⟩ := h
      obtain ⟨q26, h⟩ := h
      obtain ⟨g27, h⟩ := h
      refine jy_getR hS rfl (by decide) g25 g27 ?_
      refine jy_iload_n hS rfl rfl ?_
      obtain ⟨n28, h⟩ := h
      obtain ⟨g29, h⟩ := h
      obtain ⟨g30, h⟩ := h
      refine jy_iald hS rfl g29.1 (Nat.le_of_lt g29.2) g30 ?_
      refine jy_iload_n hS rfl rfl ?_
      refine jy_ishrX hS rfl rfl ?_
      refine jy_iconst hS rfl ?_
      refine jy_iandX hS rfl rfl ?_
      refine jy_iconst hS rfl ?_
      refine jy_icmp_ne hS rfl ⟨(jy_rng _), ⟨by decide, by decide⟩⟩ (fun hq => ?_) (fun hq => ?_)
      · have h := h.1 hq
        refine jy_iconst hS rfl ?_
        exact jy_iret hS rfl rfl ⟨rfl, rfl, h⟩
      · have h := h.2 hq
        refine jy_iconst hS rfl ?_
        refine jy_goto hS rfl ?_
        exact jy_iret hS rfl rfl ⟨rfl, rfl, h⟩
    · have h := h.2 hq
      refine jy_iconst hS rfl ?_
      exact jy_iret hS rfl rfl ⟨rfl, rfl, h⟩
theorem jt_299 : jx_ml 299 = 3 ∧ jx_rt 299 = some .int ∧ jx_hz 299 = [] ∧ decide ((jx_nm 299).name = "<init>") = false ∧ jx_code 299 = jx_c299 := by decide +kernel
/-- GCModel.shy, from 9 -/
def wz_299_9 (V : jx_V) (X : jx_X) (R : jx_R) (Q : Option Value → jx_I → Prop) (QE : String → jx_I → Prop) (J9 : Int → Int → jx_I → Prop) (a0 : Nat) (l1 : Int) (l2 : Int) (I : jx_I) : Prop :=
  (X.2.1 a0 = some (12, 0)) ∧ (
  (-2147483648 ≤ l2 ∧ l2 < 2147483648) ∧ (
  ((I a0 36).toInt ≤ l2 → (
    Q (some (jy l1)) I
  )) ∧ (¬ (I a0 36).toInt ≤ l2 → (
    ∃ q5 : Nat, (
    (R a0 19 = some q5) ∧ (
    ∃ q7 : Nat, (
    (R a0 34 = some q7) ∧ (
    ∃ n9 : Nat, (
    (X.2.1 q7 = some (100, n9) ∧ n9 < 2147483648) ∧ (
    (0 ≤ l2 ∧ l2 < n9) ∧ (
    ∃ n12 : Nat, (
    (X.2.1 q5 = some (100, n12) ∧ n12 < 2147483648) ∧ (
    (0 ≤ (I q7 l2.toNat).toInt ∧ (I q7 l2.toNat).toInt < n12) ∧ (
    (0 ≤ (l2 - 1) ∧ (l2 - 1) < n9) ∧ (
    J9 (l1 + (Int32.ofInt ((Int32.ofInt ((I q5 ((I q7 l2.toNat).toInt).toNat).toInt) >>> (Int32.ofInt ((I q7 (l2 - 1).toNat).toInt) &&& 31)).toInt) &&& Int32.ofInt 1).toInt) (l2 + 1) I)))))))))))
  ))))
/-- GCModel.shy -/
def wz_299 (V : jx_V) (X : jx_X) (R : jx_R) (Q : Option Value → jx_I → Prop) (QE : String → jx_I → Prop) (J9 : Int → Int → jx_I → Prop) (a0 : Nat) (I : jx_I) : Prop :=
  (X.2.1 a0 = some (12, 0)) ∧ (
  ∀ I2 : jx_I, I2 = jx_u I a0 0 (Int32.ofInt 0) → (
  J9 0 1 I2))
set_option maxRecDepth 20000 in
theorem wm_299 {V : jx_V} (hV : V.1.stackTraces = false) {X : jx_X} {R : jx_R} {I : jx_I} {Q : Option Value → jx_I → Prop} {QE : String → jx_I → Prop} {a0 : Nat}  
    (h : ∀ (J9 : Int → Int → jx_I → Prop), ((∀ (l1 : Int) (l2 : Int) I, wz_299_9 V X R Q QE J9 a0 l1 l2 I → J9 l1 l2 I)) → wz_299 V X R Q QE J9 a0 I) : jc V 1 299 (0, 0) [.ref a0] X I R Q QE := by
  refine jy_met hV (by decide) (n := 3) (rt := some .int) (hh := []) (ini := false) (C := jx_c299) (L := [some (.ref a0), none, none]) jt_299 (Nat.le_of_ble_eq_true rfl) rfl ?_
  intro J hS
  have h := h (fun l1 l2 I => J 9 [] [some (.ref a0), some (jy l1), some (jy l2)] (0, 0) X I R) ?_
  · unfold wz_299 at h
    refine jy_aload_n hS rfl rfl ?_
    refine jy_iconst hS rfl ?_
    obtain ⟨g1, h⟩ := h
    refine jy_putI hS rfl (by decide) g1 ?_
    intro I2 e9
    have h := h I2 e9
    clear e9
    refine jy_iconst hS rfl ?_
    refine jy_istore_n hS rfl (Nat.le_of_ble_eq_true rfl) (L' := [some (.ref a0), some (jy 0), none]) rfl ?_
    refine jy_iconst hS rfl ?_
    refine jy_istore_n hS rfl (Nat.le_of_ble_eq_true rfl) (L' := [some (.ref a0), some (jy 0), some (jy 1)]) rfl ?_
    exact jy_join hS h rfl (jy_sub_s (jy_sub_s (jy_sub_s jy_sub_0)))
  · intro l1 l2 I h
    unfold wz_299_9 at h
    refine jy_iload_n hS rfl rfl ?_
    refine jy_aload_n hS rfl rfl ?_
    obtain ⟨g3, h⟩ := h
    refine jy_getI hS rfl (by decide) g3 ?_
    obtain ⟨g4, h⟩ := h
    refine jy_icmp_ge hS rfl ⟨g4, (jy_rng _)⟩ (fun hq => ?_) (fun hq => ?_)
    · have h := h.1 hq
      refine jy_iload_n hS rfl rfl ?_
      exact jy_iret hS rfl rfl ⟨rfl, rfl, h⟩
    · have h := h.2 hq
      refine jy_iload_n hS rfl rfl ?_
      refine jy_aload_n hS rfl rfl ?_
      obtain ⟨q5, h⟩ := h
      obtain ⟨g6, h⟩ := h
      refine jy_getR hS rfl (by decide) g3 g6 ?_
      refine jy_aload_n hS rfl rfl ?_
      obtain ⟨q7, h⟩ := h
      obtain ⟨g8, h⟩ := h
      refine jy_getR hS rfl (by decide) g3 g8 ?_
      refine jy_iload_n hS rfl rfl ?_
      obtain ⟨n9, h⟩ := h
      obtain ⟨g10, h⟩ := h
      obtain ⟨g11, h⟩ := h
      refine jy_iald hS rfl g10.1 (Nat.le_of_lt g10.2) g11 ?_
      obtain ⟨n12, h⟩ := h
      obtain ⟨g13, h⟩ := h
      obtain ⟨g14, h⟩ := h
      refine jy_iald hS rfl g13.1 (Nat.le_of_lt g13.2) g14 ?_
      refine jy_aload_n hS rfl rfl ?_
      refine jy_getR hS rfl (by decide) g3 g8 ?_
      refine jy_iload_n hS rfl rfl ?_
      refine jy_iconst hS rfl ?_
      refine jy_isub hS rfl ?_
      obtain ⟨g15, h⟩ := h
      refine jy_iald hS rfl g10.1 (Nat.le_of_lt g10.2) g15 ?_
      refine jy_ishrX hS rfl rfl ?_
      refine jy_iconst hS rfl ?_
      refine jy_iandX hS rfl rfl ?_
      refine jy_iadd hS rfl ?_
      refine jy_istore_n hS rfl (Nat.le_of_ble_eq_true rfl) (L' := [some (.ref a0), some (jy (l1 + (Int32.ofInt ((Int32.ofInt ((I q5 ((I q7 l2.toNat).toInt).toNat).toInt) >>> (Int32.ofInt ((I q7 (l2 - 1).toNat).toInt) &&& 31)).toInt) &&& Int32.ofInt 1).toInt)), some (jy l2)]) rfl ?_
      refine jy_iinc hS rfl rfl (L' := [some (.ref a0), some (jy (l1 + (Int32.ofInt ((Int32.ofInt ((I q5 ((I q7 l2.toNat).toInt).toNat).toInt) >>> (Int32.ofInt ((I q7 (l2 - 1).toNat).toInt) &&& 31)).toInt) &&& Int32.ofInt 1).toInt)), some (jy (l2 + 1))]) rfl ?_
      refine jy_goto hS rfl ?_
      exact jy_join hS h rfl (jy_sub_s (jy_sub_s (jy_sub_s jy_sub_0)))
theorem jt_300 : jx_ml 300 = 5 ∧ jx_rt 300 = some .int ∧ jx_hz 300 = [] ∧ decide ((jx_nm 300).name = "<init>") = false ∧ jx_code 300 = jx_c300 := by decide +kernel
/-- GCModel.heavy, from 24 -/
def wz_300_24 (V : jx_V) (X : jx_X) (R : jx_R) (Q : Option Value → jx_I → Prop) (QE : String → jx_I → Prop) (J24 : Int → Int → Int → jx_I → Prop) (J58 : Int → Int → Int → jx_I → Prop) (a0 : Nat) (l1 : Int) (l2 : Int) (l3 : Int) (I : jx_I) : Prop :=
  (X.2.1 a0 = some (12, 0)) ∧ (
  (-2147483648 ≤ l3 ∧ l3 < 2147483648) ∧ (
  ((I a0 37).toInt ≤ l3 → (
    Q (some (jy l1)) I
  )) ∧ (¬ (I a0 37).toInt ≤ l3 → (
    ∃ q14 : Nat, (
    (R a0 35 = some q14) ∧ (
    ∃ n16 : Nat, (
    (X.2.1 q14 = some (100, n16) ∧ n16 < 2147483648) ∧ (
    (0 ≤ l3 ∧ l3 < n16) ∧ (
    ∃ Q19 : Option Value → jx_I → Prop, (
    (jc V 4 255 (0, 0) [.ref a0, jy ((I q14 l3.toNat).toInt)] X I R Q19 (fun _ _ => False)) ∧ (
    ∀ rv I21, Q19 rv I21 → ∃ r22 : Int, rv = some (jy r22) ∧ (
    (-2147483648 ≤ r22 ∧ r22 < 2147483648) ∧ (
    (-2147483648 ≤ l2 ∧ l2 < 2147483648) ∧ (
    (l2 < r22 → (
      J58 l3 r22 l3 I21
    )) ∧ (¬ l2 < r22 → (
      J58 l1 l2 l3 I21
    ))))))))))))
  ))))
/-- GCModel.heavy, from 58 -/
def wz_300_58 (V : jx_V) (X : jx_X) (R : jx_R) (Q : Option Value → jx_I → Prop) (QE : String → jx_I → Prop) (J24 : Int → Int → Int → jx_I → Prop) (J58 : Int → Int → Int → jx_I → Prop) (a0 : Nat) (l1 : Int) (l2 : Int) (l3 : Int) (I : jx_I) : Prop :=
  J24 l1 l2 (l3 + 1) I
/-- GCModel.heavy -/
def wz_300 (V : jx_V) (X : jx_X) (R : jx_R) (Q : Option Value → jx_I → Prop) (QE : String → jx_I → Prop) (J24 : Int → Int → Int → jx_I → Prop) (J58 : Int → Int → Int → jx_I → Prop) (a0 : Nat) (I : jx_I) : Prop :=
  (X.2.1 a0 = some (12, 0)) ∧ (
  ∀ I2 : jx_I, I2 = jx_u I a0 0 (Int32.ofInt 0) → (
  ∃ Q3 : Option Value → jx_I → Prop, (
  (jc V 2 259 (0, 0) [.ref a0] X I2 R Q3 (fun _ _ => False)) ∧ (
  ∀ rv I5, Q3 rv I5 → ∃ r6 : Int, rv = some (jy r6) ∧ (
  (-2147483648 ≤ r6 ∧ r6 < 2147483648) ∧ (
  (r6 = 0 → (
    ∃ Q8 : Option Value → jx_I → Prop, (
    (jc V 1 243 (0, 0) [.ref a0] X I5 R Q8 (fun _ _ => False)) ∧ (
    ∀ rv I10, Q8 rv I10 → rv = none ∧ (
    J24 1 (-1) 1 I10)))
  )) ∧ (¬ r6 = 0 → (
    Q (some (jy 0)) I5
  ))))))))
set_option maxRecDepth 20000 in
theorem wm_300 {V : jx_V} (hV : V.1.stackTraces = false) {X : jx_X} {R : jx_R} {I : jx_I} {Q : Option Value → jx_I → Prop} {QE : String → jx_I → Prop} {a0 : Nat}  
    (h : ∀ (J24 : Int → Int → Int → jx_I → Prop) (J58 : Int → Int → Int → jx_I → Prop), ((∀ (l1 : Int) (l2 : Int) (l3 : Int) I, wz_300_24 V X R Q QE J24 J58 a0 l1 l2 l3 I → J24 l1 l2 l3 I) ∧ (∀ (l1 : Int) (l2 : Int) (l3 : Int) I, wz_300_58 V X R Q QE J24 J58 a0 l1 l2 l3 I → J58 l1 l2 l3 I)) → wz_300 V X R Q QE J24 J58 a0 I) : jc V 5 300 (0, 0) [.ref a0] X I R Q QE := by
  refine jy_met hV (by decide) (n := 5) (rt := some .int) (hh := []) (ini := false) (C := jx_c300) (L := [some (.ref a0), none, none, none, none]) jt_300 (Nat.le_of_ble_eq_true rfl) rfl ?_
  intro J hS
  have h := h (fun l1 l2 l3 I => J 24 [] [some (.ref a0), some (jy l1), some (jy l2), some (jy l3), none] (0, 0) X I R) (fun l1 l2 l3 I => J 58 [] [some (.ref a0), some (jy l1), some (jy l2), some (jy l3), none] (0, 0) X I R) ?_
  · unfold wz_300 at h
    refine jy_aload_n hS rfl rfl ?_
    refine jy_iconst hS rfl ?_
    obtain ⟨g1, h⟩ := h
    refine jy_putI hS rfl (by decide) g1 ?_
    intro I2 e9
    have h := h I2 e9
    clear e9
    refine jy_aload_n hS rfl rfl ?_
    obtain ⟨Q3, h⟩ := h
    obtain ⟨g4, h⟩ := h
    refine jy_callV hS rfl rfl rfl (Nat.le_of_ble_eq_true rfl) (Or.inl g1) g4 (by decide) ⟨by decide, by decide⟩ (Nat.le_of_ble_eq_true rfl) ?_ ?_
    rotate_left
    · exact fun Ex Xx Ix Rx hp => hp.2.2.2.elim
    intro rv Xx I5 Rx hp
    obtain ⟨e1, e2, hp⟩ := hp
    rw [e1, e2]
    clear e1 e2
    obtain ⟨r6, e1, h⟩ := h rv I5 hp
    rw [e1]
    clear e1
    change J 9 [jy r6] _ (0, 0) _ _ _
    obtain ⟨g7, h⟩ := h
    refine jy_if_eq hS rfl g7 (fun hq => ?_) (fun hq => ?_)
    · have h := h.1 hq
      refine jy_aload_n hS rfl rfl ?_
      obtain ⟨Q8, h⟩ := h
      obtain ⟨g9, h⟩ := h
      refine jy_callV hS rfl rfl rfl (Nat.le_of_ble_eq_true rfl) (Or.inl g1) g9 (by decide) ⟨by decide, by decide⟩ (Nat.le_of_ble_eq_true rfl) ?_ ?_
      rotate_left
      · exact fun Ex Xx Ix Rx hp => hp.2.2.2.elim
      intro rv Xx I10 Rx hp
      obtain ⟨e1, e2, hp⟩ := hp
      rw [e1, e2]
      clear e1 e2
      obtain ⟨e1, h⟩ := h rv I10 hp
      rw [e1]
      clear e1
      change J 18 [] _ (0, 0) _ _ _
      refine jy_iconst hS rfl ?_
      refine jy_istore_n hS rfl (Nat.le_of_ble_eq_true rfl) (L' := [some (.ref a0), some (jy 1), none, none, none]) rfl ?_
      refine jy_iconst hS rfl ?_
      refine jy_istore_n hS rfl (Nat.le_of_ble_eq_true rfl) (L' := [some (.ref a0), some (jy 1), some (jy (-1)), none, none]) rfl ?_
      refine jy_iconst hS rfl ?_
      refine jy_istore_n hS rfl (Nat.le_of_ble_eq_true rfl) (L' := [some (.ref a0), some (jy 1), some (jy (-1)), some (jy 1), none]) rfl ?_
      exact jy_join hS h rfl (jy_sub_s (jy_sub_s (jy_sub_s (jy_sub_s (jy_sub_n jy_sub_0)))))
    · have h := h.2 hq
      refine jy_iconst hS rfl ?_
      exact jy_iret hS rfl rfl ⟨rfl, rfl, h⟩
  refine ⟨?_, ?_⟩
  · intro l1 l2 l3 I h
    unfold wz_300_24 at h
    refine jy_iload_n hS rfl rfl ?_
    refine jy_aload_n hS rfl rfl ?_
    obtain ⟨g12, h⟩ := h
    refine jy_getI hS rfl (by decide) g12 ?_
    obtain ⟨g13, h⟩ := h
    refine jy_icmp_ge hS rfl ⟨g13, (jy_rng _)⟩ (fun hq => ?_) (fun hq => ?_)
    · have h := h.1 hq
      refine jy_iload_n hS rfl rfl ?_
      exact jy_iret hS rfl rfl ⟨rfl, rfl, h⟩
    · have h := h.2 hq
      refine jy_aload_n hS rfl rfl ?_
      refine jy_aload_n hS rfl rfl ?_
      obtain ⟨q14, h⟩ := h
      obtain ⟨g15, h⟩ := h
      refine jy_getR hS rfl (by decide) g12 g15 ?_
      refine jy_iload_n hS rfl rfl ?_
      obtain ⟨n16, h⟩ := h
      obtain ⟨g17, h⟩ := h
      obtain ⟨g18, h⟩ := h
      refine jy_iald hS rfl g17.1 (Nat.le_of_lt g17.2) g18 ?_
      obtain ⟨Q19, h⟩ := h
      obtain ⟨g20, h⟩ := h
      refine jy_callV hS rfl rfl rfl (Nat.le_of_ble_eq_true rfl) (Or.inl g12) g20 (by decide) ⟨by decide, by decide⟩ (Nat.le_of_ble_eq_true rfl) ?_ ?_
      rotate_left
      · exact fun Ex Xx Ix Rx hp => hp.2.2.2.elim
      intro rv Xx I21 Rx hp
      obtain ⟨e1, e2, hp⟩ := hp
      rw [e1, e2]
      clear e1 e2
      obtain ⟨r22, e1, h⟩ := h rv I21 hp
      rw [e1]
      clear e1
      change J 42 [jy r22] _ (0, 0) _ _ _
      refine jy_istore hS rfl (Nat.le_of_ble_eq_true rfl) (L' := [some (.ref a0), some (jy l1), some (jy l2), some (jy l3), some (jy r22)]) rfl ?_
      refine jy_iload hS rfl rfl ?_
      refine jy_iload_n hS rfl rfl ?_
      obtain ⟨g23, h⟩ := h
      obtain ⟨g24, h⟩ := h
      refine jy_icmp_gt hS rfl ⟨g23, g24⟩ (fun hq => ?_) (fun hq => ?_)
      · have h := h.1 hq
        refine jy_iload_n hS rfl rfl ?_
        refine jy_istore_n hS rfl (Nat.le_of_ble_eq_true rfl) (L' := [some (.ref a0), some (jy l3), some (jy l2), some (jy l3), some (jy r22)]) rfl ?_
        refine jy_iload hS rfl rfl ?_
        refine jy_istore_n hS rfl (Nat.le_of_ble_eq_true rfl) (L' := [some (.ref a0), some (jy l3), some (jy r22), some (jy l3), some (jy r22)]) rfl ?_
        exact jy_join hS h rfl (jy_sub_s (jy_sub_s (jy_sub_s (jy_sub_s (jy_sub_n jy_sub_0)))))
      · have h := h.2 hq
        refine jy_goto hS rfl ?_
        exact jy_join hS h rfl (jy_sub_s (jy_sub_s (jy_sub_s (jy_sub_s (jy_sub_n jy_sub_0)))))
  · intro l1 l2 l3 I h
    unfold wz_300_58 at h
    refine jy_iinc hS rfl rfl (L' := [some (.ref a0), some (jy l1), some (jy l2), some (jy (l3 + 1)), none]) rfl ?_
    refine jy_goto hS rfl ?_
    exact jy_join hS h rfl (jy_sub_s (jy_sub_s (jy_sub_s (jy_sub_s (jy_sub_n jy_sub_0)))))
theorem jt_301 : jx_ml 301 = 1 ∧ jx_rt 301 = some .int ∧ jx_hz 301 = [] ∧ decide ((jx_nm 301).name = "<init>") = false ∧ jx_code 301 = jx_c301 := by decide +kernel
/-- GCModel.stepHere -/
def wz_301 (V : jx_V) (X : jx_X) (R : jx_R) (Q : Option Value → jx_I → Prop) (QE : String → jx_I → Prop)  (a0 : Nat) (I : jx_I) : Prop :=
  (X.2.1 a0 = some (12, 0)) ∧ (
  ∃ Q2 : Option Value → jx_I → Prop, (
  (jc V 4 214 (0, 0) [.ref a0, jy 7, jy 15, jy 0, jy 0, jy 0, jy 0, jy 0] X I R Q2 (fun _ _ => False)) ∧ (
  ∀ rv I4, Q2 rv I4 → ∃ r5 : Int, rv = some (jy r5) ∧ (
  (-2147483648 ≤ r5 ∧ r5 < 2147483648) ∧ (
  (r5 = 0 → (
    ∃ Q7 : Option Value → jx_I → Prop, (
    (jc V 4 214 (0, 0) [.ref a0, jy 23, jy 1, jy 9, jy 20, jy 0, jy 0, jy 0] X I4 R Q7 (fun _ _ => False)) ∧ (
    ∀ rv I9, Q7 rv I9 → ∃ r10 : Int, rv = some (jy r10) ∧ (
    (-2147483648 ≤ r10 ∧ r10 < 2147483648) ∧ (
    (r10 = 0 → (
      ∃ Q12 : Option Value → jx_I → Prop, (
      (jc V 4 214 (0, 0) [.ref a0, jy 6, jy 5, jy 5, jy 4, jy 0, jy 0, jy 0] X I9 R Q12 (fun _ _ => False)) ∧ (
      ∀ rv I14, Q12 rv I14 → ∃ r15 : Int, rv = some (jy r15) ∧ (
      (-2147483648 ≤ r15 ∧ r15 < 2147483648) ∧ (
      (r15 = 0 → (
        ∃ Q17 : Option Value → jx_I → Prop, (
        (jc V 4 214 (0, 0) [.ref a0, jy 18, jy 5, jy 13, jy 9, jy 14, jy 4, jy 0] X I14 R Q17 (fun _ _ => False)) ∧ (
        ∀ rv I19, Q17 rv I19 → ∃ r20 : Int, rv = some (jy r20) ∧ (
        (-2147483648 ≤ r20 ∧ r20 < 2147483648) ∧ (
        (r20 = 0 → (
          ∃ Q22 : Option Value → jx_I → Prop, (
          (jc V 4 214 (0, 0) [.ref a0, jy 4, jy 18, jy 15, jy 16, jy 0, jy 0, jy 0] X I19 R Q22 (fun _ _ => False)) ∧ (
          ∀ rv I24, Q22 rv I24 → ∃ r25 : Int, rv = some (jy r25) ∧ (
          (-2147483648 ≤ r25 ∧ r25 < 2147483648) ∧ (
          (r25 = 0 → (
            ∃ Q27 : Option Value → jx_I → Prop, (
            (jc V 4 214 (0, 0) [.ref a0, jy 10, jy 15, jy 9, jy 14, jy 0, jy 0, jy 0] X I24 R Q27 (fun _ _ => False)) ∧ (
            ∀ rv I29, Q27 rv I29 → ∃ r30 : Int, rv = some (jy r30) ∧ (
            (-2147483648 ≤ r30 ∧ r30 < 2147483648) ∧ (
            (r30 = 0 → (
              ∃ Q32 : Option Value → jx_I → Prop, (
              (jc V 4 214 (0, 0) [.ref a0, jy 12, jy 5, jy 1, jy 4, jy 0, jy 0, jy 0] X I29 R Q32 (fun _ _ => False)) ∧ (
              ∀ rv I34, Q32 rv I34 → ∃ r35 : Int, rv = some (jy r35) ∧ (
              (-2147483648 ≤ r35 ∧ r35 < 2147483648) ∧ (
              (r35 = 0 → (
                ∃ Q37 : Option Value → jx_I → Prop, (
                (jc V 4 214 (0, 0) [.ref a0, jy 1, jy 7, jy 1, jy 9, jy 14, jy 0, jy 0] X I34 R Q37 (fun _ _ => False)) ∧ (
                ∀ rv I39, Q37 rv I39 → ∃ r40 : Int, rv = some (jy r40) ∧ (
                (-2147483648 ≤ r40 ∧ r40 < 2147483648) ∧ (
                (r40 = 0 → (
                  ∃ Q42 : Option Value → jx_I → Prop, (
                  (jc V 4 214 (0, 0) [.ref a0, jy 23, jy 8, jy 9, jy 12, jy 5, jy 0, jy 0] X I39 R Q42 (fun _ _ => False)) ∧ (
                  ∀ rv I44, Q42 rv I44 → ∃ r45 : Int, rv = some (jy r45) ∧ (
                  (-2147483648 ≤ r45 ∧ r45 < 2147483648) ∧ (
                  (r45 = 0 → (
                    ∃ Q47 : Option Value → jx_I → Prop, (
                    (jc V 4 214 (0, 0) [.ref a0, jy 9, jy 6, jy 0, jy 0, jy 0, jy 0, jy 0] X I44 R Q47 (fun _ _ => False)) ∧ (
                    ∀ rv I49, Q47 rv I49 → ∃ r50 : Int, rv = some (jy r50) ∧ (
                    (-2147483648 ≤ r50 ∧ r50 < 2147483648) ∧ (
                    (r50 = 0 → (
                      Q (some (jy (-1))) I49
                    )) ∧ (¬ r50 = 0 → (
                      Q (some (jy 9)) I49
                    ))))))
                  )) ∧ (¬ r45 = 0 → (
                    Q (some (jy 8)) I44
                  ))))))
                )) ∧ (¬ r40 = 0 → (
                  Q (some (jy 7)) I39
                ))))))
              )) ∧ (¬ r35 = 0 → (
                Q (some (jy 6)) I34
              ))))))
            )) ∧ (¬ r30 = 0 → (
              Q (some (jy 5)) I29
            ))))))
          )) ∧ (¬ r25 = 0 → (
            Q (some (jy 4)) I24
          ))))))
        )) ∧ (¬ r20 = 0 → (
          Q (some (jy 3)) I19
        ))))))
      )) ∧ (¬ r15 = 0 → (
        Q (some (jy 2)) I14
      ))))))
    )) ∧ (¬ r10 = 0 → (
      Q (some (jy 1)) I9
    ))))))
  )) ∧ (¬ r5 = 0 → (
    Q (some (jy 0)) I4
  )))))))
set_option maxRecDepth 20000 in
theorem wm_301 {V : jx_V} (hV : V.1.stackTraces = false) {X : jx_X} {R : jx_R} {I : jx_I} {Q : Option Value → jx_I → Prop} {QE : String → jx_I → Prop} {a0 : Nat}  
    (h : wz_301 V X R Q QE  a0 I) : jc V 5 301 (0, 0) [.ref a0] X I R Q QE := by
  refine jy_met hV (by decide) (n := 1) (rt := some .int) (hh := []) (ini := false) (C := jx_c301) (L := [some (.ref a0)]) jt_301 (Nat.le_of_ble_eq_true rfl) rfl ?_
  intro J hS
  unfold wz_301 at h
  refine jy_aload_n hS rfl rfl ?_
  refine jy_bipush hS rfl (by decide) ?_
  refine jy_bipush hS rfl (by decide) ?_
  refine jy_iconst hS rfl ?_
  refine jy_iconst hS rfl ?_
  refine jy_iconst hS rfl ?_
  refine jy_iconst hS rfl ?_
  refine jy_iconst hS rfl ?_
  obtain ⟨g1, h⟩ := h
  obtain ⟨Q2, h⟩ := h
  obtain ⟨g3, h⟩ := h
  refine jy_callV hS rfl rfl rfl (Nat.le_of_ble_eq_true rfl) (Or.inl g1) g3 (by decide) ⟨by decide, by decide⟩ (Nat.le_of_ble_eq_true rfl) ?_ ?_
  rotate_left
  · exact fun Ex Xx Ix Rx hp => hp.2.2.2.elim
  intro rv Xx I4 Rx hp
  obtain ⟨e1, e2, hp⟩ := hp
  rw [e1, e2]
  clear e1 e2
  obtain ⟨r5, e1, h⟩ := h rv I4 hp
  rw [e1]
  clear e1
  change J 13 [jy r5] _ (0, 0) _ _ _
  obtain ⟨g6, h⟩ := h
  refine jy_if_eq hS rfl g6 (fun hq => ?_) (fun hq => ?_)
  · have h := h.1 hq
    refine jy_aload_n hS rfl rfl ?_
    refine jy_bipush hS rfl (by decide) ?_
    refine jy_iconst hS rfl ?_
    refine jy_bipush hS rfl (by decide) ?_
    refine jy_bipush hS rfl (by decide) ?_
    refine jy_iconst hS rfl ?_
    refine jy_iconst hS rfl ?_
    refine jy_iconst hS rfl ?_
    obtain ⟨Q7, h⟩ := h
    obtain ⟨g8, h⟩ := h
    refine jy_callV hS rfl rfl rfl (Nat.le_of_ble_eq_true rfl) (Or.inl g1) g8 (by decide) ⟨by decide, by decide⟩ (Nat.le_of_ble_eq_true rfl) ?_ ?_
    rotate_left
    · exact fun Ex Xx Ix Rx hp => hp.2.2.2.elim
    intro rv Xx I9 Rx hp
    obtain ⟨e1, e2, hp⟩ := hp
    rw [e1, e2]
    clear e1 e2
    obtain ⟨r10, e1, h⟩ := h rv I9 hp
    rw [e1]
    clear e1
    change J 32 [jy r10] _ (0, 0) _ _ _
    obtain ⟨g11, h⟩ := h
    refine jy_if_eq hS rfl g11 (fun hq => ?_) (fun hq => ?_)
    · have h := h.1 hq
      refine jy_aload_n hS rfl rfl ?_
      refine jy_bipush hS rfl (by decide) ?_
      refine jy_iconst hS rfl ?_
      refine jy_iconst hS rfl ?_
      refine jy_iconst hS rfl ?_
      refine jy_iconst hS rfl ?_
      refine jy_iconst hS rfl ?_
      refine jy_iconst hS rfl ?_
      obtain ⟨Q12, h⟩ := h
      obtain ⟨g13, h⟩ := h
      refine jy_callV hS rfl rfl rfl (Nat.le_of_ble_eq_true rfl) (Or.inl g1) g13 (by decide) ⟨by decide, by decide⟩ (Nat.le_of_ble_eq_true rfl) ?_ ?_
      rotate_left
      · exact fun Ex Xx Ix Rx hp => hp.2.2.2.elim
      intro rv Xx I14 Rx hp
      obtain ⟨e1, e2, hp⟩ := hp
      rw [e1, e2]
      clear e1 e2
      obtain ⟨r15, e1, h⟩ := h rv I14 hp
      rw [e1]
      clear e1
      change J 49 [jy r15] _ (0, 0) _ _ _
      obtain ⟨g16, h⟩ := h
      refine jy_if_eq hS rfl g16 (fun hq => ?_) (fun hq => ?_)
      · have h := h.1 hq
        refine jy_aload_n hS rfl rfl ?_
        refine jy_bipush hS rfl (by decide) ?_
        refine jy_iconst hS rfl ?_
        refine jy_bipush hS rfl (by decide) ?_
        refine jy_bipush hS rfl (by decide) ?_
        refine jy_bipush hS rfl (by decide) ?_
        refine jy_iconst hS rfl ?_
        refine jy_iconst hS rfl ?_
        obtain ⟨Q17, h⟩ := h
        obtain ⟨g18, h⟩ := h
        refine jy_callV hS rfl rfl rfl (Nat.le_of_ble_eq_true rfl) (Or.inl g1) g18 (by decide) ⟨by decide, by decide⟩ (Nat.le_of_ble_eq_true rfl) ?_ ?_
        rotate_left
        · exact fun Ex Xx Ix Rx hp => hp.2.2.2.elim
        intro rv Xx I19 Rx hp
        obtain ⟨e1, e2, hp⟩ := hp
        rw [e1, e2]
        clear e1 e2
        obtain ⟨r20, e1, h⟩ := h rv I19 hp
        rw [e1]
        clear e1
        change J 69 [jy r20] _ (0, 0) _ _ _
        obtain ⟨g21, h⟩ := h
        refine jy_if_eq hS rfl g21 (fun hq => ?_) (fun hq => ?_)
        · have h := h.1 hq
          refine jy_aload_n hS rfl rfl ?_
          refine jy_iconst hS rfl ?_
          refine jy_bipush hS rfl (by decide) ?_
          refine jy_bipush hS rfl (by decide) ?_
          refine jy_bipush hS rfl (by decide) ?_
          refine jy_iconst hS rfl ?_
          refine jy_iconst hS rfl ?_
          refine jy_iconst hS rfl ?_
          obtain ⟨Q22, h⟩ := h
          obtain ⟨g23, h⟩ := h
          refine jy_callV hS rfl rfl rfl (Nat.le_of_ble_eq_true rfl) (Or.inl g1) g23 (by decide) ⟨by decide, by decide⟩ (Nat.le_of_ble_eq_true rfl) ?_ ?_
          rotate_left
          · exact fun Ex Xx Ix Rx hp => hp.2.2.2.elim
          intro rv Xx I24 Rx hp
          obtain ⟨e1, e2, hp⟩ := hp
          rw [e1, e2]
          clear e1 e2
          obtain ⟨r25, e1, h⟩ := h rv I24 hp
          rw [e1]
          clear e1
          change J 88 [jy r25] _ (0, 0) _ _ _
          obtain ⟨g26, h⟩ := h
          refine jy_if_eq hS rfl g26 (fun hq => ?_) (fun hq => ?_)
          · have h := h.1 hq
            refine jy_aload_n hS rfl rfl ?_
            refine jy_bipush hS rfl (by decide) ?_
            refine jy_bipush hS rfl (by decide) ?_
            refine jy_bipush hS rfl (by decide) ?_
            refine jy_bipush hS rfl (by decide) ?_
            refine jy_iconst hS rfl ?_
            refine jy_iconst hS rfl ?_
            refine jy_iconst hS rfl ?_
            obtain ⟨Q27, h⟩ := h
            obtain ⟨g28, h⟩ := h
            refine jy_callV hS rfl rfl rfl (Nat.le_of_ble_eq_true rfl) (Or.inl g1) g28 (by decide) ⟨by decide, by decide⟩ (Nat.le_of_ble_eq_true rfl) ?_ ?_
            rotate_left
            · exact fun Ex Xx Ix Rx hp => hp.2.2.2.elim
            intro rv Xx I29 Rx hp
            obtain ⟨e1, e2, hp⟩ := hp
            rw [e1, e2]
            clear e1 e2
            obtain ⟨r30, e1, h⟩ := h rv I29 hp
            rw [e1]
            clear e1
            change J 108 [jy r30] _ (0, 0) _ _ _
            obtain ⟨g31, h⟩ := h
            refine jy_if_eq hS rfl g31 (fun hq => ?_) (fun hq => ?_)
            · have h := h.1 hq
              refine jy_aload_n hS rfl rfl ?_
              refine jy_bipush hS rfl (by decide) ?_
              refine jy_iconst hS rfl ?_
              refine jy_iconst hS rfl ?_
              refine jy_iconst hS rfl ?_
              refine jy_iconst hS rfl ?_
              refine jy_iconst hS rfl ?_
              refine jy_iconst hS rfl ?_
              obtain ⟨Q32, h⟩ := h
              obtain ⟨g33, h⟩ := h
              refine jy_callV hS rfl rfl rfl (Nat.le_of_ble_eq_true rfl) (Or.inl g1) g33 (by decide) ⟨by decide, by decide⟩ (Nat.le_of_ble_eq_true rfl) ?_ ?_
              rotate_left
              · exact fun Ex Xx Ix Rx hp => hp.2.2.2.elim
              intro rv Xx I34 Rx hp
              obtain ⟨e1, e2, hp⟩ := hp
              rw [e1, e2]
              clear e1 e2
              obtain ⟨r35, e1, h⟩ := h rv I34 hp
              rw [e1]
              clear e1
              change J 125 [jy r35] _ (0, 0) _ _ _
              obtain ⟨g36, h⟩ := h
              refine jy_if_eq hS rfl g36 (fun hq => ?_) (fun hq => ?_)
              · have h := h.1 hq
                refine jy_aload_n hS rfl rfl ?_
                refine jy_iconst hS rfl ?_
                refine jy_bipush hS rfl (by decide) ?_
                refine jy_iconst hS rfl ?_
                refine jy_bipush hS rfl (by decide) ?_
                refine jy_bipush hS rfl (by decide) ?_
                refine jy_iconst hS rfl ?_
                refine jy_iconst hS rfl ?_
                obtain ⟨Q37, h⟩ := h
                obtain ⟨g38, h⟩ := h
                refine jy_callV hS rfl rfl rfl (Nat.le_of_ble_eq_true rfl) (Or.inl g1) g38 (by decide) ⟨by decide, by decide⟩ (Nat.le_of_ble_eq_true rfl) ?_ ?_
                rotate_left
                · exact fun Ex Xx Ix Rx hp => hp.2.2.2.elim
                intro rv Xx I39 Rx hp
                obtain ⟨e1, e2, hp⟩ := hp
                rw [e1, e2]
                clear e1 e2
                obtain ⟨r40, e1, h⟩ := h rv I39 hp
                rw [e1]
                clear e1
                change J 145 [jy r40] _ (0, 0) _ _ _
                obtain ⟨g41, h⟩ := h
                refine jy_if_eq hS rfl g41 (fun hq => ?_) (fun hq => ?_)
                · have h := h.1 hq
                  refine jy_aload_n hS rfl rfl ?_
                  refine jy_bipush hS rfl (by decide) ?_
                  refine jy_bipush hS rfl (by decide) ?_
                  refine jy_bipush hS rfl (by decide) ?_
                  refine jy_bipush hS rfl (by decide) ?_
                  refine jy_iconst hS rfl ?_
                  refine jy_iconst hS rfl ?_
                  refine jy_iconst hS rfl ?_
                  obtain ⟨Q42, h⟩ := h
                  obtain ⟨g43, h⟩ := h
                  refine jy_callV hS rfl rfl rfl (Nat.le_of_ble_eq_true rfl) (Or.inl g1) g43 (by decide) ⟨by decide, by decide⟩ (Nat.le_of_ble_eq_true rfl) ?_ ?_
                  rotate_left
                  · exact fun Ex Xx Ix Rx hp => hp.2.2.2.elim
                  intro rv Xx I44 Rx hp
                  obtain ⟨e1, e2, hp⟩ := hp
                  rw [e1, e2]
                  clear e1 e2
                  obtain ⟨r45, e1, h⟩ := h rv I44 hp
                  rw [e1]
                  clear e1
                  change J 166 [jy r45] _ (0, 0) _ _ _
                  obtain ⟨g46, h⟩ := h
                  refine jy_if_eq hS rfl g46 (fun hq => ?_) (fun hq => ?_)
                  · have h := h.1 hq
                    refine jy_aload_n hS rfl rfl ?_
                    refine jy_bipush hS rfl (by decide) ?_
                    refine jy_bipush hS rfl (by decide) ?_
                    refine jy_iconst hS rfl ?_
                    refine jy_iconst hS rfl ?_
                    refine jy_iconst hS rfl ?_
                    refine jy_iconst hS rfl ?_
                    refine jy_iconst hS rfl ?_
                    obtain ⟨Q47, h⟩ := h
                    obtain ⟨g48, h⟩ := h
                    refine jy_callV hS rfl rfl rfl (Nat.le_of_ble_eq_true rfl) (Or.inl g1) g48 (by decide) ⟨by decide, by decide⟩ (Nat.le_of_ble_eq_true rfl) ?_ ?_
                    rotate_left
                    · exact fun Ex Xx Ix Rx hp => hp.2.2.2.elim
                    intro rv Xx I49 Rx hp
                    obtain ⟨e1, e2, hp⟩ := hp
                    rw [e1, e2]
                    clear e1 e2
                    obtain ⟨r50, e1, h⟩ := h rv I49 hp
                    rw [e1]
                    clear e1
                    change J 185 [jy r50] _ (0, 0) _ _ _
                    obtain ⟨g51, h⟩ := h
                    refine jy_if_eq hS rfl g51 (fun hq => ?_) (fun hq => ?_)
                    · have h := h.1 hq
                      refine jy_iconst hS rfl ?_
                      exact jy_iret hS rfl rfl ⟨rfl, rfl, h⟩
                    · have h := h.2 hq
                      refine jy_bipush hS rfl (by decide) ?_
                      refine jy_goto hS rfl ?_
                      exact jy_iret hS rfl rfl ⟨rfl, rfl, h⟩
                  · have h := h.2 hq
                    refine jy_bipush hS rfl (by decide) ?_
                    exact jy_iret hS rfl rfl ⟨rfl, rfl, h⟩
                · have h := h.2 hq
                  refine jy_bipush hS rfl (by decide) ?_
                  exact jy_iret hS rfl rfl ⟨rfl, rfl, h⟩
              · have h := h.2 hq
                refine jy_bipush hS rfl (by decide) ?_
                exact jy_iret hS rfl rfl ⟨rfl, rfl, h⟩
            · have h := h.2 hq
              refine jy_iconst hS rfl ?_
              exact jy_iret hS rfl rfl ⟨rfl, rfl, h⟩
          · have h := h.2 hq
            refine jy_iconst hS rfl ?_
            exact jy_iret hS rfl rfl ⟨rfl, rfl, h⟩
        · have h := h.2 hq
          refine jy_iconst hS rfl ?_
          exact jy_iret hS rfl rfl ⟨rfl, rfl, h⟩
      · have h := h.2 hq
        refine jy_iconst hS rfl ?_
        exact jy_iret hS rfl rfl ⟨rfl, rfl, h⟩
    · have h := h.2 hq
      refine jy_iconst hS rfl ?_
      exact jy_iret hS rfl rfl ⟨rfl, rfl, h⟩
  · have h := h.2 hq
    refine jy_iconst hS rfl ?_
    exact jy_iret hS rfl rfl ⟨rfl, rfl, h⟩
