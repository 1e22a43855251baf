theorem jt_280 : jx_ml 280 = 6 ∧ jx_rt 280 = some .int ∧ jx_hz 280 = [] ∧ decide ((jx_nm 280).name = "<init>") = false ∧ jx_code 280 = jx_c280 := by decide +kernel
/-- GCModel.heal, from 20 -/
def wz_280_20 (V : jx_V) (X : jx_X) (R : jx_R) (Q : Option Value → jx_I → Prop) (QE : String → jx_I → Prop) (J20 : Nat → Int → jx_I → Prop) (J35 : Int → Int → Int → jx_I → Prop) (J53 : Int → Int → Int → Int → jx_I → Prop) (J107 : Int → Int → Int → jx_I → Prop) (a0 : Nat) (a1 : Int) (s0 : Nat) (s1 : Int) (I : jx_I) : Prop :=
  (X.2.1 s0 = some (12, 0)) ∧ (
  ∃ Q9 : Option Value → jx_I → Prop, (
  (jc V 2 260 (0, 0) [.ref s0, jy s1] X I R Q9 (fun _ _ => False)) ∧ (
  ∀ rv I11, Q9 rv I11 → ∃ r12 : Int, rv = some (jy r12) ∧ (
  (-2147483648 ≤ r12 ∧ r12 < 2147483648) ∧ (
  (r12 = 0 → (
    J35 (-1) 0 0 I11
  )) ∧ (¬ r12 = 0 → (
    Q (some (jy 0)) I11
  )))))))
/-- GCModel.heal, from 35 -/
def wz_280_35 (V : jx_V) (X : jx_X) (R : jx_R) (Q : Option Value → jx_I → Prop) (QE : String → jx_I → Prop) (J20 : Nat → Int → jx_I → Prop) (J35 : Int → Int → Int → jx_I → Prop) (J53 : Int → Int → Int → Int → jx_I → Prop) (J107 : Int → Int → Int → jx_I → Prop) (a0 : Nat) (a1 : Int) (l2 : Int) (l3 : Int) (l4 : Int) (I : jx_I) : Prop :=
  (X.2.1 a0 = some (12, 0)) ∧ (
  ∃ q15 : Nat, (
  (R a0 11 = some q15) ∧ (
  ∃ n17 : Nat, (
  (X.2.1 q15 = some (100, n17) ∧ n17 < 2147483648) ∧ (
  (0 ≤ (0 : Int) ∧ (0 : Int) < n17) ∧ (
  (-2147483648 ≤ l4 ∧ l4 < 2147483648) ∧ (
  ((I q15 (0 : Int).toNat).toInt ≤ l4 → (
    (a1 ≠ 0 → (
      Q (some (jy l3)) I
    )) ∧ (a1 = 0 → (
      Q (some (jy l2)) I
    ))
  )) ∧ (¬ (I q15 (0 : Int).toNat).toInt ≤ l4 → (
    ∃ Q21 : Option Value → jx_I → Prop, (
    (jc V 1 243 (0, 0) [.ref a0] X I R Q21 (fun _ _ => False)) ∧ (
    ∀ rv I23, Q21 rv I23 → rv = none ∧ (
    J53 l2 l3 l4 0 I23)))
  )))))))))
/-- GCModel.heal, from 53 -/
def wz_280_53 (V : jx_V) (X : jx_X) (R : jx_R) (Q : Option Value → jx_I → Prop) (QE : String → jx_I → Prop) (J20 : Nat → Int → jx_I → Prop) (J35 : Int → Int → Int → jx_I → Prop) (J53 : Int → Int → Int → Int → jx_I → Prop) (J107 : Int → Int → Int → jx_I → Prop) (a0 : Nat) (a1 : Int) (l2 : Int) (l3 : Int) (l4 : Int) (l5 : Int) (I : jx_I) : Prop :=
  (X.2.1 a0 = some (12, 0)) ∧ (
  ∃ q26 : Nat, (
  (R a0 11 = some q26) ∧ (
  ∃ n28 : Nat, (
  (X.2.1 q26 = some (100, n28) ∧ n28 < 2147483648) ∧ (
  (0 ≤ (1 : Int) ∧ (1 : Int) < n28) ∧ (
  (-2147483648 ≤ l5 ∧ l5 < 2147483648) ∧ (
  ((I q26 (1 : Int).toNat).toInt ≤ l5 → (
    ∃ Q32 : Option Value → jx_I → Prop, (
    (jc V 5 258 (0, 0) [.ref a0] X I R Q32 (fun _ _ => False)) ∧ (
    ∀ rv I34, Q32 rv I34 → ∃ r35 : Int, rv = some (jy r35) ∧ (
    (-2147483648 ≤ l2 ∧ l2 < 2147483648) ∧ (
    (l2 = (-1) → (
      J107 l4 r35 l4 I34
    )) ∧ (¬ l2 = (-1) → (
      (-2147483648 ≤ r35 ∧ r35 < 2147483648) ∧ (
      (-2147483648 ≤ l3 ∧ l3 < 2147483648) ∧ (
      (r35 < l3 → (
        J107 l4 r35 l4 I34
      )) ∧ (¬ r35 < l3 → (
        J107 l2 l3 l4 I34
      ))))
    ))))))
  )) ∧ (¬ (I q26 (1 : Int).toNat).toInt ≤ l5 → (
    ∃ q39 : Nat, (
    (R a0 42 = some q39) ∧ (
    ∃ n41 : Nat, (
    (X.2.1 q39 = some (104, n41) ∧ n41 < 2147483648) ∧ (
    (0 ≤ l5 ∧ l5 < n41) ∧ (
    ∃ q44 : Nat, (
    (R q39 l5.toNat = some q44) ∧ (
    ∃ n46 : Nat, (
    (X.2.1 q44 = some (100, n46) ∧ n46 < 2147483648) ∧ (
    (0 ≤ l4 ∧ l4 < n46) ∧ (
    ∀ I49 : jx_I, I49 = jx_u I q44 l4.toNat (Int32.ofInt 0) → (
    J53 l2 l3 l4 (l5 + 1) I49)))))))))))
  )))))))))
/-- GCModel.heal, from 107 -/
def wz_280_107 (V : jx_V) (X : jx_X) (R : jx_R) (Q : Option Value → jx_I → Prop) (QE : String → jx_I → Prop) (J20 : Nat → Int → jx_I → Prop) (J35 : Int → Int → Int → jx_I → Prop) (J53 : Int → Int → Int → Int → jx_I → Prop) (J107 : Int → Int → Int → jx_I → Prop) (a0 : Nat) (a1 : Int) (l2 : Int) (l3 : Int) (l4 : Int) (I : jx_I) : Prop :=
  J35 l2 l3 (l4 + 1) I
/-- GCModel.heal -/
def wz_280 (V : jx_V) (X : jx_X) (R : jx_R) (Q : Option Value → jx_I → Prop) (QE : String → jx_I → Prop) (J20 : Nat → Int → jx_I → Prop) (J35 : Int → Int → Int → jx_I → Prop) (J53 : Int → Int → Int → Int → jx_I → Prop) (J107 : Int → Int → Int → jx_I → Prop) (a0 : Nat) (a1 : Int) (I : jx_I) : Prop :=
  (X.2.1 a0 = some (12, 0)) ∧ (
  ∀ I2 : jx_I, I2 = jx_u I a0 0 (Int32.ofInt 0) → (
  ∃ Q3 : Option Value → jx_I → Prop, (
  (jc V 1 203 (0, 0) [jy a1, jy 0, jy 1] X I2 R Q3 (fun _ _ => False)) ∧ (
  ∀ rv I5, Q3 rv I5 → ∃ r6 : Int, rv = some (jy r6) ∧ (
  (-2147483648 ≤ r6 ∧ r6 < 2147483648) ∧ (
  (r6 ≠ 0 → (
    J20 a0 0 I5
  )) ∧ (r6 = 0 → (
    J20 a0 1 I5
  ))))))))
set_option maxRecDepth 20000 in
theorem wm_280 {V : jx_V} (hV : V.1.stackTraces = false) {X : jx_X} {R : jx_R} {I : jx_I} {Q : Option Value → jx_I → Prop} {QE : String → jx_I → Prop} {a0 : Nat} {a1 : Int} (r_a1 : -2147483648 ≤ a1 ∧ a1 < 2147483648) 
    (h : ∀ (J20 : Nat → Int → jx_I → Prop) (J35 : Int → Int → Int → jx_I → Prop) (J53 : Int → Int → Int → Int → jx_I → Prop) (J107 : Int → Int → Int → jx_I → Prop), ((∀ (s0 : Nat) (s1 : Int) I, wz_280_20 V X R Q QE J20 J35 J53 J107 a0 a1 s0 s1 I → J20 s0 s1 I) ∧ (∀ (l2 : Int) (l3 : Int) (l4 : Int) I, wz_280_35 V X R Q QE J20 J35 J53 J107 a0 a1 l2 l3 l4 I → J35 l2 l3 l4 I) ∧ (∀ (l2 : Int) (l3 : Int) (l4 : Int) (l5 : Int) I, wz_280_53 V X R Q QE J20 J35 J53 J107 a0 a1 l2 l3 l4 l5 I → J53 l2 l3 l4 l5 I) ∧ (∀ (l2 : Int) (l3 : Int) (l4 : Int) I, wz_280_107 V X R Q QE J20 J35 J53 J107 a0 a1 l2 l3 l4 I → J107 l2 l3 l4 I)) → wz_280 V X R Q QE J20 J35 J53 J107 a0 a1 I) : jc V 6 280 (0, 0) [.ref a0, jy a1] X I R Q QE := by
  refine jy_met hV (by decide) (n := 6) (rt := some .int) (hh := []) (ini := false) (C := jx_c280) (L := [some (.ref a0), some (jy a1), none, none, none, none]) jt_280 (Nat.le_of_ble_eq_true rfl) rfl ?_
  intro J hS
  have h := h (fun s0 s1 I => J 20 [jy s1, .ref s0] [some (.ref a0), some (jy a1), none, none, none, none] (0, 0) X I R) (fun l2 l3 l4 I => J 35 [] [some (.ref a0), some (jy a1), some (jy l2), some (jy l3), some (jy l4), none] (0, 0) X I R) (fun l2 l3 l4 l5 I => J 53 [] [some (.ref a0), some (jy a1), some (jy l2), some (jy l3), some (jy l4), some (jy l5)] (0, 0) X I R) (fun l2 l3 l4 I => J 107 [] [some (.ref a0), some (jy a1), some (jy l2), some (jy l3), some (jy l4), none] (0, 0) X I R) ?_
  · unfold wz_280 at h
    refine jy_aload_n hS rfl rfl ?_
    refine jy_iconst hS rfl ?_
    obtain ⟨g1, h⟩ := h
    refine jy_putI hS rfl (by decide) g1 ?_
    intro I2 e9
    have h := h I2 e9
    clear e9
    refine jy_aload_n hS rfl rfl ?_
    refine jy_iload_n hS rfl rfl ?_
    refine jy_iconst hS rfl ?_
    refine jy_iconst hS rfl ?_
    obtain ⟨Q3, h⟩ := h
    obtain ⟨g4, h⟩ := h
    refine jy_callS hS rfl rfl rfl (Nat.le_of_ble_eq_true rfl) g4 (by decide) ⟨by decide, by decide⟩ (Nat.le_of_ble_eq_true rfl) ?_ ?_
    rotate_left
    · exact fun Ex Xx Ix Rx hp => hp.2.2.2.elim
    intro rv Xx I5 Rx hp
    obtain ⟨e1, e2, hp⟩ := hp
    rw [e1, e2]
    clear e1 e2
    obtain ⟨r6, e1, h⟩ := h rv I5 hp
    rw [e1]
    clear e1
    change J 12 [jy r6, .ref a0] _ (0, 0) _ _ _
    obtain ⟨g7, h⟩ := h
    refine jy_if_ne hS rfl g7 (fun hq => ?_) (fun hq => ?_)
    · have h := h.1 hq
      refine jy_iconst hS rfl ?_
      exact jy_join hS h rfl (jy_sub_s (jy_sub_s (jy_sub_n (jy_sub_n (jy_sub_n (jy_sub_n jy_sub_0))))))
    · have h := h.2 hq
      refine jy_iconst hS rfl ?_
      refine jy_goto hS rfl ?_
      exact jy_join hS h rfl (jy_sub_s (jy_sub_s (jy_sub_n (jy_sub_n (jy_sub_n (jy_sub_n jy_sub_0))))))
  refine ⟨?_, ?_, ?_, ?_⟩
  · intro s0 s1 I h
    unfold wz_280_20 at h
    obtain ⟨g8, h⟩ := h
    obtain ⟨Q9, h⟩ := h
    obtain ⟨g10, h⟩ := h
    refine jy_callV hS rfl rfl rfl (Nat.le_of_ble_eq_true rfl) (Or.inl g8) g10 (by decide) ⟨by decide, by decide⟩ (Nat.le_of_ble_eq_true rfl) ?_ ?_
    rotate_left
    · exact fun Ex Xx Ix Rx hp => hp.2.2.2.elim
    intro rv Xx I11 Rx hp
    obtain ⟨e1, e2, hp⟩ := hp
    rw [e1, e2]
    clear e1 e2
    obtain ⟨r12, e1, h⟩ := h rv I11 hp
    rw [e1]
    clear e1
    change J 23 [jy r12] _ (0, 0) _ _ _
    obtain ⟨g13, h⟩ := h
    refine jy_if_eq hS rfl g13 (fun hq => ?_) (fun hq => ?_)
    · have h := h.1 hq
      refine jy_iconst hS rfl ?_
      refine jy_istore_n hS rfl (Nat.le_of_ble_eq_true rfl) (L' := [some (.ref a0), some (jy a1), some (jy (-1)), none, none, none]) rfl ?_
      refine jy_iconst hS rfl ?_
      refine jy_istore_n hS rfl (Nat.le_of_ble_eq_true rfl) (L' := [some (.ref a0), some (jy a1), some (jy (-1)), some (jy 0), none, none]) rfl ?_
      refine jy_iconst hS rfl ?_
      refine jy_istore hS rfl (Nat.le_of_ble_eq_true rfl) (L' := [some (.ref a0), some (jy a1), some (jy (-1)), some (jy 0), some (jy 0), none]) rfl ?_
      exact jy_join hS h rfl (jy_sub_s (jy_sub_s (jy_sub_s (jy_sub_s (jy_sub_s (jy_sub_n jy_sub_0))))))
    · have h := h.2 hq
      refine jy_iconst hS rfl ?_
      exact jy_iret hS rfl rfl ⟨rfl, rfl, h⟩
  · intro l2 l3 l4 I h
    unfold wz_280_35 at h
    refine jy_iload hS rfl rfl ?_
    refine jy_aload_n hS rfl rfl ?_
    obtain ⟨g14, h⟩ := h
    obtain ⟨q15, h⟩ := h
    obtain ⟨g16, h⟩ := h
    refine jy_getR hS rfl (by decide) g14 g16 ?_
    refine jy_iconst hS rfl ?_
    obtain ⟨n17, h⟩ := h
    obtain ⟨g18, h⟩ := h
    obtain ⟨g19, h⟩ := h
    refine jy_iald hS rfl g18.1 (Nat.le_of_lt g18.2) g19 ?_
    obtain ⟨g20, h⟩ := h
    refine jy_icmp_ge hS rfl ⟨g20, (jy_rng _)⟩ (fun hq => ?_) (fun hq => ?_)
    · have h := h.1 hq
      refine jy_iload_n hS rfl rfl ?_
      refine jy_if_ne hS rfl r_a1 (fun hq => ?_) (fun hq => ?_)
      · have h := h.1 hq
        refine jy_iload_n hS rfl rfl ?_
        exact jy_iret hS rfl rfl ⟨rfl, rfl, h⟩
      · have h := h.2 hq
        refine jy_iload_n hS rfl rfl ?_
        refine jy_goto hS rfl ?_
        exact jy_iret hS rfl rfl ⟨rfl, rfl, h⟩
    · have h := h.2 hq
      refine jy_aload_n hS rfl rfl ?_
      obtain ⟨Q21, h⟩ := h
      obtain ⟨g22, h⟩ := h
      refine jy_callV hS rfl rfl rfl (Nat.le_of_ble_eq_true rfl) (Or.inl g14) g22 (by decide) ⟨by decide, by decide⟩ (Nat.le_of_ble_eq_true rfl) ?_ ?_
      rotate_left
      · exact fun Ex Xx Ix Rx hp => hp.2.2.2.elim
      intro rv Xx I23 Rx hp
      obtain ⟨e1, e2, hp⟩ := hp
      rw [e1, e2]
      clear e1 e2
      obtain ⟨e1, h⟩ := h rv I23 hp
      rw [e1]
      clear e1
      change J 50 [] _ (0, 0) _ _ _
      refine jy_iconst hS rfl ?_
      refine jy_istore hS rfl (Nat.le_of_ble_eq_true rfl) (L' := [some (.ref a0), some (jy a1), some (jy l2), some (jy l3), some (jy l4), some (jy 0)]) rfl ?_
      exact jy_join hS h rfl (jy_sub_s (jy_sub_s (jy_sub_s (jy_sub_s (jy_sub_s (jy_sub_s jy_sub_0))))))
  · intro l2 l3 l4 l5 I h
    unfold wz_280_53 at h
    refine jy_iload hS rfl rfl ?_
    refine jy_aload_n hS rfl rfl ?_
    obtain ⟨g25, h⟩ := h
    obtain ⟨q26, h⟩ := h
    obtain ⟨g27, h⟩ := h
    refine jy_getR hS rfl (by decide) g25 g27 ?_
    refine jy_iconst hS rfl ?_
    obtain ⟨n28, h⟩ := h
    obtain ⟨g29, h⟩ := h
    obtain ⟨g30, h⟩ := h
    refine jy_iald hS rfl g29.1 (Nat.le_of_lt g29.2) g30 ?_
    obtain ⟨g31, h⟩ := h
    refine jy_icmp_ge hS rfl ⟨g31, (jy_rng _)⟩ (fun hq => ?_) (fun hq => ?_)
    · have h := h.1 hq
      refine jy_aload_n hS rfl rfl ?_
      obtain ⟨Q32, h⟩ := h
      obtain ⟨g33, h⟩ := h
      refine jy_callV hS rfl rfl rfl (Nat.le_of_ble_eq_true rfl) (Or.inl g25) g33 (by decide) ⟨by decide, by decide⟩ (Nat.le_of_ble_eq_true rfl) ?_ ?_
      rotate_left
      · exact fun Ex Xx Ix Rx hp => hp.2.2.2.elim
      intro rv Xx I34 Rx hp
      obtain ⟨e1, e2, hp⟩ := hp
      rw [e1, e2]
      clear e1 e2
      obtain ⟨r35, e1, h⟩ := h rv I34 hp
      rw [e1]
      clear e1
      change J 85 [jy r35] _ (0, 0) _ _ _
      refine jy_istore hS rfl (Nat.le_of_ble_eq_true rfl) (L' := [some (.ref a0), some (jy a1), some (jy l2), some (jy l3), some (jy l4), some (jy r35)]) rfl ?_
      refine jy_iload_n hS rfl rfl ?_
      refine jy_iconst hS rfl ?_
      obtain ⟨g36, h⟩ := h
      refine jy_icmp_eq hS rfl ⟨g36, ⟨by decide, by decide⟩⟩ (fun hq => ?_) (fun hq => ?_)
      · have h := h.1 hq
        refine jy_iload hS rfl rfl ?_
        refine jy_istore_n hS rfl (Nat.le_of_ble_eq_true rfl) (L' := [some (.ref a0), some (jy a1), some (jy l4), some (jy l3), some (jy l4), some (jy r35)]) rfl ?_
        refine jy_iload hS rfl rfl ?_
        refine jy_istore_n hS rfl (Nat.le_of_ble_eq_true rfl) (L' := [some (.ref a0), some (jy a1), some (jy l4), some (jy r35), some (jy l4), some (jy r35)]) rfl ?_
        exact jy_join hS h rfl (jy_sub_s (jy_sub_s (jy_sub_s (jy_sub_s (jy_sub_s (jy_sub_n jy_sub_0))))))
      · have h := h.2 hq
        refine jy_iload hS rfl rfl ?_
        refine jy_iload_n hS rfl rfl ?_
        obtain ⟨g37, h⟩ := h
        obtain ⟨g38, h⟩ := h
        refine jy_icmp_lt hS rfl ⟨g37, g38⟩ (fun hq => ?_) (fun hq => ?_)
        · have h := h.1 hq
          refine jy_iload hS rfl rfl ?_
          refine jy_istore_n hS rfl (Nat.le_of_ble_eq_true rfl) (L' := [some (.ref a0), some (jy a1), some (jy l4), some (jy l3), some (jy l4), some (jy r35)]) rfl ?_
          refine jy_iload hS rfl rfl ?_
          refine jy_istore_n hS rfl (Nat.le_of_ble_eq_true rfl) (L' := [some (.ref a0), some (jy a1), some (jy l4), some (jy r35), some (jy l4), some (jy r35)]) rfl ?_
          exact jy_join hS h rfl (jy_sub_s (jy_sub_s (jy_sub_s (jy_sub_s (jy_sub_s (jy_sub_n jy_sub_0))))))
        · have h := h.2 hq
          refine jy_goto hS rfl ?_
          exact jy_join hS h rfl (jy_sub_s (jy_sub_s (jy_sub_s (jy_sub_s (jy_sub_s (jy_sub_n jy_sub_0))))))
    · have h := h.2 hq
      refine jy_aload_n hS rfl rfl ?_
      obtain ⟨q39, h⟩ := h
      obtain ⟨g40, h⟩ := h
      refine jy_getR hS rfl (by decide) g25 g40 ?_
      refine jy_iload hS rfl rfl ?_
      obtain ⟨n41, h⟩ := h
      obtain ⟨g42, h⟩ := h
      obtain ⟨g43, h⟩ := h
      obtain ⟨q44, h⟩ := h
      obtain ⟨g45, h⟩ := h
      refine jy_aald hS rfl g42.1 (by decide) (Nat.le_of_lt g42.2) g43 g45 ?_
      refine jy_iload hS rfl rfl ?_
      refine jy_iconst hS rfl ?_
      obtain ⟨n46, h⟩ := h
      obtain ⟨g47, h⟩ := h
      obtain ⟨g48, h⟩ := h
      refine jy_iast hS rfl g47.1 (Nat.le_of_lt g47.2) g48 ?_
      intro I49 e9
      have h := h I49 e9
      clear e9
      refine jy_iinc hS rfl rfl (L' := [some (.ref a0), some (jy a1), some (jy l2), some (jy l3), some (jy l4), some (jy (l5 + 1))]) rfl ?_
      refine jy_goto hS rfl ?_
      exact jy_join hS h rfl (jy_sub_s (jy_sub_s (jy_sub_s (jy_sub_s (jy_sub_s (jy_sub_s jy_sub_0))))))
  · intro l2 l3 l4 I h
    unfold wz_280_107 at h
    refine jy_iinc hS rfl rfl (L' := [some (.ref a0), some (jy a1), some (jy l2), some (jy l3), some (jy (l4 + 1)), none]) rfl ?_
    refine jy_goto hS rfl ?_
    exact jy_join hS h rfl (jy_sub_s (jy_sub_s (jy_sub_s (jy_sub_s (jy_sub_s (jy_sub_n jy_sub_0))))))
theorem jt_281 : jx_ml 281 = 5 ∧ jx_rt 281 = some .int ∧ jx_hz 281 = [] ∧ decide ((jx_nm 281).name = "<init>") = false ∧ jx_code 281 = jx_c281 := by decide +kernel
/-- GCModel.light, from 22 -/
def wz_281_22 (V : jx_V) (X : jx_X) (R : jx_R) (Q : Option Value → jx_I → Prop) (QE : String → jx_I → Prop) (J22 : Nat → Int → jx_I → Prop) (J40 : Int → Int → Int → jx_I → Prop) (J95 : Int → Int → Int → jx_I → Prop) (J96 : Int → Int → Int → jx_I → Prop) (a0 : Nat) (a1 : Int) (s0 : Nat) (s1 : Int) (I : jx_I) : Prop :=
  (X.2.1 s0 = some (12, 0)) ∧ (
  ∃ Q9 : Option Value → jx_I → Prop, (
  (jc V 2 260 (0, 0) [.ref s0, jy s1] X I R Q9 (fun _ _ => False)) ∧ (
  ∀ rv I11, Q9 rv I11 → ∃ r12 : Int, rv = some (jy r12) ∧ (
  (-2147483648 ≤ r12 ∧ r12 < 2147483648) ∧ (
  (r12 = 0 → (
    (X.2.1 a0 = some (12, 0)) ∧ (
    ∃ Q15 : Option Value → jx_I → Prop, (
    (jc V 1 277 (0, 0) [.ref a0] X I11 R Q15 (fun _ _ => False)) ∧ (
    ∀ rv I17, Q15 rv I17 → ∃ r18 : Int, rv = some (jy r18) ∧ (
    J40 r18 (-1) 0 I17))))
  )) ∧ (¬ r12 = 0 → (
    Q (some (jy 0)) I11
  )))))))
/-- GCModel.light, from 40 -/
def wz_281_40 (V : jx_V) (X : jx_X) (R : jx_R) (Q : Option Value → jx_I → Prop) (QE : String → jx_I → Prop) (J22 : Nat → Int → jx_I → Prop) (J40 : Int → Int → Int → jx_I → Prop) (J95 : Int → Int → Int → jx_I → Prop) (J96 : Int → Int → Int → jx_I → Prop) (a0 : Nat) (a1 : Int) (l2 : Int) (l3 : Int) (l4 : Int) (I : jx_I) : Prop :=
  (-2147483648 ≤ l4 ∧ l4 < 2147483648) ∧ (
  (-2147483648 ≤ l2 ∧ l2 < 2147483648) ∧ (
  (l2 < l4 → (
    Q (some (jy l3)) I
  )) ∧ (¬ l2 < l4 → (
    ((Int32.ofInt l4 &&& Int32.ofInt ((Int32.ofInt l2 ^^^ Int32.ofInt (-1)).toInt)).toInt ≠ 0 → (
      J40 l2 l3 (l4 + 1) I
    )) ∧ ((Int32.ofInt l4 &&& Int32.ofInt ((Int32.ofInt l2 ^^^ Int32.ofInt (-1)).toInt)).toInt = 0 → (
      (-2147483648 ≤ l3 ∧ l3 < 2147483648) ∧ (
      (l3 = (-1) → (
        (X.2.1 a0 = some (12, 0)) ∧ (
        ∃ Q23 : Option Value → jx_I → Prop, (
        (jc V 6 276 (0, 0) [.ref a0, jy ((Int32.ofInt l2 &&& Int32.ofInt ((Int32.ofInt l4 ^^^ Int32.ofInt (-1)).toInt)).toInt)] X I R Q23 (fun _ _ => False)) ∧ (
        ∀ rv I25, Q23 rv I25 → ∃ r26 : Int, rv = some (jy r26) ∧ (
        (-2147483648 ≤ r26 ∧ r26 < 2147483648) ∧ (
        (a1 < r26 → (
          J95 l3 l2 l4 I25
        )) ∧ (¬ a1 < r26 → (
          J95 l4 l2 l4 I25
        )))))))
      )) ∧ (¬ l3 = (-1) → (
        ∃ Q28 : Option Value → jx_I → Prop, (
        (jc V 1 272 (0, 0) [jy l4] X I R Q28 (fun _ _ => False)) ∧ (
        ∀ rv I30, Q28 rv I30 → ∃ r31 : Int, rv = some (jy r31) ∧ (
        ∃ Q32 : Option Value → jx_I → Prop, (
        (jc V 1 272 (0, 0) [jy l3] X I30 R Q32 (fun _ _ => False)) ∧ (
        ∀ rv I34, Q32 rv I34 → ∃ r35 : Int, rv = some (jy r35) ∧ (
        (-2147483648 ≤ r31 ∧ r31 < 2147483648) ∧ (
        (-2147483648 ≤ r35 ∧ r35 < 2147483648) ∧ (
        (r31 < r35 → (
          (X.2.1 a0 = some (12, 0)) ∧ (
          ∃ Q39 : Option Value → jx_I → Prop, (
          (jc V 6 276 (0, 0) [.ref a0, jy ((Int32.ofInt l2 &&& Int32.ofInt ((Int32.ofInt l4 ^^^ Int32.ofInt (-1)).toInt)).toInt)] X I34 R Q39 (fun _ _ => False)) ∧ (
          ∀ rv I41, Q39 rv I41 → ∃ r42 : Int, rv = some (jy r42) ∧ (
          (-2147483648 ≤ r42 ∧ r42 < 2147483648) ∧ (
          (a1 < r42 → (
            J95 l3 l2 l4 I41
          )) ∧ (¬ a1 < r42 → (
            J95 l4 l2 l4 I41
          )))))))
        )) ∧ (¬ r31 < r35 → (
          J96 l2 l3 l4 I34
        ))))))))))
      )))
    ))
  ))))
/-- GCModel.light, from 95 -/
def wz_281_95 (V : jx_V) (X : jx_X) (R : jx_R) (Q : Option Value → jx_I → Prop) (QE : String → jx_I → Prop) (J22 : Nat → Int → jx_I → Prop) (J40 : Int → Int → Int → jx_I → Prop) (J95 : Int → Int → Int → jx_I → Prop) (J96 : Int → Int → Int → jx_I → Prop) (a0 : Nat) (a1 : Int) (s0 : Int) (l2 : Int) (l4 : Int) (I : jx_I) : Prop :=
  J96 l2 s0 l4 I
/-- GCModel.light, from 96 -/
def wz_281_96 (V : jx_V) (X : jx_X) (R : jx_R) (Q : Option Value → jx_I → Prop) (QE : String → jx_I → Prop) (J22 : Nat → Int → jx_I → Prop) (J40 : Int → Int → Int → jx_I → Prop) (J95 : Int → Int → Int → jx_I → Prop) (J96 : Int → Int → Int → jx_I → Prop) (a0 : Nat) (a1 : Int) (l2 : Int) (l3 : Int) (l4 : Int) (I : jx_I) : Prop :=
  J40 l2 l3 (l4 + 1) I
/-- GCModel.light -/
def wz_281 (V : jx_V) (X : jx_X) (R : jx_R) (Q : Option Value → jx_I → Prop) (QE : String → jx_I → Prop) (J22 : Nat → Int → jx_I → Prop) (J40 : Int → Int → Int → jx_I → Prop) (J95 : Int → Int → Int → jx_I → Prop) (J96 : Int → Int → Int → jx_I → Prop) (a0 : Nat) (a1 : Int) (I : jx_I) : Prop :=
  (X.2.1 a0 = some (12, 0)) ∧ (
  ∀ I2 : jx_I, I2 = jx_u I a0 0 (Int32.ofInt 0) → (
  ∃ Q3 : Option Value → jx_I → Prop, (
  (jc V 1 203 (0, 0) [jy a1, jy 0, jy 9999] X I2 R Q3 (fun _ _ => False)) ∧ (
  ∀ rv I5, Q3 rv I5 → ∃ r6 : Int, rv = some (jy r6) ∧ (
  (-2147483648 ≤ r6 ∧ r6 < 2147483648) ∧ (
  (r6 ≠ 0 → (
    J22 a0 0 I5
  )) ∧ (r6 = 0 → (
    J22 a0 1 I5
  ))))))))
set_option maxRecDepth 20000 in
theorem wm_281 {V : jx_V} (hV : V.1.stackTraces = false) {X : jx_X} {R : jx_R} {I : jx_I} {Q : Option Value → jx_I → Prop} {QE : String → jx_I → Prop} {a0 : Nat} {a1 : Int} (r_a1 : -2147483648 ≤ a1 ∧ a1 < 2147483648) 
    (h : ∀ (J22 : Nat → Int → jx_I → Prop) (J40 : Int → Int → Int → jx_I → Prop) (J95 : Int → Int → Int → jx_I → Prop) (J96 : Int → Int → Int → jx_I → Prop), ((∀ (s0 : Nat) (s1 : Int) I, wz_281_22 V X R Q QE J22 J40 J95 J96 a0 a1 s0 s1 I → J22 s0 s1 I) ∧ (∀ (l2 : Int) (l3 : Int) (l4 : Int) I, wz_281_40 V X R Q QE J22 J40 J95 J96 a0 a1 l2 l3 l4 I → J40 l2 l3 l4 I) ∧ (∀ (s0 : Int) (l2 : Int) (l4 : Int) I, wz_281_95 V X R Q QE J22 J40 J95 J96 a0 a1 s0 l2 l4 I → J95 s0 l2 l4 I) ∧ (∀ (l2 : Int) (l3 : Int) (l4 : Int) I, wz_281_96 V X R Q QE J22 J40 J95 J96 a0 a1 l2 l3 l4 I → J96 l2 l3 l4 I)) → wz_281 V X R Q QE J22 J40 J95 J96 a0 a1 I) : jc V 7 281 (0, 0) [.ref a0, jy a1] X I R Q QE := by
  refine jy_met hV (by decide) (n := 5) (rt := some .int) (hh := []) (ini := false) (C := jx_c281) (L := [some (.ref a0), some (jy a1), none, none, none]) jt_281 (Nat.le_of_ble_eq_true rfl) rfl ?_
  intro J hS
  have h := h (fun s0 s1 I => J 22 [jy s1, .ref s0] [some (.ref a0), some (jy a1), none, none, none] (0, 0) X I R) (fun l2 l3 l4 I => J 40 [] [some (.ref a0), some (jy a1), some (jy l2), some (jy l3), some (jy l4)] (0, 0) X I R) (fun s0 l2 l4 I => J 95 [jy s0] [some (.ref a0), some (jy a1), some (jy l2), none, some (jy l4)] (0, 0) X I R) (fun l2 l3 l4 I => J 96 [] [some (.ref a0), some (jy a1), some (jy l2), some (jy l3), some (jy l4)] (0, 0) X I R) ?_
  · unfold wz_281 at h
    refine jy_aload_n hS rfl rfl ?_
    refine jy_iconst hS rfl ?_
    obtain ⟨g1, h⟩ := h
    refine jy_putI hS rfl (by decide) g1 ?_
    intro I2 e9
    have h := h I2 e9
    clear e9
    refine jy_aload_n hS rfl rfl ?_
    refine jy_iload_n hS rfl rfl ?_
    refine jy_iconst hS rfl ?_
    refine jy_sipush hS rfl (by decide) ?_
    obtain ⟨Q3, h⟩ := h
    obtain ⟨g4, h⟩ := h
    refine jy_callS hS rfl rfl rfl (Nat.le_of_ble_eq_true rfl) g4 (by decide) ⟨by decide, by decide⟩ (Nat.le_of_ble_eq_true rfl) ?_ ?_
    rotate_left
    · exact fun Ex Xx Ix Rx hp => hp.2.2.2.elim
    intro rv Xx I5 Rx hp
    obtain ⟨e1, e2, hp⟩ := hp
    rw [e1, e2]
    clear e1 e2
    obtain ⟨r6, e1, h⟩ := h rv I5 hp
    rw [e1]
    clear e1
    change J 14 [jy r6, .ref a0] _ (0, 0) _ _ _
    obtain ⟨g7, h⟩ := h
    refine jy_if_ne hS rfl g7 (fun hq => ?_) (fun hq => ?_)
    · have h := h.1 hq
      refine jy_iconst hS rfl ?_
      exact jy_join hS h rfl (jy_sub_s (jy_sub_s (jy_sub_n (jy_sub_n (jy_sub_n jy_sub_0)))))
    · have h := h.2 hq
      refine jy_iconst hS rfl ?_
      refine jy_goto hS rfl ?_
      exact jy_join hS h rfl (jy_sub_s (jy_sub_s (jy_sub_n (jy_sub_n (jy_sub_n jy_sub_0)))))
  refine ⟨?_, ?_, ?_, ?_⟩
  · intro s0 s1 I h
    unfold wz_281_22 at h
    obtain ⟨g8, h⟩ := h
    obtain ⟨Q9, h⟩ := h
    obtain ⟨g10, h⟩ := h
    refine jy_callV hS rfl rfl rfl (Nat.le_of_ble_eq_true rfl) (Or.inl g8) g10 (by decide) ⟨by decide, by decide⟩ (Nat.le_of_ble_eq_true rfl) ?_ ?_
    rotate_left
    · exact fun Ex Xx Ix Rx hp => hp.2.2.2.elim
    intro rv Xx I11 Rx hp
    obtain ⟨e1, e2, hp⟩ := hp
    rw [e1, e2]
    clear e1 e2
    obtain ⟨r12, e1, h⟩ := h rv I11 hp
    rw [e1]
    clear e1
    change J 25 [jy r12] _ (0, 0) _ _ _
    obtain ⟨g13, h⟩ := h
    refine jy_if_eq hS rfl g13 (fun hq => ?_) (fun hq => ?_)
    · have h := h.1 hq
      refine jy_aload_n hS rfl rfl ?_
      obtain ⟨g14, h⟩ := h
      obtain ⟨Q15, h⟩ := h
      obtain ⟨g16, h⟩ := h
      refine jy_callV hS rfl rfl rfl (Nat.le_of_ble_eq_true rfl) (Or.inl g14) g16 (by decide) ⟨by decide, by decide⟩ (Nat.le_of_ble_eq_true rfl) ?_ ?_
      rotate_left
      · exact fun Ex Xx Ix Rx hp => hp.2.2.2.elim
      intro rv Xx I17 Rx hp
      obtain ⟨e1, e2, hp⟩ := hp
      rw [e1, e2]
      clear e1 e2
      obtain ⟨r18, e1, h⟩ := h rv I17 hp
      rw [e1]
      clear e1
      change J 34 [jy r18] _ (0, 0) _ _ _
      refine jy_istore_n hS rfl (Nat.le_of_ble_eq_true rfl) (L' := [some (.ref a0), some (jy a1), some (jy r18), none, none]) rfl ?_
      refine jy_iconst hS rfl ?_
      refine jy_istore_n hS rfl (Nat.le_of_ble_eq_true rfl) (L' := [some (.ref a0), some (jy a1), some (jy r18), some (jy (-1)), none]) rfl ?_
      refine jy_iconst hS rfl ?_
      refine jy_istore hS rfl (Nat.le_of_ble_eq_true rfl) (L' := [some (.ref a0), some (jy a1), some (jy r18), some (jy (-1)), some (jy 0)]) rfl ?_
      exact jy_join hS h rfl (jy_sub_s (jy_sub_s (jy_sub_s (jy_sub_s (jy_sub_s jy_sub_0)))))
    · have h := h.2 hq
      refine jy_iconst hS rfl ?_
      exact jy_iret hS rfl rfl ⟨rfl, rfl, h⟩
  · intro l2 l3 l4 I h
    unfold wz_281_40 at h
    refine jy_iload hS rfl rfl ?_
    refine jy_iload_n hS rfl rfl ?_
    obtain ⟨g19, h⟩ := h
    obtain ⟨g20, h⟩ := h
    refine jy_icmp_gt hS rfl ⟨g19, g20⟩ (fun hq => ?_) (fun hq => ?_)
    · have h := h.1 hq
      refine jy_iload_n hS rfl rfl ?_
      exact jy_iret hS rfl rfl ⟨rfl, rfl, h⟩
    · have h := h.2 hq
      refine jy_iload hS rfl rfl ?_
      refine jy_iload_n hS rfl rfl ?_
      refine jy_iconst hS rfl ?_
      refine jy_ixorX hS rfl rfl ?_
      refine jy_iandX hS rfl rfl ?_
      refine jy_if_ne hS rfl (jy_rng _) (fun hq => ?_) (fun hq => ?_)
      · have h := h.1 hq
        refine jy_iinc hS rfl rfl (L' := [some (.ref a0), some (jy a1), some (jy l2), some (jy l3), some (jy (l4 + 1))]) rfl ?_
        refine jy_goto hS rfl ?_
        exact jy_join hS h rfl (jy_sub_s (jy_sub_s (jy_sub_s (jy_sub_s (jy_sub_s jy_sub_0)))))
      · have h := h.2 hq
        refine jy_iload_n hS rfl rfl ?_
        refine jy_iconst hS rfl ?_
        obtain ⟨g21, h⟩ := h
        refine jy_icmp_eq hS rfl ⟨g21, ⟨by decide, by decide⟩⟩ (fun hq => ?_) (fun hq => ?_)
        · have h := h.1 hq
          refine jy_aload_n hS rfl rfl ?_
          refine jy_iload_n hS rfl rfl ?_
          refine jy_iload hS rfl rfl ?_
          refine jy_iconst hS rfl ?_
          refine jy_ixorX hS rfl rfl ?_
          refine jy_iandX hS rfl rfl ?_
          obtain ⟨g22, h⟩ := h
          obtain ⟨Q23, h⟩ := h
          obtain ⟨g24, h⟩ := h
          refine jy_callV hS rfl rfl rfl (Nat.le_of_ble_eq_true rfl) (Or.inl g22) g24 (by decide) ⟨by decide, by decide⟩ (Nat.le_of_ble_eq_true rfl) ?_ ?_
          rotate_left
          · exact fun Ex Xx Ix Rx hp => hp.2.2.2.elim
          intro rv Xx I25 Rx hp
          obtain ⟨e1, e2, hp⟩ := hp
          rw [e1, e2]
          clear e1 e2
          obtain ⟨r26, e1, h⟩ := h rv I25 hp
          rw [e1]
          clear e1
          change J 85 [jy r26] _ (0, 0) _ _ _
          refine jy_iload_n hS rfl rfl ?_
          obtain ⟨g27, h⟩ := h
          refine jy_icmp_gt hS rfl ⟨g27, r_a1⟩ (fun hq => ?_) (fun hq => ?_)
          · have h := h.1 hq
            refine jy_iload_n hS rfl rfl ?_
            exact jy_join hS h rfl (jy_sub_s (jy_sub_s (jy_sub_s (jy_sub_n (jy_sub_s jy_sub_0)))))
          · have h := h.2 hq
            refine jy_iload hS rfl rfl ?_
            refine jy_goto hS rfl ?_
            exact jy_join hS h rfl (jy_sub_s (jy_sub_s (jy_sub_s (jy_sub_n (jy_sub_s jy_sub_0)))))
        · have h := h.2 hq
          refine jy_iload hS rfl rfl ?_
          obtain ⟨Q28, h⟩ := h
          obtain ⟨g29, h⟩ := h
          refine jy_callS hS rfl rfl rfl (Nat.le_of_ble_eq_true rfl) g29 (by decide) ⟨by decide, by decide⟩ (Nat.le_of_ble_eq_true rfl) ?_ ?_
          rotate_left
          · exact fun Ex Xx Ix Rx hp => hp.2.2.2.elim
          intro rv Xx I30 Rx hp
          obtain ⟨e1, e2, hp⟩ := hp
          rw [e1, e2]
          clear e1 e2
          obtain ⟨r31, e1, h⟩ := h rv I30 hp
          rw [e1]
          clear e1
          change J 65 [jy r31] _ (0, 0) _ _ _
          refine jy_iload_n hS rfl rfl ?_
          obtain ⟨Q32, h⟩ := h
          obtain ⟨g33, h⟩ := h
          refine jy_callS hS rfl rfl rfl (Nat.le_of_ble_eq_true rfl) g33 (by decide) ⟨by decide, by decide⟩ (Nat.le_of_ble_eq_true rfl) ?_ ?_
          rotate_left
          · exact fun Ex Xx Ix Rx hp => hp.2.2.2.elim
          intro rv Xx I34 Rx hp
          obtain ⟨e1, e2, hp⟩ := hp
          rw [e1, e2]
          clear e1 e2
          obtain ⟨r35, e1, h⟩ := h rv I34 hp
          rw [e1]
          clear e1
          change J 69 [jy r35, jy r31] _ (0, 0) _ _ _
          obtain ⟨g36, h⟩ := h
          obtain ⟨g37, h⟩ := h
          refine jy_icmp_lt hS rfl ⟨g36, g37⟩ (fun hq => ?_) (fun hq => ?_)
          · have h := h.1 hq
            refine jy_aload_n hS rfl rfl ?_
            refine jy_iload_n hS rfl rfl ?_
            refine jy_iload hS rfl rfl ?_
            refine jy_iconst hS rfl ?_
            refine jy_ixorX hS rfl rfl ?_
            refine jy_iandX hS rfl rfl ?_
            obtain ⟨g38, h⟩ := h
            obtain ⟨Q39, h⟩ := h
            obtain ⟨g40, h⟩ := h
            refine jy_callV hS rfl rfl rfl (Nat.le_of_ble_eq_true rfl) (Or.inl g38) g40 (by decide) ⟨by decide, by decide⟩ (Nat.le_of_ble_eq_true rfl) ?_ ?_
            rotate_left
            · exact fun Ex Xx Ix Rx hp => hp.2.2.2.elim
            intro rv Xx I41 Rx hp
            obtain ⟨e1, e2, hp⟩ := hp
            rw [e1, e2]
            clear e1 e2
            obtain ⟨r42, e1, h⟩ := h rv I41 hp
            rw [e1]
            clear e1
            change J 85 [jy r42] _ (0, 0) _ _ _
            refine jy_iload_n hS rfl rfl ?_
            obtain ⟨g43, h⟩ := h
            refine jy_icmp_gt hS rfl ⟨g43, r_a1⟩ (fun hq => ?_) (fun hq => ?_)
            · have h := h.1 hq
              refine jy_iload_n hS rfl rfl ?_
              exact jy_join hS h rfl (jy_sub_s (jy_sub_s (jy_sub_s (jy_sub_n (jy_sub_s jy_sub_0)))))
            · have h := h.2 hq
              refine jy_iload hS rfl rfl ?_
              refine jy_goto hS rfl ?_
              exact jy_join hS h rfl (jy_sub_s (jy_sub_s (jy_sub_s (jy_sub_n (jy_sub_s jy_sub_0)))))
          · have h := h.2 hq
            refine jy_goto hS rfl ?_
            exact jy_join hS h rfl (jy_sub_s (jy_sub_s (jy_sub_s (jy_sub_s (jy_sub_s jy_sub_0)))))
  · intro s0 l2 l4 I h
    unfold wz_281_95 at h
    refine jy_istore_n hS rfl (Nat.le_of_ble_eq_true rfl) (L' := [some (.ref a0), some (jy a1), some (jy l2), some (jy s0), some (jy l4)]) rfl ?_
    exact jy_join hS h rfl (jy_sub_s (jy_sub_s (jy_sub_s (jy_sub_s (jy_sub_s jy_sub_0)))))
  · intro l2 l3 l4 I h
    unfold wz_281_96 at h
    refine jy_iinc hS rfl rfl (L' := [some (.ref a0), some (jy a1), some (jy l2), some (jy l3), some (jy (l4 + 1))]) rfl ?_
    refine jy_goto hS rfl ?_
    exact jy_join hS h rfl (jy_sub_s (jy_sub_s (jy_sub_s (jy_sub_s (jy_sub_s jy_sub_0)))))
theorem jt_282 : jx_ml 282 = 3 ∧ jx_rt 282 = some .int ∧ jx_hz 282 = [] ∧ decide ((jx_nm 282).name = "<init>") = false ∧ jx_code 282 = jx_c282 := by decide +kernel
/-- GCModel.lay, from 29 -/
def wz_282_29 (V : jx_V) (X : jx_X) (R : jx_R) (Q : Option Value → jx_I → Prop) (QE : String → jx_I → Prop) (J29 : Nat → Int → jx_I → Prop) (a0 : Nat) (a1 : Int) (a2 : Int) (s0 : Nat) (s1 : Int) (I : jx_I) : Prop :=
  (X.2.1 s0 = some (12, 0)) ∧ (
  ∃ Q14 : Option Value → jx_I → Prop, (
  (jc V 1 202 (0, 0) [.ref s0, jy s1, jy 1, jy 2] X I R Q14 (fun _ _ => False)) ∧ (
  ∀ rv I16, Q14 rv I16 → ∃ r17 : Int, rv = some (jy r17) ∧ (
  (-2147483648 ≤ r17 ∧ r17 < 2147483648) ∧ (
  (r17 = 0 → (
    (X.2.1 a0 = some (12, 0)) ∧ (
    ((I16 a0 38).toInt ≠ 9 → (
      ∃ q20 : Nat, (
      (R a0 31 = some q20) ∧ (
      ∃ n22 : Nat, (
      (X.2.1 q20 = some (104, n22) ∧ n22 < 2147483648) ∧ (
      (0 ≤ (I16 a0 38).toInt ∧ (I16 a0 38).toInt < n22) ∧ (
      ∃ q25 : Nat, (
      (R q20 ((I16 a0 38).toInt).toNat = some q25) ∧ (
      ∃ n27 : Nat, (
      (X.2.1 q25 = some (100, n27) ∧ n27 < 2147483648) ∧ (
      (0 ≤ (0 : Int) ∧ (0 : Int) < n27) ∧ (
      ∀ I30 : jx_I, I30 = jx_u I16 q25 (0 : Int).toNat (Int32.ofInt a1) → (
      (0 ≤ (I30 a0 38).toInt ∧ (I30 a0 38).toInt < n22) ∧ (
      ∃ q32 : Nat, (
      (R q20 ((I30 a0 38).toInt).toNat = some q32) ∧ (
      ∃ n34 : Nat, (
      (X.2.1 q32 = some (100, n34) ∧ n34 < 2147483648) ∧ (
      (0 ≤ (1 : Int) ∧ (1 : Int) < n34) ∧ (
      ∀ I37 : jx_I, I37 = jx_u I30 q32 (1 : Int).toNat (Int32.ofInt a2) → (
      ∀ I38 : jx_I, I38 = jx_u I37 a0 38 (Int32.ofInt ((I37 a0 38).toInt + 1)) → (
      Q (some (jy ((I38 a0 38).toInt))) I38)))))))))))))))))))
    )) ∧ ((I16 a0 38).toInt = 9 → (
      Q (some (jy (-1))) I16
    )))
  )) ∧ (¬ r17 = 0 → (
    Q (some (jy 0)) I16
  )))))))
/-- GCModel.lay -/
def wz_282 (V : jx_V) (X : jx_X) (R : jx_R) (Q : Option Value → jx_I → Prop) (QE : String → jx_I → Prop) (J29 : Nat → Int → jx_I → Prop) (a0 : Nat) (a1 : Int) (a2 : Int) (I : jx_I) : Prop :=
  (X.2.1 a0 = some (12, 0)) ∧ (
  ∀ I2 : jx_I, I2 = jx_u I a0 0 (Int32.ofInt 0) → (
  ∃ Q3 : Option Value → jx_I → Prop, (
  (jc V 2 250 (0, 0) [.ref a0, jy a1] X I2 R Q3 (fun _ _ => False)) ∧ (
  ∀ rv I5, Q3 rv I5 → ∃ r6 : Int, rv = some (jy r6) ∧ (
  (-2147483648 ≤ r6 ∧ r6 < 2147483648) ∧ (
  (r6 = 0 → (
    J29 a0 1 I5
  )) ∧ (¬ r6 = 0 → (
    ∃ Q8 : Option Value → jx_I → Prop, (
    (jc V 1 203 (0, 0) [jy a2, jy 0, jy 99] X I5 R Q8 (fun _ _ => False)) ∧ (
    ∀ rv I10, Q8 rv I10 → ∃ r11 : Int, rv = some (jy r11) ∧ (
    (-2147483648 ≤ r11 ∧ r11 < 2147483648) ∧ (
    (r11 ≠ 0 → (
      J29 a0 0 I10
    )) ∧ (r11 = 0 → (
      J29 a0 1 I10
    ))))))
  ))))))))
set_option maxRecDepth 20000 in
theorem wm_282 {V : jx_V} (hV : V.1.stackTraces = false) {X : jx_X} {R : jx_R} {I : jx_I} {Q : Option Value → jx_I → Prop} {QE : String → jx_I → Prop} {a0 : Nat} {a1 : Int} {a2 : Int} (r_a1 : -2147483648 ≤ a1 ∧ a1 < 2147483648) (r_a2 : -2147483648 ≤ a2 ∧ a2 < 2147483648) 
    (h : ∀ (J29 : Nat → Int → jx_I → Prop), ((∀ (s0 : Nat) (s1 : Int) I, wz_282_29 V X R Q QE J29 a0 a1 a2 s0 s1 I → J29 s0 s1 I)) → wz_282 V X R Q QE J29 a0 a1 a2 I) : jc V 3 282 (0, 0) [.ref a0, jy a1, jy a2] X I R Q QE := by
  refine jy_met hV (by decide) (n := 3) (rt := some .int) (hh := []) (ini := false) (C := jx_c282) (L := [some (.ref a0), some (jy a1), some (jy a2)]) jt_282 (Nat.le_of_ble_eq_true rfl) rfl ?_
  intro J hS
  have h := h (fun s0 s1 I => J 29 [jy s1, .ref s0] [some (.ref a0), some (jy a1), some (jy a2)] (0, 0) X I R) ?_
  · unfold wz_282 at h
    refine jy_aload_n hS rfl rfl ?_
    refine jy_iconst hS rfl ?_
    obtain ⟨g1, h⟩ := h
    refine jy_putI hS rfl (by decide) g1 ?_
    intro I2 e9
    have h := h I2 e9
    clear e9
    refine jy_aload_n hS rfl rfl ?_
    refine jy_aload_n hS rfl rfl ?_
    refine jy_iload_n hS rfl rfl ?_
    obtain ⟨Q3, h⟩ := h
    obtain ⟨g4, h⟩ := h
    refine jy_callV hS rfl rfl rfl (Nat.le_of_ble_eq_true rfl) (Or.inl g1) g4 (by decide) ⟨by decide, by decide⟩ (Nat.le_of_ble_eq_true rfl) ?_ ?_
    rotate_left
    · exact fun Ex Xx Ix Rx hp => hp.2.2.2.elim
    intro rv Xx I5 Rx hp
    obtain ⟨e1, e2, hp⟩ := hp
    rw [e1, e2]
    clear e1 e2
    obtain ⟨r6, e1, h⟩ := h rv I5 hp
    rw [e1]
    clear e1
    change J 11 [jy r6, .ref a0] _ (0, 0) _ _ _
    obtain ⟨g7, h⟩ := h
    refine jy_if_eq hS rfl g7 (fun hq => ?_) (fun hq => ?_)
    · have h := h.1 hq
      refine jy_iconst hS rfl ?_
      refine jy_goto hS rfl ?_
      exact jy_join hS h rfl (jy_sub_s (jy_sub_s (jy_sub_s jy_sub_0)))
    · have h := h.2 hq
      refine jy_iload_n hS rfl rfl ?_
      refine jy_iconst hS rfl ?_
      refine jy_bipush hS rfl (by decide) ?_
      obtain ⟨Q8, h⟩ := h
      obtain ⟨g9, h⟩ := h
      refine jy_callS hS rfl rfl rfl (Nat.le_of_ble_eq_true rfl) g9 (by decide) ⟨by decide, by decide⟩ (Nat.le_of_ble_eq_true rfl) ?_ ?_
      rotate_left
      · exact fun Ex Xx Ix Rx hp => hp.2.2.2.elim
      intro rv Xx I10 Rx hp
      obtain ⟨e1, e2, hp⟩ := hp
      rw [e1, e2]
      clear e1 e2
      obtain ⟨r11, e1, h⟩ := h rv I10 hp
      rw [e1]
      clear e1
      change J 21 [jy r11, .ref a0] _ (0, 0) _ _ _
      obtain ⟨g12, h⟩ := h
      refine jy_if_ne hS rfl g12 (fun hq => ?_) (fun hq => ?_)
      · have h := h.1 hq
        refine jy_iconst hS rfl ?_
        exact jy_join hS h rfl (jy_sub_s (jy_sub_s (jy_sub_s jy_sub_0)))
      · have h := h.2 hq
        refine jy_iconst hS rfl ?_
        refine jy_goto hS rfl ?_
        exact jy_join hS h rfl (jy_sub_s (jy_sub_s (jy_sub_s jy_sub_0)))
  · intro s0 s1 I h
    unfold wz_282_29 at h
    refine jy_iconst hS rfl ?_
    refine jy_iconst hS rfl ?_
    obtain ⟨g13, h⟩ := h
    obtain ⟨Q14, h⟩ := h
    obtain ⟨g15, h⟩ := h
    refine jy_callV hS rfl rfl rfl (Nat.le_of_ble_eq_true rfl) (Or.inl g13) g15 (by decide) ⟨by decide, by decide⟩ (Nat.le_of_ble_eq_true rfl) ?_ ?_
    rotate_left
    · exact fun Ex Xx Ix Rx hp => hp.2.2.2.elim
    intro rv Xx I16 Rx hp
    obtain ⟨e1, e2, hp⟩ := hp
    rw [e1, e2]
    clear e1 e2
    obtain ⟨r17, e1, h⟩ := h rv I16 hp
    rw [e1]
    clear e1
    change J 34 [jy r17] _ (0, 0) _ _ _
    obtain ⟨g18, h⟩ := h
    refine jy_if_eq hS rfl g18 (fun hq => ?_) (fun hq => ?_)
    · have h := h.1 hq
      refine jy_aload_n hS rfl rfl ?_
      obtain ⟨g19, h⟩ := h
      refine jy_getI hS rfl (by decide) g19 ?_
      refine jy_bipush hS rfl (by decide) ?_
      refine jy_icmp_ne hS rfl ⟨(jy_rng _), ⟨by decide, by decide⟩⟩ (fun hq => ?_) (fun hq => ?_)
      · have h := h.1 hq
        refine jy_aload_n hS rfl rfl ?_
        obtain ⟨q20, h⟩ := h
        obtain ⟨g21, h⟩ := h
        refine jy_getR hS rfl (by decide) g19 g21 ?_
        refine jy_aload_n hS rfl rfl ?_
        refine jy_getI hS rfl (by decide) g19 ?_
        obtain ⟨n22, h⟩ := h
        obtain ⟨g23, h⟩ := h
        obtain ⟨g24, h⟩ := h
        obtain ⟨q25, h⟩ := h
        obtain ⟨g26, h⟩ := h
        refine jy_aald hS rfl g23.1 (by decide) (Nat.le_of_lt g23.2) g24 g26 ?_
        refine jy_iconst hS rfl ?_
        refine jy_iload_n hS rfl rfl ?_
        obtain ⟨n27, h⟩ := h
        obtain ⟨g28, h⟩ := h
        obtain ⟨g29, h⟩ := h
        refine jy_iast hS rfl g28.1 (Nat.le_of_lt g28.2) g29 ?_
        intro I30 e9
        have h := h I30 e9
        clear e9
        refine jy_aload_n hS rfl rfl ?_
        refine jy_getR hS rfl (by decide) g19 g21 ?_
        refine jy_aload_n hS rfl rfl ?_
        refine jy_getI hS rfl (by decide) g19 ?_
        obtain ⟨g31, h⟩ := h
        obtain ⟨q32, h⟩ := h
        obtain ⟨g33, h⟩ := h
        refine jy_aald hS rfl g23.1 (by decide) (Nat.le_of_lt g23.2) g31 g33 ?_
        refine jy_iconst hS rfl ?_
        refine jy_iload_n hS rfl rfl ?_
        obtain ⟨n34, h⟩ := h
        obtain ⟨g35, h⟩ := h
        obtain ⟨g36, h⟩ := h
        refine jy_iast hS rfl g35.1 (Nat.le_of_lt g35.2) g36 ?_
        intro I37 e9
        have h := h I37 e9
        clear e9
        refine jy_aload_n hS rfl rfl ?_
        refine jy_dup hS rfl rfl ?_
        refine jy_getI hS rfl (by decide) g19 ?_
        refine jy_iconst hS rfl ?_
        refine jy_iadd hS rfl ?_
        refine jy_putI hS rfl (by decide) g19 ?_
        intro I38 e9
        have h := h I38 e9
        clear e9
        refine jy_aload_n hS rfl rfl ?_
        refine jy_getI hS rfl (by decide) g19 ?_
        exact jy_iret hS rfl rfl ⟨rfl, rfl, h⟩
      · have h := h.2 hq
        refine jy_iconst hS rfl ?_
        exact jy_iret hS rfl rfl ⟨rfl, rfl, h⟩
    · have h := h.2 hq
      refine jy_iconst hS rfl ?_
      exact jy_iret hS rfl rfl ⟨rfl, rfl, h⟩
theorem jt_283 : jx_ml 283 = 2 ∧ jx_rt 283 = some .int ∧ jx_hz 283 = [] ∧ decide ((jx_nm 283).name = "<init>") = false ∧ jx_code 283 = jx_c283 := by decide +kernel
/-- GCModel.clear -/
def wz_283 (V : jx_V) (X : jx_X) (R : jx_R) (Q : Option Value → jx_I → Prop) (QE : String → jx_I → Prop)  (a0 : Nat) (I : jx_I) : Prop :=
  (X.2.1 a0 = some (12, 0)) ∧ (
  ∀ I2 : jx_I, I2 = jx_u I a0 0 (Int32.ofInt 0) → (
  ∀ I3 : jx_I, I3 = jx_u I2 a0 38 (Int32.ofInt 0) → (
  Q (some (jy ((I2 a0 38).toInt))) I3)))
set_option maxRecDepth 20000 in
theorem wm_283 {V : jx_V} (hV : V.1.stackTraces = false) {X : jx_X} {R : jx_R} {I : jx_I} {Q : Option Value → jx_I → Prop} {QE : String → jx_I → Prop} {a0 : Nat}  
    (h : wz_283 V X R Q QE  a0 I) : jc V 1 283 (0, 0) [.ref a0] X I R Q QE := by
  refine jy_met hV (by decide) (n := 2) (rt := some .int) (hh := []) (ini := false) (C := jx_c283) (L := [some (.ref a0), none]) jt_283 (Nat.le_of_ble_eq_true rfl) rfl ?_
  intro J hS
  unfold wz_283 at h
  refine jy_aload_n hS rfl rfl ?_
  refine jy_iconst hS rfl ?_
  obtain ⟨g1, h⟩ := h
  refine jy_putI hS rfl (by decide) g1 ?_
  intro I2 e9
  have h := h I2 e9
  clear e9
  refine jy_aload_n hS rfl rfl ?_
  refine jy_getI hS rfl (by decide) g1 ?_
  refine jy_istore_n hS rfl (Nat.le_of_ble_eq_true rfl) (L' := [some (.ref a0), some (jy ((I2 a0 38).toInt))]) rfl ?_
  refine jy_aload_n hS rfl rfl ?_
  refine jy_iconst hS rfl ?_
  refine jy_putI hS rfl (by decide) g1 ?_
  intro I3 e9
  have h := h I3 e9
  clear e9
  refine jy_iload_n hS rfl rfl ?_
  exact jy_iret hS rfl rfl ⟨rfl, rfl, h⟩
theorem jt_284 : jx_ml 284 = 12 ∧ jx_rt 284 = some .int ∧ jx_hz 284 = [] ∧ decide ((jx_nm 284).name = "<init>") = false ∧ jx_code 284 = jx_c284 := by decide +kernel
/-- GCModel.guessed, from 19 -/
def wz_284_19 (V : jx_V) (X : jx_X) (R : jx_R) (Q : Option Value → jx_I → Prop) (QE : String → jx_I → Prop) (J19 : Int → Int → Int → Int → Int → Int → Int → jx_I → Prop) (J50 : Int → Int → Int → Int → Int → Int → Int → Int → jx_I → Prop) (J72 : Int → Int → Int → Int → Int → Int → Int → jx_I → Prop) (J90 : Int → Int → Int → Int → Int → Int → Int → jx_I → Prop) (J99 : Int → Int → Int → Int → Int → Int → Int → jx_I → Prop) (J115 : Int → Int → Int → Int → Int → Int → Int → jx_I → Prop) (J214 : Nat → Int → Int → Int → Int → Int → Int → Int → Int → Int → jx_I → Prop) (J299 : Nat → Int → Int → Int → Int → Int → Int → Int → Int → Int → jx_I → Prop) (J300 : Int → Int → Int → Int → Int → Int → Int → jx_I → Prop) (a0 : Nat) (a1 : Int) (l2 : Int) (l3 : Int) (l4 : Int) (l5 : Int) (l6 : Int) (l7 : Int) (l8 : Int) (I : jx_I) : Prop :=
  (X.2.1 a0 = some (12, 0)) ∧ (
  ∃ q2 : Nat, (
  (R a0 11 = some q2) ∧ (
  ∃ n4 : Nat, (
  (X.2.1 q2 = some (100, n4) ∧ n4 < 2147483648) ∧ (
  (0 ≤ (1 : Int) ∧ (1 : Int) < n4) ∧ (
  (-2147483648 ≤ l8 ∧ l8 < 2147483648) ∧ (
  ((I q2 (1 : Int).toNat).toInt ≤ l8 → (
    (-2147483648 ≤ l6 ∧ l6 < 2147483648) ∧ (
    (l6 ≠ 0 → (
      J115 l2 l3 l4 l5 l6 l7 0 I
    )) ∧ (l6 = 0 → (
      Q (some (jy 0)) I
    )))
  )) ∧ (¬ (I q2 (1 : Int).toNat).toInt ≤ l8 → (
    ((Int32.ofInt ((Int32.ofInt a1 >>> (Int32.ofInt l8 &&& 31)).toInt) &&& Int32.ofInt 1).toInt ≠ 0 → (
      ∃ q9 : Nat, (
      (R a0 55 = some q9) ∧ (
      ∃ n11 : Nat, (
      (X.2.1 q9 = some (100, n11) ∧ n11 < 2147483648) ∧ (
      (0 ≤ l8 ∧ l8 < n11) ∧ (
      J50 ((I q9 l8.toNat).toInt) l2 l3 l4 l5 l6 l7 l8 I)))))
    )) ∧ ((Int32.ofInt ((Int32.ofInt a1 >>> (Int32.ofInt l8 &&& 31)).toInt) &&& Int32.ofInt 1).toInt = 0 → (
      J50 0 l2 l3 l4 l5 l6 l7 l8 I
    ))
  )))))))))
/-- GCModel.guessed, from 50 -/
def wz_284_50 (V : jx_V) (X : jx_X) (R : jx_R) (Q : Option Value → jx_I → Prop) (QE : String → jx_I → Prop) (J19 : Int → Int → Int → Int → Int → Int → Int → jx_I → Prop) (J50 : Int → Int → Int → Int → Int → Int → Int → Int → jx_I → Prop) (J72 : Int → Int → Int → Int → Int → Int → Int → jx_I → Prop) (J90 : Int → Int → Int → Int → Int → Int → Int → jx_I → Prop) (J99 : Int → Int → Int → Int → Int → Int → Int → jx_I → Prop) (J115 : Int → Int → Int → Int → Int → Int → Int → jx_I → Prop) (J214 : Nat → Int → Int → Int → Int → Int → Int → Int → Int → Int → jx_I → Prop) (J299 : Nat → Int → Int → Int → Int → Int → Int → Int → Int → Int → jx_I → Prop) (J300 : Int → Int → Int → Int → Int → Int → Int → jx_I → Prop) (a0 : Nat) (a1 : Int) (s0 : Int) (l2 : Int) (l3 : Int) (l4 : Int) (l5 : Int) (l6 : Int) (l7 : Int) (l8 : Int) (I : jx_I) : Prop :=
  (-2147483648 ≤ s0 ∧ s0 < 2147483648) ∧ (
  (s0 ≠ 0 → (
    (-2147483648 ≤ l2 ∧ l2 < 2147483648) ∧ (
    (s0 ≤ l2 → (
      J72 l2 l3 l4 l6 l7 l8 s0 I
    )) ∧ (¬ s0 ≤ l2 → (
      J72 s0 l3 l4 l6 l7 l8 s0 I
    )))
  )) ∧ (s0 = 0 → (
    J99 l2 l3 l4 l5 l6 l7 l8 I
  )))
/-- GCModel.guessed, from 72 -/
def wz_284_72 (V : jx_V) (X : jx_X) (R : jx_R) (Q : Option Value → jx_I → Prop) (QE : String → jx_I → Prop) (J19 : Int → Int → Int → Int → Int → Int → Int → jx_I → Prop) (J50 : Int → Int → Int → Int → Int → Int → Int → Int → jx_I → Prop) (J72 : Int → Int → Int → Int → Int → Int → Int → jx_I → Prop) (J90 : Int → Int → Int → Int → Int → Int → Int → jx_I → Prop) (J99 : Int → Int → Int → Int → Int → Int → Int → jx_I → Prop) (J115 : Int → Int → Int → Int → Int → Int → Int → jx_I → Prop) (J214 : Nat → Int → Int → Int → Int → Int → Int → Int → Int → Int → jx_I → Prop) (J299 : Nat → Int → Int → Int → Int → Int → Int → Int → Int → Int → jx_I → Prop) (J300 : Int → Int → Int → Int → Int → Int → Int → jx_I → Prop) (a0 : Nat) (a1 : Int) (s0 : Int) (l3 : Int) (l4 : Int) (l6 : Int) (l7 : Int) (l8 : Int) (l9 : Int) (I : jx_I) : Prop :=
  (-2147483648 ≤ l6 ∧ l6 < 2147483648) ∧ (
  (l6 ≠ 0 → (
    J90 l4 s0 (l3 + l9) l6 l7 l8 l9 I
  )) ∧ (l6 = 0 → (
    J90 l9 s0 (l3 + l9) l6 l7 l8 l9 I
  )))
/-- GCModel.guessed, from 90 -/
def wz_284_90 (V : jx_V) (X : jx_X) (R : jx_R) (Q : Option Value → jx_I → Prop) (QE : String → jx_I → Prop) (J19 : Int → Int → Int → Int → Int → Int → Int → jx_I → Prop) (J50 : Int → Int → Int → Int → Int → Int → Int → Int → jx_I → Prop) (J72 : Int → Int → Int → Int → Int → Int → Int → jx_I → Prop) (J90 : Int → Int → Int → Int → Int → Int → Int → jx_I → Prop) (J99 : Int → Int → Int → Int → Int → Int → Int → jx_I → Prop) (J115 : Int → Int → Int → Int → Int → Int → Int → jx_I → Prop) (J214 : Nat → Int → Int → Int → Int → Int → Int → Int → Int → Int → jx_I → Prop) (J299 : Nat → Int → Int → Int → Int → Int → Int → Int → Int → Int → jx_I → Prop) (J300 : Int → Int → Int → Int → Int → Int → Int → jx_I → Prop) (a0 : Nat) (a1 : Int) (s0 : Int) (l2 : Int) (l3 : Int) (l6 : Int) (l7 : Int) (l8 : Int) (l9 : Int) (I : jx_I) : Prop :=
  J99 l2 l3 s0 l9 (l6 + 1) l7 l8 I
/-- GCModel.guessed, from 99 -/
def wz_284_99 (V : jx_V) (X : jx_X) (R : jx_R) (Q : Option Value → jx_I → Prop) (QE : String → jx_I → Prop) (J19 : Int → Int → Int → Int → Int → Int → Int → jx_I → Prop) (J50 : Int → Int → Int → Int → Int → Int → Int → Int → jx_I → Prop) (J72 : Int → Int → Int → Int → Int → Int → Int → jx_I → Prop) (J90 : Int → Int → Int → Int → Int → Int → Int → jx_I → Prop) (J99 : Int → Int → Int → Int → Int → Int → Int → jx_I → Prop) (J115 : Int → Int → Int → Int → Int → Int → Int → jx_I → Prop) (J214 : Nat → Int → Int → Int → Int → Int → Int → Int → Int → Int → jx_I → Prop) (J299 : Nat → Int → Int → Int → Int → Int → Int → Int → Int → Int → jx_I → Prop) (J300 : Int → Int → Int → Int → Int → Int → Int → jx_I → Prop) (a0 : Nat) (a1 : Int) (l2 : Int) (l3 : Int) (l4 : Int) (l5 : Int) (l6 : Int) (l7 : Int) (l8 : Int) (I : jx_I) : Prop :=
  J19 l2 l3 l4 l5 l6 l7 (l8 + 1) I
/-- GCModel.guessed, from 115 -/
def wz_284_115 (V : jx_V) (X : jx_X) (R : jx_R) (Q : Option Value → jx_I → Prop) (QE : String → jx_I → Prop) (J19 : Int → Int → Int → Int → Int → Int → Int → jx_I → Prop) (J50 : Int → Int → Int → Int → Int → Int → Int → Int → jx_I → Prop) (J72 : Int → Int → Int → Int → Int → Int → Int → jx_I → Prop) (J90 : Int → Int → Int → Int → Int → Int → Int → jx_I → Prop) (J99 : Int → Int → Int → Int → Int → Int → Int → jx_I → Prop) (J115 : Int → Int → Int → Int → Int → Int → Int → jx_I → Prop) (J214 : Nat → Int → Int → Int → Int → Int → Int → Int → Int → Int → jx_I → Prop) (J299 : Nat → Int → Int → Int → Int → Int → Int → Int → Int → Int → jx_I → Prop) (J300 : Int → Int → Int → Int → Int → Int → Int → jx_I → Prop) (a0 : Nat) (a1 : Int) (l2 : Int) (l3 : Int) (l4 : Int) (l5 : Int) (l6 : Int) (l7 : Int) (l8 : Int) (I : jx_I) : Prop :=
  (X.2.1 a0 = some (12, 0)) ∧ (
  (-2147483648 ≤ l8 ∧ l8 < 2147483648) ∧ (
  ((I a0 23).toInt ≤ l8 → (
    ∃ q19 : Nat, (
    (R a0 28 = some q19) ∧ (
    ∃ n21 : Nat, (
    (X.2.1 q19 = some (100, n21) ∧ n21 < 2147483648) ∧ (
    (0 ≤ (0 : Int) ∧ (0 : Int) < n21) ∧ (
    (0 ≤ (I q19 (0 : Int).toNat).toInt → (
      (0 ≤ (0 : Int) ∧ (0 : Int) < n21) ∧ (
      ∃ Q25 : Option Value → jx_I → Prop, (
      (jc V 1 204 (0, 0) [jy ((I q19 (0 : Int).toNat).toInt), jy 99] X I R Q25 (fun _ _ => False)) ∧ (
      ∀ rv I27, Q25 rv I27 → ∃ r28 : Int, rv = some (jy r28) ∧ (
      Q (some (jy r28)) I27))))
    )) ∧ (¬ 0 ≤ (I q19 (0 : Int).toNat).toInt → (
      Q (some (jy 0)) I
    )))))))
  )) ∧ (¬ (I a0 23).toInt ≤ l8 → (
    ∃ q29 : Nat, (
    (R a0 26 = some q29) ∧ (
    ∃ n31 : Nat, (
    (X.2.1 q29 = some (104, n31) ∧ n31 < 2147483648) ∧ (
    (0 ≤ l8 ∧ l8 < n31) ∧ (
    ∃ q34 : Nat, (
    (R q29 l8.toNat = some q34) ∧ (
    ∃ n36 : Nat, (
    (X.2.1 q34 = some (100, n36) ∧ n36 < 2147483648) ∧ (
    (0 ≤ (1 : Int) ∧ (1 : Int) < n36) ∧ (
    (0 ≤ l8 ∧ l8 < n31) ∧ (
    ∃ q40 : Nat, (
    (R q29 l8.toNat = some q40) ∧ (
    ∃ n42 : Nat, (
    (X.2.1 q40 = some (100, n42) ∧ n42 < 2147483648) ∧ (
    (0 ≤ (0 : Int) ∧ (0 : Int) < n42) ∧ (
    (2 ≤ (I q40 (0 : Int).toNat).toInt → (
      ∃ q45 : Nat, (
      (R a0 28 = some q45) ∧ (
      ∃ n47 : Nat, (
      (X.2.1 q45 = some (100, n47) ∧ n47 < 2147483648) ∧ (
      (0 ≤ ((l7 + (-1)) - 1) ∧ ((l7 + (-1)) - 1) < n47) ∧ (
      (0 ≤ (l7 + (-1)) ∧ (l7 + (-1)) < n47) ∧ (
      (0 ≤ l8 ∧ l8 < n31) ∧ (
      ∃ q52 : Nat, (
      (R q29 l8.toNat = some q52) ∧ (
      ∃ n54 : Nat, (
      (X.2.1 q52 = some (100, n54) ∧ n54 < 2147483648) ∧ (
      (0 ≤ (0 : Int) ∧ (0 : Int) < n54) ∧ (
      ((I q52 (0 : Int).toNat).toInt ≠ 2 → (
        (0 ≤ l8 ∧ l8 < n31) ∧ (
        ∃ q58 : Nat, (
        (R q29 l8.toNat = some q58) ∧ (
        ∃ n60 : Nat, (
        (X.2.1 q58 = some (100, n60) ∧ n60 < 2147483648) ∧ (
        (0 ≤ (0 : Int) ∧ (0 : Int) < n60) ∧ (
        ((I q58 (0 : Int).toNat).toInt ≠ 3 → (
          J299 q45 ((l7 + (-1)) - 1) ((I q45 ((l7 + (-1)) - 1).toNat).toInt * (I q45 (l7 + (-1)).toNat).toInt) l2 l3 l4 l5 l6 (l7 + (-1)) l8 I
        )) ∧ ((I q58 (0 : Int).toNat).toInt = 3 → (
          J299 q45 ((l7 + (-1)) - 1) ((I q45 ((l7 + (-1)) - 1).toNat).toInt - (I q45 (l7 + (-1)).toNat).toInt) l2 l3 l4 l5 l6 (l7 + (-1)) l8 I
        ))))))))
      )) ∧ ((I q52 (0 : Int).toNat).toInt = 2 → (
        J299 q45 ((l7 + (-1)) - 1) ((I q45 ((l7 + (-1)) - 1).toNat).toInt + (I q45 (l7 + (-1)).toNat).toInt) l2 l3 l4 l5 l6 (l7 + (-1)) l8 I
      ))))))))))))))
    )) ∧ (¬ 2 ≤ (I q40 (0 : Int).toNat).toInt → (
      ∃ q63 : Nat, (
      (R a0 28 = some q63) ∧ (
      (0 ≤ l8 ∧ l8 < n31) ∧ (
      ∃ q66 : Nat, (
      (R q29 l8.toNat = some q66) ∧ (
      ∃ n68 : Nat, (
      (X.2.1 q66 = some (100, n68) ∧ n68 < 2147483648) ∧ (
      (0 ≤ (0 : Int) ∧ (0 : Int) < n68) ∧ (
      ((I q66 (0 : Int).toNat).toInt ≠ 0 → (
        ((I q34 (1 : Int).toNat).toInt ≠ 0 → (
          ((I q34 (1 : Int).toNat).toInt ≠ 1 → (
            ((I q34 (1 : Int).toNat).toInt ≠ 2 → (
              ((I q34 (1 : Int).toNat).toInt ≠ 3 → (
                J214 q63 l7 l6 l2 l3 l4 l5 l6 l7 l8 I
              )) ∧ ((I q34 (1 : Int).toNat).toInt = 3 → (
                J214 q63 l7 l5 l2 l3 l4 l5 l6 l7 l8 I
              ))
            )) ∧ ((I q34 (1 : Int).toNat).toInt = 2 → (
              J214 q63 l7 l4 l2 l3 l4 l5 l6 l7 l8 I
            ))
          )) ∧ ((I q34 (1 : Int).toNat).toInt = 1 → (
            J214 q63 l7 l3 l2 l3 l4 l5 l6 l7 l8 I
          ))
        )) ∧ ((I q34 (1 : Int).toNat).toInt = 0 → (
          J214 q63 l7 l2 l2 l3 l4 l5 l6 l7 l8 I
        ))
      )) ∧ ((I q66 (0 : Int).toNat).toInt = 0 → (
        J214 q63 l7 ((I q34 (1 : Int).toNat).toInt) l2 l3 l4 l5 l6 l7 l8 I
      ))))))))))
    ))))))))))))))))))
  ))))
/-- GCModel.guessed, from 214 -/
def wz_284_214 (V : jx_V) (X : jx_X) (R : jx_R) (Q : Option Value → jx_I → Prop) (QE : String → jx_I → Prop) (J19 : Int → Int → Int → Int → Int → Int → Int → jx_I → Prop) (J50 : Int → Int → Int → Int → Int → Int → Int → Int → jx_I → Prop) (J72 : Int → Int → Int → Int → Int → Int → Int → jx_I → Prop) (J90 : Int → Int → Int → Int → Int → Int → Int → jx_I → Prop) (J99 : Int → Int → Int → Int → Int → Int → Int → jx_I → Prop) (J115 : Int → Int → Int → Int → Int → Int → Int → jx_I → Prop) (J214 : Nat → Int → Int → Int → Int → Int → Int → Int → Int → Int → jx_I → Prop) (J299 : Nat → Int → Int → Int → Int → Int → Int → Int → Int → Int → jx_I → Prop) (J300 : Int → Int → Int → Int → Int → Int → Int → jx_I → Prop) (a0 : Nat) (a1 : Int) (s0 : Nat) (s1 : Int) (s2 : Int) (l2 : Int) (l3 : Int) (l4 : Int) (l5 : Int) (l6 : Int) (l7 : Int) (l8 : Int) (I : jx_I) : Prop :=
  ∃ n71 : Nat, (
  (X.2.1 s0 = some (100, n71) ∧ n71 < 2147483648) ∧ (
  (0 ≤ s1 ∧ s1 < n71) ∧ (
  ∀ I74 : jx_I, I74 = jx_u I s0 s1.toNat (Int32.ofInt s2) → (
  J300 l2 l3 l4 l5 l6 (l7 + 1) l8 I74))))
/-- GCModel.guessed, from 299 -/
def wz_284_299 (V : jx_V) (X : jx_X) (R : jx_R) (Q : Option Value → jx_I → Prop) (QE : String → jx_I → Prop) (J19 : Int → Int → Int → Int → Int → Int → Int → jx_I → Prop) (J50 : Int → Int → Int → Int → Int → Int → Int → Int → jx_I → Prop) (J72 : Int → Int → Int → Int → Int → Int → Int → jx_I → Prop) (J90 : Int → Int → Int → Int → Int → Int → Int → jx_I → Prop) (J99 : Int → Int → Int → Int → Int → Int → Int → jx_I → Prop) (J115 : Int → Int → Int → Int → Int → Int → Int → jx_I → Prop) (J214 : Nat → Int → Int → Int → Int → Int → Int → Int → Int → Int → jx_I → Prop) (J299 : Nat → Int → Int → Int → Int → Int → Int → Int → Int → Int → jx_I → Prop) (J300 : Int → Int → Int → Int → Int → Int → Int → jx_I → Prop) (a0 : Nat) (a1 : Int) (s0 : Nat) (s1 : Int) (s2 : Int) (l2 : Int) (l3 : Int) (l4 : Int) (l5 : Int) (l6 : Int) (l7 : Int) (l8 : Int) (I : jx_I) : Prop :=
  ∃ n75 : Nat, (
  (X.2.1 s0 = some (100, n75) ∧ n75 < 2147483648) ∧ (
  (0 ≤ s1 ∧ s1 < n75) ∧ (
  ∀ I78 : jx_I, I78 = jx_u I s0 s1.toNat (Int32.ofInt s2) → (
  J300 l2 l3 l4 l5 l6 l7 l8 I78))))
/-- GCModel.guessed, from 300 -/
def wz_284_300 (V : jx_V) (X : jx_X) (R : jx_R) (Q : Option Value → jx_I → Prop) (QE : String → jx_I → Prop) (J19 : Int → Int → Int → Int → Int → Int → Int → jx_I → Prop) (J50 : Int → Int → Int → Int → Int → Int → Int → Int → jx_I → Prop) (J72 : Int → Int → Int → Int → Int → Int → Int → jx_I → Prop) (J90 : Int → Int → Int → Int → Int → Int → Int → jx_I → Prop) (J99 : Int → Int → Int → Int → Int → Int → Int → jx_I → Prop) (J115 : Int → Int → Int → Int → Int → Int → Int → jx_I → Prop) (J214 : Nat → Int → Int → Int → Int → Int → Int → Int → Int → Int → jx_I → Prop) (J299 : Nat → Int → Int → Int → Int → Int → Int → Int → Int → Int → jx_I → Prop) (J300 : Int → Int → Int → Int → Int → Int → Int → jx_I → Prop) (a0 : Nat) (a1 : Int) (l2 : Int) (l3 : Int) (l4 : Int) (l5 : Int) (l6 : Int) (l7 : Int) (l8 : Int) (I : jx_I) : Prop :=
  J115 l2 l3 l4 l5 l6 l7 (l8 + 1) I
/-- GCModel.guessed -/
def wz_284 (V : jx_V) (X : jx_X) (R : jx_R) (Q : Option Value → jx_I → Prop) (QE : String → jx_I → Prop) (J19 : Int → Int → Int → Int → Int → Int → Int → jx_I → Prop) (J50 : Int → Int → Int → Int → Int → Int → Int → Int → jx_I → Prop) (J72 : Int → Int → Int → Int → Int → Int → Int → jx_I → Prop) (J90 : Int → Int → Int → Int → Int → Int → Int → jx_I → Prop) (J99 : Int → Int → Int → Int → Int → Int → Int → jx_I → Prop) (J115 : Int → Int → Int → Int → Int → Int → Int → jx_I → Prop) (J214 : Nat → Int → Int → Int → Int → Int → Int → Int → Int → Int → jx_I → Prop) (J299 : Nat → Int → Int → Int → Int → Int → Int → Int → Int → Int → jx_I → Prop) (J300 : Int → Int → Int → Int → Int → Int → Int → jx_I → Prop) (a0 : Nat) (a1 : Int) (I : jx_I) : Prop :=
  J19 0 0 0 0 0 0 0 I
set_option maxRecDepth 20000 in
theorem wm_284 {V : jx_V} (hV : V.1.stackTraces = false) {X : jx_X} {R : jx_R} {I : jx_I} {Q : Option Value → jx_I → Prop} {QE : String → jx_I → Prop} {a0 : Nat} {a1 : Int} (r_a1 : -2147483648 ≤ a1 ∧ a1 < 2147483648) 
    (h : ∀ (J19 : Int → Int → Int → Int → Int → Int → Int → jx_I → Prop) (J50 : Int → Int → Int → Int → Int → Int → Int → Int → jx_I → Prop) (J72 : Int → Int → Int → Int → Int → Int → Int → jx_I → Prop) (J90 : Int → Int → Int → Int → Int → Int → Int → jx_I → Prop) (J99 : Int → Int → Int → Int → Int → Int → Int → jx_I → Prop) (J115 : Int → Int → Int → Int → Int → Int → Int → jx_I → Prop) (J214 : Nat → Int → Int → Int → Int → Int → Int → Int → Int → Int → jx_I → Prop) (J299 : Nat → Int → Int → Int → Int → Int → Int → Int → Int → Int → jx_I → Prop) (J300 : Int → Int → Int → Int → Int → Int → Int → jx_I → Prop), ((∀ (l2 : Int) (l3 : Int) (l4 : Int) (l5 : Int) (l6 : Int) (l7 : Int) (l8 : Int) I, wz_284_19 V X R Q QE J19 J50 J72 J90 J99 J115 J214 J299 J300 a0 a1 l2 l3 l4 l5 l6 l7 l8 I → J19 l2 l3 l4 l5 l6 l7 l8 I) ∧ (∀ (s0 : Int) (l2 : Int) (l3 : Int) (l4 : Int) (l5 : Int) (l6 : Int) (l7 : Int) (l8 : Int) I, wz_284_50 V X R Q QE J19 J50 J72 J90 J99 J115 J214 J299 J300 a0 a1 s0 l2 l3 l4 l5 l6 l7 l8 I → J50 s0 l2 l3 l4 l5 l6 l7 l8 I) ∧ (∀ (s0 : Int) (l3 : Int) (l4 : Int) (l6 : Int) (l7 : Int) (l8 : Int) (l9 : Int) I, wz_284_72 V X R Q QE J19 J50 J72 J90 J99 J115 J214 J299 J300 a0 a1 s0 l3 l4 l6 l7 l8 l9 I → J72 s0 l3 l4 l6 l7 l8 l9 I) ∧ (∀ (s0 : Int) (l2 : Int) (l3 : Int) (l6 : Int) (l7 : Int) (l8 : Int) (l9 : Int) I, wz_284_90 V X R Q QE J19 J50 J72 J90 J99 J115 J214 J299 J300 a0 a1 s0 l2 l3 l6 l7 l8 l9 I → J90 s0 l2 l3 l6 l7 l8 l9 I) ∧ (∀ (l2 : Int) (l3 : Int) (l4 : Int) (l5 : Int) (l6 : Int) (l7 : Int) (l8 : Int) I, wz_284_99 V X R Q QE J19 J50 J72 J90 J99 J115 J214 J299 J300 a0 a1 l2 l3 l4 l5 l6 l7 l8 I → J99 l2 l3 l4 l5 l6 l7 l8 I) ∧ (∀ (l2 : Int) (l3 : Int) (l4 : Int) (l5 : Int) (l6 : Int) (l7 : Int) (l8 : Int) I, wz_284_115 V X R Q QE J19 J50 J72 J90 J99 J115 J214 J299 J300 a0 a1 l2 l3 l4 l5 l6 l7 l8 I → J115 l2 l3 l4 l5 l6 l7 l8 I) ∧ (∀ (s0 : Nat) (s1 : Int) (s2 : Int) (l2 : Int) (l3 : Int) (l4 : Int) (l5 : Int) (l6 : Int) (l7 : Int) (l8 : Int) I, wz_284_214 V X R Q QE J19 J50 J72 J90 J99 J115 J214 J299 J300 a0 a1 s0 s1 s2 l2 l3 l4 l5 l6 l7 l8 I → J214 s0 s1 s2 l2 l3 l4 l5 l6 l7 l8 I) ∧ (∀ (s0 : Nat) (s1 : Int) (s2 : Int) (l2 : Int) (l3 : Int) (l4 : Int) (l5 : Int) (l6 : Int) (l7 : Int) (l8 : Int) I, wz_284_299 V X R Q QE J19 J50 J72 J90 J99 J115 J214 J299 J300 a0 a1 s0 s1 s2 l2 l3 l4 l5 l6 l7 l8 I → J299 s0 s1 s2 l2 l3 l4 l5 l6 l7 l8 I) ∧ (∀ (l2 : Int) (l3 : Int) (l4 : Int) (l5 : Int) (l6 : Int) (l7 : Int) (l8 : Int) I, wz_284_300 V X R Q QE J19 J50 J72 J90 J99 J115 J214 J299 J300 a0 a1 l2 l3 l4 l5 l6 l7 l8 I → J300 l2 l3 l4 l5 l6 l7 l8 I)) → wz_284 V X R Q QE J19 J50 J72 J90 J99 J115 J214 J299 J300 a0 a1 I) : jc V 2 284 (0, 0) [.ref a0, jy a1] X I R Q QE := by
  refine jy_met hV (by decide) (n := 12) (rt := some .int) (hh := []) (ini := false) (C := jx_c284) (L := [some (.ref a0), some (jy a1), none, none, none, none, none, none, none, none, none, none]) jt_284 (Nat.le_of_ble_eq_true rfl) rfl ?_
  intro J hS
  have h := h (fun l2 l3 l4 l5 l6 l7 l8 I => J 19 [] [some (.ref a0), some (jy a1), some (jy l2), some (jy l3), some (jy l4), some (jy l5), some (jy l6), some (jy l7), some (jy l8), none, none, none] (0, 0) X I R) (fun s0 l2 l3 l4 l5 l6 l7 l8 I => J 50 [jy s0] [some (.ref a0), some (jy a1), some (jy l2), some (jy l3), some (jy l4), some (jy l5), some (jy l6), some (jy l7), some (jy l8), none, none, none] (0, 0) X I R) (fun s0 l3 l4 l6 l7 l8 l9 I => J 72 [jy s0] [some (.ref a0), some (jy a1), none, some (jy l3), some (jy l4), none, some (jy l6), some (jy l7), some (jy l8), some (jy l9), none, none] (0, 0) X I R) (fun s0 l2 l3 l6 l7 l8 l9 I => J 90 [jy s0] [some (.ref a0), some (jy a1), some (jy l2), some (jy l3), none, none, some (jy l6), some (jy l7), some (jy l8), some (jy l9), none, none] (0, 0) X I R) (fun l2 l3 l4 l5 l6 l7 l8 I => J 99 [] [some (.ref a0), some (jy a1), some (jy l2), some (jy l3), some (jy l4), some (jy l5), some (jy l6), some (jy l7), some (jy l8), none, none, none] (0, 0) X I R) (fun l2 l3 l4 l5 l6 l7 l8 I => J 115 [] [some (.ref a0), none, some (jy l2), some (jy l3), some (jy l4), some (jy l5), some (jy l6), some (jy l7), some (jy l8), none, none, none] (0, 0) X I R) (fun s0 s1 s2 l2 l3 l4 l5 l6 l7 l8 I => J 214 [jy s2, jy s1, .ref s0] [some (.ref a0), none, some (jy l2), some (jy l3), some (jy l4), some (jy l5), some (jy l6), some (jy l7), some (jy l8), none, none, none] (0, 0) X I R) (fun s0 s1 s2 l2 l3 l4 l5 l6 l7 l8 I => J 299 [jy s2, jy s1, .ref s0] [some (.ref a0), none, some (jy l2), some (jy l3), some (jy l4), some (jy l5), some (jy l6), some (jy l7), some (jy l8), none, none, none] (0, 0) X I R) (fun l2 l3 l4 l5 l6 l7 l8 I => J 300 [] [some (.ref a0), none, some (jy l2), some (jy l3), some (jy l4), some (jy l5), some (jy l6), some (jy l7), some (jy l8), none, none, none] (0, 0) X I R) ?_
  · unfold wz_284 at h
    refine jy_iconst hS rfl ?_
    refine jy_istore_n hS rfl (Nat.le_of_ble_eq_true rfl) (L' := [some (.ref a0), some (jy a1), some (jy 0), none, none, none, none, none, none, none, none, none]) rfl ?_
    refine jy_iconst hS rfl ?_
    refine jy_istore_n hS rfl (Nat.le_of_ble_eq_true rfl) (L' := [some (.ref a0), some (jy a1), some (jy 0), some (jy 0), none, none, none, none, none, none, none, none]) rfl ?_
    refine jy_iconst hS rfl ?_
    refine jy_istore hS rfl (Nat.le_of_ble_eq_true rfl) (L' := [some (.ref a0), some (jy a1), some (jy 0), some (jy 0), some (jy 0), none, none, none, none, none, none, none]) rfl ?_
    refine jy_iconst hS rfl ?_
    refine jy_istore hS rfl (Nat.le_of_ble_eq_true rfl) (L' := [some (.ref a0), some (jy a1), some (jy 0), some (jy 0), some (jy 0), some (jy 0), none, none, none, none, none, none]) rfl ?_
    refine jy_iconst hS rfl ?_
    refine jy_istore hS rfl (Nat.le_of_ble_eq_true rfl) (L' := [some (.ref a0), some (jy a1), some (jy 0), some (jy 0), some (jy 0), some (jy 0), some (jy 0), none, none, none, none, none]) rfl ?_
    refine jy_iconst hS rfl ?_
    refine jy_istore hS rfl (Nat.le_of_ble_eq_true rfl) (L' := [some (.ref a0), some (jy a1), some (jy 0), some (jy 0), some (jy 0), some (jy 0), some (jy 0), some (jy 0), none, none, none, none]) rfl ?_
    refine jy_iconst hS rfl ?_
    refine jy_istore hS rfl (Nat.le_of_ble_eq_true rfl) (L' := [some (.ref a0), some (jy a1), some (jy 0), some (jy 0), some (jy 0), some (jy 0), some (jy 0), some (jy 0), some (jy 0), none, none, none]) rfl ?_
    exact jy_join hS h rfl (jy_sub_s (jy_sub_s (jy_sub_s (jy_sub_s (jy_sub_s (jy_sub_s (jy_sub_s (jy_sub_s (jy_sub_s (jy_sub_n (jy_sub_n (jy_sub_n jy_sub_0))))))))))))
  refine ⟨?_, ?_, ?_, ?_, ?_, ?_, ?_, ?_, ?_⟩
  · intro l2 l3 l4 l5 l6 l7 l8 I h
    unfold wz_284_19 at h
    refine jy_iload hS rfl rfl ?_
    refine jy_aload_n hS rfl rfl ?_
    obtain ⟨g1, h⟩ := h
    obtain ⟨q2, h⟩ := h
    obtain ⟨g3, h⟩ := h
    refine jy_getR hS rfl (by decide) g1 g3 ?_
    refine jy_iconst hS rfl ?_
    obtain ⟨n4, h⟩ := h
    obtain ⟨g5, h⟩ := h
    obtain ⟨g6, h⟩ := h
    refine jy_iald hS rfl g5.1 (Nat.le_of_lt g5.2) g6 ?_
    obtain ⟨g7, h⟩ := h
    refine jy_icmp_ge hS rfl ⟨g7, (jy_rng _)⟩ (fun hq => ?_) (fun hq => ?_)
    · have h := h.1 hq
      refine jy_iload hS rfl rfl ?_
      obtain ⟨g8, h⟩ := h
      refine jy_if_ne hS rfl g8 (fun hq => ?_) (fun hq => ?_)
      · have h := h.1 hq
        refine jy_iconst hS rfl ?_
        refine jy_istore hS rfl (Nat.le_of_ble_eq_true rfl) (L' := [some (.ref a0), some (jy a1), some (jy l2), some (jy l3), some (jy l4), some (jy l5), some (jy l6), some (jy l7), some (jy 0), none, none, none]) rfl ?_
        exact jy_join hS h rfl (jy_sub_s (jy_sub_n (jy_sub_s (jy_sub_s (jy_sub_s (jy_sub_s (jy_sub_s (jy_sub_s (jy_sub_s (jy_sub_n (jy_sub_n (jy_sub_n jy_sub_0))))))))))))
      · have h := h.2 hq
        refine jy_iconst hS rfl ?_
        exact jy_iret hS rfl rfl ⟨rfl, rfl, h⟩
    · have h := h.2 hq
      refine jy_iload_n hS rfl rfl ?_
      refine jy_iload hS rfl rfl ?_
      refine jy_ishrX hS rfl rfl ?_
      refine jy_iconst hS rfl ?_
      refine jy_iandX hS rfl rfl ?_
      refine jy_if_ne hS rfl (jy_rng _) (fun hq => ?_) (fun hq => ?_)
      · have h := h.1 hq
        refine jy_aload_n hS rfl rfl ?_
        obtain ⟨q9, h⟩ := h
        obtain ⟨g10, h⟩ := h
        refine jy_getR hS rfl (by decide) g1 g10 ?_
        refine jy_iload hS rfl rfl ?_
        obtain ⟨n11, h⟩ := h
        obtain ⟨g12, h⟩ := h
        obtain ⟨g13, h⟩ := h
        refine jy_iald hS rfl g12.1 (Nat.le_of_lt g12.2) g13 ?_
        exact jy_join hS h rfl (jy_sub_s (jy_sub_s (jy_sub_s (jy_sub_s (jy_sub_s (jy_sub_s (jy_sub_s (jy_sub_s (jy_sub_s (jy_sub_n (jy_sub_n (jy_sub_n jy_sub_0))))))))))))
      · have h := h.2 hq
        refine jy_iconst hS rfl ?_
        refine jy_goto hS rfl ?_
        exact jy_join hS h rfl (jy_sub_s (jy_sub_s (jy_sub_s (jy_sub_s (jy_sub_s (jy_sub_s (jy_sub_s (jy_sub_s (jy_sub_s (jy_sub_n (jy_sub_n (jy_sub_n jy_sub_0))))))))))))
  · intro s0 l2 l3 l4 l5 l6 l7 l8 I h
    unfold wz_284_50 at h
    refine jy_istore hS rfl (Nat.le_of_ble_eq_true rfl) (L' := [some (.ref a0), some (jy a1), some (jy l2), some (jy l3), some (jy l4), some (jy l5), some (jy l6), some (jy l7), some (jy l8), some (jy s0), none, none]) rfl ?_
    refine jy_iload hS rfl rfl ?_
    obtain ⟨g14, h⟩ := h
    refine jy_if_ne hS rfl g14 (fun hq => ?_) (fun hq => ?_)
    · have h := h.1 hq
      refine jy_iload hS rfl rfl ?_
      refine jy_iload_n hS rfl rfl ?_
      obtain ⟨g15, h⟩ := h
      refine jy_icmp_le hS rfl ⟨g14, g15⟩ (fun hq => ?_) (fun hq => ?_)
      · have h := h.1 hq
        refine jy_iload_n hS rfl rfl ?_
        exact jy_join hS h rfl (jy_sub_s (jy_sub_s (jy_sub_n (jy_sub_s (jy_sub_s (jy_sub_n (jy_sub_s (jy_sub_s (jy_sub_s (jy_sub_s (jy_sub_n (jy_sub_n jy_sub_0))))))))))))
      · have h := h.2 hq
        refine jy_iload hS rfl rfl ?_
        refine jy_goto hS rfl ?_
        exact jy_join hS h rfl (jy_sub_s (jy_sub_s (jy_sub_n (jy_sub_s (jy_sub_s (jy_sub_n (jy_sub_s (jy_sub_s (jy_sub_s (jy_sub_s (jy_sub_n (jy_sub_n jy_sub_0))))))))))))
    · have h := h.2 hq
      refine jy_goto hS rfl ?_
      exact jy_join hS h rfl (jy_sub_s (jy_sub_s (jy_sub_s (jy_sub_s (jy_sub_s (jy_sub_s (jy_sub_s (jy_sub_s (jy_sub_s (jy_sub_n (jy_sub_n (jy_sub_n jy_sub_0))))))))))))
  · intro s0 l3 l4 l6 l7 l8 l9 I h
    unfold wz_284_72 at h
    refine jy_istore_n hS rfl (Nat.le_of_ble_eq_true rfl) (L' := [some (.ref a0), some (jy a1), some (jy s0), some (jy l3), some (jy l4), none, some (jy l6), some (jy l7), some (jy l8), some (jy l9), none, none]) rfl ?_
    refine jy_iload_n hS rfl rfl ?_
    refine jy_iload hS rfl rfl ?_
    refine jy_iadd hS rfl ?_
    refine jy_istore_n hS rfl (Nat.le_of_ble_eq_true rfl) (L' := [some (.ref a0), some (jy a1), some (jy s0), some (jy (l3 + l9)), some (jy l4), none, some (jy l6), some (jy l7), some (jy l8), some (jy l9), none, none]) rfl ?_
    refine jy_iload hS rfl rfl ?_
    obtain ⟨g16, h⟩ := h
    refine jy_if_ne hS rfl g16 (fun hq => ?_) (fun hq => ?_)
    · have h := h.1 hq
      refine jy_iload hS rfl rfl ?_
      exact jy_join hS h rfl (jy_sub_s (jy_sub_s (jy_sub_s (jy_sub_s (jy_sub_n (jy_sub_n (jy_sub_s (jy_sub_s (jy_sub_s (jy_sub_s (jy_sub_n (jy_sub_n jy_sub_0))))))))))))
    · have h := h.2 hq
      refine jy_iload hS rfl rfl ?_
      refine jy_goto hS rfl ?_
      exact jy_join hS h rfl (jy_sub_s (jy_sub_s (jy_sub_s (jy_sub_s (jy_sub_n (jy_sub_n (jy_sub_s (jy_sub_s (jy_sub_s (jy_sub_s (jy_sub_n (jy_sub_n jy_sub_0))))))))))))
  · intro s0 l2 l3 l6 l7 l8 l9 I h
    unfold wz_284_90 at h
    refine jy_istore hS rfl (Nat.le_of_ble_eq_true rfl) (L' := [some (.ref a0), some (jy a1), some (jy l2), some (jy l3), some (jy s0), none, some (jy l6), some (jy l7), some (jy l8), some (jy l9), none, none]) rfl ?_
    refine jy_iload hS rfl rfl ?_
    refine jy_istore hS rfl (Nat.le_of_ble_eq_true rfl) (L' := [some (.ref a0), some (jy a1), some (jy l2), some (jy l3), some (jy s0), some (jy l9), some (jy l6), some (jy l7), some (jy l8), some (jy l9), none, none]) rfl ?_
    refine jy_iinc hS rfl rfl (L' := [some (.ref a0), some (jy a1), some (jy l2), some (jy l3), some (jy s0), some (jy l9), some (jy (l6 + 1)), some (jy l7), some (jy l8), some (jy l9), none, none]) rfl ?_
    exact jy_join hS h rfl (jy_sub_s (jy_sub_s (jy_sub_s (jy_sub_s (jy_sub_s (jy_sub_s (jy_sub_s (jy_sub_s (jy_sub_s (jy_sub_n (jy_sub_n (jy_sub_n jy_sub_0))))))))))))
  · intro l2 l3 l4 l5 l6 l7 l8 I h
    unfold wz_284_99 at h
    refine jy_iinc hS rfl rfl (L' := [some (.ref a0), some (jy a1), some (jy l2), some (jy l3), some (jy l4), some (jy l5), some (jy l6), some (jy l7), some (jy (l8 + 1)), none, none, none]) rfl ?_
    refine jy_goto hS rfl ?_
    exact jy_join hS h rfl (jy_sub_s (jy_sub_s (jy_sub_s (jy_sub_s (jy_sub_s (jy_sub_s (jy_sub_s (jy_sub_s (jy_sub_s (jy_sub_n (jy_sub_n (jy_sub_n jy_sub_0))))))))))))
  · intro l2 l3 l4 l5 l6 l7 l8 I h
    unfold wz_284_115 at h
    refine jy_iload hS rfl rfl ?_
    refine jy_aload_n hS rfl rfl ?_
    obtain ⟨g17, h⟩ := h
    refine jy_getI hS rfl (by decide) g17 ?_
    obtain ⟨g18, h⟩ := h
    refine jy_icmp_ge hS rfl ⟨g18, (jy_rng _)⟩ (fun hq => ?_) (fun hq => ?_)
    · have h := h.1 hq
      refine jy_aload_n hS rfl rfl ?_
      obtain ⟨q19, h⟩ := h
      obtain ⟨g20, h⟩ := h
      refine jy_getR hS rfl (by decide) g17 g20 ?_
      refine jy_iconst hS rfl ?_
      obtain ⟨n21, h⟩ := h
      obtain ⟨g22, h⟩ := h
      obtain ⟨g23, h⟩ := h
      refine jy_iald hS rfl g22.1 (Nat.le_of_lt g22.2) g23 ?_
      refine jy_if_ge hS rfl (jy_rng _) (fun hq => ?_) (fun hq => ?_)
      · have h := h.1 hq
        refine jy_aload_n hS rfl rfl ?_
        refine jy_getR hS rfl (by decide) g17 g20 ?_
        refine jy_iconst hS rfl ?_
        obtain ⟨g24, h⟩ := h
        refine jy_iald hS rfl g22.1 (Nat.le_of_lt g22.2) g24 ?_
        refine jy_bipush hS rfl (by decide) ?_
        obtain ⟨Q25, h⟩ := h
        obtain ⟨g26, h⟩ := h
        refine jy_callS hS rfl rfl rfl (Nat.le_of_ble_eq_true rfl) g26 (by decide) ⟨by decide, by decide⟩ (Nat.le_of_ble_eq_true rfl) ?_ ?_
        rotate_left
        · exact fun Ex Xx Ix Rx hp => hp.2.2.2.elim
        intro rv Xx I27 Rx hp
        obtain ⟨e1, e2, hp⟩ := hp
        rw [e1, e2]
        clear e1 e2
        obtain ⟨r28, e1, h⟩ := h rv I27 hp
        rw [e1]
        clear e1
        change J 330 [jy r28] _ (0, 0) _ _ _
        exact jy_iret hS rfl rfl ⟨rfl, rfl, h⟩
      · have h := h.2 hq
        refine jy_iconst hS rfl ?_
        refine jy_goto hS rfl ?_
        exact jy_iret hS rfl rfl ⟨rfl, rfl, h⟩
    · have h := h.2 hq
      refine jy_aload_n hS rfl rfl ?_
      obtain ⟨q29, h⟩ := h
      obtain ⟨g30, h⟩ := h
      refine jy_getR hS rfl (by decide) g17 g30 ?_
      refine jy_iload hS rfl rfl ?_
      obtain ⟨n31, h⟩ := h
      obtain ⟨g32, h⟩ := h
      obtain ⟨g33, h⟩ := h
      obtain ⟨q34, h⟩ := h
      obtain ⟨g35, h⟩ := h
      refine jy_aald hS rfl g32.1 (by decide) (Nat.le_of_lt g32.2) g33 g35 ?_
      refine jy_iconst hS rfl ?_
      obtain ⟨n36, h⟩ := h
      obtain ⟨g37, h⟩ := h
      obtain ⟨g38, h⟩ := h
      refine jy_iald hS rfl g37.1 (Nat.le_of_lt g37.2) g38 ?_
      refine jy_istore hS rfl (Nat.le_of_ble_eq_true rfl) (L' := [some (.ref a0), none, some (jy l2), some (jy l3), some (jy l4), some (jy l5), some (jy l6), some (jy l7), some (jy l8), some (jy ((I q34 (1 : Int).toNat).toInt)), none, none]) rfl ?_
      refine jy_aload_n hS rfl rfl ?_
      refine jy_getR hS rfl (by decide) g17 g30 ?_
      refine jy_iload hS rfl rfl ?_
      obtain ⟨g39, h⟩ := h
      obtain ⟨q40, h⟩ := h
      obtain ⟨g41, h⟩ := h
      refine jy_aald hS rfl g32.1 (by decide) (Nat.le_of_lt g32.2) g39 g41 ?_
      refine jy_iconst hS rfl ?_
      obtain ⟨n42, h⟩ := h
      obtain ⟨g43, h⟩ := h
      obtain ⟨g44, h⟩ := h
      refine jy_iald hS rfl g43.1 (Nat.le_of_lt g43.2) g44 ?_
      refine jy_iconst hS rfl ?_
      refine jy_icmp_ge hS rfl ⟨(jy_rng _), ⟨by decide, by decide⟩⟩ (fun hq => ?_) (fun hq => ?_)
      · have h := h.1 hq
        refine jy_iinc hS rfl rfl (L' := [some (.ref a0), none, some (jy l2), some (jy l3), some (jy l4), some (jy l5), some (jy l6), some (jy (l7 + (-1))), some (jy l8), some (jy ((I q34 (1 : Int).toNat).toInt)), none, none]) rfl ?_
        refine jy_aload_n hS rfl rfl ?_
        obtain ⟨q45, h⟩ := h
        obtain ⟨g46, h⟩ := h
        refine jy_getR hS rfl (by decide) g17 g46 ?_
        refine jy_iload hS rfl rfl ?_
        refine jy_iconst hS rfl ?_
        refine jy_isub hS rfl ?_
        obtain ⟨n47, h⟩ := h
        obtain ⟨g48, h⟩ := h
        obtain ⟨g49, h⟩ := h
        refine jy_iald hS rfl g48.1 (Nat.le_of_lt g48.2) g49 ?_
        refine jy_istore hS rfl (Nat.le_of_ble_eq_true rfl) (L' := [some (.ref a0), none, some (jy l2), some (jy l3), some (jy l4), some (jy l5), some (jy l6), some (jy (l7 + (-1))), some (jy l8), some (jy ((I q34 (1 : Int).toNat).toInt)), some (jy ((I q45 ((l7 + (-1)) - 1).toNat).toInt)), none]) rfl ?_
        refine jy_aload_n hS rfl rfl ?_
        refine jy_getR hS rfl (by decide) g17 g46 ?_
        refine jy_iload hS rfl rfl ?_
        obtain ⟨g50, h⟩ := h
        refine jy_iald hS rfl g48.1 (Nat.le_of_lt g48.2) g50 ?_
        refine jy_istore hS rfl (Nat.le_of_ble_eq_true rfl) (L' := [some (.ref a0), none, some (jy l2), some (jy l3), some (jy l4), some (jy l5), some (jy l6), some (jy (l7 + (-1))), some (jy l8), some (jy ((I q34 (1 : Int).toNat).toInt)), some (jy ((I q45 ((l7 + (-1)) - 1).toNat).toInt)), some (jy ((I q45 (l7 + (-1)).toNat).toInt))]) rfl ?_
        refine jy_aload_n hS rfl rfl ?_
        refine jy_getR hS rfl (by decide) g17 g46 ?_
        refine jy_iload hS rfl rfl ?_
        refine jy_iconst hS rfl ?_
        refine jy_isub hS rfl ?_
        refine jy_aload_n hS rfl rfl ?_
        refine jy_getR hS rfl (by decide) g17 g30 ?_
        refine jy_iload hS rfl rfl ?_
        obtain ⟨g51, h⟩ := h
        obtain ⟨q52, h⟩ := h
        obtain ⟨g53, h⟩ := h
        refine jy_aald hS rfl g32.1 (by decide) (Nat.le_of_lt g32.2) g51 g53 ?_
        refine jy_iconst hS rfl ?_
        obtain ⟨n54, h⟩ := h
        obtain ⟨g55, h⟩ := h
        obtain ⟨g56, h⟩ := h
        refine jy_iald hS rfl g55.1 (Nat.le_of_lt g55.2) g56 ?_
        refine jy_iconst hS rfl ?_
        refine jy_icmp_ne hS rfl ⟨(jy_rng _), ⟨by decide, by decide⟩⟩ (fun hq => ?_) (fun hq => ?_)
        · have h := h.1 hq
          refine jy_aload_n hS rfl rfl ?_
          refine jy_getR hS rfl (by decide) g17 g30 ?_
          refine jy_iload hS rfl rfl ?_
          obtain ⟨g57, h⟩ := h
          obtain ⟨q58, h⟩ := h
          obtain ⟨g59, h⟩ := h
          refine jy_aald hS rfl g32.1 (by decide) (Nat.le_of_lt g32.2) g57 g59 ?_
          refine jy_iconst hS rfl ?_
          obtain ⟨n60, h⟩ := h
          obtain ⟨g61, h⟩ := h
          obtain ⟨g62, h⟩ := h
          refine jy_iald hS rfl g61.1 (Nat.le_of_lt g61.2) g62 ?_
          refine jy_iconst hS rfl ?_
          refine jy_icmp_ne hS rfl ⟨(jy_rng _), ⟨by decide, by decide⟩⟩ (fun hq => ?_) (fun hq => ?_)
          · have h := h.1 hq
            refine jy_iload hS rfl rfl ?_
            refine jy_iload hS rfl rfl ?_
            refine jy_imul hS rfl ?_
            exact jy_join hS h rfl (jy_sub_s (jy_sub_n (jy_sub_s (jy_sub_s (jy_sub_s (jy_sub_s (jy_sub_s (jy_sub_s (jy_sub_s (jy_sub_n (jy_sub_n (jy_sub_n jy_sub_0))))))))))))
          · have h := h.2 hq
            refine jy_iload hS rfl rfl ?_
            refine jy_iload hS rfl rfl ?_
            refine jy_isub hS rfl ?_
            refine jy_goto hS rfl ?_
            exact jy_join hS h rfl (jy_sub_s (jy_sub_n (jy_sub_s (jy_sub_s (jy_sub_s (jy_sub_s (jy_sub_s (jy_sub_s (jy_sub_s (jy_sub_n (jy_sub_n (jy_sub_n jy_sub_0))))))))))))
        · have h := h.2 hq
          refine jy_iload hS rfl rfl ?_
          refine jy_iload hS rfl rfl ?_
          refine jy_iadd hS rfl ?_
          refine jy_goto hS rfl ?_
          exact jy_join hS h rfl (jy_sub_s (jy_sub_n (jy_sub_s (jy_sub_s (jy_sub_s (jy_sub_s (jy_sub_s (jy_sub_s (jy_sub_s (jy_sub_n (jy_sub_n (jy_sub_n jy_sub_0))))))))))))
      · have h := h.2 hq
        refine jy_aload_n hS rfl rfl ?_
        obtain ⟨q63, h⟩ := h
        obtain ⟨g64, h⟩ := h
        refine jy_getR hS rfl (by decide) g17 g64 ?_
        refine jy_iload hS rfl rfl ?_
        refine jy_aload_n hS rfl rfl ?_
        refine jy_getR hS rfl (by decide) g17 g30 ?_
        refine jy_iload hS rfl rfl ?_
        obtain ⟨g65, h⟩ := h
        obtain ⟨q66, h⟩ := h
        obtain ⟨g67, h⟩ := h
        refine jy_aald hS rfl g32.1 (by decide) (Nat.le_of_lt g32.2) g65 g67 ?_
        refine jy_iconst hS rfl ?_
        obtain ⟨n68, h⟩ := h
        obtain ⟨g69, h⟩ := h
        obtain ⟨g70, h⟩ := h
        refine jy_iald hS rfl g69.1 (Nat.le_of_lt g69.2) g70 ?_
        refine jy_if_ne hS rfl (jy_rng _) (fun hq => ?_) (fun hq => ?_)
        · have h := h.1 hq
          refine jy_iload hS rfl rfl ?_
          refine jy_if_ne hS rfl (jy_rng _) (fun hq => ?_) (fun hq => ?_)
          · have h := h.1 hq
            refine jy_iload hS rfl rfl ?_
            refine jy_iconst hS rfl ?_
            refine jy_icmp_ne hS rfl ⟨(jy_rng _), ⟨by decide, by decide⟩⟩ (fun hq => ?_) (fun hq => ?_)
            · have h := h.1 hq
              refine jy_iload hS rfl rfl ?_
              refine jy_iconst hS rfl ?_
              refine jy_icmp_ne hS rfl ⟨(jy_rng _), ⟨by decide, by decide⟩⟩ (fun hq => ?_) (fun hq => ?_)
              · have h := h.1 hq
                refine jy_iload hS rfl rfl ?_
                refine jy_iconst hS rfl ?_
                refine jy_icmp_ne hS rfl ⟨(jy_rng _), ⟨by decide, by decide⟩⟩ (fun hq => ?_) (fun hq => ?_)
                · have h := h.1 hq
                  refine jy_iload hS rfl rfl ?_
                  exact jy_join hS h rfl (jy_sub_s (jy_sub_n (jy_sub_s (jy_sub_s (jy_sub_s (jy_sub_s (jy_sub_s (jy_sub_s (jy_sub_s (jy_sub_n (jy_sub_n (jy_sub_n jy_sub_0))))))))))))
                · have h := h.2 hq
                  refine jy_iload hS rfl rfl ?_
                  refine jy_goto hS rfl ?_
                  exact jy_join hS h rfl (jy_sub_s (jy_sub_n (jy_sub_s (jy_sub_s (jy_sub_s (jy_sub_s (jy_sub_s (jy_sub_s (jy_sub_s (jy_sub_n (jy_sub_n (jy_sub_n jy_sub_0))))))))))))
              · have h := h.2 hq
                refine jy_iload hS rfl rfl ?_
                refine jy_goto hS rfl ?_
                exact jy_join hS h rfl (jy_sub_s (jy_sub_n (jy_sub_s (jy_sub_s (jy_sub_s (jy_sub_s (jy_sub_s (jy_sub_s (jy_sub_s (jy_sub_n (jy_sub_n (jy_sub_n jy_sub_0))))))))))))
            · have h := h.2 hq
              refine jy_iload_n hS rfl rfl ?_
              refine jy_goto hS rfl ?_
              exact jy_join hS h rfl (jy_sub_s (jy_sub_n (jy_sub_s (jy_sub_s (jy_sub_s (jy_sub_s (jy_sub_s (jy_sub_s (jy_sub_s (jy_sub_n (jy_sub_n (jy_sub_n jy_sub_0))))))))))))
          · have h := h.2 hq
            refine jy_iload_n hS rfl rfl ?_
            refine jy_goto hS rfl ?_
            exact jy_join hS h rfl (jy_sub_s (jy_sub_n (jy_sub_s (jy_sub_s (jy_sub_s (jy_sub_s (jy_sub_s (jy_sub_s (jy_sub_s (jy_sub_n (jy_sub_n (jy_sub_n jy_sub_0))))))))))))
        · have h := h.2 hq
          refine jy_iload hS rfl rfl ?_
          refine jy_goto hS rfl ?_
          exact jy_join hS h rfl (jy_sub_s (jy_sub_n (jy_sub_s (jy_sub_s (jy_sub_s (jy_sub_s (jy_sub_s (jy_sub_s (jy_sub_s (jy_sub_n (jy_sub_n (jy_sub_n jy_sub_0))))))))))))
  · intro s0 s1 s2 l2 l3 l4 l5 l6 l7 l8 I h
    unfold wz_284_214 at h
    obtain ⟨n71, h⟩ := h
    obtain ⟨g72, h⟩ := h
    obtain ⟨g73, h⟩ := h
    refine jy_iast hS rfl g72.1 (Nat.le_of_lt g72.2) g73 ?_
    intro I74 e9
    have h := h I74 e9
    clear e9
    refine jy_iinc hS rfl rfl (L' := [some (.ref a0), none, some (jy l2), some (jy l3), some (jy l4), some (jy l5), some (jy l6), some (jy (l7 + 1)), some (jy l8), none, none, none]) rfl ?_
    refine jy_goto hS rfl ?_
    exact jy_join hS h rfl (jy_sub_s (jy_sub_n (jy_sub_s (jy_sub_s (jy_sub_s (jy_sub_s (jy_sub_s (jy_sub_s (jy_sub_s (jy_sub_n (jy_sub_n (jy_sub_n jy_sub_0))))))))))))
  · intro s0 s1 s2 l2 l3 l4 l5 l6 l7 l8 I h
    unfold wz_284_299 at h
    obtain ⟨n75, h⟩ := h
    obtain ⟨g76, h⟩ := h
    obtain ⟨g77, h⟩ := h
    refine jy_iast hS rfl g76.1 (Nat.le_of_lt g76.2) g77 ?_
    intro I78 e9
    have h := h I78 e9
    clear e9
    exact jy_join hS h rfl (jy_sub_s (jy_sub_n (jy_sub_s (jy_sub_s (jy_sub_s (jy_sub_s (jy_sub_s (jy_sub_s (jy_sub_s (jy_sub_n (jy_sub_n (jy_sub_n jy_sub_0))))))))))))
  · intro l2 l3 l4 l5 l6 l7 l8 I h
    unfold wz_284_300 at h
    refine jy_iinc hS rfl rfl (L' := [some (.ref a0), none, some (jy l2), some (jy l3), some (jy l4), some (jy l5), some (jy l6), some (jy l7), some (jy (l8 + 1)), none, none, none]) rfl ?_
    refine jy_goto hS rfl ?_
    exact jy_join hS h rfl (jy_sub_s (jy_sub_n (jy_sub_s (jy_sub_s (jy_sub_s (jy_sub_s (jy_sub_s (jy_sub_s (jy_sub_s (jy_sub_n (jy_sub_n (jy_sub_n jy_sub_0))))))))))))
theorem jt_285 : jx_ml 285 = 2 ∧ jx_rt 285 = some .boolean ∧ jx_hz 285 = [] ∧ decide ((jx_nm 285).name = "<init>") = false ∧ jx_code 285 = jx_c285 := by decide +kernel
/-- GCModel.explains, from 2 -/
def wz_285_2 (V : jx_V) (X : jx_X) (R : jx_R) (Q : Option Value → jx_I → Prop) (QE : String → jx_I → Prop) (J2 : Int → jx_I → Prop) (a0 : Nat) (l1 : Int) (I : jx_I) : Prop :=
  (X.2.1 a0 = some (12, 0)) ∧ (
  (-2147483648 ≤ l1 ∧ l1 < 2147483648) ∧ (
  ((I a0 38).toInt ≤ l1 → (
    Q (some (jy 1)) I
  )) ∧ (¬ (I a0 38).toInt ≤ l1 → (
    ∃ q3 : Nat, (
    (R a0 31 = some q3) ∧ (
    ∃ n5 : Nat, (
    (X.2.1 q3 = some (104, n5) ∧ n5 < 2147483648) ∧ (
    (0 ≤ l1 ∧ l1 < n5) ∧ (
    ∃ q8 : Nat, (
    (R q3 l1.toNat = some q8) ∧ (
    ∃ n10 : Nat, (
    (X.2.1 q8 = some (100, n10) ∧ n10 < 2147483648) ∧ (
    (0 ≤ (0 : Int) ∧ (0 : Int) < n10) ∧ (
    ∃ Q13 : Option Value → jx_I → Prop, (
    (jc V 2 284 (0, 0) [.ref a0, jy ((I q8 (0 : Int).toNat).toInt)] X I R Q13 (fun _ _ => False)) ∧ (
    ∀ rv I15, Q13 rv I15 → ∃ r16 : Int, rv = some (jy r16) ∧ (
    (0 ≤ l1 ∧ l1 < n5) ∧ (
    ∃ q18 : Nat, (
    (R q3 l1.toNat = some q18) ∧ (
    ∃ n20 : Nat, (
    (X.2.1 q18 = some (100, n20) ∧ n20 < 2147483648) ∧ (
    (0 ≤ (1 : Int) ∧ (1 : Int) < n20) ∧ (
    (-2147483648 ≤ r16 ∧ r16 < 2147483648) ∧ (
    (r16 = (I15 q18 (1 : Int).toNat).toInt → (
      J2 (l1 + 1) I15
    )) ∧ (¬ r16 = (I15 q18 (1 : Int).toNat).toInt → (
      Q (some (jy 0)) I15
    ))))))))))))))))))))))
  ))))
/-- GCModel.explains -/
def wz_285 (V : jx_V) (X : jx_X) (R : jx_R) (Q : Option Value → jx_I → Prop) (QE : String → jx_I → Prop) (J2 : Int → jx_I → Prop) (a0 : Nat) (I : jx_I) : Prop :=
  J2 0 I
set_option maxRecDepth 20000 in
theorem wm_285 {V : jx_V} (hV : V.1.stackTraces = false) {X : jx_X} {R : jx_R} {I : jx_I} {Q : Option Value → jx_I → Prop} {QE : String → jx_I → Prop} {a0 : Nat}  
    (h : ∀ (J2 : Int → jx_I → Prop), ((∀ (l1 : Int) I, wz_285_2 V X R Q QE J2 a0 l1 I → J2 l1 I)) → wz_285 V X R Q QE J2 a0 I) : jc V 3 285 (0, 0) [.ref a0] X I R Q QE := by
  refine jy_met hV (by decide) (n := 2) (rt := some .boolean) (hh := []) (ini := false) (C := jx_c285) (L := [some (.ref a0), none]) jt_285 (Nat.le_of_ble_eq_true rfl) rfl ?_
  intro J hS
  have h := h (fun l1 I => J 2 [] [some (.ref a0), some (jy l1)] (0, 0) X I R) ?_
  · unfold wz_285 at h
    refine jy_iconst hS rfl ?_
    refine jy_istore_n hS rfl (Nat.le_of_ble_eq_true rfl) (L' := [some (.ref a0), some (jy 0)]) rfl ?_
    exact jy_join hS h rfl (jy_sub_s (jy_sub_s jy_sub_0))
  · intro l1 I h
    unfold wz_285_2 at h
    refine jy_iload_n hS rfl rfl ?_
    refine jy_aload_n hS rfl rfl ?_
    obtain ⟨g1, h⟩ := h
    refine jy_getI hS rfl (by decide) g1 ?_
    obtain ⟨g2, h⟩ := h
    refine jy_icmp_ge hS rfl ⟨g2, (jy_rng _)⟩ (fun hq => ?_) (fun hq => ?_)
    · have h := h.1 hq
      refine jy_iconst hS rfl ?_
      exact jy_iret hS rfl rfl ⟨rfl, rfl, h⟩
    · have h := h.2 hq
      refine jy_aload_n hS rfl rfl ?_
      refine jy_aload_n hS rfl rfl ?_
      obtain ⟨q3, h⟩ := h
      obtain ⟨g4, h⟩ := h
      refine jy_getR hS rfl (by decide) g1 g4 ?_
      refine jy_iload_n hS rfl rfl ?_
      obtain ⟨n5, h⟩ := h
      obtain ⟨g6, h⟩ := h
      obtain ⟨g7, h⟩ := h
      obtain ⟨q8, h⟩ := h
      obtain ⟨g9, h⟩ := h
      refine jy_aald hS rfl g6.1 (by decide) (Nat.le_of_lt g6.2) g7 g9 ?_
      refine jy_iconst hS rfl ?_
      obtain ⟨n10, h⟩ := h
      obtain ⟨g11, h⟩ := h
      obtain ⟨g12, h⟩ := h
      refine jy_iald hS rfl g11.1 (Nat.le_of_lt g11.2) g12 ?_
      obtain ⟨Q13, h⟩ := h
      obtain ⟨g14, h⟩ := h
      refine jy_callV hS rfl rfl rfl (Nat.le_of_ble_eq_true rfl) (Or.inl g1) g14 (by decide) ⟨by decide, by decide⟩ (Nat.le_of_ble_eq_true rfl) ?_ ?_
      rotate_left
      · exact fun Ex Xx Ix Rx hp => hp.2.2.2.elim
      intro rv Xx I15 Rx hp
      obtain ⟨e1, e2, hp⟩ := hp
      rw [e1, e2]
      clear e1 e2
      obtain ⟨r16, e1, h⟩ := h rv I15 hp
      rw [e1]
      clear e1
      change J 22 [jy r16] _ (0, 0) _ _ _
      refine jy_aload_n hS rfl rfl ?_
      refine jy_getR hS rfl (by decide) g1 g4 ?_
      refine jy_iload_n hS rfl rfl ?_
      obtain ⟨g17, h⟩ := h
      obtain ⟨q18, h⟩ := h
      obtain ⟨g19, h⟩ := h
      refine jy_aald hS rfl g6.1 (by decide) (Nat.le_of_lt g6.2) g17 g19 ?_
      refine jy_iconst hS rfl ?_
      obtain ⟨n20, h⟩ := h
      obtain ⟨g21, h⟩ := h
      obtain ⟨g22, h⟩ := h
      refine jy_iald hS rfl g21.1 (Nat.le_of_lt g21.2) g22 ?_
      obtain ⟨g23, h⟩ := h
      refine jy_icmp_eq hS rfl ⟨g23, (jy_rng _)⟩ (fun hq => ?_) (fun hq => ?_)
      · have h := h.1 hq
        refine jy_iinc hS rfl rfl (L' := [some (.ref a0), some (jy (l1 + 1))]) rfl ?_
        refine jy_goto hS rfl ?_
        exact jy_join hS h rfl (jy_sub_s (jy_sub_s jy_sub_0))
      · have h := h.2 hq
        refine jy_iconst hS rfl ?_
        exact jy_iret hS rfl rfl ⟨rfl, rfl, h⟩
theorem jt_286 : jx_ml 286 = 12 ∧ jx_rt 286 = some .int ∧ jx_hz 286 = [] ∧ decide ((jx_nm 286).name = "<init>") = false ∧ jx_code 286 = jx_c286 := by decide +kernel
/-- GCModel.explain, from 20 -/
def wz_286_20 (V : jx_V) (X : jx_X) (R : jx_R) (Q : Option Value → jx_I → Prop) (QE : String → jx_I → Prop) (J20 : Nat → Int → jx_I → Prop) (J63 : Int → Int → Int → Int → Int → Int → Int → jx_I → Prop) (J83 : Int → Int → Int → Int → Int → Int → Int → jx_I → Prop) (J107 : Int → Int → Int → Int → Int → Int → Int → jx_I → Prop) (J125 : Int → Int → Int → Int → Int → Int → Int → Int → Int → Int → jx_I → Prop) (J169 : Int → Int → Int → Int → Int → Int → Int → Int → Int → Int → Int → jx_I → Prop) (J200 : Int → Int → Int → Int → Int → Int → Int → Int → jx_I → Prop) (J219 : Int → Int → Int → Int → Int → Int → Int → jx_I → Prop) (a0 : Nat) (a1 : Int) (s0 : Nat) (s1 : Int) (I : jx_I) : Prop :=
  (X.2.1 s0 = some (12, 0)) ∧ (
  ∃ Q9 : Option Value → jx_I → Prop, (
  (jc V 1 202 (0, 0) [.ref s0, jy s1, jy 1, jy 2] X I R Q9 (fun _ _ => False)) ∧ (
  ∀ rv I11, Q9 rv I11 → ∃ r12 : Int, rv = some (jy r12) ∧ (
  (-2147483648 ≤ r12 ∧ r12 < 2147483648) ∧ (
  (r12 = 0 → (
    (X.2.1 a0 = some (12, 0)) ∧ (
    ∃ q15 : Nat, (
    (R a0 11 = some q15) ∧ (
    ∃ n17 : Nat, (
    (X.2.1 q15 = some (100, n17) ∧ n17 < 2147483648) ∧ (
    (0 ≤ (1 : Int) ∧ (1 : Int) < n17) ∧ (
    ∃ Q20 : Option Value → jx_I → Prop, (
    (jc V 1 204 (0, 0) [jy ((I11 q15 (1 : Int).toNat).toInt), jy 6] X I11 R Q20 (fun _ _ => False)) ∧ (
    ∀ rv I22, Q20 rv I22 → ∃ r23 : Int, rv = some (jy r23) ∧ (
    J63 r23 1 0 (-1) ((Int32.ofInt 1 <<< (Int32.ofInt r23 &&& 31)).toInt - 1) 0 0 I22)))))))))
  )) ∧ (¬ r12 = 0 → (
    Q (some (jy 0)) I11
  )))))))
/-- GCModel.explain, from 63 -/
def wz_286_63 (V : jx_V) (X : jx_X) (R : jx_R) (Q : Option Value → jx_I → Prop) (QE : String → jx_I → Prop) (J20 : Nat → Int → jx_I → Prop) (J63 : Int → Int → Int → Int → Int → Int → Int → jx_I → Prop) (J83 : Int → Int → Int → Int → Int → Int → Int → jx_I → Prop) (J107 : Int → Int → Int → Int → Int → Int → Int → jx_I → Prop) (J125 : Int → Int → Int → Int → Int → Int → Int → Int → Int → Int → jx_I → Prop) (J169 : Int → Int → Int → Int → Int → Int → Int → Int → Int → Int → Int → jx_I → Prop) (J200 : Int → Int → Int → Int → Int → Int → Int → Int → jx_I → Prop) (J219 : Int → Int → Int → Int → Int → Int → Int → jx_I → Prop) (a0 : Nat) (a1 : Int) (l2 : Int) (l3 : Int) (l4 : Int) (l5 : Int) (l6 : Int) (l7 : Int) (l8 : Int) (I : jx_I) : Prop :=
  (-2147483648 ≤ l8 ∧ l8 < 2147483648) ∧ (
  (-2147483648 ≤ l2 ∧ l2 < 2147483648) ∧ (
  (l2 ≤ l8 → (
    J83 l2 l3 l4 l5 l6 l7 0 I
  )) ∧ (¬ l2 ≤ l8 → (
    J63 l2 (l3 * 6) l4 l5 l6 l7 (l8 + 1) I
  ))))
/-- GCModel.explain, from 83 -/
def wz_286_83 (V : jx_V) (X : jx_X) (R : jx_R) (Q : Option Value → jx_I → Prop) (QE : String → jx_I → Prop) (J20 : Nat → Int → jx_I → Prop) (J63 : Int → Int → Int → Int → Int → Int → Int → jx_I → Prop) (J83 : Int → Int → Int → Int → Int → Int → Int → jx_I → Prop) (J107 : Int → Int → Int → Int → Int → Int → Int → jx_I → Prop) (J125 : Int → Int → Int → Int → Int → Int → Int → Int → Int → Int → jx_I → Prop) (J169 : Int → Int → Int → Int → Int → Int → Int → Int → Int → Int → Int → jx_I → Prop) (J200 : Int → Int → Int → Int → Int → Int → Int → Int → jx_I → Prop) (J219 : Int → Int → Int → Int → Int → Int → Int → jx_I → Prop) (a0 : Nat) (a1 : Int) (l2 : Int) (l3 : Int) (l4 : Int) (l5 : Int) (l6 : Int) (l7 : Int) (l8 : Int) (I : jx_I) : Prop :=
  (-2147483648 ≤ l8 ∧ l8 < 2147483648) ∧ (
  (8 ≤ l8 → (
    J107 l2 l3 l4 l5 l6 l7 0 I
  )) ∧ (¬ 8 ≤ l8 → (
    (X.2.1 a0 = some (12, 0)) ∧ (
    ∃ q28 : Nat, (
    (R a0 55 = some q28) ∧ (
    ∃ n30 : Nat, (
    (X.2.1 q28 = some (100, n30) ∧ n30 < 2147483648) ∧ (
    (0 ≤ l8 ∧ l8 < n30) ∧ (
    ∀ I33 : jx_I, I33 = jx_u I q28 l8.toNat (Int32.ofInt 0) → (
    J83 l2 l3 l4 l5 l6 l7 (l8 + 1) I33)))))))
  )))
/-- GCModel.explain, from 107 -/
def wz_286_107 (V : jx_V) (X : jx_X) (R : jx_R) (Q : Option Value → jx_I → Prop) (QE : String → jx_I → Prop) (J20 : Nat → Int → jx_I → Prop) (J63 : Int → Int → Int → Int → Int → Int → Int → jx_I → Prop) (J83 : Int → Int → Int → Int → Int → Int → Int → jx_I → Prop) (J107 : Int → Int → Int → Int → Int → Int → Int → jx_I → Prop) (J125 : Int → Int → Int → Int → Int → Int → Int → Int → Int → Int → jx_I → Prop) (J169 : Int → Int → Int → Int → Int → Int → Int → Int → Int → Int → Int → jx_I → Prop) (J200 : Int → Int → Int → Int → Int → Int → Int → Int → jx_I → Prop) (J219 : Int → Int → Int → Int → Int → Int → Int → jx_I → Prop) (a0 : Nat) (a1 : Int) (l2 : Int) (l3 : Int) (l4 : Int) (l5 : Int) (l6 : Int) (l7 : Int) (l8 : Int) (I : jx_I) : Prop :=
  (-2147483648 ≤ l8 ∧ l8 < 2147483648) ∧ (
  (-2147483648 ≤ l3 ∧ l3 < 2147483648) ∧ (
  (l3 ≤ l8 → (
    ((a1 < 0 ∨ 2 < a1) → (
      (-2147483648 ≤ l4 ∧ l4 < 2147483648) ∧ (
      (l4 ≠ 0 → (
        Q (some (jy ((Int32.ofInt ((Int32.ofInt 1 <<< (Int32.ofInt l2 &&& 31)).toInt - 1) &&& Int32.ofInt ((Int32.ofInt l7 ^^^ Int32.ofInt (-1)).toInt)).toInt))) I
      )) ∧ (l4 = 0 → (
        Q (some (jy 0)) I
      )))
    ))
    ∧ (a1 = 0 → (
      Q (some (jy l4)) I
    ))
    ∧ (a1 = 1 → (
      Q (some (jy l5)) I
    ))
    ∧ (a1 = 2 → (
      (-2147483648 ≤ l4 ∧ l4 < 2147483648) ∧ (
      (l4 ≠ 0 → (
        Q (some (jy l6)) I
      )) ∧ (l4 = 0 → (
        Q (some (jy 0)) I
      )))
    ))
  )) ∧ (¬ l3 ≤ l8 → (
    J125 l2 l3 l4 l5 l6 l7 l8 l8 0 (l2 - 1) I
  ))))
/-- GCModel.explain, from 125 -/
def wz_286_125 (V : jx_V) (X : jx_X) (R : jx_R) (Q : Option Value → jx_I → Prop) (QE : String → jx_I → Prop) (J20 : Nat → Int → jx_I → Prop) (J63 : Int → Int → Int → Int → Int → Int → Int → jx_I → Prop) (J83 : Int → Int → Int → Int → Int → Int → Int → jx_I → Prop) (J107 : Int → Int → Int → Int → Int → Int → Int → jx_I → Prop) (J125 : Int → Int → Int → Int → Int → Int → Int → Int → Int → Int → jx_I → Prop) (J169 : Int → Int → Int → Int → Int → Int → Int → Int → Int → Int → Int → jx_I → Prop) (J200 : Int → Int → Int → Int → Int → Int → Int → Int → jx_I → Prop) (J219 : Int → Int → Int → Int → Int → Int → Int → jx_I → Prop) (a0 : Nat) (a1 : Int) (l2 : Int) (l3 : Int) (l4 : Int) (l5 : Int) (l6 : Int) (l7 : Int) (l8 : Int) (l9 : Int) (l10 : Int) (l11 : Int) (I : jx_I) : Prop :=
  (-2147483648 ≤ l11 ∧ l11 < 2147483648) ∧ (
  (l11 < 0 → (
    (X.2.1 a0 = some (12, 0)) ∧ (
    ∃ Q40 : Option Value → jx_I → Prop, (
    (jc V 3 285 (0, 0) [.ref a0] X I R Q40 (fun _ _ => False)) ∧ (
    ∀ rv I42, Q40 rv I42 → ∃ r43 : Int, rv = some (jy r43) ∧ (
    (-2147483648 ≤ r43 ∧ r43 < 2147483648) ∧ (
    (r43 ≠ 0 → (
      (-2147483648 ≤ l4 ∧ l4 < 2147483648) ∧ (
      (l4 ≠ 0 → (
        J200 l5 l2 l3 l4 l6 l7 l8 l10 I42
      )) ∧ (l4 = 0 → (
        J200 l8 l2 l3 l4 l6 l7 l8 l10 I42
      )))
    )) ∧ (r43 = 0 → (
      J219 l2 l3 l4 l5 l6 l7 l8 I42
    )))))))
  )) ∧ (¬ l11 < 0 → (
    (X.2.1 a0 = some (12, 0)) ∧ (
    ∃ q47 : Nat, (
    (R a0 55 = some q47) ∧ (
    ∃ n49 : Nat, (
    (X.2.1 q47 = some (100, n49) ∧ n49 < 2147483648) ∧ (
    (0 ≤ l11 ∧ l11 < n49) ∧ (
    ∀ I52 : jx_I, I52 = jx_u I q47 l11.toNat (Int32.ofInt ((Int32.ofInt l9 - Int32.ofInt l9 / Int32.ofInt 6 * Int32.ofInt 6).toInt)) → (
    (0 ≤ l11 ∧ l11 < n49) ∧ (
    ((I52 q47 l11.toNat).toInt ≤ 0 → (
      J169 l10 0 l2 l3 l4 l5 l6 l7 l8 ((Int32.ofInt l9 / Int32.ofInt 6).toInt) l11 I52
    )) ∧ (¬ (I52 q47 l11.toNat).toInt ≤ 0 → (
      J169 l10 ((Int32.ofInt 1 <<< (Int32.ofInt l11 &&& 31)).toInt) l2 l3 l4 l5 l6 l7 l8 ((Int32.ofInt l9 / Int32.ofInt 6).toInt) l11 I52
    ))))))))))
  )))
/-- GCModel.explain, from 169 -/
def wz_286_169 (V : jx_V) (X : jx_X) (R : jx_R) (Q : Option Value → jx_I → Prop) (QE : String → jx_I → Prop) (J20 : Nat → Int → jx_I → Prop) (J63 : Int → Int → Int → Int → Int → Int → Int → jx_I → Prop) (J83 : Int → Int → Int → Int → Int → Int → Int → jx_I → Prop) (J107 : Int → Int → Int → Int → Int → Int → Int → jx_I → Prop) (J125 : Int → Int → Int → Int → Int → Int → Int → Int → Int → Int → jx_I → Prop) (J169 : Int → Int → Int → Int → Int → Int → Int → Int → Int → Int → Int → jx_I → Prop) (J200 : Int → Int → Int → Int → Int → Int → Int → Int → jx_I → Prop) (J219 : Int → Int → Int → Int → Int → Int → Int → jx_I → Prop) (a0 : Nat) (a1 : Int) (s0 : Int) (s1 : Int) (l2 : Int) (l3 : Int) (l4 : Int) (l5 : Int) (l6 : Int) (l7 : Int) (l8 : Int) (l9 : Int) (l11 : Int) (I : jx_I) : Prop :=
  J125 l2 l3 l4 l5 l6 l7 l8 l9 ((Int32.ofInt s0 ||| Int32.ofInt s1).toInt) (l11 + (-1)) I
/-- GCModel.explain, from 200 -/
def wz_286_200 (V : jx_V) (X : jx_X) (R : jx_R) (Q : Option Value → jx_I → Prop) (QE : String → jx_I → Prop) (J20 : Nat → Int → jx_I → Prop) (J63 : Int → Int → Int → Int → Int → Int → Int → jx_I → Prop) (J83 : Int → Int → Int → Int → Int → Int → Int → jx_I → Prop) (J107 : Int → Int → Int → Int → Int → Int → Int → jx_I → Prop) (J125 : Int → Int → Int → Int → Int → Int → Int → Int → Int → Int → jx_I → Prop) (J169 : Int → Int → Int → Int → Int → Int → Int → Int → Int → Int → Int → jx_I → Prop) (J200 : Int → Int → Int → Int → Int → Int → Int → Int → jx_I → Prop) (J219 : Int → Int → Int → Int → Int → Int → Int → jx_I → Prop) (a0 : Nat) (a1 : Int) (s0 : Int) (l2 : Int) (l3 : Int) (l4 : Int) (l6 : Int) (l7 : Int) (l8 : Int) (l10 : Int) (I : jx_I) : Prop :=
  J219 l2 l3 (l4 + 1) s0 ((Int32.ofInt l6 &&& Int32.ofInt l10).toInt) ((Int32.ofInt l7 ||| Int32.ofInt l10).toInt) l8 I
/-- GCModel.explain, from 219 -/
def wz_286_219 (V : jx_V) (X : jx_X) (R : jx_R) (Q : Option Value → jx_I → Prop) (QE : String → jx_I → Prop) (J20 : Nat → Int → jx_I → Prop) (J63 : Int → Int → Int → Int → Int → Int → Int → jx_I → Prop) (J83 : Int → Int → Int → Int → Int → Int → Int → jx_I → Prop) (J107 : Int → Int → Int → Int → Int → Int → Int → jx_I → Prop) (J125 : Int → Int → Int → Int → Int → Int → Int → Int → Int → Int → jx_I → Prop) (J169 : Int → Int → Int → Int → Int → Int → Int → Int → Int → Int → Int → jx_I → Prop) (J200 : Int → Int → Int → Int → Int → Int → Int → Int → jx_I → Prop) (J219 : Int → Int → Int → Int → Int → Int → Int → jx_I → Prop) (a0 : Nat) (a1 : Int) (l2 : Int) (l3 : Int) (l4 : Int) (l5 : Int) (l6 : Int) (l7 : Int) (l8 : Int) (I : jx_I) : Prop :=
  J107 l2 l3 l4 l5 l6 l7 (l8 + 1) I
/-- GCModel.explain -/
def wz_286 (V : jx_V) (X : jx_X) (R : jx_R) (Q : Option Value → jx_I → Prop) (QE : String → jx_I → Prop) (J20 : Nat → Int → jx_I → Prop) (J63 : Int → Int → Int → Int → Int → Int → Int → jx_I → Prop) (J83 : Int → Int → Int → Int → Int → Int → Int → jx_I → Prop) (J107 : Int → Int → Int → Int → Int → Int → Int → jx_I → Prop) (J125 : Int → Int → Int → Int → Int → Int → Int → Int → Int → Int → jx_I → Prop) (J169 : Int → Int → Int → Int → Int → Int → Int → Int → Int → Int → Int → jx_I → Prop) (J200 : Int → Int → Int → Int → Int → Int → Int → Int → jx_I → Prop) (J219 : Int → Int → Int → Int → Int → Int → Int → jx_I → Prop) (a0 : Nat) (a1 : Int) (I : jx_I) : Prop :=
  (X.2.1 a0 = some (12, 0)) ∧ (
  ∀ I2 : jx_I, I2 = jx_u I a0 0 (Int32.ofInt 0) → (
  ∃ Q3 : Option Value → jx_I → Prop, (
  (jc V 1 203 (0, 0) [jy a1, jy 0, jy 3] X I2 R Q3 (fun _ _ => False)) ∧ (
  ∀ rv I5, Q3 rv I5 → ∃ r6 : Int, rv = some (jy r6) ∧ (
  (-2147483648 ≤ r6 ∧ r6 < 2147483648) ∧ (
  (r6 ≠ 0 → (
    J20 a0 0 I5
  )) ∧ (r6 = 0 → (
    J20 a0 1 I5
  ))))))))
set_option maxRecDepth 20000 in
theorem wm_286 {V : jx_V} (hV : V.1.stackTraces = false) {X : jx_X} {R : jx_R} {I : jx_I} {Q : Option Value → jx_I → Prop} {QE : String → jx_I → Prop} {a0 : Nat} {a1 : Int} (r_a1 : -2147483648 ≤ a1 ∧ a1 < 2147483648) 
    (h : ∀ (J20 : Nat → Int → jx_I → Prop) (J63 : Int → Int → Int → Int → Int → Int → Int → jx_I → Prop) (J83 : Int → Int → Int → Int → Int → Int → Int → jx_I → Prop) (J107 : Int → Int → Int → Int → Int → Int → Int → jx_I → Prop) (J125 : Int → Int → Int → Int → Int → Int → Int → Int → Int → Int → jx_I → Prop) (J169 : Int → Int → Int → Int → Int → Int → Int → Int → Int → Int → Int → jx_I → Prop) (J200 : Int → Int → Int → Int → Int → Int → Int → Int → jx_I → Prop) (J219 : Int → Int → Int → Int → Int → Int → Int → jx_I → Prop), ((∀ (s0 : Nat) (s1 : Int) I, wz_286_20 V X R Q QE J20 J63 J83 J107 J125 J169 J200 J219 a0 a1 s0 s1 I → J20 s0 s1 I) ∧ (∀ (l2 : Int) (l3 : Int) (l4 : Int) (l5 : Int) (l6 : Int) (l7 : Int) (l8 : Int) I, wz_286_63 V X R Q QE J20 J63 J83 J107 J125 J169 J200 J219 a0 a1 l2 l3 l4 l5 l6 l7 l8 I → J63 l2 l3 l4 l5 l6 l7 l8 I) ∧ (∀ (l2 : Int) (l3 : Int) (l4 : Int) (l5 : Int) (l6 : Int) (l7 : Int) (l8 : Int) I, wz_286_83 V X R Q QE J20 J63 J83 J107 J125 J169 J200 J219 a0 a1 l2 l3 l4 l5 l6 l7 l8 I → J83 l2 l3 l4 l5 l6 l7 l8 I) ∧ (∀ (l2 : Int) (l3 : Int) (l4 : Int) (l5 : Int) (l6 : Int) (l7 : Int) (l8 : Int) I, wz_286_107 V X R Q QE J20 J63 J83 J107 J125 J169 J200 J219 a0 a1 l2 l3 l4 l5 l6 l7 l8 I → J107 l2 l3 l4 l5 l6 l7 l8 I) ∧ (∀ (l2 : Int) (l3 : Int) (l4 : Int) (l5 : Int) (l6 : Int) (l7 : Int) (l8 : Int) (l9 : Int) (l10 : Int) (l11 : Int) I, wz_286_125 V X R Q QE J20 J63 J83 J107 J125 J169 J200 J219 a0 a1 l2 l3 l4 l5 l6 l7 l8 l9 l10 l11 I → J125 l2 l3 l4 l5 l6 l7 l8 l9 l10 l11 I) ∧ (∀ (s0 : Int) (s1 : Int) (l2 : Int) (l3 : Int) (l4 : Int) (l5 : Int) (l6 : Int) (l7 : Int) (l8 : Int) (l9 : Int) (l11 : Int) I, wz_286_169 V X R Q QE J20 J63 J83 J107 J125 J169 J200 J219 a0 a1 s0 s1 l2 l3 l4 l5 l6 l7 l8 l9 l11 I → J169 s0 s1 l2 l3 l4 l5 l6 l7 l8 l9 l11 I) ∧ (∀ (s0 : Int) (l2 : Int) (l3 : Int) (l4 : Int) (l6 : Int) (l7 : Int) (l8 : Int) (l10 : Int) I, wz_286_200 V X R Q QE J20 J63 J83 J107 J125 J169 J200 J219 a0 a1 s0 l2 l3 l4 l6 l7 l8 l10 I → J200 s0 l2 l3 l4 l6 l7 l8 l10 I) ∧ (∀ (l2 : Int) (l3 : Int) (l4 : Int) (l5 : Int) (l6 : Int) (l7 : Int) (l8 : Int) I, wz_286_219 V X R Q QE J20 J63 J83 J107 J125 J169 J200 J219 a0 a1 l2 l3 l4 l5 l6 l7 l8 I → J219 l2 l3 l4 l5 l6 l7 l8 I)) → wz_286 V X R Q QE J20 J63 J83 J107 J125 J169 J200 J219 a0 a1 I) : jc V 4 286 (0, 0) [.ref a0, jy a1] X I R Q QE := by
  refine jy_met hV (by decide) (n := 12) (rt := some .int) (hh := []) (ini := false) (C := jx_c286) (L := [some (.ref a0), some (jy a1), none, none, none, none, none, none, none, none, none, none]) jt_286 (Nat.le_of_ble_eq_true rfl) rfl ?_
  intro J hS
  have h := h (fun s0 s1 I => J 20 [jy s1, .ref s0] [some (.ref a0), some (jy a1), none, none, none, none, none, none, none, none, none, none] (0, 0) X I R) (fun l2 l3 l4 l5 l6 l7 l8 I => J 63 [] [some (.ref a0), some (jy a1), some (jy l2), some (jy l3), some (jy l4), some (jy l5), some (jy l6), some (jy l7), some (jy l8), none, none, none] (0, 0) X I R) (fun l2 l3 l4 l5 l6 l7 l8 I => J 83 [] [some (.ref a0), some (jy a1), some (jy l2), some (jy l3), some (jy l4), some (jy l5), some (jy l6), some (jy l7), some (jy l8), none, none, none] (0, 0) X I R) (fun l2 l3 l4 l5 l6 l7 l8 I => J 107 [] [some (.ref a0), some (jy a1), some (jy l2), some (jy l3), some (jy l4), some (jy l5), some (jy l6), some (jy l7), some (jy l8), none, none, none] (0, 0) X I R) (fun l2 l3 l4 l5 l6 l7 l8 l9 l10 l11 I => J 125 [] [some (.ref a0), some (jy a1), some (jy l2), some (jy l3), some (jy l4), some (jy l5), some (jy l6), some (jy l7), some (jy l8), some (jy l9), some (jy l10), some (jy l11)] (0, 0) X I R) (fun s0 s1 l2 l3 l4 l5 l6 l7 l8 l9 l11 I => J 169 [jy s1, jy s0] [some (.ref a0), some (jy a1), some (jy l2), some (jy l3), some (jy l4), some (jy l5), some (jy l6), some (jy l7), some (jy l8), some (jy l9), none, some (jy l11)] (0, 0) X I R) (fun s0 l2 l3 l4 l6 l7 l8 l10 I => J 200 [jy s0] [some (.ref a0), some (jy a1), some (jy l2), some (jy l3), some (jy l4), none, some (jy l6), some (jy l7), some (jy l8), none, some (jy l10), none] (0, 0) X I R) (fun l2 l3 l4 l5 l6 l7 l8 I => J 219 [] [some (.ref a0), some (jy a1), some (jy l2), some (jy l3), some (jy l4), some (jy l5), some (jy l6), some (jy l7), some (jy l8), none, none, none] (0, 0) X I R) ?_
  · unfold wz_286 at h
    refine jy_aload_n hS rfl rfl ?_
    refine jy_iconst hS rfl ?_
    obtain ⟨g1, h⟩ := h
    refine jy_putI hS rfl (by decide) g1 ?_
    intro I2 e9
    have h := h I2 e9
    clear e9
    refine jy_aload_n hS rfl rfl ?_
    refine jy_iload_n hS rfl rfl ?_
    refine jy_iconst hS rfl ?_
    refine jy_iconst hS rfl ?_
    obtain ⟨Q3, h⟩ := h
    obtain ⟨g4, h⟩ := h
    refine jy_callS hS rfl rfl rfl (Nat.le_of_ble_eq_true rfl) g4 (by decide) ⟨by decide, by decide⟩ (Nat.le_of_ble_eq_true rfl) ?_ ?_
    rotate_left
    · exact fun Ex Xx Ix Rx hp => hp.2.2.2.elim
    intro rv Xx I5 Rx hp
    obtain ⟨e1, e2, hp⟩ := hp
    rw [e1, e2]
    clear e1 e2
    obtain ⟨r6, e1, h⟩ := h rv I5 hp
    rw [e1]
    clear e1
    change J 12 [jy r6, .ref a0] _ (0, 0) _ _ _
    obtain ⟨g7, h⟩ := h
    refine jy_if_ne hS rfl g7 (fun hq => ?_) (fun hq => ?_)
    · have h := h.1 hq
      refine jy_iconst hS rfl ?_
      exact jy_join hS h rfl (jy_sub_s (jy_sub_s (jy_sub_n (jy_sub_n (jy_sub_n (jy_sub_n (jy_sub_n (jy_sub_n (jy_sub_n (jy_sub_n (jy_sub_n (jy_sub_n jy_sub_0))))))))))))
    · have h := h.2 hq
      refine jy_iconst hS rfl ?_
      refine jy_goto hS rfl ?_
      exact jy_join hS h rfl (jy_sub_s (jy_sub_s (jy_sub_n (jy_sub_n (jy_sub_n (jy_sub_n (jy_sub_n (jy_sub_n (jy_sub_n (jy_sub_n (jy_sub_n (jy_sub_n jy_sub_0))))))))))))
  refine ⟨?_, ?_, ?_, ?_, ?_, ?_, ?_, ?_⟩
  · intro s0 s1 I h
    unfold wz_286_20 at h
    refine jy_iconst hS rfl ?_
    refine jy_iconst hS rfl ?_
    obtain ⟨g8, h⟩ := h
    obtain ⟨Q9, h⟩ := h
    obtain ⟨g10, h⟩ := h
    refine jy_callV hS rfl rfl rfl (Nat.le_of_ble_eq_true rfl) (Or.inl g8) g10 (by decide) ⟨by decide, by decide⟩ (Nat.le_of_ble_eq_true rfl) ?_ ?_
    rotate_left
    · exact fun Ex Xx Ix Rx hp => hp.2.2.2.elim
    intro rv Xx I11 Rx hp
    obtain ⟨e1, e2, hp⟩ := hp
    rw [e1, e2]
    clear e1 e2
    obtain ⟨r12, e1, h⟩ := h rv I11 hp
    rw [e1]
    clear e1
    change J 25 [jy r12] _ (0, 0) _ _ _
    obtain ⟨g13, h⟩ := h
    refine jy_if_eq hS rfl g13 (fun hq => ?_) (fun hq => ?_)
    · have h := h.1 hq
      refine jy_aload_n hS rfl rfl ?_
      obtain ⟨g14, h⟩ := h
      obtain ⟨q15, h⟩ := h
      obtain ⟨g16, h⟩ := h
      refine jy_getR hS rfl (by decide) g14 g16 ?_
      refine jy_iconst hS rfl ?_
      obtain ⟨n17, h⟩ := h
      obtain ⟨g18, h⟩ := h
      obtain ⟨g19, h⟩ := h
      refine jy_iald hS rfl g18.1 (Nat.le_of_lt g18.2) g19 ?_
      refine jy_bipush hS rfl (by decide) ?_
      obtain ⟨Q20, h⟩ := h
      obtain ⟨g21, h⟩ := h
      refine jy_callS hS rfl rfl rfl (Nat.le_of_ble_eq_true rfl) g21 (by decide) ⟨by decide, by decide⟩ (Nat.le_of_ble_eq_true rfl) ?_ ?_
      rotate_left
      · exact fun Ex Xx Ix Rx hp => hp.2.2.2.elim
      intro rv Xx I22 Rx hp
      obtain ⟨e1, e2, hp⟩ := hp
      rw [e1, e2]
      clear e1 e2
      obtain ⟨r23, e1, h⟩ := h rv I22 hp
      rw [e1]
      clear e1
      change J 41 [jy r23] _ (0, 0) _ _ _
      refine jy_istore_n hS rfl (Nat.le_of_ble_eq_true rfl) (L' := [some (.ref a0), some (jy a1), some (jy r23), none, none, none, none, none, none, none, none, none]) rfl ?_
      refine jy_iconst hS rfl ?_
      refine jy_istore_n hS rfl (Nat.le_of_ble_eq_true rfl) (L' := [some (.ref a0), some (jy a1), some (jy r23), some (jy 1), none, none, none, none, none, none, none, none]) rfl ?_
      refine jy_iconst hS rfl ?_
      refine jy_istore hS rfl (Nat.le_of_ble_eq_true rfl) (L' := [some (.ref a0), some (jy a1), some (jy r23), some (jy 1), some (jy 0), none, none, none, none, none, none, none]) rfl ?_
      refine jy_iconst hS rfl ?_
      refine jy_istore hS rfl (Nat.le_of_ble_eq_true rfl) (L' := [some (.ref a0), some (jy a1), some (jy r23), some (jy 1), some (jy 0), some (jy (-1)), none, none, none, none, none, none]) rfl ?_
      refine jy_iconst hS rfl ?_
      refine jy_iload_n hS rfl rfl ?_
      refine jy_ishlX hS rfl rfl ?_
      refine jy_iconst hS rfl ?_
      refine jy_isub hS rfl ?_
      refine jy_istore hS rfl (Nat.le_of_ble_eq_true rfl) (L' := [some (.ref a0), some (jy a1), some (jy r23), some (jy 1), some (jy 0), some (jy (-1)), some (jy ((Int32.ofInt 1 <<< (Int32.ofInt r23 &&& 31)).toInt - 1)), none, none, none, none, none]) rfl ?_
      refine jy_iconst hS rfl ?_
      refine jy_istore hS rfl (Nat.le_of_ble_eq_true rfl) (L' := [some (.ref a0), some (jy a1), some (jy r23), some (jy 1), some (jy 0), some (jy (-1)), some (jy ((Int32.ofInt 1 <<< (Int32.ofInt r23 &&& 31)).toInt - 1)), some (jy 0), none, none, none, none]) rfl ?_
      refine jy_iconst hS rfl ?_
      refine jy_istore hS rfl (Nat.le_of_ble_eq_true rfl) (L' := [some (.ref a0), some (jy a1), some (jy r23), some (jy 1), some (jy 0), some (jy (-1)), some (jy ((Int32.ofInt 1 <<< (Int32.ofInt r23 &&& 31)).toInt - 1)), some (jy 0), some (jy 0), none, none, none]) rfl ?_
      exact jy_join hS h rfl (jy_sub_s (jy_sub_s (jy_sub_s (jy_sub_s (jy_sub_s (jy_sub_s (jy_sub_s (jy_sub_s (jy_sub_s (jy_sub_n (jy_sub_n (jy_sub_n jy_sub_0))))))))))))
    · have h := h.2 hq
      refine jy_iconst hS rfl ?_
      exact jy_iret hS rfl rfl ⟨rfl, rfl, h⟩
  · intro l2 l3 l4 l5 l6 l7 l8 I h
    unfold wz_286_63 at h
    refine jy_iload hS rfl rfl ?_
    refine jy_iload_n hS rfl rfl ?_
    obtain ⟨g24, h⟩ := h
    obtain ⟨g25, h⟩ := h
    refine jy_icmp_ge hS rfl ⟨g24, g25⟩ (fun hq => ?_) (fun hq => ?_)
    · have h := h.1 hq
      refine jy_iconst hS rfl ?_
      refine jy_istore hS rfl (Nat.le_of_ble_eq_true rfl) (L' := [some (.ref a0), some (jy a1), some (jy l2), some (jy l3), some (jy l4), some (jy l5), some (jy l6), some (jy l7), some (jy 0), none, none, none]) rfl ?_
      exact jy_join hS h rfl (jy_sub_s (jy_sub_s (jy_sub_s (jy_sub_s (jy_sub_s (jy_sub_s (jy_sub_s (jy_sub_s (jy_sub_s (jy_sub_n (jy_sub_n (jy_sub_n jy_sub_0))))))))))))
    · have h := h.2 hq
      refine jy_iload_n hS rfl rfl ?_
      refine jy_bipush hS rfl (by decide) ?_
      refine jy_imul hS rfl ?_
      refine jy_istore_n hS rfl (Nat.le_of_ble_eq_true rfl) (L' := [some (.ref a0), some (jy a1), some (jy l2), some (jy (l3 * 6)), some (jy l4), some (jy l5), some (jy l6), some (jy l7), some (jy l8), none, none, none]) rfl ?_
      refine jy_iinc hS rfl rfl (L' := [some (.ref a0), some (jy a1), some (jy l2), some (jy (l3 * 6)), some (jy l4), some (jy l5), some (jy l6), some (jy l7), some (jy (l8 + 1)), none, none, none]) rfl ?_
      refine jy_goto hS rfl ?_
      exact jy_join hS h rfl (jy_sub_s (jy_sub_s (jy_sub_s (jy_sub_s (jy_sub_s (jy_sub_s (jy_sub_s (jy_sub_s (jy_sub_s (jy_sub_n (jy_sub_n (jy_sub_n jy_sub_0))))))))))))
  · intro l2 l3 l4 l5 l6 l7 l8 I h
    unfold wz_286_83 at h
    refine jy_iload hS rfl rfl ?_
    refine jy_bipush hS rfl (by decide) ?_
    obtain ⟨g26, h⟩ := h
    refine jy_icmp_ge hS rfl ⟨g26, ⟨by decide, by decide⟩⟩ (fun hq => ?_) (fun hq => ?_)
    · have h := h.1 hq
      refine jy_iconst hS rfl ?_
      refine jy_istore hS rfl (Nat.le_of_ble_eq_true rfl) (L' := [some (.ref a0), some (jy a1), some (jy l2), some (jy l3), some (jy l4), some (jy l5), some (jy l6), some (jy l7), some (jy 0), none, none, none]) rfl ?_
      exact jy_join hS h rfl (jy_sub_s (jy_sub_s (jy_sub_s (jy_sub_s (jy_sub_s (jy_sub_s (jy_sub_s (jy_sub_s (jy_sub_s (jy_sub_n (jy_sub_n (jy_sub_n jy_sub_0))))))))))))
    · have h := h.2 hq
      refine jy_aload_n hS rfl rfl ?_
      obtain ⟨g27, h⟩ := h
      obtain ⟨q28, h⟩ := h
      obtain ⟨g29, h⟩ := h
      refine jy_getR hS rfl (by decide) g27 g29 ?_
      refine jy_iload hS rfl rfl ?_
      refine jy_iconst hS rfl ?_
      obtain ⟨n30, h⟩ := h
      obtain ⟨g31, h⟩ := h
      obtain ⟨g32, h⟩ := h
      refine jy_iast hS rfl g31.1 (Nat.le_of_lt g31.2) g32 ?_
      intro I33 e9
      have h := h I33 e9
      clear e9
      refine jy_iinc hS rfl rfl (L' := [some (.ref a0), some (jy a1), some (jy l2), some (jy l3), some (jy l4), some (jy l5), some (jy l6), some (jy l7), some (jy (l8 + 1)), none, none, none]) rfl ?_
      refine jy_goto hS rfl ?_
      exact jy_join hS h rfl (jy_sub_s (jy_sub_s (jy_sub_s (jy_sub_s (jy_sub_s (jy_sub_s (jy_sub_s (jy_sub_s (jy_sub_s (jy_sub_n (jy_sub_n (jy_sub_n jy_sub_0))))))))))))
  · intro l2 l3 l4 l5 l6 l7 l8 I h
    unfold wz_286_107 at h
    refine jy_iload hS rfl rfl ?_
    refine jy_iload_n hS rfl rfl ?_
    obtain ⟨g34, h⟩ := h
    obtain ⟨g35, h⟩ := h
    refine jy_icmp_ge hS rfl ⟨g34, g35⟩ (fun hq => ?_) (fun hq => ?_)
    · have h := h.1 hq
      refine jy_iload_n hS rfl rfl ?_
      refine jy_tsw hS rfl r_a1 (fun hq => ?_) (fun hq8 hq => ?_)
      · have h := h.1 hq
        refine ⟨by decide, ?_⟩
        change J 270 _ _ _ _ _ _
        refine jy_iload hS rfl rfl ?_
        obtain ⟨g36, h⟩ := h
        refine jy_if_ne hS rfl g36 (fun hq => ?_) (fun hq => ?_)
        · have h := h.1 hq
          refine jy_iconst hS rfl ?_
          refine jy_iload_n hS rfl rfl ?_
          refine jy_ishlX hS rfl rfl ?_
          refine jy_iconst hS rfl ?_
          refine jy_isub hS rfl ?_
          refine jy_iload hS rfl rfl ?_
          refine jy_iconst hS rfl ?_
          refine jy_ixorX hS rfl rfl ?_
          refine jy_iandX hS rfl rfl ?_
          exact jy_iret hS rfl rfl ⟨rfl, rfl, h⟩
        · have h := h.2 hq
          refine jy_iconst hS rfl ?_
          refine jy_goto hS rfl ?_
          exact jy_iret hS rfl rfl ⟨rfl, rfl, h⟩
      · have h := h.2
        have hq7 : a1 = 0 ∨ a1 = 1 ∨ a1 = 2 := by omega
        rcases hq7 with hq7 | hq7 | hq7
        · have h := h.1 hq7
          refine ⟨26, by rw [hq7]; rfl, by decide, ?_⟩
          change J 252 _ _ _ _ _ _
          refine jy_iload hS rfl rfl ?_
          exact jy_iret hS rfl rfl ⟨rfl, rfl, h⟩
        · have h := h.2.1 hq7
          refine ⟨29, by rw [hq7]; rfl, by decide, ?_⟩
          change J 255 _ _ _ _ _ _
          refine jy_iload hS rfl rfl ?_
          exact jy_iret hS rfl rfl ⟨rfl, rfl, h⟩
        · have h := h.2.2 hq7
          refine ⟨32, by rw [hq7]; rfl, by decide, ?_⟩
          change J 258 _ _ _ _ _ _
          refine jy_iload hS rfl rfl ?_
          obtain ⟨g37, h⟩ := h
          refine jy_if_ne hS rfl g37 (fun hq => ?_) (fun hq => ?_)
          · have h := h.1 hq
            refine jy_iload hS rfl rfl ?_
            exact jy_iret hS rfl rfl ⟨rfl, rfl, h⟩
          · have h := h.2 hq
            refine jy_iconst hS rfl ?_
            refine jy_goto hS rfl ?_
            exact jy_iret hS rfl rfl ⟨rfl, rfl, h⟩
    · have h := h.2 hq
      refine jy_iload hS rfl rfl ?_
      refine jy_istore hS rfl (Nat.le_of_ble_eq_true rfl) (L' := [some (.ref a0), some (jy a1), some (jy l2), some (jy l3), some (jy l4), some (jy l5), some (jy l6), some (jy l7), some (jy l8), some (jy l8), none, none]) rfl ?_
      refine jy_iconst hS rfl ?_
      refine jy_istore hS rfl (Nat.le_of_ble_eq_true rfl) (L' := [some (.ref a0), some (jy a1), some (jy l2), some (jy l3), some (jy l4), some (jy l5), some (jy l6), some (jy l7), some (jy l8), some (jy l8), some (jy 0), none]) rfl ?_
      refine jy_iload_n hS rfl rfl ?_
      refine jy_iconst hS rfl ?_
      refine jy_isub hS rfl ?_
      refine jy_istore hS rfl (Nat.le_of_ble_eq_true rfl) (L' := [some (.ref a0), some (jy a1), some (jy l2), some (jy l3), some (jy l4), some (jy l5), some (jy l6), some (jy l7), some (jy l8), some (jy l8), some (jy 0), some (jy (l2 - 1))]) rfl ?_
      exact jy_join hS h rfl (jy_sub_s (jy_sub_s (jy_sub_s (jy_sub_s (jy_sub_s (jy_sub_s (jy_sub_s (jy_sub_s (jy_sub_s (jy_sub_s (jy_sub_s (jy_sub_s jy_sub_0))))))))))))
  · intro l2 l3 l4 l5 l6 l7 l8 l9 l10 l11 I h
    unfold wz_286_125 at h
    refine jy_iload hS rfl rfl ?_
    obtain ⟨g38, h⟩ := h
    refine jy_if_lt hS rfl g38 (fun hq => ?_) (fun hq => ?_)
    · have h := h.1 hq
      refine jy_aload_n hS rfl rfl ?_
      obtain ⟨g39, h⟩ := h
      obtain ⟨Q40, h⟩ := h
      obtain ⟨g41, h⟩ := h
      refine jy_callV hS rfl rfl rfl (Nat.le_of_ble_eq_true rfl) (Or.inl g39) g41 (by decide) ⟨by decide, by decide⟩ (Nat.le_of_ble_eq_true rfl) ?_ ?_
      rotate_left
      · exact fun Ex Xx Ix Rx hp => hp.2.2.2.elim
      intro rv Xx I42 Rx hp
      obtain ⟨e1, e2, hp⟩ := hp
      rw [e1, e2]
      clear e1 e2
      obtain ⟨r43, e1, h⟩ := h rv I42 hp
      rw [e1]
      clear e1
      change J 182 [jy r43] _ (0, 0) _ _ _
      obtain ⟨g44, h⟩ := h
      refine jy_if_ne hS rfl g44 (fun hq => ?_) (fun hq => ?_)
      · have h := h.1 hq
        refine jy_iload hS rfl rfl ?_
        obtain ⟨g45, h⟩ := h
        refine jy_if_ne hS rfl g45 (fun hq => ?_) (fun hq => ?_)
        · have h := h.1 hq
          refine jy_iload hS rfl rfl ?_
          exact jy_join hS h rfl (jy_sub_s (jy_sub_s (jy_sub_s (jy_sub_s (jy_sub_s (jy_sub_n (jy_sub_s (jy_sub_s (jy_sub_s (jy_sub_n (jy_sub_s (jy_sub_n jy_sub_0))))))))))))
        · have h := h.2 hq
          refine jy_iload hS rfl rfl ?_
          refine jy_goto hS rfl ?_
          exact jy_join hS h rfl (jy_sub_s (jy_sub_s (jy_sub_s (jy_sub_s (jy_sub_s (jy_sub_n (jy_sub_s (jy_sub_s (jy_sub_s (jy_sub_n (jy_sub_s (jy_sub_n jy_sub_0))))))))))))
      · have h := h.2 hq
        refine jy_goto hS rfl ?_
        exact jy_join hS h rfl (jy_sub_s (jy_sub_s (jy_sub_s (jy_sub_s (jy_sub_s (jy_sub_s (jy_sub_s (jy_sub_s (jy_sub_s (jy_sub_n (jy_sub_n (jy_sub_n jy_sub_0))))))))))))
    · have h := h.2 hq
      refine jy_aload_n hS rfl rfl ?_
      obtain ⟨g46, h⟩ := h
      obtain ⟨q47, h⟩ := h
      obtain ⟨g48, h⟩ := h
      refine jy_getR hS rfl (by decide) g46 g48 ?_
      refine jy_iload hS rfl rfl ?_
      refine jy_iload hS rfl rfl ?_
      refine jy_bipush hS rfl (by decide) ?_
      refine jy_iremX hS rfl ⟨⟨by decide, by decide⟩, by decide⟩ rfl ?_
      obtain ⟨n49, h⟩ := h
      obtain ⟨g50, h⟩ := h
      obtain ⟨g51, h⟩ := h
      refine jy_iast hS rfl g50.1 (Nat.le_of_lt g50.2) g51 ?_
      intro I52 e9
      have h := h I52 e9
      clear e9
      refine jy_iload hS rfl rfl ?_
      refine jy_bipush hS rfl (by decide) ?_
      refine jy_idivX hS rfl ⟨⟨by decide, by decide⟩, by decide⟩ rfl ?_
      refine jy_istore hS rfl (Nat.le_of_ble_eq_true rfl) (L' := [some (.ref a0), some (jy a1), some (jy l2), some (jy l3), some (jy l4), some (jy l5), some (jy l6), some (jy l7), some (jy l8), some (jy ((Int32.ofInt l9 / Int32.ofInt 6).toInt)), some (jy l10), some (jy l11)]) rfl ?_
      refine jy_iload hS rfl rfl ?_
      refine jy_aload_n hS rfl rfl ?_
      refine jy_getR hS rfl (by decide) g46 g48 ?_
      refine jy_iload hS rfl rfl ?_
      obtain ⟨g53, h⟩ := h
      refine jy_iald hS rfl g50.1 (Nat.le_of_lt g50.2) g53 ?_
      refine jy_if_le hS rfl (jy_rng _) (fun hq => ?_) (fun hq => ?_)
      · have h := h.1 hq
        refine jy_iconst hS rfl ?_
        exact jy_join hS h rfl (jy_sub_s (jy_sub_s (jy_sub_s (jy_sub_s (jy_sub_s (jy_sub_s (jy_sub_s (jy_sub_s (jy_sub_s (jy_sub_s (jy_sub_n (jy_sub_s jy_sub_0))))))))))))
      · have h := h.2 hq
        refine jy_iconst hS rfl ?_
        refine jy_iload hS rfl rfl ?_
        refine jy_ishlX hS rfl rfl ?_
        refine jy_goto hS rfl ?_
        exact jy_join hS h rfl (jy_sub_s (jy_sub_s (jy_sub_s (jy_sub_s (jy_sub_s (jy_sub_s (jy_sub_s (jy_sub_s (jy_sub_s (jy_sub_s (jy_sub_n (jy_sub_s jy_sub_0))))))))))))
  · intro s0 s1 l2 l3 l4 l5 l6 l7 l8 l9 l11 I h
    unfold wz_286_169 at h
    refine jy_iorX hS rfl rfl ?_
    refine jy_istore hS rfl (Nat.le_of_ble_eq_true rfl) (L' := [some (.ref a0), some (jy a1), some (jy l2), some (jy l3), some (jy l4), some (jy l5), some (jy l6), some (jy l7), some (jy l8), some (jy l9), some (jy ((Int32.ofInt s0 ||| Int32.ofInt s1).toInt)), some (jy l11)]) rfl ?_
    refine jy_iinc hS rfl rfl (L' := [some (.ref a0), some (jy a1), some (jy l2), some (jy l3), some (jy l4), some (jy l5), some (jy l6), some (jy l7), some (jy l8), some (jy l9), some (jy ((Int32.ofInt s0 ||| Int32.ofInt s1).toInt)), some (jy (l11 + (-1)))]) rfl ?_
    refine jy_goto hS rfl ?_
    exact jy_join hS h rfl (jy_sub_s (jy_sub_s (jy_sub_s (jy_sub_s (jy_sub_s (jy_sub_s (jy_sub_s (jy_sub_s (jy_sub_s (jy_sub_s (jy_sub_s (jy_sub_s jy_sub_0))))))))))))
  · intro s0 l2 l3 l4 l6 l7 l8 l10 I h
    unfold wz_286_200 at h
    refine jy_istore hS rfl (Nat.le_of_ble_eq_true rfl) (L' := [some (.ref a0), some (jy a1), some (jy l2), some (jy l3), some (jy l4), some (jy s0), some (jy l6), some (jy l7), some (jy l8), none, some (jy l10), none]) rfl ?_
    refine jy_iinc hS rfl rfl (L' := [some (.ref a0), some (jy a1), some (jy l2), some (jy l3), some (jy (l4 + 1)), some (jy s0), some (jy l6), some (jy l7), some (jy l8), none, some (jy l10), none]) rfl ?_
    refine jy_iload hS rfl rfl ?_
    refine jy_iload hS rfl rfl ?_
    refine jy_iandX hS rfl rfl ?_
    refine jy_istore hS rfl (Nat.le_of_ble_eq_true rfl) (L' := [some (.ref a0), some (jy a1), some (jy l2), some (jy l3), some (jy (l4 + 1)), some (jy s0), some (jy ((Int32.ofInt l6 &&& Int32.ofInt l10).toInt)), some (jy l7), some (jy l8), none, some (jy l10), none]) rfl ?_
    refine jy_iload hS rfl rfl ?_
    refine jy_iload hS rfl rfl ?_
    refine jy_iorX hS rfl rfl ?_
    refine jy_istore hS rfl (Nat.le_of_ble_eq_true rfl) (L' := [some (.ref a0), some (jy a1), some (jy l2), some (jy l3), some (jy (l4 + 1)), some (jy s0), some (jy ((Int32.ofInt l6 &&& Int32.ofInt l10).toInt)), some (jy ((Int32.ofInt l7 ||| Int32.ofInt l10).toInt)), some (jy l8), none, some (jy l10), none]) rfl ?_
    exact jy_join hS h rfl (jy_sub_s (jy_sub_s (jy_sub_s (jy_sub_s (jy_sub_s (jy_sub_s (jy_sub_s (jy_sub_s (jy_sub_s (jy_sub_n (jy_sub_n (jy_sub_n jy_sub_0))))))))))))
  · intro l2 l3 l4 l5 l6 l7 l8 I h
    unfold wz_286_219 at h
    refine jy_iinc hS rfl rfl (L' := [some (.ref a0), some (jy a1), some (jy l2), some (jy l3), some (jy l4), some (jy l5), some (jy l6), some (jy l7), some (jy (l8 + 1)), none, none, none]) rfl ?_
    refine jy_goto hS rfl ?_
    exact jy_join hS h rfl (jy_sub_s (jy_sub_s (jy_sub_s (jy_sub_s (jy_sub_s (jy_sub_s (jy_sub_s (jy_sub_s (jy_sub_s (jy_sub_n (jy_sub_n (jy_sub_n jy_sub_0))))))))))))
theorem jt_287 : jx_ml 287 = 5 ∧ jx_rt 287 = some .int ∧ jx_hz 287 = [] ∧ decide ((jx_nm 287).name = "<init>") = false ∧ jx_code 287 = jx_c287 := by decide +kernel
/-- GCModel.mostOf, from 5 -/
def wz_287_5 (V : jx_V) (X : jx_X) (R : jx_R) (Q : Option Value → jx_I → Prop) (QE : String → jx_I → Prop) (J5 : Int → Int → jx_I → Prop) (J52 : Int → Int → jx_I → Prop) (a0 : Nat) (a1 : Int) (a2 : Int) (l3 : Int) (l4 : Int) (I : jx_I) : Prop :=
  (X.2.1 a0 = some (12, 0)) ∧ (
  ∃ q2 : Nat, (
  (R a0 11 = some q2) ∧ (
  ∃ n4 : Nat, (
  (X.2.1 q2 = some (100, n4) ∧ n4 < 2147483648) ∧ (
  (0 ≤ (1 : Int) ∧ (1 : Int) < n4) ∧ (
  (-2147483648 ≤ l4 ∧ l4 < 2147483648) ∧ (
  ((I q2 (1 : Int).toNat).toInt ≤ l4 → (
    Q (some (jy l3)) I
  )) ∧ (¬ (I q2 (1 : Int).toNat).toInt ≤ l4 → (
    ((Int32.ofInt ((Int32.ofInt a1 >>> (Int32.ofInt l4 &&& 31)).toInt) &&& Int32.ofInt 1).toInt ≠ 1 → (
      J52 l3 l4 I
    )) ∧ ((Int32.ofInt ((Int32.ofInt a1 >>> (Int32.ofInt l4 &&& 31)).toInt) &&& Int32.ofInt 1).toInt = 1 → (
      ∃ q8 : Nat, (
      (R a0 29 = some q8) ∧ (
      ∃ n10 : Nat, (
      (X.2.1 q8 = some (104, n10) ∧ n10 < 2147483648) ∧ (
      (0 ≤ l4 ∧ l4 < n10) ∧ (
      ∃ q13 : Nat, (
      (R q8 l4.toNat = some q13) ∧ (
      ∃ n15 : Nat, (
      (X.2.1 q13 = some (100, n15) ∧ n15 < 2147483648) ∧ (
      (0 ≤ a2 ∧ a2 < n15) ∧ (
      (-2147483648 ≤ l3 ∧ l3 < 2147483648) ∧ (
      ((I q13 a2.toNat).toInt ≤ l3 → (
        J52 l3 l4 I
      )) ∧ (¬ (I q13 a2.toNat).toInt ≤ l3 → (
        (0 ≤ l4 ∧ l4 < n10) ∧ (
        ∃ q20 : Nat, (
        (R q8 l4.toNat = some q20) ∧ (
        ∃ n22 : Nat, (
        (X.2.1 q20 = some (100, n22) ∧ n22 < 2147483648) ∧ (
        (0 ≤ a2 ∧ a2 < n22) ∧ (
        J52 ((I q20 a2.toNat).toInt) l4 I))))))
      )))))))))))))
    ))
  )))))))))
/-- GCModel.mostOf, from 52 -/
def wz_287_52 (V : jx_V) (X : jx_X) (R : jx_R) (Q : Option Value → jx_I → Prop) (QE : String → jx_I → Prop) (J5 : Int → Int → jx_I → Prop) (J52 : Int → Int → jx_I → Prop) (a0 : Nat) (a1 : Int) (a2 : Int) (s0 : Int) (l4 : Int) (I : jx_I) : Prop :=
  J5 s0 (l4 + 1) I
/-- GCModel.mostOf -/
def wz_287 (V : jx_V) (X : jx_X) (R : jx_R) (Q : Option Value → jx_I → Prop) (QE : String → jx_I → Prop) (J5 : Int → Int → jx_I → Prop) (J52 : Int → Int → jx_I → Prop) (a0 : Nat) (a1 : Int) (a2 : Int) (I : jx_I) : Prop :=
  J5 0 0 I
set_option maxRecDepth 20000 in
theorem wm_287 {V : jx_V} (hV : V.1.stackTraces = false) {X : jx_X} {R : jx_R} {I : jx_I} {Q : Option Value → jx_I → Prop} {QE : String → jx_I → Prop} {a0 : Nat} {a1 : Int} {a2 : Int} (r_a1 : -2147483648 ≤ a1 ∧ a1 < 2147483648) (r_a2 : -2147483648 ≤ a2 ∧ a2 < 2147483648) 
    (h : ∀ (J5 : Int → Int → jx_I → Prop) (J52 : Int → Int → jx_I → Prop), ((∀ (l3 : Int) (l4 : Int) I, wz_287_5 V X R Q QE J5 J52 a0 a1 a2 l3 l4 I → J5 l3 l4 I) ∧ (∀ (s0 : Int) (l4 : Int) I, wz_287_52 V X R Q QE J5 J52 a0 a1 a2 s0 l4 I → J52 s0 l4 I)) → wz_287 V X R Q QE J5 J52 a0 a1 a2 I) : jc V 1 287 (0, 0) [.ref a0, jy a1, jy a2] X I R Q QE := by
  refine jy_met hV (by decide) (n := 5) (rt := some .int) (hh := []) (ini := false) (C := jx_c287) (L := [some (.ref a0), some (jy a1), some (jy a2), none, none]) jt_287 (Nat.le_of_ble_eq_true rfl) rfl ?_
  intro J hS
  have h := h (fun l3 l4 I => J 5 [] [some (.ref a0), some (jy a1), some (jy a2), some (jy l3), some (jy l4)] (0, 0) X I R) (fun s0 l4 I => J 52 [jy s0] [some (.ref a0), some (jy a1), some (jy a2), none, some (jy l4)] (0, 0) X I R) ?_
  · unfold wz_287 at h
    refine jy_iconst hS rfl ?_
    refine jy_istore_n hS rfl (Nat.le_of_ble_eq_true rfl) (L' := [some (.ref a0), some (jy a1), some (jy a2), some (jy 0), none]) rfl ?_
    refine jy_iconst hS rfl ?_
    refine jy_istore hS rfl (Nat.le_of_ble_eq_true rfl) (L' := [some (.ref a0), some (jy a1), some (jy a2), some (jy 0), some (jy 0)]) rfl ?_
    exact jy_join hS h rfl (jy_sub_s (jy_sub_s (jy_sub_s (jy_sub_s (jy_sub_s jy_sub_0)))))
  refine ⟨?_, ?_⟩
  · intro l3 l4 I h
    unfold wz_287_5 at h
    refine jy_iload hS rfl rfl ?_
    refine jy_aload_n hS rfl rfl ?_
    obtain ⟨g1, h⟩ := h
    obtain ⟨q2, h⟩ := h
    obtain ⟨g3, h⟩ := h
    refine jy_getR hS rfl (by decide) g1 g3 ?_
    refine jy_iconst hS rfl ?_
    obtain ⟨n4, h⟩ := h
    obtain ⟨g5, h⟩ := h
    obtain ⟨g6, h⟩ := h
    refine jy_iald hS rfl g5.1 (Nat.le_of_lt g5.2) g6 ?_
    obtain ⟨g7, h⟩ := h
    refine jy_icmp_ge hS rfl ⟨g7, (jy_rng _)⟩ (fun hq => ?_) (fun hq => ?_)
    · have h := h.1 hq
      refine jy_iload_n hS rfl rfl ?_
      exact jy_iret hS rfl rfl ⟨rfl, rfl, h⟩
    · have h := h.2 hq
      refine jy_iload_n hS rfl rfl ?_
      refine jy_iload hS rfl rfl ?_
      refine jy_ishrX hS rfl rfl ?_
      refine jy_iconst hS rfl ?_
      refine jy_iandX hS rfl rfl ?_
      refine jy_iconst hS rfl ?_
      refine jy_icmp_ne hS rfl ⟨(jy_rng _), ⟨by decide, by decide⟩⟩ (fun hq => ?_) (fun hq => ?_)
      · have h := h.1 hq
        refine jy_iload_n hS rfl rfl ?_
        exact jy_join hS h rfl (jy_sub_s (jy_sub_s (jy_sub_s (jy_sub_n (jy_sub_s jy_sub_0)))))
      · have h := h.2 hq
        refine jy_aload_n hS rfl rfl ?_
        obtain ⟨q8, h⟩ := h
        obtain ⟨g9, h⟩ := h
        refine jy_getR hS rfl (by decide) g1 g9 ?_
        refine jy_iload hS rfl rfl ?_
        obtain ⟨n10, h⟩ := h
        obtain ⟨g11, h⟩ := h
        obtain ⟨g12, h⟩ := h
        obtain ⟨q13, h⟩ := h
        obtain ⟨g14, h⟩ := h
        refine jy_aald hS rfl g11.1 (by decide) (Nat.le_of_lt g11.2) g12 g14 ?_
        refine jy_iload_n hS rfl rfl ?_
        obtain ⟨n15, h⟩ := h
        obtain ⟨g16, h⟩ := h
        obtain ⟨g17, h⟩ := h
        refine jy_iald hS rfl g16.1 (Nat.le_of_lt g16.2) g17 ?_
        refine jy_iload_n hS rfl rfl ?_
        obtain ⟨g18, h⟩ := h
        refine jy_icmp_le hS rfl ⟨(jy_rng _), g18⟩ (fun hq => ?_) (fun hq => ?_)
        · have h := h.1 hq
          refine jy_iload_n hS rfl rfl ?_
          exact jy_join hS h rfl (jy_sub_s (jy_sub_s (jy_sub_s (jy_sub_n (jy_sub_s jy_sub_0)))))
        · have h := h.2 hq
          refine jy_aload_n hS rfl rfl ?_
          refine jy_getR hS rfl (by decide) g1 g9 ?_
          refine jy_iload hS rfl rfl ?_
          obtain ⟨g19, h⟩ := h
          obtain ⟨q20, h⟩ := h
          obtain ⟨g21, h⟩ := h
          refine jy_aald hS rfl g11.1 (by decide) (Nat.le_of_lt g11.2) g19 g21 ?_
          refine jy_iload_n hS rfl rfl ?_
          obtain ⟨n22, h⟩ := h
          obtain ⟨g23, h⟩ := h
          obtain ⟨g24, h⟩ := h
          refine jy_iald hS rfl g23.1 (Nat.le_of_lt g23.2) g24 ?_
          refine jy_goto hS rfl ?_
          exact jy_join hS h rfl (jy_sub_s (jy_sub_s (jy_sub_s (jy_sub_n (jy_sub_s jy_sub_0)))))
  · intro s0 l4 I h
    unfold wz_287_52 at h
    refine jy_istore_n hS rfl (Nat.le_of_ble_eq_true rfl) (L' := [some (.ref a0), some (jy a1), some (jy a2), some (jy s0), some (jy l4)]) rfl ?_
    refine jy_iinc hS rfl rfl (L' := [some (.ref a0), some (jy a1), some (jy a2), some (jy s0), some (jy (l4 + 1))]) rfl ?_
    refine jy_goto hS rfl ?_
    exact jy_join hS h rfl (jy_sub_s (jy_sub_s (jy_sub_s (jy_sub_s (jy_sub_s jy_sub_0)))))
