/-! ===== the law: its calls that may be refused ===== -/
/-- contracts of methods that throw nothing; longs may change -/
def je (V : jx_V) (d z : Nat) (b : Nat × Nat) (As : List Value) (X : jx_X) (I : jx_I) (R : jx_R) (Q : Option Value → (Nat → Nat → Int64) → jx_I → jx_R → Prop) : Prop := jx_Met V d z b As X I R (fun rv X' I' R' => X.1 ≤ X'.1 ∧ X'.2.1 = X.2.1 ∧ Q rv X'.2.2 I' R') (fun _ _ _ _ => False)
/-- a call of the class behind the law's hand: 0 and the answer, or which refusal -/
def WQA (X : jx_X) (R0 : jx_R) (I0 : jx_I) (b u : Nat) (e : Option (Nat × Int)) (v : Int64) (s s' : YZ) : Option Value → (Nat → Nat → Int64) → jx_I → jx_R → Prop := fun rv G' I' R' => (e = none ∧ rv = some (jy 0) ∧ G' u 0 = v ∧ CI X R' I' b s' ∧ ZG s' ∧ FB b 147 I0 I' R0 R') ∨ ∃ k w, e = some (k, w) ∧ rv = some (jy w) ∧ CI X R' I' b (yzR s k) ∧ FB b 147 I0 I' R0 R'
theorem jx_kx_h {hh : List (Nat × Nat × Nat × Nat)} {J : jx_Jt} {KX : String → Nat × Nat → jx_X → jx_I → jx_R → Prop} {pc : Nat} {L : List (Option Value)} {b : Nat × Nat} {X : jx_X} {I : jx_I} {R : jx_R} {k h : Nat} (hk : k < 4) (hne : hh ≠ []) (hf : jx_hf hh pc jx_ct (jx_exe k).1 = some h) (hJ : ∀ q : Nat, J h [.ref q] L b X I R) : jx_kx hh J KX pc L b (jx_exe k).1 X I R := by
  cases hh with
  | nil => exact absurd rfl hne
  | cons h0 hr =>
    refine ⟨⟨k, hk, rfl⟩, ?_⟩
    rw [hf]
    exact hJ
theorem jt_337 : jx_ml 337 = 4 ∧ jx_rt 337 = some .int ∧ jx_hz 337 = [(0, 9, 12, 13)] ∧ decide ((jx_nm 337).name = "<init>") = false ∧ jx_code 337 = jx_c337 := by decide +kernel
set_option maxRecDepth 20000 in
theorem wr_1 {V : jx_V} (hV : V.1.stackTraces = false) {X : jx_X} {R : jx_R} {I : jx_I} {a0 u : Nat} {a1 : Int} {e : Option (Nat × Int)} {v : Int} {s s' : YZ} (hx : X.2.1 a0 = some (11, 0)) (ho : X.2.1 u = some (101, 1)) (hM : jp V 203 136 (1, 6) [.ref a0, jy a1] X I R (KQ X R I a0 e (jy v) s') (KE X R I a0 e s)) (he : ∀ k w, e = some (k, w) → (k, w) ∈ [((2 : Nat), (1 : Int))]) : je V 204 337 (1, 6) [.ref a0, jy a1, .ref u] X I R (WQA X R I a0 u e (Int32.ofInt v).toInt64 s s') := by
  obtain ⟨Q0, QE0, hM, h1, h2⟩ := hM
  refine jy_met hV (by decide) (n := 4) (rt := some .int) (hh := [(0, 9, 12, 13)]) (ini := false) (C := jx_c337) (L := [some (.ref a0), some (jy a1), some (.ref u), none]) jt_337 (Nat.le_of_ble_eq_true rfl) rfl ?_
  intro J hS
  refine jy_aload_n hS rfl rfl ?_
  refine jy_iconst hS rfl ?_
  refine jy_aload_n hS rfl rfl ?_
  refine jy_iload_n hS rfl rfl ?_
  refine jy_callV hS rfl rfl rfl (Nat.le_of_ble_eq_true rfl) (Or.inl hx) hM (by decide) ⟨Nat.le_refl _, Nat.le_refl _⟩ (Nat.le_of_ble_eq_true rfl) ?_ ?_
  · rintro rv X' I' R' ⟨rfl, hq⟩
    obtain ⟨g1, rfl, g2, g3, g4⟩ := h1 _ _ _ hq
    change J 7 [jy v, jy 0, .ref u] _ _ _ _ _
    refine jy_i2l hS rfl rfl ?_
    refine jy_last hS rfl ho (by decide) (by omega) ?_
    refine jy_goto hS rfl ?_
    refine jy_iconst hS rfl ?_
    exact jy_iret hS rfl rfl ⟨Nat.le_refl _, rfl, Or.inl ⟨g1, rfl, jx_u_s _ _ _ _, g2, g3, g4⟩⟩
  · rintro E X' I' R' ⟨x1, x2, hq⟩
    obtain ⟨k, w, g1, rfl, g2, g3⟩ := h2 _ _ _ hq
    have hm := he k w g1
    simp only [List.mem_cons, Prod.mk.injEq, List.not_mem_nil, or_false] at hm
    rcases hm with ⟨rfl, rfl⟩
    · refine jx_kx_h (by decide) (by decide) (h := 12) (by decide +kernel) (fun q => ?_)
      refine jy_astore_n hS rfl (Nat.le_of_ble_eq_true rfl) (L' := [some (.ref a0), some (jy a1), some (.ref u), some (.ref q)]) rfl ?_
      refine jy_iconst hS rfl ?_
      exact jy_iret hS rfl rfl ⟨x1, by rw [x2], Or.inr ⟨_, _, g1, rfl, g2, g3⟩⟩
theorem jt_338 : jx_ml 338 = 4 ∧ jx_rt 338 = some .int ∧ jx_hz 338 = [(0, 9, 12, 13)] ∧ decide ((jx_nm 338).name = "<init>") = false ∧ jx_code 338 = jx_c338 := by decide +kernel
set_option maxRecDepth 20000 in
theorem wr_3 {V : jx_V} (hV : V.1.stackTraces = false) {X : jx_X} {R : jx_R} {I : jx_I} {a0 u : Nat} {a1 : Int} {e : Option (Nat × Int)} {v : Int} {s s' : YZ} (hx : X.2.1 a0 = some (11, 0)) (ho : X.2.1 u = some (101, 1)) (hM : jp V 9 138 (1, 6) [.ref a0, jy a1] X I R (KQ X R I a0 e (jy v) s') (KE X R I a0 e s)) (he : ∀ k w, e = some (k, w) → (k, w) ∈ [((2 : Nat), (1 : Int))]) : je V 10 338 (1, 6) [.ref a0, jy a1, .ref u] X I R (WQA X R I a0 u e (Int32.ofInt v).toInt64 s s') := by
  obtain ⟨Q0, QE0, hM, h1, h2⟩ := hM
  refine jy_met hV (by decide) (n := 4) (rt := some .int) (hh := [(0, 9, 12, 13)]) (ini := false) (C := jx_c338) (L := [some (.ref a0), some (jy a1), some (.ref u), none]) jt_338 (Nat.le_of_ble_eq_true rfl) rfl ?_
  intro J hS
  refine jy_aload_n hS rfl rfl ?_
  refine jy_iconst hS rfl ?_
  refine jy_aload_n hS rfl rfl ?_
  refine jy_iload_n hS rfl rfl ?_
  refine jy_callV hS rfl rfl rfl (Nat.le_of_ble_eq_true rfl) (Or.inl hx) hM (by decide) ⟨Nat.le_refl _, Nat.le_refl _⟩ (Nat.le_of_ble_eq_true rfl) ?_ ?_
  · rintro rv X' I' R' ⟨rfl, hq⟩
    obtain ⟨g1, rfl, g2, g3, g4⟩ := h1 _ _ _ hq
    change J 7 [jy v, jy 0, .ref u] _ _ _ _ _
    refine jy_i2l hS rfl rfl ?_
    refine jy_last hS rfl ho (by decide) (by omega) ?_
    refine jy_goto hS rfl ?_
    refine jy_iconst hS rfl ?_
    exact jy_iret hS rfl rfl ⟨Nat.le_refl _, rfl, Or.inl ⟨g1, rfl, jx_u_s _ _ _ _, g2, g3, g4⟩⟩
  · rintro E X' I' R' ⟨x1, x2, hq⟩
    obtain ⟨k, w, g1, rfl, g2, g3⟩ := h2 _ _ _ hq
    have hm := he k w g1
    simp only [List.mem_cons, Prod.mk.injEq, List.not_mem_nil, or_false] at hm
    rcases hm with ⟨rfl, rfl⟩
    · refine jx_kx_h (by decide) (by decide) (h := 12) (by decide +kernel) (fun q => ?_)
      refine jy_astore_n hS rfl (Nat.le_of_ble_eq_true rfl) (L' := [some (.ref a0), some (jy a1), some (.ref u), some (.ref q)]) rfl ?_
      refine jy_iconst hS rfl ?_
      exact jy_iret hS rfl rfl ⟨x1, by rw [x2], Or.inr ⟨_, _, g1, rfl, g2, g3⟩⟩
theorem jt_339 : jx_ml 339 = 4 ∧ jx_rt 339 = some .int ∧ jx_hz 339 = [(0, 9, 12, 21)] ∧ decide ((jx_nm 339).name = "<init>") = false ∧ jx_code 339 = jx_c339 := by decide +kernel
set_option maxRecDepth 20000 in
theorem wr_4 {V : jx_V} (hV : V.1.stackTraces = false) {X : jx_X} {R : jx_R} {I : jx_I} {a0 u : Nat} {a1 : Int} {e : Option (Nat × Int)} {v : Int} {s s' : YZ} (hx : X.2.1 a0 = some (11, 0)) (ho : X.2.1 u = some (101, 1)) (hM : jp V 9 139 (1, 6) [.ref a0, jy a1] X I R (KQ X R I a0 e (jy v) s') (KE X R I a0 e s)) (he : ∀ k w, e = some (k, w) → (k, w) ∈ [((0 : Nat), (1 : Int))]) : je V 10 339 (1, 6) [.ref a0, jy a1, .ref u] X I R (WQA X R I a0 u e (Int32.ofInt v).toInt64 s s') := by
  obtain ⟨Q0, QE0, hM, h1, h2⟩ := hM
  refine jy_met hV (by decide) (n := 4) (rt := some .int) (hh := [(0, 9, 12, 21)]) (ini := false) (C := jx_c339) (L := [some (.ref a0), some (jy a1), some (.ref u), none]) jt_339 (Nat.le_of_ble_eq_true rfl) rfl ?_
  intro J hS
  refine jy_aload_n hS rfl rfl ?_
  refine jy_iconst hS rfl ?_
  refine jy_aload_n hS rfl rfl ?_
  refine jy_iload_n hS rfl rfl ?_
  refine jy_callV hS rfl rfl rfl (Nat.le_of_ble_eq_true rfl) (Or.inl hx) hM (by decide) ⟨Nat.le_refl _, Nat.le_refl _⟩ (Nat.le_of_ble_eq_true rfl) ?_ ?_
  · rintro rv X' I' R' ⟨rfl, hq⟩
    obtain ⟨g1, rfl, g2, g3, g4⟩ := h1 _ _ _ hq
    change J 7 [jy v, jy 0, .ref u] _ _ _ _ _
    refine jy_i2l hS rfl rfl ?_
    refine jy_last hS rfl ho (by decide) (by omega) ?_
    refine jy_goto hS rfl ?_
    refine jy_iconst hS rfl ?_
    exact jy_iret hS rfl rfl ⟨Nat.le_refl _, rfl, Or.inl ⟨g1, rfl, jx_u_s _ _ _ _, g2, g3, g4⟩⟩
  · rintro E X' I' R' ⟨x1, x2, hq⟩
    obtain ⟨k, w, g1, rfl, g2, g3⟩ := h2 _ _ _ hq
    have hm := he k w g1
    simp only [List.mem_cons, Prod.mk.injEq, List.not_mem_nil, or_false] at hm
    rcases hm with ⟨rfl, rfl⟩
    · refine jx_kx_h (by decide) (by decide) (h := 12) (by decide +kernel) (fun q => ?_)
      refine jy_astore_n hS rfl (Nat.le_of_ble_eq_true rfl) (L' := [some (.ref a0), some (jy a1), some (.ref u), some (.ref q)]) rfl ?_
      refine jy_iconst hS rfl ?_
      exact jy_iret hS rfl rfl ⟨x1, by rw [x2], Or.inr ⟨_, _, g1, rfl, g2, g3⟩⟩
theorem jt_340 : jx_ml 340 = 5 ∧ jx_rt 340 = some .int ∧ jx_hz 340 = [(0, 10, 13, 21)] ∧ decide ((jx_nm 340).name = "<init>") = false ∧ jx_code 340 = jx_c340 := by decide +kernel
set_option maxRecDepth 20000 in
theorem wr_5 {V : jx_V} (hV : V.1.stackTraces = false) {X : jx_X} {R : jx_R} {I : jx_I} {a0 u : Nat} {a1 : Int} {a2 : Int} {e : Option (Nat × Int)} {v : Int} {s s' : YZ} (hx : X.2.1 a0 = some (11, 0)) (ho : X.2.1 u = some (101, 1)) (hM : jp V 9 140 (2, 12) [.ref a0, jy a1, jy a2] X I R (KQ X R I a0 e (jy v) s') (KE X R I a0 e s)) (he : ∀ k w, e = some (k, w) → (k, w) ∈ [((0 : Nat), (1 : Int))]) : je V 10 340 (2, 12) [.ref a0, jy a1, jy a2, .ref u] X I R (WQA X R I a0 u e (Int32.ofInt v).toInt64 s s') := by
  obtain ⟨Q0, QE0, hM, h1, h2⟩ := hM
  refine jy_met hV (by decide) (n := 5) (rt := some .int) (hh := [(0, 10, 13, 21)]) (ini := false) (C := jx_c340) (L := [some (.ref a0), some (jy a1), some (jy a2), some (.ref u), none]) jt_340 (Nat.le_of_ble_eq_true rfl) rfl ?_
  intro J hS
  refine jy_aload_n hS rfl rfl ?_
  refine jy_iconst hS rfl ?_
  refine jy_aload_n hS rfl rfl ?_
  refine jy_iload_n hS rfl rfl ?_
  refine jy_iload_n hS rfl rfl ?_
  refine jy_callV hS rfl rfl rfl (Nat.le_of_ble_eq_true rfl) (Or.inl hx) hM (by decide) ⟨Nat.le_refl _, Nat.le_refl _⟩ (Nat.le_of_ble_eq_true rfl) ?_ ?_
  · rintro rv X' I' R' ⟨rfl, hq⟩
    obtain ⟨g1, rfl, g2, g3, g4⟩ := h1 _ _ _ hq
    change J 8 [jy v, jy 0, .ref u] _ _ _ _ _
    refine jy_i2l hS rfl rfl ?_
    refine jy_last hS rfl ho (by decide) (by omega) ?_
    refine jy_goto hS rfl ?_
    refine jy_iconst hS rfl ?_
    exact jy_iret hS rfl rfl ⟨Nat.le_refl _, rfl, Or.inl ⟨g1, rfl, jx_u_s _ _ _ _, g2, g3, g4⟩⟩
  · rintro E X' I' R' ⟨x1, x2, hq⟩
    obtain ⟨k, w, g1, rfl, g2, g3⟩ := h2 _ _ _ hq
    have hm := he k w g1
    simp only [List.mem_cons, Prod.mk.injEq, List.not_mem_nil, or_false] at hm
    rcases hm with ⟨rfl, rfl⟩
    · refine jx_kx_h (by decide) (by decide) (h := 13) (by decide +kernel) (fun q => ?_)
      refine jy_astore hS rfl (Nat.le_of_ble_eq_true rfl) (L' := [some (.ref a0), some (jy a1), some (jy a2), some (.ref u), some (.ref q)]) rfl ?_
      refine jy_iconst hS rfl ?_
      exact jy_iret hS rfl rfl ⟨x1, by rw [x2], Or.inr ⟨_, _, g1, rfl, g2, g3⟩⟩
theorem jt_341 : jx_ml 341 = 5 ∧ jx_rt 341 = some .int ∧ jx_hz 341 = [(0, 10, 13, 30), (0, 10, 17, 13)] ∧ decide ((jx_nm 341).name = "<init>") = false ∧ jx_code 341 = jx_c341 := by decide +kernel
set_option maxRecDepth 20000 in
theorem wr_6 {V : jx_V} (hV : V.1.stackTraces = false) {X : jx_X} {R : jx_R} {I : jx_I} {a0 u : Nat} {a1 : Int} {a2 : Int} {e : Option (Nat × Int)} {v : Int} {s s' : YZ} (hx : X.2.1 a0 = some (11, 0)) (ho : X.2.1 u = some (101, 1)) (hM : jp V 10 141 (2, 12) [.ref a0, jy a1, jy a2] X I R (KQ X R I a0 e (jy v) s') (KE X R I a0 e s)) (he : ∀ k w, e = some (k, w) → (k, w) ∈ [((1 : Nat), (1 : Int)), ((2 : Nat), (2 : Int))]) : je V 11 341 (2, 12) [.ref a0, jy a1, jy a2, .ref u] X I R (WQA X R I a0 u e (Int32.ofInt v).toInt64 s s') := by
  obtain ⟨Q0, QE0, hM, h1, h2⟩ := hM
  refine jy_met hV (by decide) (n := 5) (rt := some .int) (hh := [(0, 10, 13, 30), (0, 10, 17, 13)]) (ini := false) (C := jx_c341) (L := [some (.ref a0), some (jy a1), some (jy a2), some (.ref u), none]) jt_341 (Nat.le_of_ble_eq_true rfl) rfl ?_
  intro J hS
  refine jy_aload_n hS rfl rfl ?_
  refine jy_iconst hS rfl ?_
  refine jy_aload_n hS rfl rfl ?_
  refine jy_iload_n hS rfl rfl ?_
  refine jy_iload_n hS rfl rfl ?_
  refine jy_callV hS rfl rfl rfl (Nat.le_of_ble_eq_true rfl) (Or.inl hx) hM (by decide) ⟨Nat.le_refl _, Nat.le_refl _⟩ (Nat.le_of_ble_eq_true rfl) ?_ ?_
  · rintro rv X' I' R' ⟨rfl, hq⟩
    obtain ⟨g1, rfl, g2, g3, g4⟩ := h1 _ _ _ hq
    change J 8 [jy v, jy 0, .ref u] _ _ _ _ _
    refine jy_i2l hS rfl rfl ?_
    refine jy_last hS rfl ho (by decide) (by omega) ?_
    refine jy_goto hS rfl ?_
    refine jy_iconst hS rfl ?_
    exact jy_iret hS rfl rfl ⟨Nat.le_refl _, rfl, Or.inl ⟨g1, rfl, jx_u_s _ _ _ _, g2, g3, g4⟩⟩
  · rintro E X' I' R' ⟨x1, x2, hq⟩
    obtain ⟨k, w, g1, rfl, g2, g3⟩ := h2 _ _ _ hq
    have hm := he k w g1
    simp only [List.mem_cons, Prod.mk.injEq, List.not_mem_nil, or_false] at hm
    rcases hm with ⟨rfl, rfl⟩ | ⟨rfl, rfl⟩
    · refine jx_kx_h (by decide) (by decide) (h := 13) (by decide +kernel) (fun q => ?_)
      refine jy_astore hS rfl (Nat.le_of_ble_eq_true rfl) (L' := [some (.ref a0), some (jy a1), some (jy a2), some (.ref u), some (.ref q)]) rfl ?_
      refine jy_iconst hS rfl ?_
      exact jy_iret hS rfl rfl ⟨x1, by rw [x2], Or.inr ⟨_, _, g1, rfl, g2, g3⟩⟩
    · refine jx_kx_h (by decide) (by decide) (h := 17) (by decide +kernel) (fun q => ?_)
      refine jy_astore hS rfl (Nat.le_of_ble_eq_true rfl) (L' := [some (.ref a0), some (jy a1), some (jy a2), some (.ref u), some (.ref q)]) rfl ?_
      refine jy_iconst hS rfl ?_
      exact jy_iret hS rfl rfl ⟨x1, by rw [x2], Or.inr ⟨_, _, g1, rfl, g2, g3⟩⟩
theorem jt_342 : jx_ml 342 = 6 ∧ jx_rt 342 = some .int ∧ jx_hz 342 = [(0, 12, 15, 21), (0, 12, 19, 30), (0, 12, 23, 13)] ∧ decide ((jx_nm 342).name = "<init>") = false ∧ jx_code 342 = jx_c342 := by decide +kernel
set_option maxRecDepth 20000 in
theorem wr_7 {V : jx_V} (hV : V.1.stackTraces = false) {X : jx_X} {R : jx_R} {I : jx_I} {a0 u : Nat} {a1 : Int} {a2 : Int} {a3 : Int} {e : Option (Nat × Int)} {v : Int} {s s' : YZ} (hx : X.2.1 a0 = some (11, 0)) (ho : X.2.1 u = some (101, 1)) (hM : jp V 10 143 (3, 18) [.ref a0, jy a1, jy a2, jy a3] X I R (KQ X R I a0 e (jy v) s') (KE X R I a0 e s)) (he : ∀ k w, e = some (k, w) → (k, w) ∈ [((0 : Nat), (1 : Int)), ((1 : Nat), (2 : Int)), ((2 : Nat), (3 : Int))]) : je V 11 342 (3, 18) [.ref a0, jy a1, jy a2, jy a3, .ref u] X I R (WQA X R I a0 u e (Int32.ofInt v).toInt64 s s') := by
  obtain ⟨Q0, QE0, hM, h1, h2⟩ := hM
  refine jy_met hV (by decide) (n := 6) (rt := some .int) (hh := [(0, 12, 15, 21), (0, 12, 19, 30), (0, 12, 23, 13)]) (ini := false) (C := jx_c342) (L := [some (.ref a0), some (jy a1), some (jy a2), some (jy a3), some (.ref u), none]) jt_342 (Nat.le_of_ble_eq_true rfl) rfl ?_
  intro J hS
  refine jy_aload hS rfl rfl ?_
  refine jy_iconst hS rfl ?_
  refine jy_aload_n hS rfl rfl ?_
  refine jy_iload_n hS rfl rfl ?_
  refine jy_iload_n hS rfl rfl ?_
  refine jy_iload_n hS rfl rfl ?_
  refine jy_callV hS rfl rfl rfl (Nat.le_of_ble_eq_true rfl) (Or.inl hx) hM (by decide) ⟨Nat.le_refl _, Nat.le_refl _⟩ (Nat.le_of_ble_eq_true rfl) ?_ ?_
  · rintro rv X' I' R' ⟨rfl, hq⟩
    obtain ⟨g1, rfl, g2, g3, g4⟩ := h1 _ _ _ hq
    change J 10 [jy v, jy 0, .ref u] _ _ _ _ _
    refine jy_i2l hS rfl rfl ?_
    refine jy_last hS rfl ho (by decide) (by omega) ?_
    refine jy_goto hS rfl ?_
    refine jy_iconst hS rfl ?_
    exact jy_iret hS rfl rfl ⟨Nat.le_refl _, rfl, Or.inl ⟨g1, rfl, jx_u_s _ _ _ _, g2, g3, g4⟩⟩
  · rintro E X' I' R' ⟨x1, x2, hq⟩
    obtain ⟨k, w, g1, rfl, g2, g3⟩ := h2 _ _ _ hq
    have hm := he k w g1
    simp only [List.mem_cons, Prod.mk.injEq, List.not_mem_nil, or_false] at hm
    rcases hm with ⟨rfl, rfl⟩ | ⟨rfl, rfl⟩ | ⟨rfl, rfl⟩
    · refine jx_kx_h (by decide) (by decide) (h := 15) (by decide +kernel) (fun q => ?_)
      refine jy_astore hS rfl (Nat.le_of_ble_eq_true rfl) (L' := [some (.ref a0), some (jy a1), some (jy a2), some (jy a3), some (.ref u), some (.ref q)]) rfl ?_
      refine jy_iconst hS rfl ?_
      exact jy_iret hS rfl rfl ⟨x1, by rw [x2], Or.inr ⟨_, _, g1, rfl, g2, g3⟩⟩
    · refine jx_kx_h (by decide) (by decide) (h := 19) (by decide +kernel) (fun q => ?_)
      refine jy_astore hS rfl (Nat.le_of_ble_eq_true rfl) (L' := [some (.ref a0), some (jy a1), some (jy a2), some (jy a3), some (.ref u), some (.ref q)]) rfl ?_
      refine jy_iconst hS rfl ?_
      exact jy_iret hS rfl rfl ⟨x1, by rw [x2], Or.inr ⟨_, _, g1, rfl, g2, g3⟩⟩
    · refine jx_kx_h (by decide) (by decide) (h := 23) (by decide +kernel) (fun q => ?_)
      refine jy_astore hS rfl (Nat.le_of_ble_eq_true rfl) (L' := [some (.ref a0), some (jy a1), some (jy a2), some (jy a3), some (.ref u), some (.ref q)]) rfl ?_
      refine jy_iconst hS rfl ?_
      exact jy_iret hS rfl rfl ⟨x1, by rw [x2], Or.inr ⟨_, _, g1, rfl, g2, g3⟩⟩
theorem jt_343 : jx_ml 343 = 6 ∧ jx_rt 343 = some .int ∧ jx_hz 343 = [(0, 12, 15, 21), (0, 12, 19, 30), (0, 12, 23, 13)] ∧ decide ((jx_nm 343).name = "<init>") = false ∧ jx_code 343 = jx_c343 := by decide +kernel
set_option maxRecDepth 20000 in
theorem wr_8 {V : jx_V} (hV : V.1.stackTraces = false) {X : jx_X} {R : jx_R} {I : jx_I} {a0 u : Nat} {a1 : Int} {a2 : Int} {a3 : Int} {e : Option (Nat × Int)} {v : Int} {s s' : YZ} (hx : X.2.1 a0 = some (11, 0)) (ho : X.2.1 u = some (101, 1)) (hM : jp V 9 144 (3, 18) [.ref a0, jy a1, jy a2, jy a3] X I R (KQ X R I a0 e (jy v) s') (KE X R I a0 e s)) (he : ∀ k w, e = some (k, w) → (k, w) ∈ [((0 : Nat), (1 : Int)), ((1 : Nat), (2 : Int)), ((2 : Nat), (3 : Int))]) : je V 10 343 (3, 18) [.ref a0, jy a1, jy a2, jy a3, .ref u] X I R (WQA X R I a0 u e (Int32.ofInt v).toInt64 s s') := by
  obtain ⟨Q0, QE0, hM, h1, h2⟩ := hM
  refine jy_met hV (by decide) (n := 6) (rt := some .int) (hh := [(0, 12, 15, 21), (0, 12, 19, 30), (0, 12, 23, 13)]) (ini := false) (C := jx_c343) (L := [some (.ref a0), some (jy a1), some (jy a2), some (jy a3), some (.ref u), none]) jt_343 (Nat.le_of_ble_eq_true rfl) rfl ?_
  intro J hS
  refine jy_aload hS rfl rfl ?_
  refine jy_iconst hS rfl ?_
  refine jy_aload_n hS rfl rfl ?_
  refine jy_iload_n hS rfl rfl ?_
  refine jy_iload_n hS rfl rfl ?_
  refine jy_iload_n hS rfl rfl ?_
  refine jy_callV hS rfl rfl rfl (Nat.le_of_ble_eq_true rfl) (Or.inl hx) hM (by decide) ⟨Nat.le_refl _, Nat.le_refl _⟩ (Nat.le_of_ble_eq_true rfl) ?_ ?_
  · rintro rv X' I' R' ⟨rfl, hq⟩
    obtain ⟨g1, rfl, g2, g3, g4⟩ := h1 _ _ _ hq
    change J 10 [jy v, jy 0, .ref u] _ _ _ _ _
    refine jy_i2l hS rfl rfl ?_
    refine jy_last hS rfl ho (by decide) (by omega) ?_
    refine jy_goto hS rfl ?_
    refine jy_iconst hS rfl ?_
    exact jy_iret hS rfl rfl ⟨Nat.le_refl _, rfl, Or.inl ⟨g1, rfl, jx_u_s _ _ _ _, g2, g3, g4⟩⟩
  · rintro E X' I' R' ⟨x1, x2, hq⟩
    obtain ⟨k, w, g1, rfl, g2, g3⟩ := h2 _ _ _ hq
    have hm := he k w g1
    simp only [List.mem_cons, Prod.mk.injEq, List.not_mem_nil, or_false] at hm
    rcases hm with ⟨rfl, rfl⟩ | ⟨rfl, rfl⟩ | ⟨rfl, rfl⟩
    · refine jx_kx_h (by decide) (by decide) (h := 15) (by decide +kernel) (fun q => ?_)
      refine jy_astore hS rfl (Nat.le_of_ble_eq_true rfl) (L' := [some (.ref a0), some (jy a1), some (jy a2), some (jy a3), some (.ref u), some (.ref q)]) rfl ?_
      refine jy_iconst hS rfl ?_
      exact jy_iret hS rfl rfl ⟨x1, by rw [x2], Or.inr ⟨_, _, g1, rfl, g2, g3⟩⟩
    · refine jx_kx_h (by decide) (by decide) (h := 19) (by decide +kernel) (fun q => ?_)
      refine jy_astore hS rfl (Nat.le_of_ble_eq_true rfl) (L' := [some (.ref a0), some (jy a1), some (jy a2), some (jy a3), some (.ref u), some (.ref q)]) rfl ?_
      refine jy_iconst hS rfl ?_
      exact jy_iret hS rfl rfl ⟨x1, by rw [x2], Or.inr ⟨_, _, g1, rfl, g2, g3⟩⟩
    · refine jx_kx_h (by decide) (by decide) (h := 23) (by decide +kernel) (fun q => ?_)
      refine jy_astore hS rfl (Nat.le_of_ble_eq_true rfl) (L' := [some (.ref a0), some (jy a1), some (jy a2), some (jy a3), some (.ref u), some (.ref q)]) rfl ?_
      refine jy_iconst hS rfl ?_
      exact jy_iret hS rfl rfl ⟨x1, by rw [x2], Or.inr ⟨_, _, g1, rfl, g2, g3⟩⟩
theorem jt_344 : jx_ml 344 = 5 ∧ jx_rt 344 = some .int ∧ jx_hz 344 = [(0, 10, 13, 21), (0, 10, 17, 30)] ∧ decide ((jx_nm 344).name = "<init>") = false ∧ jx_code 344 = jx_c344 := by decide +kernel
set_option maxRecDepth 20000 in
theorem wr_9 {V : jx_V} (hV : V.1.stackTraces = false) {X : jx_X} {R : jx_R} {I : jx_I} {a0 u : Nat} {a1 : Int} {a2 : Int} {e : Option (Nat × Int)} {v : Int} {s s' : YZ} (hx : X.2.1 a0 = some (11, 0)) (ho : X.2.1 u = some (101, 1)) (hM : jp V 9 145 (2, 12) [.ref a0, jy a1, jy a2] X I R (KQ X R I a0 e (jy v) s') (KE X R I a0 e s)) (he : ∀ k w, e = some (k, w) → (k, w) ∈ [((0 : Nat), (1 : Int)), ((1 : Nat), (2 : Int))]) : je V 10 344 (2, 12) [.ref a0, jy a1, jy a2, .ref u] X I R (WQA X R I a0 u e (Int32.ofInt v).toInt64 s s') := by
  obtain ⟨Q0, QE0, hM, h1, h2⟩ := hM
  refine jy_met hV (by decide) (n := 5) (rt := some .int) (hh := [(0, 10, 13, 21), (0, 10, 17, 30)]) (ini := false) (C := jx_c344) (L := [some (.ref a0), some (jy a1), some (jy a2), some (.ref u), none]) jt_344 (Nat.le_of_ble_eq_true rfl) rfl ?_
  intro J hS
  refine jy_aload_n hS rfl rfl ?_
  refine jy_iconst hS rfl ?_
  refine jy_aload_n hS rfl rfl ?_
  refine jy_iload_n hS rfl rfl ?_
  refine jy_iload_n hS rfl rfl ?_
  refine jy_callV hS rfl rfl rfl (Nat.le_of_ble_eq_true rfl) (Or.inl hx) hM (by decide) ⟨Nat.le_refl _, Nat.le_refl _⟩ (Nat.le_of_ble_eq_true rfl) ?_ ?_
  · rintro rv X' I' R' ⟨rfl, hq⟩
    obtain ⟨g1, rfl, g2, g3, g4⟩ := h1 _ _ _ hq
    change J 8 [jy v, jy 0, .ref u] _ _ _ _ _
    refine jy_i2l hS rfl rfl ?_
    refine jy_last hS rfl ho (by decide) (by omega) ?_
    refine jy_goto hS rfl ?_
    refine jy_iconst hS rfl ?_
    exact jy_iret hS rfl rfl ⟨Nat.le_refl _, rfl, Or.inl ⟨g1, rfl, jx_u_s _ _ _ _, g2, g3, g4⟩⟩
  · rintro E X' I' R' ⟨x1, x2, hq⟩
    obtain ⟨k, w, g1, rfl, g2, g3⟩ := h2 _ _ _ hq
    have hm := he k w g1
    simp only [List.mem_cons, Prod.mk.injEq, List.not_mem_nil, or_false] at hm
    rcases hm with ⟨rfl, rfl⟩ | ⟨rfl, rfl⟩
    · refine jx_kx_h (by decide) (by decide) (h := 13) (by decide +kernel) (fun q => ?_)
      refine jy_astore hS rfl (Nat.le_of_ble_eq_true rfl) (L' := [some (.ref a0), some (jy a1), some (jy a2), some (.ref u), some (.ref q)]) rfl ?_
      refine jy_iconst hS rfl ?_
      exact jy_iret hS rfl rfl ⟨x1, by rw [x2], Or.inr ⟨_, _, g1, rfl, g2, g3⟩⟩
    · refine jx_kx_h (by decide) (by decide) (h := 17) (by decide +kernel) (fun q => ?_)
      refine jy_astore hS rfl (Nat.le_of_ble_eq_true rfl) (L' := [some (.ref a0), some (jy a1), some (jy a2), some (.ref u), some (.ref q)]) rfl ?_
      refine jy_iconst hS rfl ?_
      exact jy_iret hS rfl rfl ⟨x1, by rw [x2], Or.inr ⟨_, _, g1, rfl, g2, g3⟩⟩
theorem jt_345 : jx_ml 345 = 6 ∧ jx_rt 345 = some .int ∧ jx_hz 345 = [(0, 11, 14, 13)] ∧ decide ((jx_nm 345).name = "<init>") = false ∧ jx_code 345 = jx_c345 := by decide +kernel
set_option maxRecDepth 20000 in
theorem wr_10 {V : jx_V} (hV : V.1.stackTraces = false) {X : jx_X} {R : jx_R} {I : jx_I} {a0 u : Nat} {a1 : Int} {a2 : Int64} {e : Option (Nat × Int)} {v : Int} {s s' : YZ} (hx : X.2.1 a0 = some (11, 0)) (ho : X.2.1 u = some (101, 1)) (hM : jp V 9 146 (1, 6) [.ref a0, jy a1, .long a2] X I R (KQ X R I a0 e (jy v) s') (KE X R I a0 e s)) (he : ∀ k w, e = some (k, w) → (k, w) ∈ [((2 : Nat), (1 : Int))]) : je V 10 345 (1, 6) [.ref a0, jy a1, .long a2, .ref u] X I R (WQA X R I a0 u e (Int32.ofInt v).toInt64 s s') := by
  obtain ⟨Q0, QE0, hM, h1, h2⟩ := hM
  refine jy_met hV (by decide) (n := 6) (rt := some .int) (hh := [(0, 11, 14, 13)]) (ini := false) (C := jx_c345) (L := [some (.ref a0), some (jy a1), some (.long a2), none, some (.ref u), none]) jt_345 (Nat.le_of_ble_eq_true rfl) rfl ?_
  intro J hS
  refine jy_aload hS rfl rfl ?_
  refine jy_iconst hS rfl ?_
  refine jy_aload_n hS rfl rfl ?_
  refine jy_iload_n hS rfl rfl ?_
  refine jy_lload_n hS rfl rfl ?_
  refine jy_callV hS rfl rfl rfl (Nat.le_of_ble_eq_true rfl) (Or.inl hx) hM (by decide) ⟨Nat.le_refl _, Nat.le_refl _⟩ (Nat.le_of_ble_eq_true rfl) ?_ ?_
  · rintro rv X' I' R' ⟨rfl, hq⟩
    obtain ⟨g1, rfl, g2, g3, g4⟩ := h1 _ _ _ hq
    change J 9 [jy v, jy 0, .ref u] _ _ _ _ _
    refine jy_i2l hS rfl rfl ?_
    refine jy_last hS rfl ho (by decide) (by omega) ?_
    refine jy_goto hS rfl ?_
    refine jy_iconst hS rfl ?_
    exact jy_iret hS rfl rfl ⟨Nat.le_refl _, rfl, Or.inl ⟨g1, rfl, jx_u_s _ _ _ _, g2, g3, g4⟩⟩
  · rintro E X' I' R' ⟨x1, x2, hq⟩
    obtain ⟨k, w, g1, rfl, g2, g3⟩ := h2 _ _ _ hq
    have hm := he k w g1
    simp only [List.mem_cons, Prod.mk.injEq, List.not_mem_nil, or_false] at hm
    rcases hm with ⟨rfl, rfl⟩
    · refine jx_kx_h (by decide) (by decide) (h := 14) (by decide +kernel) (fun q => ?_)
      refine jy_astore hS rfl (Nat.le_of_ble_eq_true rfl) (L' := [some (.ref a0), some (jy a1), some (.long a2), none, some (.ref u), some (.ref q)]) rfl ?_
      refine jy_iconst hS rfl ?_
      exact jy_iret hS rfl rfl ⟨x1, by rw [x2], Or.inr ⟨_, _, g1, rfl, g2, g3⟩⟩
theorem jt_346 : jx_ml 346 = 4 ∧ jx_rt 346 = some .int ∧ jx_hz 346 = [(0, 9, 12, 21)] ∧ decide ((jx_nm 346).name = "<init>") = false ∧ jx_code 346 = jx_c346 := by decide +kernel
set_option maxRecDepth 20000 in
theorem wr_12 {V : jx_V} (hV : V.1.stackTraces = false) {X : jx_X} {R : jx_R} {I : jx_I} {a0 u : Nat} {a1 : Int} {e : Option (Nat × Int)} {v : Int} {s s' : YZ} (hx : X.2.1 a0 = some (11, 0)) (ho : X.2.1 u = some (101, 1)) (hM : jp V 9 148 (1, 6) [.ref a0, jy a1] X I R (KQ X R I a0 e (jy v) s') (KE X R I a0 e s)) (he : ∀ k w, e = some (k, w) → (k, w) ∈ [((0 : Nat), (1 : Int))]) : je V 10 346 (1, 6) [.ref a0, jy a1, .ref u] X I R (WQA X R I a0 u e (Int32.ofInt v).toInt64 s s') := by
  obtain ⟨Q0, QE0, hM, h1, h2⟩ := hM
  refine jy_met hV (by decide) (n := 4) (rt := some .int) (hh := [(0, 9, 12, 21)]) (ini := false) (C := jx_c346) (L := [some (.ref a0), some (jy a1), some (.ref u), none]) jt_346 (Nat.le_of_ble_eq_true rfl) rfl ?_
  intro J hS
  refine jy_aload_n hS rfl rfl ?_
  refine jy_iconst hS rfl ?_
  refine jy_aload_n hS rfl rfl ?_
  refine jy_iload_n hS rfl rfl ?_
  refine jy_callV hS rfl rfl rfl (Nat.le_of_ble_eq_true rfl) (Or.inl hx) hM (by decide) ⟨Nat.le_refl _, Nat.le_refl _⟩ (Nat.le_of_ble_eq_true rfl) ?_ ?_
  · rintro rv X' I' R' ⟨rfl, hq⟩
    obtain ⟨g1, rfl, g2, g3, g4⟩ := h1 _ _ _ hq
    change J 7 [jy v, jy 0, .ref u] _ _ _ _ _
    refine jy_i2l hS rfl rfl ?_
    refine jy_last hS rfl ho (by decide) (by omega) ?_
    refine jy_goto hS rfl ?_
    refine jy_iconst hS rfl ?_
    exact jy_iret hS rfl rfl ⟨Nat.le_refl _, rfl, Or.inl ⟨g1, rfl, jx_u_s _ _ _ _, g2, g3, g4⟩⟩
  · rintro E X' I' R' ⟨x1, x2, hq⟩
    obtain ⟨k, w, g1, rfl, g2, g3⟩ := h2 _ _ _ hq
    have hm := he k w g1
    simp only [List.mem_cons, Prod.mk.injEq, List.not_mem_nil, or_false] at hm
    rcases hm with ⟨rfl, rfl⟩
    · refine jx_kx_h (by decide) (by decide) (h := 12) (by decide +kernel) (fun q => ?_)
      refine jy_astore_n hS rfl (Nat.le_of_ble_eq_true rfl) (L' := [some (.ref a0), some (jy a1), some (.ref u), some (.ref q)]) rfl ?_
      refine jy_iconst hS rfl ?_
      exact jy_iret hS rfl rfl ⟨x1, by rw [x2], Or.inr ⟨_, _, g1, rfl, g2, g3⟩⟩
theorem jt_347 : jx_ml 347 = 5 ∧ jx_rt 347 = some .int ∧ jx_hz 347 = [(0, 10, 13, 21), (0, 10, 17, 13)] ∧ decide ((jx_nm 347).name = "<init>") = false ∧ jx_code 347 = jx_c347 := by decide +kernel
set_option maxRecDepth 20000 in
theorem wr_13 {V : jx_V} (hV : V.1.stackTraces = false) {X : jx_X} {R : jx_R} {I : jx_I} {a0 u : Nat} {a1 : Int} {a2 : Int} {e : Option (Nat × Int)} {v : Int} {s s' : YZ} (hx : X.2.1 a0 = some (11, 0)) (ho : X.2.1 u = some (101, 1)) (hM : jp V 10 149 (2, 12) [.ref a0, jy a1, jy a2] X I R (KQ X R I a0 e (jy v) s') (KE X R I a0 e s)) (he : ∀ k w, e = some (k, w) → (k, w) ∈ [((0 : Nat), (1 : Int)), ((2 : Nat), (2 : Int))]) : je V 11 347 (2, 12) [.ref a0, jy a1, jy a2, .ref u] X I R (WQA X R I a0 u e (Int32.ofInt v).toInt64 s s') := by
  obtain ⟨Q0, QE0, hM, h1, h2⟩ := hM
  refine jy_met hV (by decide) (n := 5) (rt := some .int) (hh := [(0, 10, 13, 21), (0, 10, 17, 13)]) (ini := false) (C := jx_c347) (L := [some (.ref a0), some (jy a1), some (jy a2), some (.ref u), none]) jt_347 (Nat.le_of_ble_eq_true rfl) rfl ?_
  intro J hS
  refine jy_aload_n hS rfl rfl ?_
  refine jy_iconst hS rfl ?_
  refine jy_aload_n hS rfl rfl ?_
  refine jy_iload_n hS rfl rfl ?_
  refine jy_iload_n hS rfl rfl ?_
  refine jy_callV hS rfl rfl rfl (Nat.le_of_ble_eq_true rfl) (Or.inl hx) hM (by decide) ⟨Nat.le_refl _, Nat.le_refl _⟩ (Nat.le_of_ble_eq_true rfl) ?_ ?_
  · rintro rv X' I' R' ⟨rfl, hq⟩
    obtain ⟨g1, rfl, g2, g3, g4⟩ := h1 _ _ _ hq
    change J 8 [jy v, jy 0, .ref u] _ _ _ _ _
    refine jy_i2l hS rfl rfl ?_
    refine jy_last hS rfl ho (by decide) (by omega) ?_
    refine jy_goto hS rfl ?_
    refine jy_iconst hS rfl ?_
    exact jy_iret hS rfl rfl ⟨Nat.le_refl _, rfl, Or.inl ⟨g1, rfl, jx_u_s _ _ _ _, g2, g3, g4⟩⟩
  · rintro E X' I' R' ⟨x1, x2, hq⟩
    obtain ⟨k, w, g1, rfl, g2, g3⟩ := h2 _ _ _ hq
    have hm := he k w g1
    simp only [List.mem_cons, Prod.mk.injEq, List.not_mem_nil, or_false] at hm
    rcases hm with ⟨rfl, rfl⟩ | ⟨rfl, rfl⟩
    · refine jx_kx_h (by decide) (by decide) (h := 13) (by decide +kernel) (fun q => ?_)
      refine jy_astore hS rfl (Nat.le_of_ble_eq_true rfl) (L' := [some (.ref a0), some (jy a1), some (jy a2), some (.ref u), some (.ref q)]) rfl ?_
      refine jy_iconst hS rfl ?_
      exact jy_iret hS rfl rfl ⟨x1, by rw [x2], Or.inr ⟨_, _, g1, rfl, g2, g3⟩⟩
    · refine jx_kx_h (by decide) (by decide) (h := 17) (by decide +kernel) (fun q => ?_)
      refine jy_astore hS rfl (Nat.le_of_ble_eq_true rfl) (L' := [some (.ref a0), some (jy a1), some (jy a2), some (.ref u), some (.ref q)]) rfl ?_
      refine jy_iconst hS rfl ?_
      exact jy_iret hS rfl rfl ⟨x1, by rw [x2], Or.inr ⟨_, _, g1, rfl, g2, g3⟩⟩
theorem jt_348 : jx_ml 348 = 5 ∧ jx_rt 348 = some .int ∧ jx_hz 348 = [(0, 10, 13, 21), (0, 10, 17, 13)] ∧ decide ((jx_nm 348).name = "<init>") = false ∧ jx_code 348 = jx_c348 := by decide +kernel
set_option maxRecDepth 20000 in
theorem wr_14 {V : jx_V} (hV : V.1.stackTraces = false) {X : jx_X} {R : jx_R} {I : jx_I} {a0 u : Nat} {a1 : Int} {a2 : Int} {e : Option (Nat × Int)} {v : Int} {s s' : YZ} (hx : X.2.1 a0 = some (11, 0)) (ho : X.2.1 u = some (101, 1)) (hM : jp V 9 150 (2, 12) [.ref a0, jy a1, jy a2] X I R (KQ X R I a0 e (jy v) s') (KE X R I a0 e s)) (he : ∀ k w, e = some (k, w) → (k, w) ∈ [((0 : Nat), (1 : Int)), ((2 : Nat), (2 : Int))]) : je V 10 348 (2, 12) [.ref a0, jy a1, jy a2, .ref u] X I R (WQA X R I a0 u e (Int32.ofInt v).toInt64 s s') := by
  obtain ⟨Q0, QE0, hM, h1, h2⟩ := hM
  refine jy_met hV (by decide) (n := 5) (rt := some .int) (hh := [(0, 10, 13, 21), (0, 10, 17, 13)]) (ini := false) (C := jx_c348) (L := [some (.ref a0), some (jy a1), some (jy a2), some (.ref u), none]) jt_348 (Nat.le_of_ble_eq_true rfl) rfl ?_
  intro J hS
  refine jy_aload_n hS rfl rfl ?_
  refine jy_iconst hS rfl ?_
  refine jy_aload_n hS rfl rfl ?_
  refine jy_iload_n hS rfl rfl ?_
  refine jy_iload_n hS rfl rfl ?_
  refine jy_callV hS rfl rfl rfl (Nat.le_of_ble_eq_true rfl) (Or.inl hx) hM (by decide) ⟨Nat.le_refl _, Nat.le_refl _⟩ (Nat.le_of_ble_eq_true rfl) ?_ ?_
  · rintro rv X' I' R' ⟨rfl, hq⟩
    obtain ⟨g1, rfl, g2, g3, g4⟩ := h1 _ _ _ hq
    change J 8 [jy v, jy 0, .ref u] _ _ _ _ _
    refine jy_i2l hS rfl rfl ?_
    refine jy_last hS rfl ho (by decide) (by omega) ?_
    refine jy_goto hS rfl ?_
    refine jy_iconst hS rfl ?_
    exact jy_iret hS rfl rfl ⟨Nat.le_refl _, rfl, Or.inl ⟨g1, rfl, jx_u_s _ _ _ _, g2, g3, g4⟩⟩
  · rintro E X' I' R' ⟨x1, x2, hq⟩
    obtain ⟨k, w, g1, rfl, g2, g3⟩ := h2 _ _ _ hq
    have hm := he k w g1
    simp only [List.mem_cons, Prod.mk.injEq, List.not_mem_nil, or_false] at hm
    rcases hm with ⟨rfl, rfl⟩ | ⟨rfl, rfl⟩
    · refine jx_kx_h (by decide) (by decide) (h := 13) (by decide +kernel) (fun q => ?_)
      refine jy_astore hS rfl (Nat.le_of_ble_eq_true rfl) (L' := [some (.ref a0), some (jy a1), some (jy a2), some (.ref u), some (.ref q)]) rfl ?_
      refine jy_iconst hS rfl ?_
      exact jy_iret hS rfl rfl ⟨x1, by rw [x2], Or.inr ⟨_, _, g1, rfl, g2, g3⟩⟩
    · refine jx_kx_h (by decide) (by decide) (h := 17) (by decide +kernel) (fun q => ?_)
      refine jy_astore hS rfl (Nat.le_of_ble_eq_true rfl) (L' := [some (.ref a0), some (jy a1), some (jy a2), some (.ref u), some (.ref q)]) rfl ?_
      refine jy_iconst hS rfl ?_
      exact jy_iret hS rfl rfl ⟨x1, by rw [x2], Or.inr ⟨_, _, g1, rfl, g2, g3⟩⟩
theorem jt_349 : jx_ml 349 = 6 ∧ jx_rt 349 = some .int ∧ jx_hz 349 = [(0, 11, 14, 13)] ∧ decide ((jx_nm 349).name = "<init>") = false ∧ jx_code 349 = jx_c349 := by decide +kernel
set_option maxRecDepth 20000 in
theorem wr_15 {V : jx_V} (hV : V.1.stackTraces = false) {X : jx_X} {R : jx_R} {I : jx_I} {a0 u : Nat} {a1 : Int} {a2 : Int64} {e : Option (Nat × Int)} {v : Int} {s s' : YZ} (hx : X.2.1 a0 = some (11, 0)) (ho : X.2.1 u = some (101, 1)) (hM : jp V 9 152 (1, 6) [.ref a0, jy a1, .long a2] X I R (KQ X R I a0 e (jy v) s') (KE X R I a0 e s)) (he : ∀ k w, e = some (k, w) → (k, w) ∈ [((2 : Nat), (1 : Int))]) : je V 10 349 (1, 6) [.ref a0, jy a1, .long a2, .ref u] X I R (WQA X R I a0 u e (Int32.ofInt v).toInt64 s s') := by
  obtain ⟨Q0, QE0, hM, h1, h2⟩ := hM
  refine jy_met hV (by decide) (n := 6) (rt := some .int) (hh := [(0, 11, 14, 13)]) (ini := false) (C := jx_c349) (L := [some (.ref a0), some (jy a1), some (.long a2), none, some (.ref u), none]) jt_349 (Nat.le_of_ble_eq_true rfl) rfl ?_
  intro J hS
  refine jy_aload hS rfl rfl ?_
  refine jy_iconst hS rfl ?_
  refine jy_aload_n hS rfl rfl ?_
  refine jy_iload_n hS rfl rfl ?_
  refine jy_lload_n hS rfl rfl ?_
  refine jy_callV hS rfl rfl rfl (Nat.le_of_ble_eq_true rfl) (Or.inl hx) hM (by decide) ⟨Nat.le_refl _, Nat.le_refl _⟩ (Nat.le_of_ble_eq_true rfl) ?_ ?_
  · rintro rv X' I' R' ⟨rfl, hq⟩
    obtain ⟨g1, rfl, g2, g3, g4⟩ := h1 _ _ _ hq
    change J 9 [jy v, jy 0, .ref u] _ _ _ _ _
    refine jy_i2l hS rfl rfl ?_
    refine jy_last hS rfl ho (by decide) (by omega) ?_
    refine jy_goto hS rfl ?_
    refine jy_iconst hS rfl ?_
    exact jy_iret hS rfl rfl ⟨Nat.le_refl _, rfl, Or.inl ⟨g1, rfl, jx_u_s _ _ _ _, g2, g3, g4⟩⟩
  · rintro E X' I' R' ⟨x1, x2, hq⟩
    obtain ⟨k, w, g1, rfl, g2, g3⟩ := h2 _ _ _ hq
    have hm := he k w g1
    simp only [List.mem_cons, Prod.mk.injEq, List.not_mem_nil, or_false] at hm
    rcases hm with ⟨rfl, rfl⟩
    · refine jx_kx_h (by decide) (by decide) (h := 14) (by decide +kernel) (fun q => ?_)
      refine jy_astore hS rfl (Nat.le_of_ble_eq_true rfl) (L' := [some (.ref a0), some (jy a1), some (.long a2), none, some (.ref u), some (.ref q)]) rfl ?_
      refine jy_iconst hS rfl ?_
      exact jy_iret hS rfl rfl ⟨x1, by rw [x2], Or.inr ⟨_, _, g1, rfl, g2, g3⟩⟩
theorem jt_350 : jx_ml 350 = 4 ∧ jx_rt 350 = some .int ∧ jx_hz 350 = [(0, 9, 12, 13), (0, 9, 15, 61)] ∧ decide ((jx_nm 350).name = "<init>") = false ∧ jx_code 350 = jx_c350 := by decide +kernel
set_option maxRecDepth 20000 in
theorem wr_17 {V : jx_V} (hV : V.1.stackTraces = false) {X : jx_X} {R : jx_R} {I : jx_I} {a0 u : Nat} {a1 : Int} {e : Option (Nat × Int)} {v : Int} {s s' : YZ} (hx : X.2.1 a0 = some (11, 0)) (ho : X.2.1 u = some (101, 1)) (hM : jp V 10 154 (2, 12) [.ref a0, jy a1] X I R (KQ X R I a0 e (jy v) s') (KE X R I a0 e s)) (he : ∀ k w, e = some (k, w) → (k, w) ∈ [((2 : Nat), (1 : Int)), ((3 : Nat), (2 : Int))]) : je V 11 350 (2, 12) [.ref a0, jy a1, .ref u] X I R (WQA X R I a0 u e (Int32.ofInt v).toInt64 s s') := by
  obtain ⟨Q0, QE0, hM, h1, h2⟩ := hM
  refine jy_met hV (by decide) (n := 4) (rt := some .int) (hh := [(0, 9, 12, 13), (0, 9, 15, 61)]) (ini := false) (C := jx_c350) (L := [some (.ref a0), some (jy a1), some (.ref u), none]) jt_350 (Nat.le_of_ble_eq_true rfl) rfl ?_
  intro J hS
  refine jy_aload_n hS rfl rfl ?_
  refine jy_iconst hS rfl ?_
  refine jy_aload_n hS rfl rfl ?_
  refine jy_iload_n hS rfl rfl ?_
  refine jy_callV hS rfl rfl rfl (Nat.le_of_ble_eq_true rfl) (Or.inl hx) hM (by decide) ⟨Nat.le_refl _, Nat.le_refl _⟩ (Nat.le_of_ble_eq_true rfl) ?_ ?_
  · rintro rv X' I' R' ⟨rfl, hq⟩
    obtain ⟨g1, rfl, g2, g3, g4⟩ := h1 _ _ _ hq
    change J 7 [jy v, jy 0, .ref u] _ _ _ _ _
    refine jy_i2l hS rfl rfl ?_
    refine jy_last hS rfl ho (by decide) (by omega) ?_
    refine jy_goto hS rfl ?_
    refine jy_iconst hS rfl ?_
    exact jy_iret hS rfl rfl ⟨Nat.le_refl _, rfl, Or.inl ⟨g1, rfl, jx_u_s _ _ _ _, g2, g3, g4⟩⟩
  · rintro E X' I' R' ⟨x1, x2, hq⟩
    obtain ⟨k, w, g1, rfl, g2, g3⟩ := h2 _ _ _ hq
    have hm := he k w g1
    simp only [List.mem_cons, Prod.mk.injEq, List.not_mem_nil, or_false] at hm
    rcases hm with ⟨rfl, rfl⟩ | ⟨rfl, rfl⟩
    · refine jx_kx_h (by decide) (by decide) (h := 12) (by decide +kernel) (fun q => ?_)
      refine jy_astore_n hS rfl (Nat.le_of_ble_eq_true rfl) (L' := [some (.ref a0), some (jy a1), some (.ref u), some (.ref q)]) rfl ?_
      refine jy_iconst hS rfl ?_
      exact jy_iret hS rfl rfl ⟨x1, by rw [x2], Or.inr ⟨_, _, g1, rfl, g2, g3⟩⟩
    · refine jx_kx_h (by decide) (by decide) (h := 15) (by decide +kernel) (fun q => ?_)
      refine jy_astore_n hS rfl (Nat.le_of_ble_eq_true rfl) (L' := [some (.ref a0), some (jy a1), some (.ref u), some (.ref q)]) rfl ?_
      refine jy_iconst hS rfl ?_
      exact jy_iret hS rfl rfl ⟨x1, by rw [x2], Or.inr ⟨_, _, g1, rfl, g2, g3⟩⟩
theorem jt_351 : jx_ml 351 = 4 ∧ jx_rt 351 = some .int ∧ jx_hz 351 = [(0, 9, 12, 61)] ∧ decide ((jx_nm 351).name = "<init>") = false ∧ jx_code 351 = jx_c351 := by decide +kernel
set_option maxRecDepth 20000 in
theorem wr_18 {V : jx_V} (hV : V.1.stackTraces = false) {X : jx_X} {R : jx_R} {I : jx_I} {a0 u : Nat} {a1 : Int} {e : Option (Nat × Int)} {v : Int} {s s' : YZ} (hx : X.2.1 a0 = some (11, 0)) (ho : X.2.1 u = some (101, 1)) (hM : jp V 9 155 (1, 6) [.ref a0, jy a1] X I R (KQ X R I a0 e (jy v) s') (KE X R I a0 e s)) (he : ∀ k w, e = some (k, w) → (k, w) ∈ [((3 : Nat), (1 : Int))]) : je V 10 351 (1, 6) [.ref a0, jy a1, .ref u] X I R (WQA X R I a0 u e (Int32.ofInt v).toInt64 s s') := by
  obtain ⟨Q0, QE0, hM, h1, h2⟩ := hM
  refine jy_met hV (by decide) (n := 4) (rt := some .int) (hh := [(0, 9, 12, 61)]) (ini := false) (C := jx_c351) (L := [some (.ref a0), some (jy a1), some (.ref u), none]) jt_351 (Nat.le_of_ble_eq_true rfl) rfl ?_
  intro J hS
  refine jy_aload_n hS rfl rfl ?_
  refine jy_iconst hS rfl ?_
  refine jy_aload_n hS rfl rfl ?_
  refine jy_iload_n hS rfl rfl ?_
  refine jy_callV hS rfl rfl rfl (Nat.le_of_ble_eq_true rfl) (Or.inl hx) hM (by decide) ⟨Nat.le_refl _, Nat.le_refl _⟩ (Nat.le_of_ble_eq_true rfl) ?_ ?_
  · rintro rv X' I' R' ⟨rfl, hq⟩
    obtain ⟨g1, rfl, g2, g3, g4⟩ := h1 _ _ _ hq
    change J 7 [jy v, jy 0, .ref u] _ _ _ _ _
    refine jy_i2l hS rfl rfl ?_
    refine jy_last hS rfl ho (by decide) (by omega) ?_
    refine jy_goto hS rfl ?_
    refine jy_iconst hS rfl ?_
    exact jy_iret hS rfl rfl ⟨Nat.le_refl _, rfl, Or.inl ⟨g1, rfl, jx_u_s _ _ _ _, g2, g3, g4⟩⟩
  · rintro E X' I' R' ⟨x1, x2, hq⟩
    obtain ⟨k, w, g1, rfl, g2, g3⟩ := h2 _ _ _ hq
    have hm := he k w g1
    simp only [List.mem_cons, Prod.mk.injEq, List.not_mem_nil, or_false] at hm
    rcases hm with ⟨rfl, rfl⟩
    · refine jx_kx_h (by decide) (by decide) (h := 12) (by decide +kernel) (fun q => ?_)
      refine jy_astore_n hS rfl (Nat.le_of_ble_eq_true rfl) (L' := [some (.ref a0), some (jy a1), some (.ref u), some (.ref q)]) rfl ?_
      refine jy_iconst hS rfl ?_
      exact jy_iret hS rfl rfl ⟨x1, by rw [x2], Or.inr ⟨_, _, g1, rfl, g2, g3⟩⟩
theorem jt_352 : jx_ml 352 = 4 ∧ jx_rt 352 = some .int ∧ jx_hz 352 = [(0, 9, 12, 61)] ∧ decide ((jx_nm 352).name = "<init>") = false ∧ jx_code 352 = jx_c352 := by decide +kernel
set_option maxRecDepth 20000 in
theorem wr_19 {V : jx_V} (hV : V.1.stackTraces = false) {X : jx_X} {R : jx_R} {I : jx_I} {a0 u : Nat} {a1 : Int} {e : Option (Nat × Int)} {v : Int} {s s' : YZ} (hx : X.2.1 a0 = some (11, 0)) (ho : X.2.1 u = some (101, 1)) (hM : jp V 9 156 (1, 6) [.ref a0, jy a1] X I R (KQ X R I a0 e (jy v) s') (KE X R I a0 e s)) (he : ∀ k w, e = some (k, w) → (k, w) ∈ [((3 : Nat), (1 : Int))]) : je V 10 352 (1, 6) [.ref a0, jy a1, .ref u] X I R (WQA X R I a0 u e (Int32.ofInt v).toInt64 s s') := by
  obtain ⟨Q0, QE0, hM, h1, h2⟩ := hM
  refine jy_met hV (by decide) (n := 4) (rt := some .int) (hh := [(0, 9, 12, 61)]) (ini := false) (C := jx_c352) (L := [some (.ref a0), some (jy a1), some (.ref u), none]) jt_352 (Nat.le_of_ble_eq_true rfl) rfl ?_
  intro J hS
  refine jy_aload_n hS rfl rfl ?_
  refine jy_iconst hS rfl ?_
  refine jy_aload_n hS rfl rfl ?_
  refine jy_iload_n hS rfl rfl ?_
  refine jy_callV hS rfl rfl rfl (Nat.le_of_ble_eq_true rfl) (Or.inl hx) hM (by decide) ⟨Nat.le_refl _, Nat.le_refl _⟩ (Nat.le_of_ble_eq_true rfl) ?_ ?_
  · rintro rv X' I' R' ⟨rfl, hq⟩
    obtain ⟨g1, rfl, g2, g3, g4⟩ := h1 _ _ _ hq
    change J 7 [jy v, jy 0, .ref u] _ _ _ _ _
    refine jy_i2l hS rfl rfl ?_
    refine jy_last hS rfl ho (by decide) (by omega) ?_
    refine jy_goto hS rfl ?_
    refine jy_iconst hS rfl ?_
    exact jy_iret hS rfl rfl ⟨Nat.le_refl _, rfl, Or.inl ⟨g1, rfl, jx_u_s _ _ _ _, g2, g3, g4⟩⟩
  · rintro E X' I' R' ⟨x1, x2, hq⟩
    obtain ⟨k, w, g1, rfl, g2, g3⟩ := h2 _ _ _ hq
    have hm := he k w g1
    simp only [List.mem_cons, Prod.mk.injEq, List.not_mem_nil, or_false] at hm
    rcases hm with ⟨rfl, rfl⟩
    · refine jx_kx_h (by decide) (by decide) (h := 12) (by decide +kernel) (fun q => ?_)
      refine jy_astore_n hS rfl (Nat.le_of_ble_eq_true rfl) (L' := [some (.ref a0), some (jy a1), some (.ref u), some (.ref q)]) rfl ?_
      refine jy_iconst hS rfl ?_
      exact jy_iret hS rfl rfl ⟨x1, by rw [x2], Or.inr ⟨_, _, g1, rfl, g2, g3⟩⟩
theorem jt_353 : jx_ml 353 = 3 ∧ jx_rt 353 = some .int ∧ jx_hz 353 = [(0, 8, 11, 61)] ∧ decide ((jx_nm 353).name = "<init>") = false ∧ jx_code 353 = jx_c353 := by decide +kernel
set_option maxRecDepth 20000 in
theorem wr_20 {V : jx_V} (hV : V.1.stackTraces = false) {X : jx_X} {R : jx_R} {I : jx_I} {a0 u : Nat}  {e : Option (Nat × Int)} {v : Int} {s s' : YZ} (hx : X.2.1 a0 = some (11, 0)) (ho : X.2.1 u = some (101, 1)) (hM : jp V 9 158 (1, 6) [.ref a0] X I R (KQ X R I a0 e (jy v) s') (KE X R I a0 e s)) (he : ∀ k w, e = some (k, w) → (k, w) ∈ [((3 : Nat), (1 : Int))]) : je V 10 353 (1, 6) [.ref a0, .ref u] X I R (WQA X R I a0 u e (Int32.ofInt v).toInt64 s s') := by
  obtain ⟨Q0, QE0, hM, h1, h2⟩ := hM
  refine jy_met hV (by decide) (n := 3) (rt := some .int) (hh := [(0, 8, 11, 61)]) (ini := false) (C := jx_c353) (L := [some (.ref a0), some (.ref u), none]) jt_353 (Nat.le_of_ble_eq_true rfl) rfl ?_
  intro J hS
  refine jy_aload_n hS rfl rfl ?_
  refine jy_iconst hS rfl ?_
  refine jy_aload_n hS rfl rfl ?_
  refine jy_callV hS rfl rfl rfl (Nat.le_of_ble_eq_true rfl) (Or.inl hx) hM (by decide) ⟨Nat.le_refl _, Nat.le_refl _⟩ (Nat.le_of_ble_eq_true rfl) ?_ ?_
  · rintro rv X' I' R' ⟨rfl, hq⟩
    obtain ⟨g1, rfl, g2, g3, g4⟩ := h1 _ _ _ hq
    change J 6 [jy v, jy 0, .ref u] _ _ _ _ _
    refine jy_i2l hS rfl rfl ?_
    refine jy_last hS rfl ho (by decide) (by omega) ?_
    refine jy_goto hS rfl ?_
    refine jy_iconst hS rfl ?_
    exact jy_iret hS rfl rfl ⟨Nat.le_refl _, rfl, Or.inl ⟨g1, rfl, jx_u_s _ _ _ _, g2, g3, g4⟩⟩
  · rintro E X' I' R' ⟨x1, x2, hq⟩
    obtain ⟨k, w, g1, rfl, g2, g3⟩ := h2 _ _ _ hq
    have hm := he k w g1
    simp only [List.mem_cons, Prod.mk.injEq, List.not_mem_nil, or_false] at hm
    rcases hm with ⟨rfl, rfl⟩
    · refine jx_kx_h (by decide) (by decide) (h := 11) (by decide +kernel) (fun q => ?_)
      refine jy_astore_n hS rfl (Nat.le_of_ble_eq_true rfl) (L' := [some (.ref a0), some (.ref u), some (.ref q)]) rfl ?_
      refine jy_iconst hS rfl ?_
      exact jy_iret hS rfl rfl ⟨x1, by rw [x2], Or.inr ⟨_, _, g1, rfl, g2, g3⟩⟩
theorem jt_354 : jx_ml 354 = 6 ∧ jx_rt 354 = some .int ∧ jx_hz 354 = [(0, 11, 14, 21), (0, 11, 18, 13)] ∧ decide ((jx_nm 354).name = "<init>") = false ∧ jx_code 354 = jx_c354 := by decide +kernel
set_option maxRecDepth 20000 in
theorem wr_22 {V : jx_V} (hV : V.1.stackTraces = false) {X : jx_X} {R : jx_R} {I : jx_I} {a0 u : Nat} {a1 : Int} {a2 : Int} {a3 : Int} {e : Option (Nat × Int)} {v : Int64} {s s' : YZ} (hx : X.2.1 a0 = some (11, 0)) (ho : X.2.1 u = some (101, 1)) (hM : jp V 10 163 (3, 18) [.ref a0, jy a1, jy a2, jy a3] X I R (KQ X R I a0 e (.long v) s') (KE X R I a0 e s)) (he : ∀ k w, e = some (k, w) → (k, w) ∈ [((0 : Nat), (1 : Int)), ((2 : Nat), (2 : Int))]) : je V 11 354 (3, 18) [.ref a0, jy a1, jy a2, jy a3, .ref u] X I R (WQA X R I a0 u e v s s') := by
  obtain ⟨Q0, QE0, hM, h1, h2⟩ := hM
  refine jy_met hV (by decide) (n := 6) (rt := some .int) (hh := [(0, 11, 14, 21), (0, 11, 18, 13)]) (ini := false) (C := jx_c354) (L := [some (.ref a0), some (jy a1), some (jy a2), some (jy a3), some (.ref u), none]) jt_354 (Nat.le_of_ble_eq_true rfl) rfl ?_
  intro J hS
  refine jy_aload hS rfl rfl ?_
  refine jy_iconst hS rfl ?_
  refine jy_aload_n hS rfl rfl ?_
  refine jy_iload_n hS rfl rfl ?_
  refine jy_iload_n hS rfl rfl ?_
  refine jy_iload_n hS rfl rfl ?_
  refine jy_callV hS rfl rfl rfl (Nat.le_of_ble_eq_true rfl) (Or.inl hx) hM (by decide) ⟨Nat.le_refl _, Nat.le_refl _⟩ (Nat.le_of_ble_eq_true rfl) ?_ ?_
  · rintro rv X' I' R' ⟨rfl, hq⟩
    obtain ⟨g1, rfl, g2, g3, g4⟩ := h1 _ _ _ hq
    change J 10 [.long v, jy 0, .ref u] _ _ _ _ _
    refine jy_last hS rfl ho (by decide) (by omega) ?_
    refine jy_goto hS rfl ?_
    refine jy_iconst hS rfl ?_
    exact jy_iret hS rfl rfl ⟨Nat.le_refl _, rfl, Or.inl ⟨g1, rfl, jx_u_s _ _ _ _, g2, g3, g4⟩⟩
  · rintro E X' I' R' ⟨x1, x2, hq⟩
    obtain ⟨k, w, g1, rfl, g2, g3⟩ := h2 _ _ _ hq
    have hm := he k w g1
    simp only [List.mem_cons, Prod.mk.injEq, List.not_mem_nil, or_false] at hm
    rcases hm with ⟨rfl, rfl⟩ | ⟨rfl, rfl⟩
    · refine jx_kx_h (by decide) (by decide) (h := 14) (by decide +kernel) (fun q => ?_)
      refine jy_astore hS rfl (Nat.le_of_ble_eq_true rfl) (L' := [some (.ref a0), some (jy a1), some (jy a2), some (jy a3), some (.ref u), some (.ref q)]) rfl ?_
      refine jy_iconst hS rfl ?_
      exact jy_iret hS rfl rfl ⟨x1, by rw [x2], Or.inr ⟨_, _, g1, rfl, g2, g3⟩⟩
    · refine jx_kx_h (by decide) (by decide) (h := 18) (by decide +kernel) (fun q => ?_)
      refine jy_astore hS rfl (Nat.le_of_ble_eq_true rfl) (L' := [some (.ref a0), some (jy a1), some (jy a2), some (jy a3), some (.ref u), some (.ref q)]) rfl ?_
      refine jy_iconst hS rfl ?_
      exact jy_iret hS rfl rfl ⟨x1, by rw [x2], Or.inr ⟨_, _, g1, rfl, g2, g3⟩⟩
theorem jt_355 : jx_ml 355 = 5 ∧ jx_rt 355 = some .int ∧ jx_hz 355 = [(0, 10, 13, 13), (0, 10, 17, 61)] ∧ decide ((jx_nm 355).name = "<init>") = false ∧ jx_code 355 = jx_c355 := by decide +kernel
set_option maxRecDepth 20000 in
theorem wr_23 {V : jx_V} (hV : V.1.stackTraces = false) {X : jx_X} {R : jx_R} {I : jx_I} {a0 u : Nat} {a1 : Int} {a2 : Int} {e : Option (Nat × Int)} {v : Int} {s s' : YZ} (hx : X.2.1 a0 = some (11, 0)) (ho : X.2.1 u = some (101, 1)) (hM : jp V 10 166 (3, 18) [.ref a0, jy a1, jy a2] X I R (KQ X R I a0 e (jy v) s') (KE X R I a0 e s)) (he : ∀ k w, e = some (k, w) → (k, w) ∈ [((2 : Nat), (1 : Int)), ((3 : Nat), (2 : Int))]) : je V 11 355 (3, 18) [.ref a0, jy a1, jy a2, .ref u] X I R (WQA X R I a0 u e (Int32.ofInt v).toInt64 s s') := by
  obtain ⟨Q0, QE0, hM, h1, h2⟩ := hM
  refine jy_met hV (by decide) (n := 5) (rt := some .int) (hh := [(0, 10, 13, 13), (0, 10, 17, 61)]) (ini := false) (C := jx_c355) (L := [some (.ref a0), some (jy a1), some (jy a2), some (.ref u), none]) jt_355 (Nat.le_of_ble_eq_true rfl) rfl ?_
  intro J hS
  refine jy_aload_n hS rfl rfl ?_
  refine jy_iconst hS rfl ?_
  refine jy_aload_n hS rfl rfl ?_
  refine jy_iload_n hS rfl rfl ?_
  refine jy_iload_n hS rfl rfl ?_
  refine jy_callV hS rfl rfl rfl (Nat.le_of_ble_eq_true rfl) (Or.inl hx) hM (by decide) ⟨Nat.le_refl _, Nat.le_refl _⟩ (Nat.le_of_ble_eq_true rfl) ?_ ?_
  · rintro rv X' I' R' ⟨rfl, hq⟩
    obtain ⟨g1, rfl, g2, g3, g4⟩ := h1 _ _ _ hq
    change J 8 [jy v, jy 0, .ref u] _ _ _ _ _
    refine jy_i2l hS rfl rfl ?_
    refine jy_last hS rfl ho (by decide) (by omega) ?_
    refine jy_goto hS rfl ?_
    refine jy_iconst hS rfl ?_
    exact jy_iret hS rfl rfl ⟨Nat.le_refl _, rfl, Or.inl ⟨g1, rfl, jx_u_s _ _ _ _, g2, g3, g4⟩⟩
  · rintro E X' I' R' ⟨x1, x2, hq⟩
    obtain ⟨k, w, g1, rfl, g2, g3⟩ := h2 _ _ _ hq
    have hm := he k w g1
    simp only [List.mem_cons, Prod.mk.injEq, List.not_mem_nil, or_false] at hm
    rcases hm with ⟨rfl, rfl⟩ | ⟨rfl, rfl⟩
    · refine jx_kx_h (by decide) (by decide) (h := 13) (by decide +kernel) (fun q => ?_)
      refine jy_astore hS rfl (Nat.le_of_ble_eq_true rfl) (L' := [some (.ref a0), some (jy a1), some (jy a2), some (.ref u), some (.ref q)]) rfl ?_
      refine jy_iconst hS rfl ?_
      exact jy_iret hS rfl rfl ⟨x1, by rw [x2], Or.inr ⟨_, _, g1, rfl, g2, g3⟩⟩
    · refine jx_kx_h (by decide) (by decide) (h := 17) (by decide +kernel) (fun q => ?_)
      refine jy_astore hS rfl (Nat.le_of_ble_eq_true rfl) (L' := [some (.ref a0), some (jy a1), some (jy a2), some (.ref u), some (.ref q)]) rfl ?_
      refine jy_iconst hS rfl ?_
      exact jy_iret hS rfl rfl ⟨x1, by rw [x2], Or.inr ⟨_, _, g1, rfl, g2, g3⟩⟩
theorem jt_356 : jx_ml 356 = 4 ∧ jx_rt 356 = some .int ∧ jx_hz 356 = [(0, 9, 12, 13), (0, 9, 15, 61)] ∧ decide ((jx_nm 356).name = "<init>") = false ∧ jx_code 356 = jx_c356 := by decide +kernel
set_option maxRecDepth 20000 in
theorem wr_24 {V : jx_V} (hV : V.1.stackTraces = false) {X : jx_X} {R : jx_R} {I : jx_I} {a0 u : Nat} {a1 : Int} {e : Option (Nat × Int)} {v : Int} {s s' : YZ} (hx : X.2.1 a0 = some (11, 0)) (ho : X.2.1 u = some (101, 1)) (hM : jp V 10 167 (2, 12) [.ref a0, jy a1] X I R (KQ X R I a0 e (jy v) s') (KE X R I a0 e s)) (he : ∀ k w, e = some (k, w) → (k, w) ∈ [((2 : Nat), (1 : Int)), ((3 : Nat), (2 : Int))]) : je V 11 356 (2, 12) [.ref a0, jy a1, .ref u] X I R (WQA X R I a0 u e (Int32.ofInt v).toInt64 s s') := by
  obtain ⟨Q0, QE0, hM, h1, h2⟩ := hM
  refine jy_met hV (by decide) (n := 4) (rt := some .int) (hh := [(0, 9, 12, 13), (0, 9, 15, 61)]) (ini := false) (C := jx_c356) (L := [some (.ref a0), some (jy a1), some (.ref u), none]) jt_356 (Nat.le_of_ble_eq_true rfl) rfl ?_
  intro J hS
  refine jy_aload_n hS rfl rfl ?_
  refine jy_iconst hS rfl ?_
  refine jy_aload_n hS rfl rfl ?_
  refine jy_iload_n hS rfl rfl ?_
  refine jy_callV hS rfl rfl rfl (Nat.le_of_ble_eq_true rfl) (Or.inl hx) hM (by decide) ⟨Nat.le_refl _, Nat.le_refl _⟩ (Nat.le_of_ble_eq_true rfl) ?_ ?_
  · rintro rv X' I' R' ⟨rfl, hq⟩
    obtain ⟨g1, rfl, g2, g3, g4⟩ := h1 _ _ _ hq
    change J 7 [jy v, jy 0, .ref u] _ _ _ _ _
    refine jy_i2l hS rfl rfl ?_
    refine jy_last hS rfl ho (by decide) (by omega) ?_
    refine jy_goto hS rfl ?_
    refine jy_iconst hS rfl ?_
    exact jy_iret hS rfl rfl ⟨Nat.le_refl _, rfl, Or.inl ⟨g1, rfl, jx_u_s _ _ _ _, g2, g3, g4⟩⟩
  · rintro E X' I' R' ⟨x1, x2, hq⟩
    obtain ⟨k, w, g1, rfl, g2, g3⟩ := h2 _ _ _ hq
    have hm := he k w g1
    simp only [List.mem_cons, Prod.mk.injEq, List.not_mem_nil, or_false] at hm
    rcases hm with ⟨rfl, rfl⟩ | ⟨rfl, rfl⟩
    · refine jx_kx_h (by decide) (by decide) (h := 12) (by decide +kernel) (fun q => ?_)
      refine jy_astore_n hS rfl (Nat.le_of_ble_eq_true rfl) (L' := [some (.ref a0), some (jy a1), some (.ref u), some (.ref q)]) rfl ?_
      refine jy_iconst hS rfl ?_
      exact jy_iret hS rfl rfl ⟨x1, by rw [x2], Or.inr ⟨_, _, g1, rfl, g2, g3⟩⟩
    · refine jx_kx_h (by decide) (by decide) (h := 15) (by decide +kernel) (fun q => ?_)
      refine jy_astore_n hS rfl (Nat.le_of_ble_eq_true rfl) (L' := [some (.ref a0), some (jy a1), some (.ref u), some (.ref q)]) rfl ?_
      refine jy_iconst hS rfl ?_
      exact jy_iret hS rfl rfl ⟨x1, by rw [x2], Or.inr ⟨_, _, g1, rfl, g2, g3⟩⟩
theorem jt_357 : jx_ml 357 = 4 ∧ jx_rt 357 = some .int ∧ jx_hz 357 = [(0, 9, 12, 13), (0, 9, 15, 61)] ∧ decide ((jx_nm 357).name = "<init>") = false ∧ jx_code 357 = jx_c357 := by decide +kernel
set_option maxRecDepth 20000 in
theorem wr_25 {V : jx_V} (hV : V.1.stackTraces = false) {X : jx_X} {R : jx_R} {I : jx_I} {a0 u : Nat} {a1 : Int} {e : Option (Nat × Int)} {v : Int} {s s' : YZ} (hx : X.2.1 a0 = some (11, 0)) (ho : X.2.1 u = some (101, 1)) (hM : jp V 10 168 (2, 12) [.ref a0, jy a1] X I R (KQ X R I a0 e (jy v) s') (KE X R I a0 e s)) (he : ∀ k w, e = some (k, w) → (k, w) ∈ [((2 : Nat), (1 : Int)), ((3 : Nat), (2 : Int))]) : je V 11 357 (2, 12) [.ref a0, jy a1, .ref u] X I R (WQA X R I a0 u e (Int32.ofInt v).toInt64 s s') := by
  obtain ⟨Q0, QE0, hM, h1, h2⟩ := hM
  refine jy_met hV (by decide) (n := 4) (rt := some .int) (hh := [(0, 9, 12, 13), (0, 9, 15, 61)]) (ini := false) (C := jx_c357) (L := [some (.ref a0), some (jy a1), some (.ref u), none]) jt_357 (Nat.le_of_ble_eq_true rfl) rfl ?_
  intro J hS
  refine jy_aload_n hS rfl rfl ?_
  refine jy_iconst hS rfl ?_
  refine jy_aload_n hS rfl rfl ?_
  refine jy_iload_n hS rfl rfl ?_
  refine jy_callV hS rfl rfl rfl (Nat.le_of_ble_eq_true rfl) (Or.inl hx) hM (by decide) ⟨Nat.le_refl _, Nat.le_refl _⟩ (Nat.le_of_ble_eq_true rfl) ?_ ?_
  · rintro rv X' I' R' ⟨rfl, hq⟩
    obtain ⟨g1, rfl, g2, g3, g4⟩ := h1 _ _ _ hq
    change J 7 [jy v, jy 0, .ref u] _ _ _ _ _
    refine jy_i2l hS rfl rfl ?_
    refine jy_last hS rfl ho (by decide) (by omega) ?_
    refine jy_goto hS rfl ?_
    refine jy_iconst hS rfl ?_
    exact jy_iret hS rfl rfl ⟨Nat.le_refl _, rfl, Or.inl ⟨g1, rfl, jx_u_s _ _ _ _, g2, g3, g4⟩⟩
  · rintro E X' I' R' ⟨x1, x2, hq⟩
    obtain ⟨k, w, g1, rfl, g2, g3⟩ := h2 _ _ _ hq
    have hm := he k w g1
    simp only [List.mem_cons, Prod.mk.injEq, List.not_mem_nil, or_false] at hm
    rcases hm with ⟨rfl, rfl⟩ | ⟨rfl, rfl⟩
    · refine jx_kx_h (by decide) (by decide) (h := 12) (by decide +kernel) (fun q => ?_)
      refine jy_astore_n hS rfl (Nat.le_of_ble_eq_true rfl) (L' := [some (.ref a0), some (jy a1), some (.ref u), some (.ref q)]) rfl ?_
      refine jy_iconst hS rfl ?_
      exact jy_iret hS rfl rfl ⟨x1, by rw [x2], Or.inr ⟨_, _, g1, rfl, g2, g3⟩⟩
    · refine jx_kx_h (by decide) (by decide) (h := 15) (by decide +kernel) (fun q => ?_)
      refine jy_astore_n hS rfl (Nat.le_of_ble_eq_true rfl) (L' := [some (.ref a0), some (jy a1), some (.ref u), some (.ref q)]) rfl ?_
      refine jy_iconst hS rfl ?_
      exact jy_iret hS rfl rfl ⟨x1, by rw [x2], Or.inr ⟨_, _, g1, rfl, g2, g3⟩⟩
theorem jt_358 : jx_ml 358 = 4 ∧ jx_rt 358 = some .int ∧ jx_hz 358 = [(0, 9, 12, 13), (0, 9, 15, 61)] ∧ decide ((jx_nm 358).name = "<init>") = false ∧ jx_code 358 = jx_c358 := by decide +kernel
set_option maxRecDepth 20000 in
theorem wr_26 {V : jx_V} (hV : V.1.stackTraces = false) {X : jx_X} {R : jx_R} {I : jx_I} {a0 u : Nat} {a1 : Int} {e : Option (Nat × Int)} {v : Int} {s s' : YZ} (hx : X.2.1 a0 = some (11, 0)) (ho : X.2.1 u = some (101, 1)) (hM : jp V 10 169 (2, 12) [.ref a0, jy a1] X I R (KQ X R I a0 e (jy v) s') (KE X R I a0 e s)) (he : ∀ k w, e = some (k, w) → (k, w) ∈ [((2 : Nat), (1 : Int)), ((3 : Nat), (2 : Int))]) : je V 11 358 (2, 12) [.ref a0, jy a1, .ref u] X I R (WQA X R I a0 u e (Int32.ofInt v).toInt64 s s') := by
  obtain ⟨Q0, QE0, hM, h1, h2⟩ := hM
  refine jy_met hV (by decide) (n := 4) (rt := some .int) (hh := [(0, 9, 12, 13), (0, 9, 15, 61)]) (ini := false) (C := jx_c358) (L := [some (.ref a0), some (jy a1), some (.ref u), none]) jt_358 (Nat.le_of_ble_eq_true rfl) rfl ?_
  intro J hS
  refine jy_aload_n hS rfl rfl ?_
  refine jy_iconst hS rfl ?_
  refine jy_aload_n hS rfl rfl ?_
  refine jy_iload_n hS rfl rfl ?_
  refine jy_callV hS rfl rfl rfl (Nat.le_of_ble_eq_true rfl) (Or.inl hx) hM (by decide) ⟨Nat.le_refl _, Nat.le_refl _⟩ (Nat.le_of_ble_eq_true rfl) ?_ ?_
  · rintro rv X' I' R' ⟨rfl, hq⟩
    obtain ⟨g1, rfl, g2, g3, g4⟩ := h1 _ _ _ hq
    change J 7 [jy v, jy 0, .ref u] _ _ _ _ _
    refine jy_i2l hS rfl rfl ?_
    refine jy_last hS rfl ho (by decide) (by omega) ?_
    refine jy_goto hS rfl ?_
    refine jy_iconst hS rfl ?_
    exact jy_iret hS rfl rfl ⟨Nat.le_refl _, rfl, Or.inl ⟨g1, rfl, jx_u_s _ _ _ _, g2, g3, g4⟩⟩
  · rintro E X' I' R' ⟨x1, x2, hq⟩
    obtain ⟨k, w, g1, rfl, g2, g3⟩ := h2 _ _ _ hq
    have hm := he k w g1
    simp only [List.mem_cons, Prod.mk.injEq, List.not_mem_nil, or_false] at hm
    rcases hm with ⟨rfl, rfl⟩ | ⟨rfl, rfl⟩
    · refine jx_kx_h (by decide) (by decide) (h := 12) (by decide +kernel) (fun q => ?_)
      refine jy_astore_n hS rfl (Nat.le_of_ble_eq_true rfl) (L' := [some (.ref a0), some (jy a1), some (.ref u), some (.ref q)]) rfl ?_
      refine jy_iconst hS rfl ?_
      exact jy_iret hS rfl rfl ⟨x1, by rw [x2], Or.inr ⟨_, _, g1, rfl, g2, g3⟩⟩
    · refine jx_kx_h (by decide) (by decide) (h := 15) (by decide +kernel) (fun q => ?_)
      refine jy_astore_n hS rfl (Nat.le_of_ble_eq_true rfl) (L' := [some (.ref a0), some (jy a1), some (.ref u), some (.ref q)]) rfl ?_
      refine jy_iconst hS rfl ?_
      exact jy_iret hS rfl rfl ⟨x1, by rw [x2], Or.inr ⟨_, _, g1, rfl, g2, g3⟩⟩
theorem jt_359 : jx_ml 359 = 5 ∧ jx_rt 359 = some .int ∧ jx_hz 359 = [(0, 10, 13, 13)] ∧ decide ((jx_nm 359).name = "<init>") = false ∧ jx_code 359 = jx_c359 := by decide +kernel
set_option maxRecDepth 20000 in
theorem wr_27 {V : jx_V} (hV : V.1.stackTraces = false) {X : jx_X} {R : jx_R} {I : jx_I} {a0 u : Nat} {a1 : Int} {a2 : Int} {e : Option (Nat × Int)} {v : Int} {s s' : YZ} (hx : X.2.1 a0 = some (11, 0)) (ho : X.2.1 u = some (101, 1)) (hM : jp V 9 174 (2, 12) [.ref a0, jy a1, jy a2] X I R (KQ X R I a0 e (jy v) s') (KE X R I a0 e s)) (he : ∀ k w, e = some (k, w) → (k, w) ∈ [((2 : Nat), (1 : Int))]) : je V 10 359 (2, 12) [.ref a0, jy a1, jy a2, .ref u] X I R (WQA X R I a0 u e (Int32.ofInt v).toInt64 s s') := by
  obtain ⟨Q0, QE0, hM, h1, h2⟩ := hM
  refine jy_met hV (by decide) (n := 5) (rt := some .int) (hh := [(0, 10, 13, 13)]) (ini := false) (C := jx_c359) (L := [some (.ref a0), some (jy a1), some (jy a2), some (.ref u), none]) jt_359 (Nat.le_of_ble_eq_true rfl) rfl ?_
  intro J hS
  refine jy_aload_n hS rfl rfl ?_
  refine jy_iconst hS rfl ?_
  refine jy_aload_n hS rfl rfl ?_
  refine jy_iload_n hS rfl rfl ?_
  refine jy_iload_n hS rfl rfl ?_
  refine jy_callV hS rfl rfl rfl (Nat.le_of_ble_eq_true rfl) (Or.inl hx) hM (by decide) ⟨Nat.le_refl _, Nat.le_refl _⟩ (Nat.le_of_ble_eq_true rfl) ?_ ?_
  · rintro rv X' I' R' ⟨rfl, hq⟩
    obtain ⟨g1, rfl, g2, g3, g4⟩ := h1 _ _ _ hq
    change J 8 [jy v, jy 0, .ref u] _ _ _ _ _
    refine jy_i2l hS rfl rfl ?_
    refine jy_last hS rfl ho (by decide) (by omega) ?_
    refine jy_goto hS rfl ?_
    refine jy_iconst hS rfl ?_
    exact jy_iret hS rfl rfl ⟨Nat.le_refl _, rfl, Or.inl ⟨g1, rfl, jx_u_s _ _ _ _, g2, g3, g4⟩⟩
  · rintro E X' I' R' ⟨x1, x2, hq⟩
    obtain ⟨k, w, g1, rfl, g2, g3⟩ := h2 _ _ _ hq
    have hm := he k w g1
    simp only [List.mem_cons, Prod.mk.injEq, List.not_mem_nil, or_false] at hm
    rcases hm with ⟨rfl, rfl⟩
    · refine jx_kx_h (by decide) (by decide) (h := 13) (by decide +kernel) (fun q => ?_)
      refine jy_astore hS rfl (Nat.le_of_ble_eq_true rfl) (L' := [some (.ref a0), some (jy a1), some (jy a2), some (.ref u), some (.ref q)]) rfl ?_
      refine jy_iconst hS rfl ?_
      exact jy_iret hS rfl rfl ⟨x1, by rw [x2], Or.inr ⟨_, _, g1, rfl, g2, g3⟩⟩
theorem jt_360 : jx_ml 360 = 4 ∧ jx_rt 360 = some .int ∧ jx_hz 360 = [(0, 9, 12, 13)] ∧ decide ((jx_nm 360).name = "<init>") = false ∧ jx_code 360 = jx_c360 := by decide +kernel
set_option maxRecDepth 20000 in
theorem wr_29 {V : jx_V} (hV : V.1.stackTraces = false) {X : jx_X} {R : jx_R} {I : jx_I} {a0 u : Nat} {a1 : Int} {e : Option (Nat × Int)} {v : Int} {s s' : YZ} (hx : X.2.1 a0 = some (11, 0)) (ho : X.2.1 u = some (101, 1)) (hM : jp V 202 176 (1, 6) [.ref a0, jy a1] X I R (KQ X R I a0 e (jy v) s') (KE X R I a0 e s)) (he : ∀ k w, e = some (k, w) → (k, w) ∈ [((2 : Nat), (1 : Int))]) : je V 203 360 (1, 6) [.ref a0, jy a1, .ref u] X I R (WQA X R I a0 u e (Int32.ofInt v).toInt64 s s') := by
  obtain ⟨Q0, QE0, hM, h1, h2⟩ := hM
  refine jy_met hV (by decide) (n := 4) (rt := some .int) (hh := [(0, 9, 12, 13)]) (ini := false) (C := jx_c360) (L := [some (.ref a0), some (jy a1), some (.ref u), none]) jt_360 (Nat.le_of_ble_eq_true rfl) rfl ?_
  intro J hS
  refine jy_aload_n hS rfl rfl ?_
  refine jy_iconst hS rfl ?_
  refine jy_aload_n hS rfl rfl ?_
  refine jy_iload_n hS rfl rfl ?_
  refine jy_callV hS rfl rfl rfl (Nat.le_of_ble_eq_true rfl) (Or.inl hx) hM (by decide) ⟨Nat.le_refl _, Nat.le_refl _⟩ (Nat.le_of_ble_eq_true rfl) ?_ ?_
  · rintro rv X' I' R' ⟨rfl, hq⟩
    obtain ⟨g1, rfl, g2, g3, g4⟩ := h1 _ _ _ hq
    change J 7 [jy v, jy 0, .ref u] _ _ _ _ _
    refine jy_i2l hS rfl rfl ?_
    refine jy_last hS rfl ho (by decide) (by omega) ?_
    refine jy_goto hS rfl ?_
    refine jy_iconst hS rfl ?_
    exact jy_iret hS rfl rfl ⟨Nat.le_refl _, rfl, Or.inl ⟨g1, rfl, jx_u_s _ _ _ _, g2, g3, g4⟩⟩
  · rintro E X' I' R' ⟨x1, x2, hq⟩
    obtain ⟨k, w, g1, rfl, g2, g3⟩ := h2 _ _ _ hq
    have hm := he k w g1
    simp only [List.mem_cons, Prod.mk.injEq, List.not_mem_nil, or_false] at hm
    rcases hm with ⟨rfl, rfl⟩
    · refine jx_kx_h (by decide) (by decide) (h := 12) (by decide +kernel) (fun q => ?_)
      refine jy_astore_n hS rfl (Nat.le_of_ble_eq_true rfl) (L' := [some (.ref a0), some (jy a1), some (.ref u), some (.ref q)]) rfl ?_
      refine jy_iconst hS rfl ?_
      exact jy_iret hS rfl rfl ⟨x1, by rw [x2], Or.inr ⟨_, _, g1, rfl, g2, g3⟩⟩
theorem jt_361 : jx_ml 361 = 5 ∧ jx_rt 361 = some .int ∧ jx_hz 361 = [(0, 10, 13, 13)] ∧ decide ((jx_nm 361).name = "<init>") = false ∧ jx_code 361 = jx_c361 := by decide +kernel
set_option maxRecDepth 20000 in
theorem wr_30 {V : jx_V} (hV : V.1.stackTraces = false) {X : jx_X} {R : jx_R} {I : jx_I} {a0 u : Nat} {a1 : Int} {a2 : Int} {e : Option (Nat × Int)} {v : Int} {s s' : YZ} (hx : X.2.1 a0 = some (11, 0)) (ho : X.2.1 u = some (101, 1)) (hM : jp V 9 177 (2, 12) [.ref a0, jy a1, jy a2] X I R (KQ X R I a0 e (jy v) s') (KE X R I a0 e s)) (he : ∀ k w, e = some (k, w) → (k, w) ∈ [((2 : Nat), (1 : Int))]) : je V 10 361 (2, 12) [.ref a0, jy a1, jy a2, .ref u] X I R (WQA X R I a0 u e (Int32.ofInt v).toInt64 s s') := by
  obtain ⟨Q0, QE0, hM, h1, h2⟩ := hM
  refine jy_met hV (by decide) (n := 5) (rt := some .int) (hh := [(0, 10, 13, 13)]) (ini := false) (C := jx_c361) (L := [some (.ref a0), some (jy a1), some (jy a2), some (.ref u), none]) jt_361 (Nat.le_of_ble_eq_true rfl) rfl ?_
  intro J hS
  refine jy_aload_n hS rfl rfl ?_
  refine jy_iconst hS rfl ?_
  refine jy_aload_n hS rfl rfl ?_
  refine jy_iload_n hS rfl rfl ?_
  refine jy_iload_n hS rfl rfl ?_
  refine jy_callV hS rfl rfl rfl (Nat.le_of_ble_eq_true rfl) (Or.inl hx) hM (by decide) ⟨Nat.le_refl _, Nat.le_refl _⟩ (Nat.le_of_ble_eq_true rfl) ?_ ?_
  · rintro rv X' I' R' ⟨rfl, hq⟩
    obtain ⟨g1, rfl, g2, g3, g4⟩ := h1 _ _ _ hq
    change J 8 [jy v, jy 0, .ref u] _ _ _ _ _
    refine jy_i2l hS rfl rfl ?_
    refine jy_last hS rfl ho (by decide) (by omega) ?_
    refine jy_goto hS rfl ?_
    refine jy_iconst hS rfl ?_
    exact jy_iret hS rfl rfl ⟨Nat.le_refl _, rfl, Or.inl ⟨g1, rfl, jx_u_s _ _ _ _, g2, g3, g4⟩⟩
  · rintro E X' I' R' ⟨x1, x2, hq⟩
    obtain ⟨k, w, g1, rfl, g2, g3⟩ := h2 _ _ _ hq
    have hm := he k w g1
    simp only [List.mem_cons, Prod.mk.injEq, List.not_mem_nil, or_false] at hm
    rcases hm with ⟨rfl, rfl⟩
    · refine jx_kx_h (by decide) (by decide) (h := 13) (by decide +kernel) (fun q => ?_)
      refine jy_astore hS rfl (Nat.le_of_ble_eq_true rfl) (L' := [some (.ref a0), some (jy a1), some (jy a2), some (.ref u), some (.ref q)]) rfl ?_
      refine jy_iconst hS rfl ?_
      exact jy_iret hS rfl rfl ⟨x1, by rw [x2], Or.inr ⟨_, _, g1, rfl, g2, g3⟩⟩
theorem jt_362 : jx_ml 362 = 4 ∧ jx_rt 362 = some .int ∧ jx_hz 362 = [(0, 9, 12, 13), (0, 9, 15, 61)] ∧ decide ((jx_nm 362).name = "<init>") = false ∧ jx_code 362 = jx_c362 := by decide +kernel
set_option maxRecDepth 20000 in
theorem wr_31 {V : jx_V} (hV : V.1.stackTraces = false) {X : jx_X} {R : jx_R} {I : jx_I} {a0 u : Nat} {a1 : Int} {e : Option (Nat × Int)} {v : Int} {s s' : YZ} (hx : X.2.1 a0 = some (11, 0)) (ho : X.2.1 u = some (101, 1)) (hM : jp V 9 160 (2, 12) [.ref a0, jy a1] X I R (KQ X R I a0 e (jy v) s') (KE X R I a0 e s)) (he : ∀ k w, e = some (k, w) → (k, w) ∈ [((2 : Nat), (1 : Int)), ((3 : Nat), (2 : Int))]) : je V 10 362 (2, 12) [.ref a0, jy a1, .ref u] X I R (WQA X R I a0 u e (Int32.ofInt v).toInt64 s s') := by
  obtain ⟨Q0, QE0, hM, h1, h2⟩ := hM
  refine jy_met hV (by decide) (n := 4) (rt := some .int) (hh := [(0, 9, 12, 13), (0, 9, 15, 61)]) (ini := false) (C := jx_c362) (L := [some (.ref a0), some (jy a1), some (.ref u), none]) jt_362 (Nat.le_of_ble_eq_true rfl) rfl ?_
  intro J hS
  refine jy_aload_n hS rfl rfl ?_
  refine jy_iconst hS rfl ?_
  refine jy_aload_n hS rfl rfl ?_
  refine jy_iload_n hS rfl rfl ?_
  refine jy_callV hS rfl rfl rfl (Nat.le_of_ble_eq_true rfl) (Or.inl hx) hM (by decide) ⟨Nat.le_refl _, Nat.le_refl _⟩ (Nat.le_of_ble_eq_true rfl) ?_ ?_
  · rintro rv X' I' R' ⟨rfl, hq⟩
    obtain ⟨g1, rfl, g2, g3, g4⟩ := h1 _ _ _ hq
    change J 7 [jy v, jy 0, .ref u] _ _ _ _ _
    refine jy_i2l hS rfl rfl ?_
    refine jy_last hS rfl ho (by decide) (by omega) ?_
    refine jy_goto hS rfl ?_
    refine jy_iconst hS rfl ?_
    exact jy_iret hS rfl rfl ⟨Nat.le_refl _, rfl, Or.inl ⟨g1, rfl, jx_u_s _ _ _ _, g2, g3, g4⟩⟩
  · rintro E X' I' R' ⟨x1, x2, hq⟩
    obtain ⟨k, w, g1, rfl, g2, g3⟩ := h2 _ _ _ hq
    have hm := he k w g1
    simp only [List.mem_cons, Prod.mk.injEq, List.not_mem_nil, or_false] at hm
    rcases hm with ⟨rfl, rfl⟩ | ⟨rfl, rfl⟩
    · refine jx_kx_h (by decide) (by decide) (h := 12) (by decide +kernel) (fun q => ?_)
      refine jy_astore_n hS rfl (Nat.le_of_ble_eq_true rfl) (L' := [some (.ref a0), some (jy a1), some (.ref u), some (.ref q)]) rfl ?_
      refine jy_iconst hS rfl ?_
      exact jy_iret hS rfl rfl ⟨x1, by rw [x2], Or.inr ⟨_, _, g1, rfl, g2, g3⟩⟩
    · refine jx_kx_h (by decide) (by decide) (h := 15) (by decide +kernel) (fun q => ?_)
      refine jy_astore_n hS rfl (Nat.le_of_ble_eq_true rfl) (L' := [some (.ref a0), some (jy a1), some (.ref u), some (.ref q)]) rfl ?_
      refine jy_iconst hS rfl ?_
      exact jy_iret hS rfl rfl ⟨x1, by rw [x2], Or.inr ⟨_, _, g1, rfl, g2, g3⟩⟩
theorem jt_363 : jx_ml 363 = 5 ∧ jx_rt 363 = some .int ∧ jx_hz 363 = [(0, 10, 13, 13), (0, 10, 17, 61)] ∧ decide ((jx_nm 363).name = "<init>") = false ∧ jx_code 363 = jx_c363 := by decide +kernel
set_option maxRecDepth 20000 in
theorem wr_32 {V : jx_V} (hV : V.1.stackTraces = false) {X : jx_X} {R : jx_R} {I : jx_I} {a0 u : Nat} {a1 : Int} {a2 : Int} {e : Option (Nat × Int)} {v : Int} {s s' : YZ} (hx : X.2.1 a0 = some (11, 0)) (ho : X.2.1 u = some (101, 1)) (hM : jp V 10 161 (2, 12) [.ref a0, jy a1, jy a2] X I R (KQ X R I a0 e (jy v) s') (KE X R I a0 e s)) (he : ∀ k w, e = some (k, w) → (k, w) ∈ [((2 : Nat), (1 : Int)), ((3 : Nat), (2 : Int))]) : je V 11 363 (2, 12) [.ref a0, jy a1, jy a2, .ref u] X I R (WQA X R I a0 u e (Int32.ofInt v).toInt64 s s') := by
  obtain ⟨Q0, QE0, hM, h1, h2⟩ := hM
  refine jy_met hV (by decide) (n := 5) (rt := some .int) (hh := [(0, 10, 13, 13), (0, 10, 17, 61)]) (ini := false) (C := jx_c363) (L := [some (.ref a0), some (jy a1), some (jy a2), some (.ref u), none]) jt_363 (Nat.le_of_ble_eq_true rfl) rfl ?_
  intro J hS
  refine jy_aload_n hS rfl rfl ?_
  refine jy_iconst hS rfl ?_
  refine jy_aload_n hS rfl rfl ?_
  refine jy_iload_n hS rfl rfl ?_
  refine jy_iload_n hS rfl rfl ?_
  refine jy_callV hS rfl rfl rfl (Nat.le_of_ble_eq_true rfl) (Or.inl hx) hM (by decide) ⟨Nat.le_refl _, Nat.le_refl _⟩ (Nat.le_of_ble_eq_true rfl) ?_ ?_
  · rintro rv X' I' R' ⟨rfl, hq⟩
    obtain ⟨g1, rfl, g2, g3, g4⟩ := h1 _ _ _ hq
    change J 8 [jy v, jy 0, .ref u] _ _ _ _ _
    refine jy_i2l hS rfl rfl ?_
    refine jy_last hS rfl ho (by decide) (by omega) ?_
    refine jy_goto hS rfl ?_
    refine jy_iconst hS rfl ?_
    exact jy_iret hS rfl rfl ⟨Nat.le_refl _, rfl, Or.inl ⟨g1, rfl, jx_u_s _ _ _ _, g2, g3, g4⟩⟩
  · rintro E X' I' R' ⟨x1, x2, hq⟩
    obtain ⟨k, w, g1, rfl, g2, g3⟩ := h2 _ _ _ hq
    have hm := he k w g1
    simp only [List.mem_cons, Prod.mk.injEq, List.not_mem_nil, or_false] at hm
    rcases hm with ⟨rfl, rfl⟩ | ⟨rfl, rfl⟩
    · refine jx_kx_h (by decide) (by decide) (h := 13) (by decide +kernel) (fun q => ?_)
      refine jy_astore hS rfl (Nat.le_of_ble_eq_true rfl) (L' := [some (.ref a0), some (jy a1), some (jy a2), some (.ref u), some (.ref q)]) rfl ?_
      refine jy_iconst hS rfl ?_
      exact jy_iret hS rfl rfl ⟨x1, by rw [x2], Or.inr ⟨_, _, g1, rfl, g2, g3⟩⟩
    · refine jx_kx_h (by decide) (by decide) (h := 17) (by decide +kernel) (fun q => ?_)
      refine jy_astore hS rfl (Nat.le_of_ble_eq_true rfl) (L' := [some (.ref a0), some (jy a1), some (jy a2), some (.ref u), some (.ref q)]) rfl ?_
      refine jy_iconst hS rfl ?_
      exact jy_iret hS rfl rfl ⟨x1, by rw [x2], Or.inr ⟨_, _, g1, rfl, g2, g3⟩⟩
theorem jt_364 : jx_ml 364 = 7 ∧ jx_rt 364 = some .int ∧ jx_hz 364 = [(0, 14, 17, 13), (0, 14, 21, 61)] ∧ decide ((jx_nm 364).name = "<init>") = false ∧ jx_code 364 = jx_c364 := by decide +kernel
set_option maxRecDepth 20000 in
theorem wr_33 {V : jx_V} (hV : V.1.stackTraces = false) {X : jx_X} {R : jx_R} {I : jx_I} {a0 u : Nat} {a1 : Int} {a2 : Int} {a3 : Int} {a4 : Int} {e : Option (Nat × Int)} {v : Int} {s s' : YZ} (hx : X.2.1 a0 = some (11, 0)) (ho : X.2.1 u = some (101, 1)) (hM : jp V 10 162 (4, 24) [.ref a0, jy a1, jy a2, jy a3, jy a4] X I R (KQ X R I a0 e (jy v) s') (KE X R I a0 e s)) (he : ∀ k w, e = some (k, w) → (k, w) ∈ [((2 : Nat), (1 : Int)), ((3 : Nat), (2 : Int))]) : je V 11 364 (4, 24) [.ref a0, jy a1, jy a2, jy a3, jy a4, .ref u] X I R (WQA X R I a0 u e (Int32.ofInt v).toInt64 s s') := by
  obtain ⟨Q0, QE0, hM, h1, h2⟩ := hM
  refine jy_met hV (by decide) (n := 7) (rt := some .int) (hh := [(0, 14, 17, 13), (0, 14, 21, 61)]) (ini := false) (C := jx_c364) (L := [some (.ref a0), some (jy a1), some (jy a2), some (jy a3), some (jy a4), some (.ref u), none]) jt_364 (Nat.le_of_ble_eq_true rfl) rfl ?_
  intro J hS
  refine jy_aload hS rfl rfl ?_
  refine jy_iconst hS rfl ?_
  refine jy_aload_n hS rfl rfl ?_
  refine jy_iload_n hS rfl rfl ?_
  refine jy_iload_n hS rfl rfl ?_
  refine jy_iload_n hS rfl rfl ?_
  refine jy_iload hS rfl rfl ?_
  refine jy_callV hS rfl rfl rfl (Nat.le_of_ble_eq_true rfl) (Or.inl hx) hM (by decide) ⟨Nat.le_refl _, Nat.le_refl _⟩ (Nat.le_of_ble_eq_true rfl) ?_ ?_
  · rintro rv X' I' R' ⟨rfl, hq⟩
    obtain ⟨g1, rfl, g2, g3, g4⟩ := h1 _ _ _ hq
    change J 12 [jy v, jy 0, .ref u] _ _ _ _ _
    refine jy_i2l hS rfl rfl ?_
    refine jy_last hS rfl ho (by decide) (by omega) ?_
    refine jy_goto hS rfl ?_
    refine jy_iconst hS rfl ?_
    exact jy_iret hS rfl rfl ⟨Nat.le_refl _, rfl, Or.inl ⟨g1, rfl, jx_u_s _ _ _ _, g2, g3, g4⟩⟩
  · rintro E X' I' R' ⟨x1, x2, hq⟩
    obtain ⟨k, w, g1, rfl, g2, g3⟩ := h2 _ _ _ hq
    have hm := he k w g1
    simp only [List.mem_cons, Prod.mk.injEq, List.not_mem_nil, or_false] at hm
    rcases hm with ⟨rfl, rfl⟩ | ⟨rfl, rfl⟩
    · refine jx_kx_h (by decide) (by decide) (h := 17) (by decide +kernel) (fun q => ?_)
      refine jy_astore hS rfl (Nat.le_of_ble_eq_true rfl) (L' := [some (.ref a0), some (jy a1), some (jy a2), some (jy a3), some (jy a4), some (.ref u), some (.ref q)]) rfl ?_
      refine jy_iconst hS rfl ?_
      exact jy_iret hS rfl rfl ⟨x1, by rw [x2], Or.inr ⟨_, _, g1, rfl, g2, g3⟩⟩
    · refine jx_kx_h (by decide) (by decide) (h := 21) (by decide +kernel) (fun q => ?_)
      refine jy_astore hS rfl (Nat.le_of_ble_eq_true rfl) (L' := [some (.ref a0), some (jy a1), some (jy a2), some (jy a3), some (jy a4), some (.ref u), some (.ref q)]) rfl ?_
      refine jy_iconst hS rfl ?_
      exact jy_iret hS rfl rfl ⟨x1, by rw [x2], Or.inr ⟨_, _, g1, rfl, g2, g3⟩⟩
theorem jt_365 : jx_ml 365 = 4 ∧ jx_rt 365 = some .int ∧ jx_hz 365 = [(0, 9, 12, 13)] ∧ decide ((jx_nm 365).name = "<init>") = false ∧ jx_code 365 = jx_c365 := by decide +kernel
set_option maxRecDepth 20000 in
theorem wr_34 {V : jx_V} (hV : V.1.stackTraces = false) {X : jx_X} {R : jx_R} {I : jx_I} {a0 u : Nat} {a1 : Int} {e : Option (Nat × Int)} {v : Int} {s s' : YZ} (hx : X.2.1 a0 = some (11, 0)) (ho : X.2.1 u = some (101, 1)) (hM : jp V 201 178 (1, 6) [.ref a0, jy a1] X I R (KQ X R I a0 e (jy v) s') (KE X R I a0 e s)) (he : ∀ k w, e = some (k, w) → (k, w) ∈ [((2 : Nat), (1 : Int))]) : je V 202 365 (1, 6) [.ref a0, jy a1, .ref u] X I R (WQA X R I a0 u e (Int32.ofInt v).toInt64 s s') := by
  obtain ⟨Q0, QE0, hM, h1, h2⟩ := hM
  refine jy_met hV (by decide) (n := 4) (rt := some .int) (hh := [(0, 9, 12, 13)]) (ini := false) (C := jx_c365) (L := [some (.ref a0), some (jy a1), some (.ref u), none]) jt_365 (Nat.le_of_ble_eq_true rfl) rfl ?_
  intro J hS
  refine jy_aload_n hS rfl rfl ?_
  refine jy_iconst hS rfl ?_
  refine jy_aload_n hS rfl rfl ?_
  refine jy_iload_n hS rfl rfl ?_
  refine jy_callV hS rfl rfl rfl (Nat.le_of_ble_eq_true rfl) (Or.inl hx) hM (by decide) ⟨Nat.le_refl _, Nat.le_refl _⟩ (Nat.le_of_ble_eq_true rfl) ?_ ?_
  · rintro rv X' I' R' ⟨rfl, hq⟩
    obtain ⟨g1, rfl, g2, g3, g4⟩ := h1 _ _ _ hq
    change J 7 [jy v, jy 0, .ref u] _ _ _ _ _
    refine jy_i2l hS rfl rfl ?_
    refine jy_last hS rfl ho (by decide) (by omega) ?_
    refine jy_goto hS rfl ?_
    refine jy_iconst hS rfl ?_
    exact jy_iret hS rfl rfl ⟨Nat.le_refl _, rfl, Or.inl ⟨g1, rfl, jx_u_s _ _ _ _, g2, g3, g4⟩⟩
  · rintro E X' I' R' ⟨x1, x2, hq⟩
    obtain ⟨k, w, g1, rfl, g2, g3⟩ := h2 _ _ _ hq
    have hm := he k w g1
    simp only [List.mem_cons, Prod.mk.injEq, List.not_mem_nil, or_false] at hm
    rcases hm with ⟨rfl, rfl⟩
    · refine jx_kx_h (by decide) (by decide) (h := 12) (by decide +kernel) (fun q => ?_)
      refine jy_astore_n hS rfl (Nat.le_of_ble_eq_true rfl) (L' := [some (.ref a0), some (jy a1), some (.ref u), some (.ref q)]) rfl ?_
      refine jy_iconst hS rfl ?_
      exact jy_iret hS rfl rfl ⟨x1, by rw [x2], Or.inr ⟨_, _, g1, rfl, g2, g3⟩⟩
theorem jt_366 : jx_ml 366 = 5 ∧ jx_rt 366 = some .int ∧ jx_hz 366 = [(0, 10, 13, 21), (0, 10, 17, 13)] ∧ decide ((jx_nm 366).name = "<init>") = false ∧ jx_code 366 = jx_c366 := by decide +kernel
set_option maxRecDepth 20000 in
theorem wr_35 {V : jx_V} (hV : V.1.stackTraces = false) {X : jx_X} {R : jx_R} {I : jx_I} {a0 u : Nat} {a1 : Int} {a2 : Int} {e : Option (Nat × Int)} {v : Int} {s s' : YZ} (hx : X.2.1 a0 = some (11, 0)) (ho : X.2.1 u = some (101, 1)) (hM : jp V 202 179 (2, 12) [.ref a0, jy a1, jy a2] X I R (KQ X R I a0 e (jy v) s') (KE X R I a0 e s)) (he : ∀ k w, e = some (k, w) → (k, w) ∈ [((0 : Nat), (1 : Int)), ((2 : Nat), (2 : Int))]) : je V 203 366 (2, 12) [.ref a0, jy a1, jy a2, .ref u] X I R (WQA X R I a0 u e (Int32.ofInt v).toInt64 s s') := by
  obtain ⟨Q0, QE0, hM, h1, h2⟩ := hM
  refine jy_met hV (by decide) (n := 5) (rt := some .int) (hh := [(0, 10, 13, 21), (0, 10, 17, 13)]) (ini := false) (C := jx_c366) (L := [some (.ref a0), some (jy a1), some (jy a2), some (.ref u), none]) jt_366 (Nat.le_of_ble_eq_true rfl) rfl ?_
  intro J hS
  refine jy_aload_n hS rfl rfl ?_
  refine jy_iconst hS rfl ?_
  refine jy_aload_n hS rfl rfl ?_
  refine jy_iload_n hS rfl rfl ?_
  refine jy_iload_n hS rfl rfl ?_
  refine jy_callV hS rfl rfl rfl (Nat.le_of_ble_eq_true rfl) (Or.inl hx) hM (by decide) ⟨Nat.le_refl _, Nat.le_refl _⟩ (Nat.le_of_ble_eq_true rfl) ?_ ?_
  · rintro rv X' I' R' ⟨rfl, hq⟩
    obtain ⟨g1, rfl, g2, g3, g4⟩ := h1 _ _ _ hq
    change J 8 [jy v, jy 0, .ref u] _ _ _ _ _
    refine jy_i2l hS rfl rfl ?_
    refine jy_last hS rfl ho (by decide) (by omega) ?_
    refine jy_goto hS rfl ?_
    refine jy_iconst hS rfl ?_
    exact jy_iret hS rfl rfl ⟨Nat.le_refl _, rfl, Or.inl ⟨g1, rfl, jx_u_s _ _ _ _, g2, g3, g4⟩⟩
  · rintro E X' I' R' ⟨x1, x2, hq⟩
    obtain ⟨k, w, g1, rfl, g2, g3⟩ := h2 _ _ _ hq
    have hm := he k w g1
    simp only [List.mem_cons, Prod.mk.injEq, List.not_mem_nil, or_false] at hm
    rcases hm with ⟨rfl, rfl⟩ | ⟨rfl, rfl⟩
    · refine jx_kx_h (by decide) (by decide) (h := 13) (by decide +kernel) (fun q => ?_)
      refine jy_astore hS rfl (Nat.le_of_ble_eq_true rfl) (L' := [some (.ref a0), some (jy a1), some (jy a2), some (.ref u), some (.ref q)]) rfl ?_
      refine jy_iconst hS rfl ?_
      exact jy_iret hS rfl rfl ⟨x1, by rw [x2], Or.inr ⟨_, _, g1, rfl, g2, g3⟩⟩
    · refine jx_kx_h (by decide) (by decide) (h := 17) (by decide +kernel) (fun q => ?_)
      refine jy_astore hS rfl (Nat.le_of_ble_eq_true rfl) (L' := [some (.ref a0), some (jy a1), some (jy a2), some (.ref u), some (.ref q)]) rfl ?_
      refine jy_iconst hS rfl ?_
      exact jy_iret hS rfl rfl ⟨x1, by rw [x2], Or.inr ⟨_, _, g1, rfl, g2, g3⟩⟩
theorem jt_367 : jx_ml 367 = 6 ∧ jx_rt 367 = some .int ∧ jx_hz 367 = [(0, 12, 15, 21), (0, 12, 19, 30)] ∧ decide ((jx_nm 367).name = "<init>") = false ∧ jx_code 367 = jx_c367 := by decide +kernel
set_option maxRecDepth 20000 in
theorem wr_36 {V : jx_V} (hV : V.1.stackTraces = false) {X : jx_X} {R : jx_R} {I : jx_I} {a0 u : Nat} {a1 : Int} {a2 : Int} {a3 : Int} {e : Option (Nat × Int)} {v : Int} {s s' : YZ} (hx : X.2.1 a0 = some (11, 0)) (ho : X.2.1 u = some (101, 1)) (hM : jp V 202 180 (3, 18) [.ref a0, jy a1, jy a2, jy a3] X I R (KQ X R I a0 e (jy v) s') (KE X R I a0 e s)) (he : ∀ k w, e = some (k, w) → (k, w) ∈ [((0 : Nat), (1 : Int)), ((1 : Nat), (2 : Int))]) : je V 203 367 (3, 18) [.ref a0, jy a1, jy a2, jy a3, .ref u] X I R (WQA X R I a0 u e (Int32.ofInt v).toInt64 s s') := by
  obtain ⟨Q0, QE0, hM, h1, h2⟩ := hM
  refine jy_met hV (by decide) (n := 6) (rt := some .int) (hh := [(0, 12, 15, 21), (0, 12, 19, 30)]) (ini := false) (C := jx_c367) (L := [some (.ref a0), some (jy a1), some (jy a2), some (jy a3), some (.ref u), none]) jt_367 (Nat.le_of_ble_eq_true rfl) rfl ?_
  intro J hS
  refine jy_aload hS rfl rfl ?_
  refine jy_iconst hS rfl ?_
  refine jy_aload_n hS rfl rfl ?_
  refine jy_iload_n hS rfl rfl ?_
  refine jy_iload_n hS rfl rfl ?_
  refine jy_iload_n hS rfl rfl ?_
  refine jy_callV hS rfl rfl rfl (Nat.le_of_ble_eq_true rfl) (Or.inl hx) hM (by decide) ⟨Nat.le_refl _, Nat.le_refl _⟩ (Nat.le_of_ble_eq_true rfl) ?_ ?_
  · rintro rv X' I' R' ⟨rfl, hq⟩
    obtain ⟨g1, rfl, g2, g3, g4⟩ := h1 _ _ _ hq
    change J 10 [jy v, jy 0, .ref u] _ _ _ _ _
    refine jy_i2l hS rfl rfl ?_
    refine jy_last hS rfl ho (by decide) (by omega) ?_
    refine jy_goto hS rfl ?_
    refine jy_iconst hS rfl ?_
    exact jy_iret hS rfl rfl ⟨Nat.le_refl _, rfl, Or.inl ⟨g1, rfl, jx_u_s _ _ _ _, g2, g3, g4⟩⟩
  · rintro E X' I' R' ⟨x1, x2, hq⟩
    obtain ⟨k, w, g1, rfl, g2, g3⟩ := h2 _ _ _ hq
    have hm := he k w g1
    simp only [List.mem_cons, Prod.mk.injEq, List.not_mem_nil, or_false] at hm
    rcases hm with ⟨rfl, rfl⟩ | ⟨rfl, rfl⟩
    · refine jx_kx_h (by decide) (by decide) (h := 15) (by decide +kernel) (fun q => ?_)
      refine jy_astore hS rfl (Nat.le_of_ble_eq_true rfl) (L' := [some (.ref a0), some (jy a1), some (jy a2), some (jy a3), some (.ref u), some (.ref q)]) rfl ?_
      refine jy_iconst hS rfl ?_
      exact jy_iret hS rfl rfl ⟨x1, by rw [x2], Or.inr ⟨_, _, g1, rfl, g2, g3⟩⟩
    · refine jx_kx_h (by decide) (by decide) (h := 19) (by decide +kernel) (fun q => ?_)
      refine jy_astore hS rfl (Nat.le_of_ble_eq_true rfl) (L' := [some (.ref a0), some (jy a1), some (jy a2), some (jy a3), some (.ref u), some (.ref q)]) rfl ?_
      refine jy_iconst hS rfl ?_
      exact jy_iret hS rfl rfl ⟨x1, by rw [x2], Or.inr ⟨_, _, g1, rfl, g2, g3⟩⟩
theorem jt_368 : jx_ml 368 = 5 ∧ jx_rt 368 = some .int ∧ jx_hz 368 = [(0, 10, 13, 21)] ∧ decide ((jx_nm 368).name = "<init>") = false ∧ jx_code 368 = jx_c368 := by decide +kernel
set_option maxRecDepth 20000 in
theorem wr_37 {V : jx_V} (hV : V.1.stackTraces = false) {X : jx_X} {R : jx_R} {I : jx_I} {a0 u : Nat} {a1 : Int} {a2 : Int} {e : Option (Nat × Int)} {v : Int} {s s' : YZ} (hx : X.2.1 a0 = some (11, 0)) (ho : X.2.1 u = some (101, 1)) (hM : jp V 202 181 (1, 6) [.ref a0, jy a1, jy a2] X I R (KQ X R I a0 e (jy v) s') (KE X R I a0 e s)) (he : ∀ k w, e = some (k, w) → (k, w) ∈ [((0 : Nat), (1 : Int))]) : je V 203 368 (1, 6) [.ref a0, jy a1, jy a2, .ref u] X I R (WQA X R I a0 u e (Int32.ofInt v).toInt64 s s') := by
  obtain ⟨Q0, QE0, hM, h1, h2⟩ := hM
  refine jy_met hV (by decide) (n := 5) (rt := some .int) (hh := [(0, 10, 13, 21)]) (ini := false) (C := jx_c368) (L := [some (.ref a0), some (jy a1), some (jy a2), some (.ref u), none]) jt_368 (Nat.le_of_ble_eq_true rfl) rfl ?_
  intro J hS
  refine jy_aload_n hS rfl rfl ?_
  refine jy_iconst hS rfl ?_
  refine jy_aload_n hS rfl rfl ?_
  refine jy_iload_n hS rfl rfl ?_
  refine jy_iload_n hS rfl rfl ?_
  refine jy_callV hS rfl rfl rfl (Nat.le_of_ble_eq_true rfl) (Or.inl hx) hM (by decide) ⟨Nat.le_refl _, Nat.le_refl _⟩ (Nat.le_of_ble_eq_true rfl) ?_ ?_
  · rintro rv X' I' R' ⟨rfl, hq⟩
    obtain ⟨g1, rfl, g2, g3, g4⟩ := h1 _ _ _ hq
    change J 8 [jy v, jy 0, .ref u] _ _ _ _ _
    refine jy_i2l hS rfl rfl ?_
    refine jy_last hS rfl ho (by decide) (by omega) ?_
    refine jy_goto hS rfl ?_
    refine jy_iconst hS rfl ?_
    exact jy_iret hS rfl rfl ⟨Nat.le_refl _, rfl, Or.inl ⟨g1, rfl, jx_u_s _ _ _ _, g2, g3, g4⟩⟩
  · rintro E X' I' R' ⟨x1, x2, hq⟩
    obtain ⟨k, w, g1, rfl, g2, g3⟩ := h2 _ _ _ hq
    have hm := he k w g1
    simp only [List.mem_cons, Prod.mk.injEq, List.not_mem_nil, or_false] at hm
    rcases hm with ⟨rfl, rfl⟩
    · refine jx_kx_h (by decide) (by decide) (h := 13) (by decide +kernel) (fun q => ?_)
      refine jy_astore hS rfl (Nat.le_of_ble_eq_true rfl) (L' := [some (.ref a0), some (jy a1), some (jy a2), some (.ref u), some (.ref q)]) rfl ?_
      refine jy_iconst hS rfl ?_
      exact jy_iret hS rfl rfl ⟨x1, by rw [x2], Or.inr ⟨_, _, g1, rfl, g2, g3⟩⟩
theorem jt_369 : jx_ml 369 = 6 ∧ jx_rt 369 = some .int ∧ jx_hz 369 = [(0, 12, 15, 21), (0, 12, 19, 13)] ∧ decide ((jx_nm 369).name = "<init>") = false ∧ jx_code 369 = jx_c369 := by decide +kernel
set_option maxRecDepth 20000 in
theorem wr_39 {V : jx_V} (hV : V.1.stackTraces = false) {X : jx_X} {R : jx_R} {I : jx_I} {a0 u : Nat} {a1 : Int} {a2 : Int} {a3 : Int} {e : Option (Nat × Int)} {v : Int} {s s' : YZ} (hx : X.2.1 a0 = some (11, 0)) (ho : X.2.1 u = some (101, 1)) (hM : jp V 10 165 (3, 18) [.ref a0, jy a1, jy a2, jy a3] X I R (KQ X R I a0 e (jy v) s') (KE X R I a0 e s)) (he : ∀ k w, e = some (k, w) → (k, w) ∈ [((0 : Nat), (1 : Int)), ((2 : Nat), (2 : Int))]) : je V 11 369 (3, 18) [.ref a0, jy a1, jy a2, jy a3, .ref u] X I R (WQA X R I a0 u e (Int32.ofInt v).toInt64 s s') := by
  obtain ⟨Q0, QE0, hM, h1, h2⟩ := hM
  refine jy_met hV (by decide) (n := 6) (rt := some .int) (hh := [(0, 12, 15, 21), (0, 12, 19, 13)]) (ini := false) (C := jx_c369) (L := [some (.ref a0), some (jy a1), some (jy a2), some (jy a3), some (.ref u), none]) jt_369 (Nat.le_of_ble_eq_true rfl) rfl ?_
  intro J hS
  refine jy_aload hS rfl rfl ?_
  refine jy_iconst hS rfl ?_
  refine jy_aload_n hS rfl rfl ?_
  refine jy_iload_n hS rfl rfl ?_
  refine jy_iload_n hS rfl rfl ?_
  refine jy_iload_n hS rfl rfl ?_
  refine jy_callV hS rfl rfl rfl (Nat.le_of_ble_eq_true rfl) (Or.inl hx) hM (by decide) ⟨Nat.le_refl _, Nat.le_refl _⟩ (Nat.le_of_ble_eq_true rfl) ?_ ?_
  · rintro rv X' I' R' ⟨rfl, hq⟩
    obtain ⟨g1, rfl, g2, g3, g4⟩ := h1 _ _ _ hq
    change J 10 [jy v, jy 0, .ref u] _ _ _ _ _
    refine jy_i2l hS rfl rfl ?_
    refine jy_last hS rfl ho (by decide) (by omega) ?_
    refine jy_goto hS rfl ?_
    refine jy_iconst hS rfl ?_
    exact jy_iret hS rfl rfl ⟨Nat.le_refl _, rfl, Or.inl ⟨g1, rfl, jx_u_s _ _ _ _, g2, g3, g4⟩⟩
  · rintro E X' I' R' ⟨x1, x2, hq⟩
    obtain ⟨k, w, g1, rfl, g2, g3⟩ := h2 _ _ _ hq
    have hm := he k w g1
    simp only [List.mem_cons, Prod.mk.injEq, List.not_mem_nil, or_false] at hm
    rcases hm with ⟨rfl, rfl⟩ | ⟨rfl, rfl⟩
    · refine jx_kx_h (by decide) (by decide) (h := 15) (by decide +kernel) (fun q => ?_)
      refine jy_astore hS rfl (Nat.le_of_ble_eq_true rfl) (L' := [some (.ref a0), some (jy a1), some (jy a2), some (jy a3), some (.ref u), some (.ref q)]) rfl ?_
      refine jy_iconst hS rfl ?_
      exact jy_iret hS rfl rfl ⟨x1, by rw [x2], Or.inr ⟨_, _, g1, rfl, g2, g3⟩⟩
    · refine jx_kx_h (by decide) (by decide) (h := 19) (by decide +kernel) (fun q => ?_)
      refine jy_astore hS rfl (Nat.le_of_ble_eq_true rfl) (L' := [some (.ref a0), some (jy a1), some (jy a2), some (jy a3), some (.ref u), some (.ref q)]) rfl ?_
      refine jy_iconst hS rfl ?_
      exact jy_iret hS rfl rfl ⟨x1, by rw [x2], Or.inr ⟨_, _, g1, rfl, g2, g3⟩⟩
theorem jt_370 : jx_ml 370 = 4 ∧ jx_rt 370 = some .int ∧ jx_hz 370 = [(0, 9, 12, 13)] ∧ decide ((jx_nm 370).name = "<init>") = false ∧ jx_code 370 = jx_c370 := by decide +kernel
set_option maxRecDepth 20000 in
theorem wr_40 {V : jx_V} (hV : V.1.stackTraces = false) {X : jx_X} {R : jx_R} {I : jx_I} {a0 u : Nat} {a1 : Int} {e : Option (Nat × Int)} {v : Int} {s s' : YZ} (hx : X.2.1 a0 = some (11, 0)) (ho : X.2.1 u = some (101, 1)) (hM : jp V 10 164 (1, 6) [.ref a0, jy a1] X I R (KQ X R I a0 e (jy v) s') (KE X R I a0 e s)) (he : ∀ k w, e = some (k, w) → (k, w) ∈ [((2 : Nat), (1 : Int))]) : je V 11 370 (1, 6) [.ref a0, jy a1, .ref u] X I R (WQA X R I a0 u e (Int32.ofInt v).toInt64 s s') := by
  obtain ⟨Q0, QE0, hM, h1, h2⟩ := hM
  refine jy_met hV (by decide) (n := 4) (rt := some .int) (hh := [(0, 9, 12, 13)]) (ini := false) (C := jx_c370) (L := [some (.ref a0), some (jy a1), some (.ref u), none]) jt_370 (Nat.le_of_ble_eq_true rfl) rfl ?_
  intro J hS
  refine jy_aload_n hS rfl rfl ?_
  refine jy_iconst hS rfl ?_
  refine jy_aload_n hS rfl rfl ?_
  refine jy_iload_n hS rfl rfl ?_
  refine jy_callV hS rfl rfl rfl (Nat.le_of_ble_eq_true rfl) (Or.inl hx) hM (by decide) ⟨Nat.le_refl _, Nat.le_refl _⟩ (Nat.le_of_ble_eq_true rfl) ?_ ?_
  · rintro rv X' I' R' ⟨rfl, hq⟩
    obtain ⟨g1, rfl, g2, g3, g4⟩ := h1 _ _ _ hq
    change J 7 [jy v, jy 0, .ref u] _ _ _ _ _
    refine jy_i2l hS rfl rfl ?_
    refine jy_last hS rfl ho (by decide) (by omega) ?_
    refine jy_goto hS rfl ?_
    refine jy_iconst hS rfl ?_
    exact jy_iret hS rfl rfl ⟨Nat.le_refl _, rfl, Or.inl ⟨g1, rfl, jx_u_s _ _ _ _, g2, g3, g4⟩⟩
  · rintro E X' I' R' ⟨x1, x2, hq⟩
    obtain ⟨k, w, g1, rfl, g2, g3⟩ := h2 _ _ _ hq
    have hm := he k w g1
    simp only [List.mem_cons, Prod.mk.injEq, List.not_mem_nil, or_false] at hm
    rcases hm with ⟨rfl, rfl⟩
    · refine jx_kx_h (by decide) (by decide) (h := 12) (by decide +kernel) (fun q => ?_)
      refine jy_astore_n hS rfl (Nat.le_of_ble_eq_true rfl) (L' := [some (.ref a0), some (jy a1), some (.ref u), some (.ref q)]) rfl ?_
      refine jy_iconst hS rfl ?_
      exact jy_iret hS rfl rfl ⟨x1, by rw [x2], Or.inr ⟨_, _, g1, rfl, g2, g3⟩⟩
theorem jt_371 : jx_ml 371 = 5 ∧ jx_rt 371 = some .int ∧ jx_hz 371 = [(0, 10, 13, 21), (0, 10, 17, 30), (0, 10, 21, 61)] ∧ decide ((jx_nm 371).name = "<init>") = false ∧ jx_code 371 = jx_c371 := by decide +kernel
set_option maxRecDepth 20000 in
theorem wr_41 {V : jx_V} (hV : V.1.stackTraces = false) {X : jx_X} {R : jx_R} {I : jx_I} {a0 u : Nat} {a1 : Int} {a2 : Int} {e : Option (Nat × Int)} {v : Int} {s s' : YZ} (hx : X.2.1 a0 = some (11, 0)) (ho : X.2.1 u = some (101, 1)) (hM : jp V 9 171 (3, 18) [.ref a0, jy a1, jy a2] X I R (KQ X R I a0 e (jy v) s') (KE X R I a0 e s)) (he : ∀ k w, e = some (k, w) → (k, w) ∈ [((0 : Nat), (1 : Int)), ((1 : Nat), (2 : Int)), ((3 : Nat), (3 : Int))]) : je V 10 371 (3, 18) [.ref a0, jy a1, jy a2, .ref u] X I R (WQA X R I a0 u e (Int32.ofInt v).toInt64 s s') := by
  obtain ⟨Q0, QE0, hM, h1, h2⟩ := hM
  refine jy_met hV (by decide) (n := 5) (rt := some .int) (hh := [(0, 10, 13, 21), (0, 10, 17, 30), (0, 10, 21, 61)]) (ini := false) (C := jx_c371) (L := [some (.ref a0), some (jy a1), some (jy a2), some (.ref u), none]) jt_371 (Nat.le_of_ble_eq_true rfl) rfl ?_
  intro J hS
  refine jy_aload_n hS rfl rfl ?_
  refine jy_iconst hS rfl ?_
  refine jy_aload_n hS rfl rfl ?_
  refine jy_iload_n hS rfl rfl ?_
  refine jy_iload_n hS rfl rfl ?_
  refine jy_callV hS rfl rfl rfl (Nat.le_of_ble_eq_true rfl) (Or.inl hx) hM (by decide) ⟨Nat.le_refl _, Nat.le_refl _⟩ (Nat.le_of_ble_eq_true rfl) ?_ ?_
  · rintro rv X' I' R' ⟨rfl, hq⟩
    obtain ⟨g1, rfl, g2, g3, g4⟩ := h1 _ _ _ hq
    change J 8 [jy v, jy 0, .ref u] _ _ _ _ _
    refine jy_i2l hS rfl rfl ?_
    refine jy_last hS rfl ho (by decide) (by omega) ?_
    refine jy_goto hS rfl ?_
    refine jy_iconst hS rfl ?_
    exact jy_iret hS rfl rfl ⟨Nat.le_refl _, rfl, Or.inl ⟨g1, rfl, jx_u_s _ _ _ _, g2, g3, g4⟩⟩
  · rintro E X' I' R' ⟨x1, x2, hq⟩
    obtain ⟨k, w, g1, rfl, g2, g3⟩ := h2 _ _ _ hq
    have hm := he k w g1
    simp only [List.mem_cons, Prod.mk.injEq, List.not_mem_nil, or_false] at hm
    rcases hm with ⟨rfl, rfl⟩ | ⟨rfl, rfl⟩ | ⟨rfl, rfl⟩
    · refine jx_kx_h (by decide) (by decide) (h := 13) (by decide +kernel) (fun q => ?_)
      refine jy_astore hS rfl (Nat.le_of_ble_eq_true rfl) (L' := [some (.ref a0), some (jy a1), some (jy a2), some (.ref u), some (.ref q)]) rfl ?_
      refine jy_iconst hS rfl ?_
      exact jy_iret hS rfl rfl ⟨x1, by rw [x2], Or.inr ⟨_, _, g1, rfl, g2, g3⟩⟩
    · refine jx_kx_h (by decide) (by decide) (h := 17) (by decide +kernel) (fun q => ?_)
      refine jy_astore hS rfl (Nat.le_of_ble_eq_true rfl) (L' := [some (.ref a0), some (jy a1), some (jy a2), some (.ref u), some (.ref q)]) rfl ?_
      refine jy_iconst hS rfl ?_
      exact jy_iret hS rfl rfl ⟨x1, by rw [x2], Or.inr ⟨_, _, g1, rfl, g2, g3⟩⟩
    · refine jx_kx_h (by decide) (by decide) (h := 21) (by decide +kernel) (fun q => ?_)
      refine jy_astore hS rfl (Nat.le_of_ble_eq_true rfl) (L' := [some (.ref a0), some (jy a1), some (jy a2), some (.ref u), some (.ref q)]) rfl ?_
      refine jy_iconst hS rfl ?_
      exact jy_iret hS rfl rfl ⟨x1, by rw [x2], Or.inr ⟨_, _, g1, rfl, g2, g3⟩⟩
theorem jt_372 : jx_ml 372 = 5 ∧ jx_rt 372 = some .int ∧ jx_hz 372 = [(0, 10, 13, 21), (0, 10, 17, 30), (0, 10, 21, 61)] ∧ decide ((jx_nm 372).name = "<init>") = false ∧ jx_code 372 = jx_c372 := by decide +kernel
set_option maxRecDepth 20000 in
theorem wr_42 {V : jx_V} (hV : V.1.stackTraces = false) {X : jx_X} {R : jx_R} {I : jx_I} {a0 u : Nat} {a1 : Int} {a2 : Int} {e : Option (Nat × Int)} {v : Int} {s s' : YZ} (hx : X.2.1 a0 = some (11, 0)) (ho : X.2.1 u = some (101, 1)) (hM : jp V 9 172 (3, 18) [.ref a0, jy a1, jy a2] X I R (KQ X R I a0 e (jy v) s') (KE X R I a0 e s)) (he : ∀ k w, e = some (k, w) → (k, w) ∈ [((0 : Nat), (1 : Int)), ((1 : Nat), (2 : Int)), ((3 : Nat), (3 : Int))]) : je V 10 372 (3, 18) [.ref a0, jy a1, jy a2, .ref u] X I R (WQA X R I a0 u e (Int32.ofInt v).toInt64 s s') := by
  obtain ⟨Q0, QE0, hM, h1, h2⟩ := hM
  refine jy_met hV (by decide) (n := 5) (rt := some .int) (hh := [(0, 10, 13, 21), (0, 10, 17, 30), (0, 10, 21, 61)]) (ini := false) (C := jx_c372) (L := [some (.ref a0), some (jy a1), some (jy a2), some (.ref u), none]) jt_372 (Nat.le_of_ble_eq_true rfl) rfl ?_
  intro J hS
  refine jy_aload_n hS rfl rfl ?_
  refine jy_iconst hS rfl ?_
  refine jy_aload_n hS rfl rfl ?_
  refine jy_iload_n hS rfl rfl ?_
  refine jy_iload_n hS rfl rfl ?_
  refine jy_callV hS rfl rfl rfl (Nat.le_of_ble_eq_true rfl) (Or.inl hx) hM (by decide) ⟨Nat.le_refl _, Nat.le_refl _⟩ (Nat.le_of_ble_eq_true rfl) ?_ ?_
  · rintro rv X' I' R' ⟨rfl, hq⟩
    obtain ⟨g1, rfl, g2, g3, g4⟩ := h1 _ _ _ hq
    change J 8 [jy v, jy 0, .ref u] _ _ _ _ _
    refine jy_i2l hS rfl rfl ?_
    refine jy_last hS rfl ho (by decide) (by omega) ?_
    refine jy_goto hS rfl ?_
    refine jy_iconst hS rfl ?_
    exact jy_iret hS rfl rfl ⟨Nat.le_refl _, rfl, Or.inl ⟨g1, rfl, jx_u_s _ _ _ _, g2, g3, g4⟩⟩
  · rintro E X' I' R' ⟨x1, x2, hq⟩
    obtain ⟨k, w, g1, rfl, g2, g3⟩ := h2 _ _ _ hq
    have hm := he k w g1
    simp only [List.mem_cons, Prod.mk.injEq, List.not_mem_nil, or_false] at hm
    rcases hm with ⟨rfl, rfl⟩ | ⟨rfl, rfl⟩ | ⟨rfl, rfl⟩
    · refine jx_kx_h (by decide) (by decide) (h := 13) (by decide +kernel) (fun q => ?_)
      refine jy_astore hS rfl (Nat.le_of_ble_eq_true rfl) (L' := [some (.ref a0), some (jy a1), some (jy a2), some (.ref u), some (.ref q)]) rfl ?_
      refine jy_iconst hS rfl ?_
      exact jy_iret hS rfl rfl ⟨x1, by rw [x2], Or.inr ⟨_, _, g1, rfl, g2, g3⟩⟩
    · refine jx_kx_h (by decide) (by decide) (h := 17) (by decide +kernel) (fun q => ?_)
      refine jy_astore hS rfl (Nat.le_of_ble_eq_true rfl) (L' := [some (.ref a0), some (jy a1), some (jy a2), some (.ref u), some (.ref q)]) rfl ?_
      refine jy_iconst hS rfl ?_
      exact jy_iret hS rfl rfl ⟨x1, by rw [x2], Or.inr ⟨_, _, g1, rfl, g2, g3⟩⟩
    · refine jx_kx_h (by decide) (by decide) (h := 21) (by decide +kernel) (fun q => ?_)
      refine jy_astore hS rfl (Nat.le_of_ble_eq_true rfl) (L' := [some (.ref a0), some (jy a1), some (jy a2), some (.ref u), some (.ref q)]) rfl ?_
      refine jy_iconst hS rfl ?_
      exact jy_iret hS rfl rfl ⟨x1, by rw [x2], Or.inr ⟨_, _, g1, rfl, g2, g3⟩⟩
theorem jt_373 : jx_ml 373 = 4 ∧ jx_rt 373 = some .int ∧ jx_hz 373 = [(0, 9, 12, 13), (0, 9, 15, 61)] ∧ decide ((jx_nm 373).name = "<init>") = false ∧ jx_code 373 = jx_c373 := by decide +kernel
set_option maxRecDepth 20000 in
theorem wr_43 {V : jx_V} (hV : V.1.stackTraces = false) {X : jx_X} {R : jx_R} {I : jx_I} {a0 u : Nat} {a1 : Int} {e : Option (Nat × Int)} {v : Int} {s s' : YZ} (hx : X.2.1 a0 = some (11, 0)) (ho : X.2.1 u = some (101, 1)) (hM : jp V 10 173 (2, 12) [.ref a0, jy a1] X I R (KQ X R I a0 e (jy v) s') (KE X R I a0 e s)) (he : ∀ k w, e = some (k, w) → (k, w) ∈ [((2 : Nat), (1 : Int)), ((3 : Nat), (2 : Int))]) : je V 11 373 (2, 12) [.ref a0, jy a1, .ref u] X I R (WQA X R I a0 u e (Int32.ofInt v).toInt64 s s') := by
  obtain ⟨Q0, QE0, hM, h1, h2⟩ := hM
  refine jy_met hV (by decide) (n := 4) (rt := some .int) (hh := [(0, 9, 12, 13), (0, 9, 15, 61)]) (ini := false) (C := jx_c373) (L := [some (.ref a0), some (jy a1), some (.ref u), none]) jt_373 (Nat.le_of_ble_eq_true rfl) rfl ?_
  intro J hS
  refine jy_aload_n hS rfl rfl ?_
  refine jy_iconst hS rfl ?_
  refine jy_aload_n hS rfl rfl ?_
  refine jy_iload_n hS rfl rfl ?_
  refine jy_callV hS rfl rfl rfl (Nat.le_of_ble_eq_true rfl) (Or.inl hx) hM (by decide) ⟨Nat.le_refl _, Nat.le_refl _⟩ (Nat.le_of_ble_eq_true rfl) ?_ ?_
  · rintro rv X' I' R' ⟨rfl, hq⟩
    obtain ⟨g1, rfl, g2, g3, g4⟩ := h1 _ _ _ hq
    change J 7 [jy v, jy 0, .ref u] _ _ _ _ _
    refine jy_i2l hS rfl rfl ?_
    refine jy_last hS rfl ho (by decide) (by omega) ?_
    refine jy_goto hS rfl ?_
    refine jy_iconst hS rfl ?_
    exact jy_iret hS rfl rfl ⟨Nat.le_refl _, rfl, Or.inl ⟨g1, rfl, jx_u_s _ _ _ _, g2, g3, g4⟩⟩
  · rintro E X' I' R' ⟨x1, x2, hq⟩
    obtain ⟨k, w, g1, rfl, g2, g3⟩ := h2 _ _ _ hq
    have hm := he k w g1
    simp only [List.mem_cons, Prod.mk.injEq, List.not_mem_nil, or_false] at hm
    rcases hm with ⟨rfl, rfl⟩ | ⟨rfl, rfl⟩
    · refine jx_kx_h (by decide) (by decide) (h := 12) (by decide +kernel) (fun q => ?_)
      refine jy_astore_n hS rfl (Nat.le_of_ble_eq_true rfl) (L' := [some (.ref a0), some (jy a1), some (.ref u), some (.ref q)]) rfl ?_
      refine jy_iconst hS rfl ?_
      exact jy_iret hS rfl rfl ⟨x1, by rw [x2], Or.inr ⟨_, _, g1, rfl, g2, g3⟩⟩
    · refine jx_kx_h (by decide) (by decide) (h := 15) (by decide +kernel) (fun q => ?_)
      refine jy_astore_n hS rfl (Nat.le_of_ble_eq_true rfl) (L' := [some (.ref a0), some (jy a1), some (.ref u), some (.ref q)]) rfl ?_
      refine jy_iconst hS rfl ?_
      exact jy_iret hS rfl rfl ⟨x1, by rw [x2], Or.inr ⟨_, _, g1, rfl, g2, g3⟩⟩
theorem jt_374 : jx_ml 374 = 5 ∧ jx_rt 374 = some .int ∧ jx_hz 374 = [(0, 17, 20, 30), (0, 17, 24, 13)] ∧ decide ((jx_nm 374).name = "<init>") = false ∧ jx_code 374 = jx_c374 := by decide +kernel
set_option maxRecDepth 20000 in
theorem wr_44 {V : jx_V} (hV : V.1.stackTraces = false) {X : jx_X} {R : jx_R} {I : jx_I} {a0 u : Nat} {a1 : Int} {a2 : Int} {e : Option (Nat × Int)} {v : Int} {s s' : YZ} (hx : X.2.1 a0 = some (11, 0)) (ho : X.2.1 u = some (101, 1)) (hv : -2147483648 ≤ v ∧ v < 2147483648) (hM : jp V 9 142 (3, 18) [.ref a0, jy a1, jy a2] X I R (KQ X R I a0 e (jy v) s') (KE X R I a0 e s)) (he : ∀ k w, e = some (k, w) → (k, w) ∈ [((1 : Nat), (1 : Int)), ((2 : Nat), (2 : Int))]) : je V 10 374 (3, 18) [.ref a0, jy a1, jy a2, .ref u] X I R (WQA X R I a0 u e (if v = 0 then 0 else 1) s s') := by
  obtain ⟨Q0, QE0, hM, h1, h2⟩ := hM
  refine jy_met hV (by decide) (n := 5) (rt := some .int) (hh := [(0, 17, 20, 30), (0, 17, 24, 13)]) (ini := false) (C := jx_c374) (L := [some (.ref a0), some (jy a1), some (jy a2), some (.ref u), none]) jt_374 (Nat.le_of_ble_eq_true rfl) rfl ?_
  intro J hS
  refine jy_aload_n hS rfl rfl ?_
  refine jy_iconst hS rfl ?_
  refine jy_aload_n hS rfl rfl ?_
  refine jy_iload_n hS rfl rfl ?_
  refine jy_iload_n hS rfl rfl ?_
  refine jy_callV hS rfl rfl rfl (Nat.le_of_ble_eq_true rfl) (Or.inl hx) hM (by decide) ⟨Nat.le_refl _, Nat.le_refl _⟩ (Nat.le_of_ble_eq_true rfl) ?_ ?_
  · rintro rv X' I' R' ⟨rfl, hq⟩
    obtain ⟨g1, rfl, g2, g3, g4⟩ := h1 _ _ _ hq
    change J 8 [jy v, jy 0, .ref u] _ _ _ _ _
    refine jy_if_eq hS rfl hv (fun hq => ?_) (fun hq => ?_)
    · refine jy_lconst hS rfl ?_
      refine jy_last hS rfl ho (by decide) (by omega) ?_
      refine jy_goto hS rfl ?_
      refine jy_iconst hS rfl ?_
      exact jy_iret hS rfl rfl ⟨Nat.le_refl _, rfl, Or.inl ⟨g1, rfl, by rw [if_pos hq]; exact jx_u_s _ _ _ _, g2, g3, g4⟩⟩
    · refine jy_lconst hS rfl ?_
      refine jy_goto hS rfl ?_
      refine jy_last hS rfl ho (by decide) (by omega) ?_
      refine jy_goto hS rfl ?_
      refine jy_iconst hS rfl ?_
      exact jy_iret hS rfl rfl ⟨Nat.le_refl _, rfl, Or.inl ⟨g1, rfl, by rw [if_neg hq]; exact jx_u_s _ _ _ _, g2, g3, g4⟩⟩
  · rintro E X' I' R' ⟨x1, x2, hq⟩
    obtain ⟨k, w, g1, rfl, g2, g3⟩ := h2 _ _ _ hq
    have hm := he k w g1
    simp only [List.mem_cons, Prod.mk.injEq, List.not_mem_nil, or_false] at hm
    rcases hm with ⟨rfl, rfl⟩ | ⟨rfl, rfl⟩
    · refine jx_kx_h (by decide) (by decide) (h := 20) (by decide +kernel) (fun q => ?_)
      refine jy_astore hS rfl (Nat.le_of_ble_eq_true rfl) (L' := [some (.ref a0), some (jy a1), some (jy a2), some (.ref u), some (.ref q)]) rfl ?_
      refine jy_iconst hS rfl ?_
      exact jy_iret hS rfl rfl ⟨x1, by rw [x2], Or.inr ⟨_, _, g1, rfl, g2, g3⟩⟩
    · refine jx_kx_h (by decide) (by decide) (h := 24) (by decide +kernel) (fun q => ?_)
      refine jy_astore hS rfl (Nat.le_of_ble_eq_true rfl) (L' := [some (.ref a0), some (jy a1), some (jy a2), some (.ref u), some (.ref q)]) rfl ?_
      refine jy_iconst hS rfl ?_
      exact jy_iret hS rfl rfl ⟨x1, by rw [x2], Or.inr ⟨_, _, g1, rfl, g2, g3⟩⟩
theorem jt_375 : jx_ml 375 = 3 ∧ jx_rt 375 = some .int ∧ jx_hz 375 = [(0, 8, 11, 61)] ∧ decide ((jx_nm 375).name = "<init>") = false ∧ jx_code 375 = jx_c375 := by decide +kernel
set_option maxRecDepth 20000 in
theorem wr_46 {V : jx_V} (hV : V.1.stackTraces = false) {X : jx_X} {R : jx_R} {I : jx_I} {a0 u : Nat}  {e : Option (Nat × Int)} {v : Int} {s s' : YZ} (hx : X.2.1 a0 = some (11, 0)) (ho : X.2.1 u = some (101, 1)) (hM : jp V 9 157 (1, 6) [.ref a0] X I R (KQ X R I a0 e (jy v) s') (KE X R I a0 e s)) (he : ∀ k w, e = some (k, w) → (k, w) ∈ [((3 : Nat), (1 : Int))]) : je V 10 375 (1, 6) [.ref a0, .ref u] X I R (WQA X R I a0 u e (Int32.ofInt v).toInt64 s s') := by
  obtain ⟨Q0, QE0, hM, h1, h2⟩ := hM
  refine jy_met hV (by decide) (n := 3) (rt := some .int) (hh := [(0, 8, 11, 61)]) (ini := false) (C := jx_c375) (L := [some (.ref a0), some (.ref u), none]) jt_375 (Nat.le_of_ble_eq_true rfl) rfl ?_
  intro J hS
  refine jy_aload_n hS rfl rfl ?_
  refine jy_iconst hS rfl ?_
  refine jy_aload_n hS rfl rfl ?_
  refine jy_callV hS rfl rfl rfl (Nat.le_of_ble_eq_true rfl) (Or.inl hx) hM (by decide) ⟨Nat.le_refl _, Nat.le_refl _⟩ (Nat.le_of_ble_eq_true rfl) ?_ ?_
  · rintro rv X' I' R' ⟨rfl, hq⟩
    obtain ⟨g1, rfl, g2, g3, g4⟩ := h1 _ _ _ hq
    change J 6 [jy v, jy 0, .ref u] _ _ _ _ _
    refine jy_i2l hS rfl rfl ?_
    refine jy_last hS rfl ho (by decide) (by omega) ?_
    refine jy_goto hS rfl ?_
    refine jy_iconst hS rfl ?_
    exact jy_iret hS rfl rfl ⟨Nat.le_refl _, rfl, Or.inl ⟨g1, rfl, jx_u_s _ _ _ _, g2, g3, g4⟩⟩
  · rintro E X' I' R' ⟨x1, x2, hq⟩
    obtain ⟨k, w, g1, rfl, g2, g3⟩ := h2 _ _ _ hq
    have hm := he k w g1
    simp only [List.mem_cons, Prod.mk.injEq, List.not_mem_nil, or_false] at hm
    rcases hm with ⟨rfl, rfl⟩
    · refine jx_kx_h (by decide) (by decide) (h := 11) (by decide +kernel) (fun q => ?_)
      refine jy_astore_n hS rfl (Nat.le_of_ble_eq_true rfl) (L' := [some (.ref a0), some (.ref u), some (.ref q)]) rfl ?_
      refine jy_iconst hS rfl ?_
      exact jy_iret hS rfl rfl ⟨x1, by rw [x2], Or.inr ⟨_, _, g1, rfl, g2, g3⟩⟩
theorem jt_376 : jx_ml 376 = 4 ∧ jx_rt 376 = some .int ∧ jx_hz 376 = [(0, 9, 12, 13), (0, 9, 15, 61)] ∧ decide ((jx_nm 376).name = "<init>") = false ∧ jx_code 376 = jx_c376 := by decide +kernel
set_option maxRecDepth 20000 in
theorem wr_47 {V : jx_V} (hV : V.1.stackTraces = false) {X : jx_X} {R : jx_R} {I : jx_I} {a0 u : Nat} {a1 : Int} {e : Option (Nat × Int)} {v : Int} {s s' : YZ} (hx : X.2.1 a0 = some (11, 0)) (ho : X.2.1 u = some (101, 1)) (hM : jp V 10 170 (2, 12) [.ref a0, jy a1] X I R (KQ X R I a0 e (jy v) s') (KE X R I a0 e s)) (he : ∀ k w, e = some (k, w) → (k, w) ∈ [((2 : Nat), (1 : Int)), ((3 : Nat), (2 : Int))]) : je V 11 376 (2, 12) [.ref a0, jy a1, .ref u] X I R (WQA X R I a0 u e (Int32.ofInt v).toInt64 s s') := by
  obtain ⟨Q0, QE0, hM, h1, h2⟩ := hM
  refine jy_met hV (by decide) (n := 4) (rt := some .int) (hh := [(0, 9, 12, 13), (0, 9, 15, 61)]) (ini := false) (C := jx_c376) (L := [some (.ref a0), some (jy a1), some (.ref u), none]) jt_376 (Nat.le_of_ble_eq_true rfl) rfl ?_
  intro J hS
  refine jy_aload_n hS rfl rfl ?_
  refine jy_iconst hS rfl ?_
  refine jy_aload_n hS rfl rfl ?_
  refine jy_iload_n hS rfl rfl ?_
  refine jy_callV hS rfl rfl rfl (Nat.le_of_ble_eq_true rfl) (Or.inl hx) hM (by decide) ⟨Nat.le_refl _, Nat.le_refl _⟩ (Nat.le_of_ble_eq_true rfl) ?_ ?_
  · rintro rv X' I' R' ⟨rfl, hq⟩
    obtain ⟨g1, rfl, g2, g3, g4⟩ := h1 _ _ _ hq
    change J 7 [jy v, jy 0, .ref u] _ _ _ _ _
    refine jy_i2l hS rfl rfl ?_
    refine jy_last hS rfl ho (by decide) (by omega) ?_
    refine jy_goto hS rfl ?_
    refine jy_iconst hS rfl ?_
    exact jy_iret hS rfl rfl ⟨Nat.le_refl _, rfl, Or.inl ⟨g1, rfl, jx_u_s _ _ _ _, g2, g3, g4⟩⟩
  · rintro E X' I' R' ⟨x1, x2, hq⟩
    obtain ⟨k, w, g1, rfl, g2, g3⟩ := h2 _ _ _ hq
    have hm := he k w g1
    simp only [List.mem_cons, Prod.mk.injEq, List.not_mem_nil, or_false] at hm
    rcases hm with ⟨rfl, rfl⟩ | ⟨rfl, rfl⟩
    · refine jx_kx_h (by decide) (by decide) (h := 12) (by decide +kernel) (fun q => ?_)
      refine jy_astore_n hS rfl (Nat.le_of_ble_eq_true rfl) (L' := [some (.ref a0), some (jy a1), some (.ref u), some (.ref q)]) rfl ?_
      refine jy_iconst hS rfl ?_
      exact jy_iret hS rfl rfl ⟨x1, by rw [x2], Or.inr ⟨_, _, g1, rfl, g2, g3⟩⟩
    · refine jx_kx_h (by decide) (by decide) (h := 15) (by decide +kernel) (fun q => ?_)
      refine jy_astore_n hS rfl (Nat.le_of_ble_eq_true rfl) (L' := [some (.ref a0), some (jy a1), some (.ref u), some (.ref q)]) rfl ?_
      refine jy_iconst hS rfl ?_
      exact jy_iret hS rfl rfl ⟨x1, by rw [x2], Or.inr ⟨_, _, g1, rfl, g2, g3⟩⟩
