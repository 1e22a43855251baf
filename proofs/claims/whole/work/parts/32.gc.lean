/-! ===== the class: refusals, simple questions ===== -/
/-- a call that is refused: the first reason -/
def nz (P : Prop) [Decidable P] (k : Nat) (e : Option Nat) : Option Nat := if P then e else some k
theorem nz_t {P : Prop} [Decidable P] {k : Nat} {e : Option Nat} (h : P) : nz P k e = e := if_pos h
theorem nz_f {P : Prop} [Decidable P] {k : Nat} {e : Option Nat} (h : ¬ P) : nz P k e = some k := if_neg h
def rfs (I : jx_I) (b k : Nat) : jx_I := jx_u I (b + 3) k (Int32.ofInt ((I (b + 3) k).toInt + 1))
/-- only what is tried changes in the class -/
def FS (b : Nat) (I I' : jx_I) : Prop := (∀ q, (q < b + 17 ∨ b + 36 ≤ q) → (q < b + 45 ∨ b + 47 ≤ q) → (q < b + 56 ∨ b + 58 ≤ q) → (q < b + 82 ∨ b + 89 ≤ q) → I' q = I q) ∧ I' (b + 23) 0 = I (b + 23) 0
theorem FS_refl {b : Nat} {I : jx_I} : FS b I I := ⟨fun _ _ _ _ _ => rfl, rfl⟩
theorem FS_trans {b : Nat} {I I' I2 : jx_I} (h : FS b I I') (h2 : FS b I' I2) : FS b I I2 := ⟨fun q a b c d => (h2.1 q a b c d).trans (h.1 q a b c d), h2.2.trans h.2⟩
theorem FS_fr {b lo hi : Nat} {I I' I2 : jx_I} (h : FS b I I') (h2 : FR lo hi I' I2) (ho : (b + 17 ≤ lo ∧ hi ≤ b + 23) ∨ (b + 24 ≤ lo ∧ hi ≤ b + 36) ∨ (b + 45 ≤ lo ∧ hi ≤ b + 47) ∨ (b + 56 ≤ lo ∧ hi ≤ b + 58) ∨ (b + 82 ≤ lo ∧ hi ≤ b + 89)) : FS b I I2 := ⟨fun q a b c d => (h2 q (by omega)).trans (h.1 q a b c d), by rw [h2 _ (by omega)]; exact h.2⟩
def GX (X : jx_X) (R : jx_R) (I : jx_I) (b ld : Nat) (l : LT) (c : CT) : Prop := BX X R b TGC ∧ (R b 11 = some ld ∧ (ld = b + 36 ∨ ld = b + 47)) ∧ LD I ld l ∧ WT l ∧ SX I (b + 4) c ∧ WC l c ∧ I (b + 23) 0 = 0
theorem GX_l {X : jx_X} {R : jx_R} {I : jx_I} {b ld : Nat} {l : LT} {c : CT} (h : GX X R I b ld l c) : BX X R ld TLand := by
  rcases h.2.1.2 with e | e <;> rw [e]
  · exact b_GC_36 h.1
  · exact b_GC_47 h.1
theorem GX_s {X : jx_X} {R : jx_R} {I I' : jx_I} {b ld : Nat} {l : LT} {c : CT} (h : GX X R I b ld l c) (hf : FS b I I') : GX X R I' b ld l c := by
  have h1 := h.2.1.2
  refine ⟨h.1, h.2.1, LD_of h.2.2.1 (fun q h2 h3 => hf.1 q (by omega) (by omega) (by omega) (by omega)), h.2.2.2.1, SX_of h.2.2.2.2.1 (fun q h2 h3 => hf.1 q (by omega) (by omega) (by omega) (by omega)), h.2.2.2.2.2.1, ?_⟩
  rw [hf.2]
  exact h.2.2.2.2.2.2
/-- GrievingCamels.need -/
theorem cz_189 {V : jx_V} (hV : V.1.stackTraces = false) {X : jx_X} {R : jx_R} {I : jx_I} {a0 : Nat} {a1 : Int} 
    (hb : BX X R a0 TGC) (r_a1 : -2147483648 ≤ a1 ∧ a1 < 2147483648)
    : jc V 8 189 (1, 6) [.ref a0, jy a1] X I R (fun rv I' => rv = none ∧ I' = I ∧ a1 ≠ 0) (fun E I' => E = (jx_exe 2).1 ∧ I' = rfs I a0 2 ∧ a1 = 0) := by
  refine wm_189 hV (by omega)  ?_
  unfold wz_189
  refine ⟨fun hq1 => ?_, fun hq1 => ?_⟩
  · exact ⟨rfl, rfl, hq1⟩
  · refine ⟨s_GC_0 hb, _, r_GC_0_1 hb, _, ⟨s_GC_3 hb, by decide⟩, by omega, by omega, ?_⟩
    intro I8 e_I8; subst e_I8
    exact ⟨rfl, rfl, hq1⟩
/-- GrievingCamels.needWhat -/
theorem cz_190 {V : jx_V} (hV : V.1.stackTraces = false) {X : jx_X} {R : jx_R} {I : jx_I} {a0 : Nat} {a1 : Int} {a2 : Int} 
    (hb : BX X R a0 TGC) (r_a1 : -2147483648 ≤ a1 ∧ a1 < 2147483648) (r_a2 : -2147483648 ≤ a2 ∧ a2 < 2147483648)
    : jc V 9 190 (1, 6) [.ref a0, jy a1, jy a2] X I R (fun rv I' => rv = none ∧ I' = I ∧ (0 ≤ a1 ∧ a1 ≤ a2)) (fun E I' => E = (jx_exe 2).1 ∧ I' = rfs I a0 2 ∧ ¬ (0 ≤ a1 ∧ a1 ≤ a2)) := by
  refine wm_190 hV (by omega) (by omega)  (fun J15 hJJ => ?_)
  have hJ15 := hJJ
  unfold wz_190
  refine ⟨fun hq1 => ?_, fun hq1 => ?_⟩
  · refine hJ15 _ _ _ ?_
    unfold wz_190_15
    refine ⟨s_GC_0 hb, ?_⟩
    refine ⟨_, _, cz_189 hV hb (by omega), fun Ex Ix h9 => ⟨h9.1, h9.2.1, by omega⟩, ?_⟩
    rintro _ I6 ⟨rfl, e9, hp⟩; replace e9 := e9.symm; subst e9
    exact absurd rfl hp
  · refine ⟨fun hq2 => ?_, fun hq2 => ?_⟩
    · refine hJ15 _ _ _ ?_
      unfold wz_190_15
      refine ⟨s_GC_0 hb, ?_⟩
      refine ⟨_, _, cz_189 hV hb (by omega), fun Ex Ix h9 => ⟨h9.1, h9.2.1, by omega⟩, ?_⟩
      rintro _ I6 ⟨rfl, e9, hp⟩; replace e9 := e9.symm; subst e9
      exact absurd rfl hp
    · refine hJ15 _ _ _ ?_
      unfold wz_190_15
      refine ⟨s_GC_0 hb, ?_⟩
      refine ⟨_, _, cz_189 hV hb (by omega), fun Ex Ix h9 => absurd h9.2.2 (by decide), ?_⟩
      rintro _ I6 ⟨rfl, e9, hp⟩; replace e9 := e9.symm; subst e9
      refine ⟨rfl, ?_⟩
      exact ⟨rfl, rfl, by omega⟩
/-- GrievingCamels.needHours -/
theorem cz_191 {V : jx_V} (hV : V.1.stackTraces = false) {X : jx_X} {R : jx_R} {I : jx_I} {a0 : Nat} {a1 : Int} 
    (hb : BX X R a0 TGC) (r_a1 : -2147483648 ≤ a1 ∧ a1 < 2147483648)
    : jc V 9 191 (1, 6) [.ref a0, jy a1] X I R (fun rv I' => rv = none ∧ I' = I ∧ (0 ≤ a1 ∧ a1 ≤ 9999)) (fun E I' => E = (jx_exe 2).1 ∧ I' = rfs I a0 2 ∧ ¬ (0 ≤ a1 ∧ a1 ≤ 9999)) := by
  refine wm_191 hV (by omega)  (fun J17 hJJ => ?_)
  have hJ17 := hJJ
  unfold wz_191
  refine ⟨fun hq1 => ?_, fun hq1 => ?_⟩
  · refine hJ17 _ _ _ ?_
    unfold wz_191_17
    refine ⟨s_GC_0 hb, ?_⟩
    refine ⟨_, _, cz_189 hV hb (by omega), fun Ex Ix h9 => ⟨h9.1, h9.2.1, by omega⟩, ?_⟩
    rintro _ I6 ⟨rfl, e9, hp⟩; replace e9 := e9.symm; subst e9
    exact absurd rfl hp
  · refine ⟨fun hq2 => ?_, fun hq2 => ?_⟩
    · refine hJ17 _ _ _ ?_
      unfold wz_191_17
      refine ⟨s_GC_0 hb, ?_⟩
      refine ⟨_, _, cz_189 hV hb (by omega), fun Ex Ix h9 => ⟨h9.1, h9.2.1, by omega⟩, ?_⟩
      rintro _ I6 ⟨rfl, e9, hp⟩; replace e9 := e9.symm; subst e9
      exact absurd rfl hp
    · refine hJ17 _ _ _ ?_
      unfold wz_191_17
      refine ⟨s_GC_0 hb, ?_⟩
      refine ⟨_, _, cz_189 hV hb (by omega), fun Ex Ix h9 => absurd h9.2.2 (by decide), ?_⟩
      rintro _ I6 ⟨rfl, e9, hp⟩; replace e9 := e9.symm; subst e9
      refine ⟨rfl, ?_⟩
      exact ⟨rfl, rfl, by omega⟩
/-- GrievingCamels.needDraw -/
theorem cz_192 {V : jx_V} (hV : V.1.stackTraces = false) {X : jx_X} {R : jx_R} {I : jx_I} {a0 : Nat} {a1 : Int} 
    (hb : BX X R a0 TGC) (r_a1 : -2147483648 ≤ a1 ∧ a1 < 2147483648)
    : jc V 9 192 (1, 6) [.ref a0, jy a1] X I R (fun rv I' => rv = none ∧ I' = I ∧ (0 ≤ a1 ∧ a1 ≤ 8)) (fun E I' => E = (jx_exe 2).1 ∧ I' = rfs I a0 2 ∧ ¬ (0 ≤ a1 ∧ a1 ≤ 8)) := by
  refine wm_192 hV (by omega)  (fun J16 hJJ => ?_)
  have hJ16 := hJJ
  unfold wz_192
  refine ⟨fun hq1 => ?_, fun hq1 => ?_⟩
  · refine hJ16 _ _ _ ?_
    unfold wz_192_16
    refine ⟨s_GC_0 hb, ?_⟩
    refine ⟨_, _, cz_189 hV hb (by omega), fun Ex Ix h9 => ⟨h9.1, h9.2.1, by omega⟩, ?_⟩
    rintro _ I6 ⟨rfl, e9, hp⟩; replace e9 := e9.symm; subst e9
    exact absurd rfl hp
  · refine ⟨fun hq2 => ?_, fun hq2 => ?_⟩
    · refine hJ16 _ _ _ ?_
      unfold wz_192_16
      refine ⟨s_GC_0 hb, ?_⟩
      refine ⟨_, _, cz_189 hV hb (by omega), fun Ex Ix h9 => ⟨h9.1, h9.2.1, by omega⟩, ?_⟩
      rintro _ I6 ⟨rfl, e9, hp⟩; replace e9 := e9.symm; subst e9
      exact absurd rfl hp
    · refine hJ16 _ _ _ ?_
      unfold wz_192_16
      refine ⟨s_GC_0 hb, ?_⟩
      refine ⟨_, _, cz_189 hV hb (by omega), fun Ex Ix h9 => absurd h9.2.2 (by decide), ?_⟩
      rintro _ I6 ⟨rfl, e9, hp⟩; replace e9 := e9.symm; subst e9
      refine ⟨rfl, ?_⟩
      exact ⟨rfl, rfl, by omega⟩
/-- GrievingCamels.needPlace -/
theorem cz_187 {V : jx_V} (hV : V.1.stackTraces = false) {X : jx_X} {R : jx_R} {I : jx_I} {a0 : Nat} {a1 : Int} {ld : Nat} {l : LT} {c : CT} 
    (h : GX X R I a0 ld l c) (r_a1 : -2147483648 ≤ a1 ∧ a1 < 2147483648)
    : jc V 8 187 (1, 6) [.ref a0, jy a1] X I R (fun rv I' => rv = none ∧ I' = I ∧ (0 ≤ a1 ∧ a1 < (Ln l : Nat))) (fun E I' => E = (jx_exe 0).1 ∧ I' = rfs I a0 0 ∧ ¬ (0 ≤ a1 ∧ a1 < (Ln l : Nat))) := by
  have hW := h.2.2.2.1
  have hW0 := hW.1
  refine wm_187 hV (by omega)  ?_
  have hl := GX_l h
  have hD := h.2.2.1; have hS := h.2.2.2.2.1; have hC := h.2.2.2.2.2.1; have hlo := h.2.1.2
  have hv := hD.1.1
  unfold wz_187
  refine ⟨fun hq1 => ?_, fun hq1 => ?_⟩
  · refine ⟨s_GC_0 h.1, _, r_GC_0_1 h.1, _, ⟨s_GC_3 h.1, by decide⟩, by omega, by omega, ?_⟩
    intro I8 e_I8; subst e_I8
    exact ⟨rfl, rfl, by omega⟩
  · refine ⟨s_GC_0 h.1, _, h.2.1.1, s_Land_0 hl, ?_⟩
    refine ⟨fun hq2 => ?_, fun hq2 => ?_⟩
    · exact ⟨rfl, rfl, by omega⟩
    · refine ⟨_, r_GC_0_1 h.1, _, ⟨s_GC_3 h.1, by decide⟩, by omega, by omega, ?_⟩
      intro I19 e_I19; subst e_I19
      exact ⟨rfl, rfl, by omega⟩
/-- GrievingCamels.needCamel -/
theorem cz_188 {V : jx_V} (hV : V.1.stackTraces = false) {X : jx_X} {R : jx_R} {I : jx_I} {a0 : Nat} {a1 : Int} {ld : Nat} {l : LT} {c : CT} 
    (h : GX X R I a0 ld l c) (r_a1 : -2147483648 ≤ a1 ∧ a1 < 2147483648)
    : jc V 8 188 (1, 6) [.ref a0, jy a1] X I R (fun rv I' => rv = none ∧ I' = I ∧ (0 ≤ a1 ∧ a1 < (Lm l : Nat))) (fun E I' => E = (jx_exe 1).1 ∧ I' = rfs I a0 1 ∧ ¬ (0 ≤ a1 ∧ a1 < (Lm l : Nat))) := by
  have hW := h.2.2.2.1
  have hW0 := hW.1
  refine wm_188 hV (by omega)  ?_
  have hl := GX_l h
  have hD := h.2.2.1; have hS := h.2.2.2.2.1; have hC := h.2.2.2.2.2.1; have hlo := h.2.1.2
  have hv := hD.1.2
  unfold wz_188
  refine ⟨fun hq1 => ?_, fun hq1 => ?_⟩
  · refine ⟨s_GC_0 h.1, _, r_GC_0_1 h.1, _, ⟨s_GC_3 h.1, by decide⟩, by omega, by omega, ?_⟩
    intro I8 e_I8; subst e_I8
    exact ⟨rfl, rfl, by omega⟩
  · refine ⟨s_GC_0 h.1, _, h.2.1.1, s_Land_0 hl, ?_⟩
    refine ⟨fun hq2 => ?_, fun hq2 => ?_⟩
    · exact ⟨rfl, rfl, by omega⟩
    · refine ⟨_, r_GC_0_1 h.1, _, ⟨s_GC_3 h.1, by decide⟩, by omega, by omega, ?_⟩
      intro I19 e_I19; subst e_I19
      exact ⟨rfl, rfl, by omega⟩
/-- GrievingCamels.needJourney -/
theorem cz_193 {V : jx_V} (hV : V.1.stackTraces = false) {X : jx_X} {R : jx_R} {I : jx_I} {a0 : Nat} {ld : Nat} {l : LT} {c : CT} 
    (h : GX X R I a0 ld l c) 
    : jc V 8 193 (1, 6) [.ref a0] X I R (fun rv I' => rv = none ∧ I' = I ∧ CJ c ≠ []) (fun E I' => E = (jx_exe 3).1 ∧ I' = rfs I a0 3 ∧ CJ c = []) := by
  have hW := h.2.2.2.1
  have hW0 := hW.1
  refine wm_193 hV   ?_
  have hl := GX_l h
  have hD := h.2.2.1; have hS := h.2.2.2.2.1; have hC := h.2.2.2.2.2.1; have hlo := h.2.1.2
  have hv := hS.2.2.1.1
  unfold wz_193
  refine ⟨s_GC_0 h.1, _, r_GC_0_2 h.1, s_State_0 (b_GC_4 h.1), _, r_State_0_2 (b_GC_4 h.1), s_Row_0 (b_GC_11 h.1), ?_⟩
  refine ⟨fun hq1 => ?_, fun hq1 => ?_⟩
  · exact ⟨rfl, rfl, fun e => by rw [e] at hv; exact hq1 hv⟩
  · refine ⟨_, r_GC_0_1 h.1, _, ⟨s_GC_3 h.1, by decide⟩, by omega, by omega, ?_⟩
    intro I14 e_I14; subst e_I14
    exact ⟨rfl, rfl, List.length_eq_zero_iff.mp (by omega)⟩
/-- GrievingCamels.fault -/
theorem cz_137 {V : jx_V} (hV : V.1.stackTraces = false) {X : jx_X} {R : jx_R} {I : jx_I} {a0 : Nat} {ld : Nat} {l : LT} {c : CT} 
    (h : GX X R I a0 ld l c) 
    {QE : String → jx_I → Prop} : jc V 1 137 (0, 0) [.ref a0] X I R (fun rv I' => rv = some (jy (I (a0 + 1) 8).toInt) ∧ I' = I) QE := by
  have hW := h.2.2.2.1
  have hW0 := hW.1
  refine wm_137 hV   ?_
  have hl := GX_l h
  have hD := h.2.2.1; have hS := h.2.2.2.2.1; have hC := h.2.2.2.2.2.1; have hlo := h.2.1.2
  unfold wz_137
  refine ⟨s_GC_0 h.1, _, r_GC_0_0 h.1, s_Tape_0 (b_GC_1 h.1), ?_⟩
  exact ⟨rfl, rfl⟩
/-- GrievingCamels.told -/
theorem cz_138 {V : jx_V} (hV : V.1.stackTraces = false) {X : jx_X} {R : jx_R} {I : jx_I} {a0 : Nat} {a1 : Int} {ld : Nat} {l : LT} {c : CT} 
    (h : GX X R I a0 ld l c) (r_a1 : -2147483648 ≤ a1 ∧ a1 < 2147483648)
    : jc V 9 138 (1, 6) [.ref a0, jy a1] X I R (fun rv I' => nz (0 ≤ a1 ∧ a1 ≤ 5) 2 (none) = none ∧ rv = some (jy (if a1 = 0 then (Ln l : Int) else if a1 = 1 then (Lm l : Int) else if a1 = 2 then ((CL c).length : Int) else if a1 = 3 then ((CJ c).length : Int) else if a1 = 4 then ((CN c).length : Int) else ((CU c).length : Int))) ∧ I' = I) (fun E I' => ∃ k, nz (0 ≤ a1 ∧ a1 ≤ 5) 2 (none) = some k ∧ E = (jx_exe k).1 ∧ I' = rfs I a0 k) := by
  have hW := h.2.2.2.1
  have hW0 := hW.1
  refine wm_138 hV (by omega)  (fun J15 hJJ => ?_)
  have hJ15 := hJJ
  have hl := GX_l h
  have hD := h.2.2.1; have hS := h.2.2.2.2.1; have hC := h.2.2.2.2.2.1; have hlo := h.2.1.2
  have hn0 := nz_t (k := 2) (e := none) (P := 0 ≤ a1 ∧ a1 ≤ 5)
  have v0 := hD.1.1; have v1 := hD.1.2; have v2 := hS.2.1.1; have v3 := hS.2.2.1.1; have v4 := hS.2.2.2.1.1; have v5 := hS.2.2.2.2.1
  simp only [Nat.add_assoc, Nat.reduceAdd] at v2 v3
  unfold wz_138
  refine ⟨fun hq1 => ?_, fun hq1 => ?_⟩
  · refine hJ15 _ _ _ ?_
    unfold wz_138_15
    refine ⟨s_GC_0 h.1, ?_⟩
    refine ⟨_, _, cz_189 hV h.1 (by omega), fun Ex Ix h9 => ⟨2, by rw [nz_f (by omega)], h9.1, h9.2.1⟩, ?_⟩
    rintro _ I6 ⟨rfl, e9, hp⟩; replace e9 := e9.symm; subst e9
    exact absurd rfl hp
  · refine ⟨fun hq2 => ?_, fun hq2 => ?_⟩
    · refine hJ15 _ _ _ ?_
      unfold wz_138_15
      refine ⟨s_GC_0 h.1, ?_⟩
      refine ⟨_, _, cz_189 hV h.1 (by omega), fun Ex Ix h9 => ⟨2, by rw [nz_f (by omega)], h9.1, h9.2.1⟩, ?_⟩
      rintro _ I6 ⟨rfl, e9, hp⟩; replace e9 := e9.symm; subst e9
      exact absurd rfl hp
    · refine hJ15 _ _ _ ?_
      unfold wz_138_15
      refine ⟨s_GC_0 h.1, ?_⟩
      refine ⟨_, _, cz_189 hV h.1 (by omega), fun Ex Ix h9 => absurd h9.2.2 (by decide), ?_⟩
      rintro _ I6 ⟨rfl, e9, hp⟩; replace e9 := e9.symm; subst e9
      refine ⟨rfl, ?_⟩
      refine ⟨fun hq3 => ?_, fun hq3 => ?_, fun hq3 => ?_, fun hq3 => ?_, fun hq3 => ?_, fun hq3 => ?_⟩
      · refine ⟨s_GC_0 h.1, _, r_GC_0_2 h.1, s_State_0 (b_GC_4 h.1), ?_⟩
        exact ⟨hn0 (by omega), by rw [v5, if_neg (by omega), if_neg (by omega), if_neg (by omega), if_neg (by omega), if_neg (by omega)], rfl⟩
      · refine ⟨s_GC_0 h.1, _, h.2.1.1, s_Land_0 hl, ?_⟩
        exact ⟨hn0 (by omega), by rw [v0, if_pos (by omega)], rfl⟩
      · refine ⟨s_GC_0 h.1, _, h.2.1.1, s_Land_0 hl, ?_⟩
        exact ⟨hn0 (by omega), by rw [v1, if_neg (by omega), if_pos (by omega)], rfl⟩
      · refine ⟨s_GC_0 h.1, _, r_GC_0_2 h.1, s_State_0 (b_GC_4 h.1), _, r_State_0_1 (b_GC_4 h.1), s_Row_0 (b_GC_9 h.1), ?_⟩
        exact ⟨hn0 (by omega), by rw [v2, if_neg (by omega), if_neg (by omega), if_pos (by omega)], rfl⟩
      · refine ⟨s_GC_0 h.1, _, r_GC_0_2 h.1, s_State_0 (b_GC_4 h.1), _, r_State_0_2 (b_GC_4 h.1), s_Row_0 (b_GC_11 h.1), ?_⟩
        exact ⟨hn0 (by omega), by rw [v3, if_neg (by omega), if_neg (by omega), if_neg (by omega), if_pos (by omega)], rfl⟩
      · refine ⟨s_GC_0 h.1, _, r_GC_0_2 h.1, s_State_0 (b_GC_4 h.1), ?_⟩
        exact ⟨hn0 (by omega), by rw [v4, if_neg (by omega), if_neg (by omega), if_neg (by omega), if_neg (by omega), if_pos (by omega)], rfl⟩
/-- GrievingCamels.place -/
theorem cz_139 {V : jx_V} (hV : V.1.stackTraces = false) {X : jx_X} {R : jx_R} {I : jx_I} {a0 : Nat} {a1 : Int} {ld : Nat} {l : LT} {c : CT} 
    (h : GX X R I a0 ld l c) (r_a1 : -2147483648 ≤ a1 ∧ a1 < 2147483648)
    : jc V 9 139 (1, 6) [.ref a0, jy a1] X I R (fun rv I' => nz (0 ≤ a1 ∧ a1 < (Ln l : Nat)) 0 (none) = none ∧ rv = some (jy (Lk l a1.toNat)) ∧ I' = I) (fun E I' => ∃ k, nz (0 ≤ a1 ∧ a1 < (Ln l : Nat)) 0 (none) = some k ∧ E = (jx_exe k).1 ∧ I' = rfs I a0 k) := by
  have hW := h.2.2.2.1
  have hW0 := hW.1
  refine wm_139 hV (by omega)  ?_
  have hl := GX_l h
  have hD := h.2.2.1; have hS := h.2.2.2.2.1; have hC := h.2.2.2.2.2.1; have hlo := h.2.1.2
  unfold wz_139
  refine ⟨s_GC_0 h.1, ?_⟩
  refine ⟨_, _, cz_187 hV h (by omega), fun Ex Ix h9 => ⟨0, by rw [nz_f h9.2.2], h9.1, h9.2.1⟩, ?_⟩
  rintro _ I6 ⟨rfl, e9, hp1⟩; replace e9 := e9.symm; subst e9
  refine ⟨rfl, ?_⟩
  refine ⟨_, h.2.1.1, s_Land_0 hl, _, r_Land_0_0 hl, _, ⟨s_Land_1 hl, by decide⟩, by omega, ?_⟩
  exact ⟨nz_t hp1, by rw [hD.2.1 a1.toNat (by omega)], rfl⟩
/-- GrievingCamels.road -/
theorem cz_140 {V : jx_V} (hV : V.1.stackTraces = false) {X : jx_X} {R : jx_R} {I : jx_I} {a0 : Nat} {a1 : Int} {a2 : Int} {ld : Nat} {l : LT} {c : CT} 
    (h : GX X R I a0 ld l c) (r_a1 : -2147483648 ≤ a1 ∧ a1 < 2147483648) (r_a2 : -2147483648 ≤ a2 ∧ a2 < 2147483648)
    : jc V 9 140 (2, 12) [.ref a0, jy a1, jy a2] X I R (fun rv I' => nz (0 ≤ a1 ∧ a1 < (Ln l : Nat)) 0 (nz (0 ≤ a2 ∧ a2 < (Ln l : Nat)) 0 (none)) = none ∧ rv = some (jy (if Lr l a1.toNat a2.toNat = 0 then -1 else Lr l a1.toNat a2.toNat)) ∧ I' = I) (fun E I' => ∃ k, nz (0 ≤ a1 ∧ a1 < (Ln l : Nat)) 0 (nz (0 ≤ a2 ∧ a2 < (Ln l : Nat)) 0 (none)) = some k ∧ E = (jx_exe k).1 ∧ I' = rfs I a0 k) := by
  have hW := h.2.2.2.1
  have hW0 := hW.1
  refine wm_140 hV (by omega) (by omega)  ?_
  have hl := GX_l h
  have hD := h.2.2.1; have hS := h.2.2.2.2.1; have hC := h.2.2.2.2.2.1; have hlo := h.2.1.2
  unfold wz_140
  refine ⟨s_GC_0 h.1, ?_⟩
  refine ⟨_, _, cz_187 hV h (by omega), fun Ex Ix h9 => ⟨0, by rw [nz_f h9.2.2], h9.1, h9.2.1⟩, ?_⟩
  rintro _ I6 ⟨rfl, e9, hp1⟩; replace e9 := e9.symm; subst e9
  refine ⟨rfl, ?_⟩
  refine ⟨_, _, cz_187 hV h (by omega), fun Ex Ix h9 => ⟨0, by rw [nz_t hp1]; rw [nz_f h9.2.2], h9.1, h9.2.1⟩, ?_⟩
  rintro _ I12 ⟨rfl, e9, hp2⟩; replace e9 := e9.symm; subst e9
  refine ⟨rfl, ?_⟩
  refine ⟨_, h.2.1.1, s_Land_0 hl, ?_⟩
  have hrr := (hW.2.2.1 a1.toNat a2.toNat (by omega) (by omega)).1
  refine ⟨_, cz_36 (p := a1.toNat) (q := a2.toNat) hV hl hD hW0.1 (by omega) (by omega) (by omega) (by omega), ?_⟩
  rintro _ I19 ⟨rfl, e9⟩; replace e9 := e9.symm; subst e9
  refine ⟨_, rfl, ?_⟩
  refine ⟨by omega, ?_⟩
  refine ⟨fun hq1 => ?_, fun hq1 => ?_⟩
  · exact ⟨by rw [nz_t hp1, nz_t hp2], by rw [if_pos (by omega)], rfl⟩
  · exact ⟨by rw [nz_t hp1, nz_t hp2], by rw [if_neg (by omega)], rfl⟩
/-- GrievingCamels.camel -/
theorem cz_141 {V : jx_V} (hV : V.1.stackTraces = false) {X : jx_X} {R : jx_R} {I : jx_I} {a0 : Nat} {a1 : Int} {a2 : Int} {ld : Nat} {l : LT} {c : CT} 
    (h : GX X R I a0 ld l c) (r_a1 : -2147483648 ≤ a1 ∧ a1 < 2147483648) (r_a2 : -2147483648 ≤ a2 ∧ a2 < 2147483648)
    : jc V 10 141 (2, 12) [.ref a0, jy a1, jy a2] X I R (fun rv I' => nz (0 ≤ a1 ∧ a1 < (Lm l : Nat)) 1 (nz (0 ≤ a2 ∧ a2 ≤ 1) 2 (none)) = none ∧ rv = some (jy (if a2 = 0 then Lp l a1.toNat else Lo l a1.toNat)) ∧ I' = I) (fun E I' => ∃ k, nz (0 ≤ a1 ∧ a1 < (Lm l : Nat)) 1 (nz (0 ≤ a2 ∧ a2 ≤ 1) 2 (none)) = some k ∧ E = (jx_exe k).1 ∧ I' = rfs I a0 k) := by
  have hW := h.2.2.2.1
  have hW0 := hW.1
  refine wm_141 hV (by omega) (by omega)  ?_
  have hl := GX_l h
  have hD := h.2.2.1; have hS := h.2.2.2.2.1; have hC := h.2.2.2.2.2.1; have hlo := h.2.1.2
  unfold wz_141
  refine ⟨s_GC_0 h.1, ?_⟩
  refine ⟨_, _, cz_188 hV h (by omega), fun Ex Ix h9 => ⟨1, by rw [nz_f h9.2.2], h9.1, h9.2.1⟩, ?_⟩
  rintro _ I6 ⟨rfl, e9, hp1⟩; replace e9 := e9.symm; subst e9
  refine ⟨rfl, ?_⟩
  refine ⟨_, _, cz_190 hV h.1 (by omega) (by omega), fun Ex Ix h9 => ⟨2, by rw [nz_t hp1]; rw [nz_f h9.2.2], h9.1, h9.2.1⟩, ?_⟩
  rintro _ I12 ⟨rfl, e9, hp2⟩; replace e9 := e9.symm; subst e9
  refine ⟨rfl, ?_⟩
  refine ⟨fun hq1 => ?_, fun hq1 => ?_⟩
  · refine ⟨_, h.2.1.1, s_Land_0 hl, _, r_Land_0_3 hl, _, ⟨s_Land_4 hl, by decide⟩, by omega, ?_⟩
    exact ⟨by rw [nz_t hp1, nz_t hp2], by rw [if_neg hq1, (hD.2.2.2.1 a1.toNat (by omega)).2.1], rfl⟩
  · refine ⟨_, h.2.1.1, s_Land_0 hl, _, r_Land_0_2 hl, _, ⟨s_Land_3 hl, by decide⟩, by omega, ?_⟩
    exact ⟨by rw [nz_t hp1, nz_t hp2], by rw [if_pos (by omega), (hD.2.2.2.1 a1.toNat (by omega)).1], rfl⟩
/-- GrievingCamels.quarrel -/
theorem cz_142 {V : jx_V} (hV : V.1.stackTraces = false) {X : jx_X} {R : jx_R} {I : jx_I} {a0 : Nat} {a1 : Int} {a2 : Int} {ld : Nat} {l : LT} {c : CT} 
    (h : GX X R I a0 ld l c) (r_a1 : -2147483648 ≤ a1 ∧ a1 < 2147483648) (r_a2 : -2147483648 ≤ a2 ∧ a2 < 2147483648)
    : jc V 9 142 (3, 18) [.ref a0, jy a1, jy a2] X I R (fun rv I' => nz (0 ≤ a1 ∧ a1 < (Lm l : Nat)) 1 (nz (0 ≤ a2 ∧ a2 < (Lm l : Nat)) 1 (nz (a1 ≠ a2) 2 (none))) = none ∧ rv = some (jy (bN (Lf l a1.toNat) a2.toNat : Nat)) ∧ I' = I) (fun E I' => ∃ k, nz (0 ≤ a1 ∧ a1 < (Lm l : Nat)) 1 (nz (0 ≤ a2 ∧ a2 < (Lm l : Nat)) 1 (nz (a1 ≠ a2) 2 (none))) = some k ∧ E = (jx_exe k).1 ∧ I' = rfs I a0 k) := by
  have hW := h.2.2.2.1
  have hW0 := hW.1
  refine wm_142 hV (by omega) (by omega)  (fun J21 hJJ => ?_)
  have hJ21 := hJJ
  have hl := GX_l h
  have hD := h.2.2.1; have hS := h.2.2.2.2.1; have hC := h.2.2.2.2.2.1; have hlo := h.2.1.2
  unfold wz_142
  refine ⟨s_GC_0 h.1, ?_⟩
  refine ⟨_, _, cz_188 hV h (by omega), fun Ex Ix h9 => ⟨1, by rw [nz_f h9.2.2], h9.1, h9.2.1⟩, ?_⟩
  rintro _ I6 ⟨rfl, e9, hp1⟩; replace e9 := e9.symm; subst e9
  refine ⟨rfl, ?_⟩
  refine ⟨_, _, cz_188 hV h (by omega), fun Ex Ix h9 => ⟨1, by rw [nz_t hp1]; rw [nz_f h9.2.2], h9.1, h9.2.1⟩, ?_⟩
  rintro _ I12 ⟨rfl, e9, hp2⟩; replace e9 := e9.symm; subst e9
  refine ⟨rfl, ?_⟩
  refine ⟨fun hq1 => ?_, fun hq1 => ?_⟩
  · refine hJ21 _ _ _ ?_
    unfold wz_142_21
    refine ⟨s_GC_0 h.1, ?_⟩
    refine ⟨_, _, cz_189 hV h.1 (by omega), fun Ex Ix h9 => ⟨2, by rw [nz_t hp1, nz_t hp2, nz_f (by omega)], h9.1, h9.2.1⟩, ?_⟩
    rintro _ I19 ⟨rfl, e9, hp⟩; replace e9 := e9.symm; subst e9
    exact absurd rfl hp
  · refine hJ21 _ _ _ ?_
    unfold wz_142_21
    refine ⟨s_GC_0 h.1, ?_⟩
    refine ⟨_, _, cz_189 hV h.1 (by omega), fun Ex Ix h9 => absurd h9.2.2 (by decide), ?_⟩
    rintro _ I19 ⟨rfl, e9, hp⟩; replace e9 := e9.symm; subst e9
    refine ⟨rfl, ?_⟩
    refine ⟨s_GC_0 h.1, _, h.2.1.1, s_Land_0 hl, ?_⟩
    refine ⟨_, cz_40 (c := a1.toNat) (e := a2.toNat) hV hl hD hW (by omega) (by omega) (by omega) (by omega), ?_⟩
    rintro _ I27 ⟨rfl, e9⟩; replace e9 := e9.symm; subst e9
    refine ⟨_, rfl, ?_⟩
    refine ⟨by have := bN_01 (Lf l a1.toNat) a2.toNat; omega, ?_⟩
    exact ⟨by rw [nz_t hp1, nz_t hp2, nz_t (by omega)], rfl, rfl⟩
/-- GrievingCamels.grief -/
theorem cz_143 {V : jx_V} (hV : V.1.stackTraces = false) {X : jx_X} {R : jx_R} {I : jx_I} {a0 : Nat} {a1 : Int} {a2 : Int} {a3 : Int} {ld : Nat} {l : LT} {c : CT} 
    (h : GX X R I a0 ld l c) (r_a1 : -2147483648 ≤ a1 ∧ a1 < 2147483648) (r_a2 : -2147483648 ≤ a2 ∧ a2 < 2147483648) (r_a3 : -2147483648 ≤ a3 ∧ a3 < 2147483648)
    : jc V 10 143 (3, 18) [.ref a0, jy a1, jy a2, jy a3] X I R (fun rv I' => nz (0 ≤ a1 ∧ a1 < (Ln l : Nat)) 0 (nz (0 ≤ a2 ∧ a2 < (Lm l : Nat)) 1 (nz (0 ≤ a3 ∧ a3 ≤ 1) 2 (none))) = none ∧ rv = some (jy (if a3 = 0 then Cg c a1.toNat a2.toNat else Cd c a1.toNat a2.toNat)) ∧ I' = I) (fun E I' => ∃ k, nz (0 ≤ a1 ∧ a1 < (Ln l : Nat)) 0 (nz (0 ≤ a2 ∧ a2 < (Lm l : Nat)) 1 (nz (0 ≤ a3 ∧ a3 ≤ 1) 2 (none))) = some k ∧ E = (jx_exe k).1 ∧ I' = rfs I a0 k) := by
  have hW := h.2.2.2.1
  have hW0 := hW.1
  refine wm_143 hV (by omega) (by omega) (by omega)  ?_
  have hl := GX_l h
  have hD := h.2.2.1; have hS := h.2.2.2.2.1; have hC := h.2.2.2.2.2.1; have hlo := h.2.1.2
  unfold wz_143
  refine ⟨s_GC_0 h.1, ?_⟩
  refine ⟨_, _, cz_187 hV h (by omega), fun Ex Ix h9 => ⟨0, by rw [nz_f h9.2.2], h9.1, h9.2.1⟩, ?_⟩
  rintro _ I6 ⟨rfl, e9, hp1⟩; replace e9 := e9.symm; subst e9
  refine ⟨rfl, ?_⟩
  refine ⟨_, _, cz_188 hV h (by omega), fun Ex Ix h9 => ⟨1, by rw [nz_t hp1]; rw [nz_f h9.2.2], h9.1, h9.2.1⟩, ?_⟩
  rintro _ I12 ⟨rfl, e9, hp2⟩; replace e9 := e9.symm; subst e9
  refine ⟨rfl, ?_⟩
  refine ⟨_, _, cz_190 hV h.1 (by omega) (by omega), fun Ex Ix h9 => ⟨2, by rw [nz_t hp1]; rw [nz_t hp2]; rw [nz_f h9.2.2], h9.1, h9.2.1⟩, ?_⟩
  rintro _ I18 ⟨rfl, e9, hp3⟩; replace e9 := e9.symm; subst e9
  refine ⟨rfl, ?_⟩
  refine ⟨fun hq1 => ?_, fun hq1 => ?_⟩
  · refine ⟨_, r_GC_0_2 h.1, s_State_0 (b_GC_4 h.1), _, r_State_0_0 (b_GC_4 h.1), s_Herd_0 (b_GC_5 h.1), ?_⟩
    refine ⟨_, cz_12 (p := a1.toNat) (c := a2.toNat) hV (b_GC_5 h.1) hS.1 (by omega) (by omega) (by omega) (by omega), ?_⟩
    rintro _ I28 ⟨rfl, e9⟩; replace e9 := e9.symm; subst e9
    refine ⟨_, rfl, ?_⟩
    exact ⟨by rw [nz_t hp1, nz_t hp2, nz_t hp3], by rw [if_neg hq1], rfl⟩
  · refine ⟨_, r_GC_0_2 h.1, s_State_0 (b_GC_4 h.1), _, r_State_0_0 (b_GC_4 h.1), s_Herd_0 (b_GC_5 h.1), ?_⟩
    refine ⟨_, cz_11 (p := a1.toNat) (c := a2.toNat) hV (b_GC_5 h.1) hS.1 (by omega) (by omega) (by omega) (by omega), ?_⟩
    rintro _ I38 ⟨rfl, e9⟩; replace e9 := e9.symm; subst e9
    refine ⟨_, rfl, ?_⟩
    exact ⟨by rw [nz_t hp1, nz_t hp2, nz_t hp3], by rw [if_pos (by omega)], rfl⟩
/-- GrievingCamels.row -/
theorem cz_147 {V : jx_V} (hV : V.1.stackTraces = false) {X : jx_X} {R : jx_R} {I : jx_I} {a0 : Nat} {a1 : Int} {ld : Nat} {l : LT} {c : CT} 
    (h : GX X R I a0 ld l c) (r_a1 : -2147483648 ≤ a1 ∧ a1 < 2147483648)
    {QE : String → jx_I → Prop} : jc V 2 147 (0, 0) [.ref a0, jy a1] X I R (fun rv I' => rv = some (jy (itm (CL c) a1)) ∧ I' = I) QE := by
  have hW := h.2.2.2.1
  have hW0 := hW.1
  refine wm_147 hV (by omega)  ?_
  have hl := GX_l h
  have hD := h.2.2.1; have hS := h.2.2.2.2.1; have hC := h.2.2.2.2.2.1; have hlo := h.2.1.2
  unfold wz_147
  refine ⟨s_GC_0 h.1, _, r_GC_0_2 h.1, s_State_0 (b_GC_4 h.1), _, r_State_0_1 (b_GC_4 h.1), s_Row_0 (b_GC_9 h.1), ?_⟩
  refine ⟨_, cz_73 hV (b_GC_9 h.1) hS.2.1 (by omega), ?_⟩
  rintro _ I10 ⟨rfl, e9⟩; replace e9 := e9.symm; subst e9
  refine ⟨_, rfl, ?_⟩
  exact ⟨rfl, rfl⟩
/-- GrievingCamels.at -/
theorem cz_153 {V : jx_V} (hV : V.1.stackTraces = false) {X : jx_X} {R : jx_R} {I : jx_I} {a0 : Nat} {a1 : Int} {ld : Nat} {l : LT} {c : CT} 
    (h : GX X R I a0 ld l c) (r_a1 : -2147483648 ≤ a1 ∧ a1 < 2147483648)
    {QE : String → jx_I → Prop} : jc V 2 153 (0, 0) [.ref a0, jy a1] X I R (fun rv I' => rv = some (jy (itm (CJ c) a1)) ∧ I' = I) QE := by
  have hW := h.2.2.2.1
  have hW0 := hW.1
  refine wm_153 hV (by omega)  ?_
  have hl := GX_l h
  have hD := h.2.2.1; have hS := h.2.2.2.2.1; have hC := h.2.2.2.2.2.1; have hlo := h.2.1.2
  unfold wz_153
  refine ⟨s_GC_0 h.1, _, r_GC_0_2 h.1, s_State_0 (b_GC_4 h.1), _, r_State_0_2 (b_GC_4 h.1), s_Row_0 (b_GC_11 h.1), ?_⟩
  refine ⟨_, cz_73 hV (b_GC_11 h.1) hS.2.2.1 (by omega), ?_⟩
  rintro _ I10 ⟨rfl, e9⟩; replace e9 := e9.symm; subst e9
  refine ⟨_, rfl, ?_⟩
  exact ⟨rfl, rfl⟩
/-- GrievingCamels.status -/
theorem cz_185 {V : jx_V} (hV : V.1.stackTraces = false) {X : jx_X} {R : jx_R} {I : jx_I} {a0 : Nat} {a1 : Int} 
    (hb : BX X R a0 TGC) (r_a1 : -2147483648 ≤ a1 ∧ a1 < 2147483648)
    {QE : String → jx_I → Prop} : jc V 1 185 (0, 0) [.ref a0, jy a1] X I R (fun rv I' => rv = some (jy (if 0 ≤ a1 ∧ a1 ≤ 3 then (I (a0 + 3) a1.toNat).toInt else -1)) ∧ I' = I) QE := by
  refine wm_185 hV (by omega)  ?_
  unfold wz_185
  refine ⟨fun hq1 => ?_, fun hq1 => ?_⟩
  · exact ⟨by rw [if_neg (by omega)], rfl⟩
  · refine ⟨s_GC_0 hb, _, r_GC_0_1 hb, _, ⟨s_GC_3 hb, by decide⟩, ?_⟩
    refine ⟨fun hq2 => ?_, fun hq2 => ?_⟩
    · exact ⟨by rw [if_neg (by omega)], rfl⟩
    · refine ⟨by omega, ?_⟩
      exact ⟨by rw [if_pos (by omega)], rfl⟩
/-- GrievingCamels.count -/
theorem cz_186 {V : jx_V} (hV : V.1.stackTraces = false) {X : jx_X} {R : jx_R} {I : jx_I} {a0 : Nat} {a1 : Int} 
    (hb : BX X R a0 TGC) (r_a1 : -2147483648 ≤ a1 ∧ a1 < 2147483648)
    {QE : String → jx_I → Prop} : jc V 1 186 (0, 0) [.ref a0, jy a1] X I R (fun rv I' => rv = some (jy (if a1 = 0 then (I a0 15).toInt else if a1 = 1 then (I (a0 + 1) 1).toInt else if a1 = 2 then (I (a0 + 4) 7).toInt else -1)) ∧ I' = I) QE := by
  refine wm_186 hV (by omega)  ?_
  unfold wz_186
  refine ⟨fun hq1 => ?_, fun hq1 => ?_, fun hq1 => ?_, fun hq1 => ?_⟩
  · exact ⟨by rw [if_neg (by omega), if_neg (by omega), if_neg (by omega)], rfl⟩
  · refine ⟨s_GC_0 hb, ?_⟩
    exact ⟨by rw [if_pos (by omega)], rfl⟩
  · refine ⟨s_GC_0 hb, _, r_GC_0_0 hb, s_Tape_0 (b_GC_1 hb), ?_⟩
    exact ⟨by rw [if_neg (by omega), if_pos (by omega)], rfl⟩
  · refine ⟨s_GC_0 hb, _, r_GC_0_2 hb, s_State_0 (b_GC_4 hb), ?_⟩
    exact ⟨by rw [if_neg (by omega), if_neg (by omega), if_pos (by omega)], rfl⟩
/-- GrievingCamels.halt -/
theorem cz_148 {V : jx_V} (hV : V.1.stackTraces = false) {X : jx_X} {R : jx_R} {I : jx_I} {a0 : Nat} {a1 : Int} {ld : Nat} {l : LT} {c : CT} 
    (h : GX X R I a0 ld l c) (r_a1 : -2147483648 ≤ a1 ∧ a1 < 2147483648)
    : jc V 9 148 (1, 6) [.ref a0, jy a1] X I R (fun rv I' => nz (0 ≤ a1 ∧ a1 < (Ln l : Nat)) 0 (none) = none ∧ rv = some (jy (hlt (Lc l) ((CL c).map (Cg c a1.toNat)) (nd (Lk l a1.toNat)))) ∧ FS a0 I I') (fun E I' => ∃ k, nz (0 ≤ a1 ∧ a1 < (Ln l : Nat)) 0 (none) = some k ∧ E = (jx_exe k).1 ∧ I' = rfs I a0 k) := by
  have hW := h.2.2.2.1
  have hW0 := hW.1
  refine wm_148 hV (by omega)  ?_
  have hl := GX_l h
  have hD := h.2.2.1; have hS := h.2.2.2.2.1; have hC := h.2.2.2.2.2.1; have hlo := h.2.1.2
  have hL8 : ∀ x ∈ CL c, x < 8 := fun x hx => by have := hC.2.1.2 x hx; omega
  unfold wz_148
  refine ⟨s_GC_0 h.1, ?_⟩
  refine ⟨_, _, cz_187 hV h (by omega), fun Ex Ix h9 => ⟨0, by rw [nz_f h9.2.2], h9.1, h9.2.1⟩, ?_⟩
  rintro _ I6 ⟨rfl, e9, hp1⟩; replace e9 := e9.symm; subst e9
  refine ⟨rfl, ?_⟩
  refine ⟨_, h.2.1.1, _, r_GC_0_2 h.1, s_State_0 (b_GC_4 h.1), _, r_State_0_1 (b_GC_4 h.1), _, r_State_0_0 (b_GC_4 h.1), s_Land_0 hl, ?_⟩
  refine ⟨_, cz_38 (p := a1.toNat) hV hl hD hW (b_GC_5 h.1) (b_GC_9 h.1) hS.1 hC.1 hS.2.1 hL8 (by omega) (by omega) (by omega) (by omega), ?_⟩
  rintro _ I20 ⟨rfl, hF⟩
  refine ⟨_, rfl, ?_⟩
  exact ⟨nz_t hp1, rfl, FS_fr FS_refl hF (by omega)⟩
/-- GrievingCamels.value -/
theorem cz_149 {V : jx_V} (hV : V.1.stackTraces = false) {X : jx_X} {R : jx_R} {I : jx_I} {a0 : Nat} {a1 : Int} {a2 : Int} {ld : Nat} {l : LT} {c : CT} 
    (h : GX X R I a0 ld l c) (r_a1 : -2147483648 ≤ a1 ∧ a1 < 2147483648) (r_a2 : -2147483648 ≤ a2 ∧ a2 < 2147483648)
    : jc V 10 149 (2, 12) [.ref a0, jy a1, jy a2] X I R (fun rv I' => nz (0 ≤ a1 ∧ a1 < (Ln l : Nat)) 0 (nz (0 ≤ a2 ∧ a2 ≤ 4) 2 (none)) = none ∧ rv = some (jy (vl ((CL c).map (Cg c a1.toNat)) a2.toNat)) ∧ FS a0 I I') (fun E I' => ∃ k, nz (0 ≤ a1 ∧ a1 < (Ln l : Nat)) 0 (nz (0 ≤ a2 ∧ a2 ≤ 4) 2 (none)) = some k ∧ E = (jx_exe k).1 ∧ I' = rfs I a0 k) := by
  have hW := h.2.2.2.1
  have hW0 := hW.1
  refine wm_149 hV (by omega) (by omega)  ?_
  have hl := GX_l h
  have hD := h.2.2.1; have hS := h.2.2.2.2.1; have hC := h.2.2.2.2.2.1; have hlo := h.2.1.2
  have hL8 : ∀ x ∈ CL c, x < 8 := fun x hx => by have := hC.2.1.2 x hx; omega
  unfold wz_149
  refine ⟨s_GC_0 h.1, ?_⟩
  refine ⟨_, _, cz_187 hV h (by omega), fun Ex Ix h9 => ⟨0, by rw [nz_f h9.2.2], h9.1, h9.2.1⟩, ?_⟩
  rintro _ I6 ⟨rfl, e9, hp1⟩; replace e9 := e9.symm; subst e9
  refine ⟨rfl, ?_⟩
  refine ⟨_, _, cz_190 hV h.1 (by omega) (by omega), fun Ex Ix h9 => ⟨2, by rw [nz_t hp1]; rw [nz_f h9.2.2], h9.1, h9.2.1⟩, ?_⟩
  rintro _ I12 ⟨rfl, e9, hp2⟩; replace e9 := e9.symm; subst e9
  refine ⟨rfl, ?_⟩
  refine ⟨_, h.2.1.1, s_Land_0 hl, _, r_Land_0_6 hl, _, r_GC_0_2 h.1, s_State_0 (b_GC_4 h.1), _, r_State_0_1 (b_GC_4 h.1), _, r_State_0_0 (b_GC_4 h.1), s_Herd_0 (b_GC_5 h.1), _, r_Herd_0_0 (b_GC_5 h.1), s_Law_0 (b_Land_7 hl), ?_⟩
  refine ⟨_, cz_51 (n := 80) (base := a1.toNat * 8) (g := Cg c a1.toNat) hV (b_Land_7 hl) (b_GC_9 h.1) (s_Herd_1 (b_GC_5 h.1)) (by decide) hS.2.1 (by omega) (by omega) (fun x hx => by have := hL8 x hx; omega) (fun x hx => ⟨(hS.1 _ x (by omega) (hL8 x hx)).1, (hC.1 _ x (by omega) (hL8 x hx)).1⟩) (by omega) (by omega), ?_⟩
  rintro _ I32 ⟨rfl, hv, hF⟩
  refine ⟨rfl, ?_⟩
  refine ⟨_, r_Law_0_2 (b_Land_7 hl), _, ⟨s_Law_3 (b_Land_7 hl), by decide⟩, by omega, ?_⟩
  exact ⟨by rw [nz_t hp1, nz_t hp2], by rw [show ld + 10 = ld + 7 + 3 from rfl, hv _ (by omega)], FS_fr FS_refl hF (by omega)⟩
/-- GrievingCamels.would -/
theorem cz_150 {V : jx_V} (hV : V.1.stackTraces = false) {X : jx_X} {R : jx_R} {I : jx_I} {a0 : Nat} {a1 : Int} {a2 : Int} {ld : Nat} {l : LT} {c : CT} 
    (h : GX X R I a0 ld l c) (r_a1 : -2147483648 ≤ a1 ∧ a1 < 2147483648) (r_a2 : -2147483648 ≤ a2 ∧ a2 < 2147483648)
    : jc V 9 150 (2, 12) [.ref a0, jy a1, jy a2] X I R (fun rv I' => nz (0 ≤ a1 ∧ a1 < (Ln l : Nat)) 0 (nz (0 ≤ a2 ∧ a2 < ((2 ^ Lm l : Nat) : Int)) 2 (none)) = none ∧ rv = some (jy (hlt (Lc l) ((bl a2.toNat 8).map (Cg c a1.toNat)) (nd (Lk l a1.toNat)))) ∧ FS a0 I I') (fun E I' => ∃ k, nz (0 ≤ a1 ∧ a1 < (Ln l : Nat)) 0 (nz (0 ≤ a2 ∧ a2 < ((2 ^ Lm l : Nat) : Int)) 2 (none)) = some k ∧ E = (jx_exe k).1 ∧ I' = rfs I a0 k) := by
  have hW := h.2.2.2.1
  have hW0 := hW.1
  refine wm_150 hV (by omega) (by omega)  ?_
  have hl := GX_l h
  have hD := h.2.2.1; have hS := h.2.2.2.2.1; have hC := h.2.2.2.2.2.1; have hlo := h.2.1.2
  have hL8 : ∀ x ∈ CL c, x < 8 := fun x hx => by have := hC.2.1.2 x hx; omega
  have hpw : 2 ^ Lm l ≤ 2 ^ 8 := Nat.pow_le_pow_right (by omega) hW0.2
  unfold wz_150
  refine ⟨s_GC_0 h.1, ?_⟩
  refine ⟨_, _, cz_187 hV h (by omega), fun Ex Ix h9 => ⟨0, by rw [nz_f h9.2.2], h9.1, h9.2.1⟩, ?_⟩
  rintro _ I6 ⟨rfl, e9, hp1⟩; replace e9 := e9.symm; subst e9
  refine ⟨rfl, ?_⟩
  refine ⟨_, h.2.1.1, s_Land_0 hl, ?_⟩
  refine ⟨_, cz_42 hV hl hD hW0.2 (by omega), ?_⟩
  rintro _ I13 ⟨rfl, e9⟩; replace e9 := e9.symm; subst e9
  refine ⟨_, rfl, ?_⟩
  refine ⟨_, _, cz_189 hV h.1 (by split <;> omega), fun Ex Ix h9 => ⟨2, by rw [nz_t hp1, nz_f (fun k => by rw [if_pos k] at h9; exact absurd h9.2.2 (by decide))], h9.1, h9.2.1⟩, ?_⟩
  rintro _ I19 ⟨rfl, e9, hp2⟩; replace e9 := e9.symm; subst e9
  refine ⟨rfl, ?_⟩
  refine ⟨_, r_GC_0_8 h.1, s_Row_0 (b_GC_28 h.1), ?_⟩
  have hp2 : 0 ≤ a2 ∧ a2 < ((2 ^ Lm l : Nat) : Int) := by
    by_cases k : 0 ≤ a2 ∧ a2 < ((2 ^ Lm l : Nat) : Int)
    · exact k
    · rw [if_neg k] at hp2; exact absurd rfl hp2
  refine ⟨_, cz_76 (B := a2.toNat) hV (b_GC_28 h.1) (by omega) (by omega), ?_⟩
  rintro _ I26 ⟨rfl, hB, hF1⟩
  refine ⟨rfl, ?_⟩
  refine ⟨_, r_GC_0_2 h.1, s_State_0 (b_GC_4 h.1), _, r_State_0_0 (b_GC_4 h.1), ?_⟩
  refine ⟨_, cz_38 (p := a1.toNat) hV hl (LD_fr hD hF1 (by omega)) hW (b_GC_5 h.1) (b_GC_28 h.1) (HD_fr hS.1 hF1 (by omega)) hC.1 hB (fun x hx => (bl_mem.mp hx).1) (by omega) (by omega) (by omega) (by omega), ?_⟩
  rintro _ I35 ⟨rfl, hF2⟩
  refine ⟨_, rfl, ?_⟩
  exact ⟨by rw [nz_t hp1, nz_t hp2], rfl, FS_fr (FS_fr FS_refl hF1 (by omega)) hF2 (by omega)⟩
/-- GrievingCamels.shy -/
theorem cz_151 {V : jx_V} (hV : V.1.stackTraces = false) {X : jx_X} {R : jx_R} {I : jx_I} {a0 : Nat} {ld : Nat} {l : LT} {c : CT} 
    (h : GX X R I a0 ld l c) 
    {QE : String → jx_I → Prop} : jc V 3 151 (0, 0) [.ref a0] X I R (fun rv I' => rv = some (jy (qn (Lf l) (CL c) ((CL c).length - 1) : Nat)) ∧ I' = I) QE := by
  have hW := h.2.2.2.1
  have hW0 := hW.1
  refine wm_151 hV   ?_
  have hl := GX_l h
  have hD := h.2.2.1; have hS := h.2.2.2.2.1; have hC := h.2.2.2.2.2.1; have hlo := h.2.1.2
  unfold wz_151
  refine ⟨s_GC_0 h.1, _, h.2.1.1, _, r_GC_0_2 h.1, s_State_0 (b_GC_4 h.1), _, r_State_0_1 (b_GC_4 h.1), s_Land_0 hl, ?_⟩
  refine ⟨_, cz_41 hV hl hD hW (b_GC_9 h.1) hS.2.1 hC.2.1.2, ?_⟩
  rintro _ I12 ⟨rfl, e9⟩; replace e9 := e9.symm; subst e9
  refine ⟨_, rfl, ?_⟩
  exact ⟨rfl, rfl⟩
