/-! ===== the reference: what is kept; refusals, simple questions ===== -/
def nzw (P : Prop) [Decidable P] (k : Nat) (w : Int) (e : Option (Nat × Int)) : Option (Nat × Int) := if P then e else some (k, w)
theorem nzw_t {P : Prop} [Decidable P] {k : Nat} {w : Int} {e : Option (Nat × Int)} (h : P) : nzw P k w e = e := if_pos h
theorem nzw_f {P : Prop} [Decidable P] {k : Nat} {w : Int} {e : Option (Nat × Int)} (h : ¬ P) : nzw P k w e = some (k, w) := if_neg h
theorem bi_t {P : Prop} [Decidable P] (h : (if P then (1 : Int) else 0) ≠ 0) : P := by
  by_cases k : P
  · exact k
  · rw [if_neg k] at h; exact absurd rfl h
theorem bi_t' {P : Prop} [Decidable P] (h : ¬ (if P then (1 : Int) else 0) = 0) : P := bi_t h
theorem bi_f {P : Prop} [Decidable P] (h : (if P then (1 : Int) else 0) = 0) : ¬ P := by
  intro k
  rw [if_pos k] at h
  omega
/-- the reference notes a refusal -/
def RM (I : jx_I) (m k : Nat) (w : Int) : jx_I := jx_u (jx_u I m 0 (Int32.ofInt w)) (m + 2) k (Int32.ofInt ((I (m + 2) k).toInt + 1))
/-- what the reference keeps -/
def MSX (I : jx_I) (m : Nat) (l : LT) (c : CT) : Prop := MD I m l ∧ MB I m l (CL c) (Cg c) (Cd c) ∧ ML I m 37 (m + 1345) (CJ c) ∧ ((I m 38).toInt = (CN c).length ∧ (CN c).length ≤ 9 ∧ ∀ (k : Nat) (e : Nat × Int), (CN c)[k]? = some e → (I (m + 1306 + k) 0).toInt = e.1 ∧ (I (m + 1306 + k) 1).toInt = e.2) ∧ ((I m 39).toInt = (CU c).length ∧ (CU c).length ≤ 24 ∧ ∀ (k : Nat) (e : GT × GT), (CU c)[k]? = some e → ∀ p q, p < Ln l → q < Lm l → (I (m + 1316 + k) (q * 10 + p)).toInt = e.1 p q ∧ (I (m + 1316 + k) (80 + q * 10 + p)).toInt = e.2 p q)
/-- fields of the reference that only a call uses -/
def SCR : List Nat := [0, 41, 46, 48, 49, 53, 54, 66, 67, 68, 69, 70]
theorem MSX_k {I I' : jx_I} {m : Nat} {l : LT} {c : CT} {ks : List Nat} (h : MSX I m l c) (hf : FK m ks I I') (hW : WT l) (h23 : 23 ∉ ks) (h36 : 36 ∉ ks) (h37 : 37 ∉ ks) (h38 : 38 ∉ ks) (h39 : 39 ∉ ks) : MSX I' m l c := by
  refine ⟨FK_MD h.1 hf h23 hW, FK_MB h.2.1 hf h36 hW, FK_ML h.2.2.1 hf h37 (by omega) (by omega) (by omega), ⟨?_, h.2.2.2.1.2.1, ?_⟩, ⟨?_, h.2.2.2.2.2.1, ?_⟩⟩
  · rw [hf.2 38 h38]; exact h.2.2.2.1.1
  · intro k e hk
    have hk9 := (List.getElem?_eq_some_iff.mp hk).1
    have := h.2.2.2.1.2.1
    rw [hf.1 _ (by omega) (by omega) (by omega)]
    exact h.2.2.2.1.2.2 k e hk
  · rw [hf.2 39 h39]; exact h.2.2.2.2.1
  · intro k e hk p q hp hq
    have hk9 := (List.getElem?_eq_some_iff.mp hk).1
    have := h.2.2.2.2.2.1
    rw [hf.1 _ (by omega) (by omega) (by omega)]
    exact h.2.2.2.2.2.2 k e hk p q hp hq
theorem MSX_s {I I' : jx_I} {m : Nat} {l : LT} {c : CT} (h : MSX I m l c) (hf : FK m SCR I I') (hW : WT l) : MSX I' m l c := MSX_k h hf hW (by decide) (by decide) (by decide) (by decide) (by decide)
theorem MSX_0 {I : jx_I} {m : Nat} {l : LT} {c : CT} {v : Int32} (h : MSX I m l c) (hW : WT l) : MSX (jx_u I m 0 v) m l c := MSX_s h (FK_f FK_refl (by decide)) hW
theorem FK_0 {I : jx_I} {m : Nat} {v : Int32} : FK m SCR I (jx_u I m 0 v) := FK_f FK_refl (by decide)
theorem GDn_w {l : LT} {c : CT} (hW : WT l) (hC : WC l c) : GDn (Ln l) (Lm l) (Cg c) (Cd c) := fun p q hp hq => hC.1 p q (by have := hW.1.1; omega) (by have := hW.1.2; omega)
theorem WC_8 {l : LT} {c : CT} (hW : WT l) (hC : WC l c) : (CL c).length ≤ 8 := by
  have h1 := nd_len (Lm l) (CL c) hC.2.1.1 hC.2.1.2
  have := hW.1.2
  omega
/-- GrievingCamelsModel.bad -/
theorem cz_202o {V : jx_V} (hV : V.1.stackTraces = false) {X : jx_X} {R : jx_R} {I : jx_I} {a0 : Nat} {a1 : Int} {a2 : Int} {a3 : Int} 
    (hM : MX X R a0) (h00 : (I a0 0).toInt = 0) (h1 : a1 = 0) (h3 : (1 ≤ a2 ∧ a2 ≤ 3) ∧ (0 ≤ a3 ∧ a3 < 4))
    {QE : String → jx_I → Prop} : jc V 1 202 (0, 0) [.ref a0, jy a1, jy a2, jy a3] X I R (fun rv I' => rv = some (jy 0) ∧ I' = I) QE := by
  refine wm_202 hV (by omega) (by omega) (by omega)  (fun J26 hJJ => ?_)
  have hJ26 := hJJ
  unfold wz_202
  refine ⟨fun hq1 => ?_, fun hq1 => ?_⟩
  · refine ⟨s_M_0 hM, ?_⟩
    refine ⟨fun hq2 => ?_, fun hq2 => ?_⟩
    · exact ⟨rfl, rfl⟩
    · omega
  · refine ⟨s_M_0 hM, ?_⟩
    refine ⟨fun hq3 => ?_, fun hq3 => ?_⟩
    · refine ⟨fun hq4 => ?_, fun hq4 => ?_⟩
      · omega
      · omega
    · intro I3 e_I3; subst e_I3
      have e3 : (jx_u I a0 0 (Int32.ofInt a2) (a0 + 2) a3.toNat) = I (a0 + 2) a3.toNat := jx_u_a _ _ _ _ (by omega)
      refine ⟨_, r_M_9 hM, _, ⟨s_M_2 hM, by decide⟩, by omega, by omega, ?_⟩
      intro I10 e_I10; subst e_I10
      refine hJ26 _ ?_
      unfold wz_202_26
      refine ⟨s_M_0 hM, ?_⟩
      refine ⟨fun hq5 => ?_, fun hq5 => ?_⟩
      · omega
      · omega
/-- GrievingCamelsModel.bad -/
theorem cz_202b {V : jx_V} (hV : V.1.stackTraces = false) {X : jx_X} {R : jx_R} {I : jx_I} {a0 : Nat} {a1 : Int} {a2 : Int} {a3 : Int} 
    (hM : MX X R a0) (h00 : (I a0 0).toInt = 0) (h1 : a1 = 1) (h3 : (1 ≤ a2 ∧ a2 ≤ 3) ∧ (0 ≤ a3 ∧ a3 < 4))
    {QE : String → jx_I → Prop} : jc V 1 202 (0, 0) [.ref a0, jy a1, jy a2, jy a3] X I R (fun rv I' => rv = some (jy 1) ∧ I' = RM I a0 a3.toNat a2) QE := by
  refine wm_202 hV (by omega) (by omega) (by omega)  (fun J26 hJJ => ?_)
  have hJ26 := hJJ
  unfold wz_202
  refine ⟨fun hq1 => ?_, fun hq1 => ?_⟩
  · refine ⟨s_M_0 hM, ?_⟩
    refine ⟨fun hq2 => ?_, fun hq2 => ?_⟩
    · omega
    · omega
  · refine ⟨s_M_0 hM, ?_⟩
    refine ⟨fun hq3 => ?_, fun hq3 => ?_⟩
    · refine ⟨fun hq4 => ?_, fun hq4 => ?_⟩
      · omega
      · omega
    · intro I3 e_I3; subst e_I3
      have e3 : (jx_u I a0 0 (Int32.ofInt a2) (a0 + 2) a3.toNat) = I (a0 + 2) a3.toNat := jx_u_a _ _ _ _ (by omega)
      refine ⟨_, r_M_9 hM, _, ⟨s_M_2 hM, by decide⟩, by omega, by omega, ?_⟩
      intro I10 e_I10; subst e_I10
      refine hJ26 _ ?_
      unfold wz_202_26
      refine ⟨s_M_0 hM, ?_⟩
      refine ⟨fun hq5 => ?_, fun hq5 => ?_⟩
      · exfalso; rw [jx_u_a _ _ _ _ (by omega), jx_u_s, jy_toInt (by omega)] at hq5; omega
      · exact ⟨rfl, by unfold RM; rw [e3]⟩
theorem RM_n {I : jx_I} {m k : Nat} {w : Int} (a3 : Int) (h : a3.toNat = k) : RM I m a3.toNat w = RM I m k w := by rw [h]
/-- GrievingCamelsModel.fault -/
theorem cz_230 {V : jx_V} (hV : V.1.stackTraces = false) {X : jx_X} {R : jx_R} {I : jx_I} {a0 : Nat} 
    (hM : MX X R a0)
    {QE : String → jx_I → Prop} : jc V 1 230 (0, 0) [.ref a0] X I R (fun rv I' => rv = some (jy (I a0 3).toInt) ∧ I' = jx_u I a0 0 (Int32.ofInt 0)) QE := by
  refine wm_230 hV   ?_
  unfold wz_230
  refine ⟨s_M_0 hM, ?_⟩
  intro I2 e_I2; subst e_I2
  exact ⟨by rw [jx_u_k _ _ _ _ (by decide)], rfl⟩
/-- GrievingCamelsModel.told -/
theorem cz_231 {V : jx_V} (hV : V.1.stackTraces = false) {X : jx_X} {R : jx_R} {I : jx_I} {a0 : Nat} {a1 : Int} {l : LT} {c : CT} 
    (hM : MX X R a0) (hX : MSX I a0 l c) (hW : WT l) (hC : WC l c) (r_a1 : -2147483648 ≤ a1 ∧ a1 < 2147483648)
    {QE : String → jx_I → Prop} : jc V 2 231 (0, 0) [.ref a0, jy a1] X I R (fun rv I' => (nzw (0 ≤ a1 ∧ a1 ≤ 5) 2 1 (none) = none ∧ rv = some (jy (if a1 = 0 then (Ln l : Int) else if a1 = 1 then (Lm l : Int) else if a1 = 2 then ((CL c).length : Int) else if a1 = 3 then ((CJ c).length : Int) else if a1 = 4 then ((CN c).length : Int) else ((CU c).length : Int))) ∧ (I' a0 0).toInt = 0 ∧ FK a0 SCR I I') ∨ (∃ k w, nzw (0 ≤ a1 ∧ a1 ≤ 5) 2 1 (none) = some (k, w) ∧ I' = RM (jx_u I a0 0 (Int32.ofInt 0)) a0 k w ∧ ∃ x : Int, rv = some (jy x))) QE := by
  have hW0 := hW.1
  have hW0 := hW.1
  refine wm_231 hV (by omega)  (fun J20 hJJ => ?_)
  have hJ20 := hJJ
  unfold wz_231
  refine ⟨s_M_0 hM, ?_⟩
  intro I2 e_I2; subst e_I2
  have hX0 := MSX_0 (v := Int32.ofInt 0) hX hW
  have h00 : (jx_u I a0 0 (Int32.ofInt 0) a0 0).toInt = 0 := by rw [jx_u_s]; rfl
  refine ⟨_, cz_203 hV (by omega) (by omega) (by omega), ?_⟩
  rintro _ I5 ⟨rfl, e9⟩; replace e9 := e9.symm; subst e9
  refine ⟨_, rfl, ?_⟩
  refine ⟨by omega, ?_⟩
  refine ⟨fun hq1 => ?_, fun hq1 => ?_⟩
  · have c1 := bi_t hq1
    refine hJ20 _ _ _ ?_
    unfold wz_231_20
    refine ⟨s_M_0 hM, ?_⟩
    refine ⟨_, cz_202o hV hM h00 (by omega) (by omega), ?_⟩
    rintro _ I11 ⟨rfl, e9⟩; replace e9 := e9.symm; subst e9
    refine ⟨_, rfl, ?_⟩
    refine ⟨by omega, ?_⟩
    refine ⟨fun hq2 => ?_, fun hq2 => ?_⟩
    · refine ⟨fun hq3 => ?_, fun hq3 => ?_⟩
      · refine ⟨fun hq4 => ?_, fun hq4 => ?_⟩
        · refine ⟨fun hq5 => ?_, fun hq5 => ?_⟩
          · refine ⟨fun hq6 => ?_, fun hq6 => ?_⟩
            · refine ⟨s_M_0 hM, ?_⟩
              exact Or.inl ⟨nzw_t c1, by rw [hX0.2.2.2.2.1, if_neg (by omega), if_neg (by omega), if_neg (by omega), if_neg (by omega), if_neg (by omega)], h00, FK_0⟩
            · refine ⟨s_M_0 hM, ?_⟩
              exact Or.inl ⟨nzw_t c1, by rw [hX0.2.2.2.1.1, if_neg (by omega), if_neg (by omega), if_neg (by omega), if_neg (by omega), if_pos (by omega)], h00, FK_0⟩
          · refine ⟨s_M_0 hM, ?_⟩
            exact Or.inl ⟨nzw_t c1, by rw [hX0.2.2.1.1, if_neg (by omega), if_neg (by omega), if_neg (by omega), if_pos (by omega)], h00, FK_0⟩
        · refine ⟨s_M_0 hM, ?_⟩
          exact Or.inl ⟨nzw_t c1, by rw [hX0.2.1.1.1, if_neg (by omega), if_neg (by omega), if_pos (by omega)], h00, FK_0⟩
      · refine ⟨s_M_0 hM, _, r_M_11 hM, _, ⟨s_M_4 hM, by decide⟩, by omega, ?_⟩
        rcases (by omega : a1 = 0 ∨ a1 = 1) with e | e
        · exact Or.inl ⟨nzw_t c1, by rw [e, if_pos rfl, show (0 : Int).toNat = 0 from rfl, hX0.1.1.1], h00, FK_0⟩
        · exact Or.inl ⟨nzw_t c1, by rw [e, if_neg (by decide), if_pos rfl, show (1 : Int).toNat = 1 from rfl, hX0.1.1.2], h00, FK_0⟩
    · exact absurd hq2 (by decide)
  · have c1 := bi_f hq1
    refine hJ20 _ _ _ ?_
    unfold wz_231_20
    refine ⟨s_M_0 hM, ?_⟩
    refine ⟨_, cz_202b hV hM h00 (by omega) (by omega), ?_⟩
    rintro _ I11 ⟨rfl, e9⟩; replace e9 := e9.symm; subst e9
    refine ⟨_, rfl, ?_⟩
    refine ⟨by omega, ?_⟩
    refine ⟨fun hq7 => ?_, fun hq7 => ?_⟩
    · exact absurd hq7 (by decide)
    · exact Or.inr ⟨_, _, by exact nzw_f c1, rfl, _, rfl⟩
/-- GrievingCamelsModel.place -/
theorem cz_234 {V : jx_V} (hV : V.1.stackTraces = false) {X : jx_X} {R : jx_R} {I : jx_I} {a0 : Nat} {a1 : Int} {l : LT} {c : CT} 
    (hM : MX X R a0) (hX : MSX I a0 l c) (hW : WT l) (hC : WC l c) (r_a1 : -2147483648 ≤ a1 ∧ a1 < 2147483648)
    {QE : String → jx_I → Prop} : jc V 3 234 (0, 0) [.ref a0, jy a1] X I R (fun rv I' => (nzw (0 ≤ a1 ∧ a1 < (Ln l : Nat)) 0 1 (none) = none ∧ rv = some (jy (Lk l a1.toNat)) ∧ (I' a0 0).toInt = 0 ∧ FK a0 SCR I I') ∨ (∃ k w, nzw (0 ≤ a1 ∧ a1 < (Ln l : Nat)) 0 1 (none) = some (k, w) ∧ I' = RM (jx_u I a0 0 (Int32.ofInt 0)) a0 k w ∧ ∃ x : Int, rv = some (jy x))) QE := by
  have hW0 := hW.1
  have hW0 := hW.1
  refine wm_234 hV (by omega)  (fun J19 hJJ => ?_)
  have hJ19 := hJJ
  unfold wz_234
  refine ⟨s_M_0 hM, ?_⟩
  intro I2 e_I2; subst e_I2
  have hX0 := MSX_0 (v := Int32.ofInt 0) hX hW
  have h00 : (jx_u I a0 0 (Int32.ofInt 0) a0 0).toInt = 0 := by rw [jx_u_s]; rfl
  refine ⟨_, cz_232 hV hM hX0.1 hW (by omega), ?_⟩
  rintro _ I5 ⟨rfl, e9⟩; replace e9 := e9.symm; subst e9
  refine ⟨_, rfl, ?_⟩
  refine ⟨by omega, ?_⟩
  refine ⟨fun hq1 => ?_, fun hq1 => ?_⟩
  · have c1 := bi_t hq1
    refine hJ19 _ _ _ ?_
    unfold wz_234_19
    refine ⟨s_M_0 hM, ?_⟩
    refine ⟨_, cz_202o hV hM h00 (by omega) (by omega), ?_⟩
    rintro _ I11 ⟨rfl, e9⟩; replace e9 := e9.symm; subst e9
    refine ⟨_, rfl, ?_⟩
    refine ⟨by omega, ?_⟩
    refine ⟨fun hq2 => ?_, fun hq2 => ?_⟩
    · refine ⟨s_M_0 hM, _, r_M_13 hM, _, ⟨s_M_6 hM, by decide⟩, by omega, ?_⟩
      exact Or.inl ⟨nzw_t c1, by rw [hX0.1.2.1 a1.toNat (by omega)], h00, FK_0⟩
    · exact absurd hq2 (by decide)
  · have c1 := bi_f hq1
    refine hJ19 _ _ _ ?_
    unfold wz_234_19
    refine ⟨s_M_0 hM, ?_⟩
    refine ⟨_, cz_202b hV hM h00 (by omega) (by omega), ?_⟩
    rintro _ I11 ⟨rfl, e9⟩; replace e9 := e9.symm; subst e9
    refine ⟨_, rfl, ?_⟩
    refine ⟨by omega, ?_⟩
    refine ⟨fun hq3 => ?_, fun hq3 => ?_⟩
    · exact absurd hq3 (by decide)
    · exact Or.inr ⟨_, _, by exact nzw_f c1, rfl, _, rfl⟩
/-- GrievingCamelsModel.road -/
theorem cz_235 {V : jx_V} (hV : V.1.stackTraces = false) {X : jx_X} {R : jx_R} {I : jx_I} {a0 : Nat} {a1 : Int} {a2 : Int} {l : LT} {c : CT} 
    (hM : MX X R a0) (hX : MSX I a0 l c) (hW : WT l) (hC : WC l c) (r_a1 : -2147483648 ≤ a1 ∧ a1 < 2147483648) (r_a2 : -2147483648 ≤ a2 ∧ a2 < 2147483648)
    {QE : String → jx_I → Prop} : jc V 3 235 (0, 0) [.ref a0, jy a1, jy a2] X I R (fun rv I' => (nzw ((0 ≤ a1 ∧ a1 < (Ln l : Nat)) ∧ (0 ≤ a2 ∧ a2 < (Ln l : Nat))) 0 1 (none) = none ∧ rv = some (jy (if Lr l a1.toNat a2.toNat = 0 then -1 else Lr l a1.toNat a2.toNat)) ∧ (I' a0 0).toInt = 0 ∧ FK a0 SCR I I') ∨ (∃ k w, nzw ((0 ≤ a1 ∧ a1 < (Ln l : Nat)) ∧ (0 ≤ a2 ∧ a2 < (Ln l : Nat))) 0 1 (none) = some (k, w) ∧ I' = RM (jx_u I a0 0 (Int32.ofInt 0)) a0 k w ∧ ∃ x : Int, rv = some (jy x))) QE := by
  have hW0 := hW.1
  have hW0 := hW.1
  refine wm_235 hV (by omega) (by omega)  (fun J27 hJJ => ?_)
  have hJ27 := hJJ
  unfold wz_235
  refine ⟨s_M_0 hM, ?_⟩
  intro I2 e_I2; subst e_I2
  have hX0 := MSX_0 (v := Int32.ofInt 0) hX hW
  have h00 : (jx_u I a0 0 (Int32.ofInt 0) a0 0).toInt = 0 := by rw [jx_u_s]; rfl
  refine ⟨_, cz_232 hV hM hX0.1 hW (by omega), ?_⟩
  rintro _ I5 ⟨rfl, e9⟩; replace e9 := e9.symm; subst e9
  refine ⟨_, rfl, ?_⟩
  refine ⟨by omega, ?_⟩
  refine ⟨fun hq1 => ?_, fun hq1 => ?_⟩
  · have c1 := bi_f hq1
    refine hJ27 _ _ _ ?_
    unfold wz_235_27
    refine ⟨s_M_0 hM, ?_⟩
    refine ⟨_, cz_202b hV hM h00 (by omega) (by omega), ?_⟩
    rintro _ I16 ⟨rfl, e9⟩; replace e9 := e9.symm; subst e9
    refine ⟨_, rfl, ?_⟩
    refine ⟨by omega, ?_⟩
    refine ⟨fun hq2 => ?_, fun hq2 => ?_⟩
    · exact absurd hq2 (by decide)
    · exact Or.inr ⟨_, _, by exact nzw_f (fun k => c1 k.1), rfl, _, rfl⟩
  · have c1 := bi_t hq1
    refine ⟨_, cz_232 hV hM hX0.1 hW (by omega), ?_⟩
    rintro _ I10 ⟨rfl, e9⟩; replace e9 := e9.symm; subst e9
    refine ⟨_, rfl, ?_⟩
    refine ⟨by omega, ?_⟩
    refine ⟨fun hq3 => ?_, fun hq3 => ?_⟩
    · have c2 := bi_t hq3
      refine hJ27 _ _ _ ?_
      unfold wz_235_27
      refine ⟨s_M_0 hM, ?_⟩
      refine ⟨_, cz_202o hV hM h00 (by omega) (by omega), ?_⟩
      rintro _ I16 ⟨rfl, e9⟩; replace e9 := e9.symm; subst e9
      refine ⟨_, rfl, ?_⟩
      refine ⟨by omega, ?_⟩
      refine ⟨fun hq4 => ?_, fun hq4 => ?_⟩
      · refine ⟨s_M_0 hM, _, r_M_21 hM, _, ⟨s_M_24 hM, by decide⟩, by omega, _, rr_M_24 hM (by omega), _, ⟨sr_M_24 hM (by omega), by decide⟩, ?_⟩
        have hrv := hX0.1.2.2.1 a1.toNat a2.toNat (by omega) (by omega)
        try simp only [-eq_self, hrv]
        refine ⟨by omega, ?_⟩
        refine ⟨fun hq5 => ?_, fun hq5 => ?_⟩
        · refine ⟨by omega, _, rr_M_24 hM (by omega), _, ⟨sr_M_24 hM (by omega), by decide⟩, ?_⟩
          try simp only [-eq_self, hrv]
          refine ⟨by omega, ?_⟩
          exact Or.inl ⟨nzw_t ⟨c1, c2⟩, by rw [if_neg (by omega)], h00, FK_0⟩
        · exact Or.inl ⟨nzw_t ⟨c1, c2⟩, by rw [if_pos (by omega)], h00, FK_0⟩
      · exact absurd hq4 (by decide)
    · have c2 := bi_f hq3
      refine hJ27 _ _ _ ?_
      unfold wz_235_27
      refine ⟨s_M_0 hM, ?_⟩
      refine ⟨_, cz_202b hV hM h00 (by omega) (by omega), ?_⟩
      rintro _ I16 ⟨rfl, e9⟩; replace e9 := e9.symm; subst e9
      refine ⟨_, rfl, ?_⟩
      refine ⟨by omega, ?_⟩
      refine ⟨fun hq6 => ?_, fun hq6 => ?_⟩
      · exact absurd hq6 (by decide)
      · exact Or.inr ⟨_, _, by exact nzw_f (fun k => c2 k.2), rfl, _, rfl⟩
/-- GrievingCamelsModel.camel -/
theorem cz_236 {V : jx_V} (hV : V.1.stackTraces = false) {X : jx_X} {R : jx_R} {I : jx_I} {a0 : Nat} {a1 : Int} {a2 : Int} {l : LT} {c : CT} 
    (hM : MX X R a0) (hX : MSX I a0 l c) (hW : WT l) (hC : WC l c) (r_a1 : -2147483648 ≤ a1 ∧ a1 < 2147483648) (r_a2 : -2147483648 ≤ a2 ∧ a2 < 2147483648)
    {QE : String → jx_I → Prop} : jc V 3 236 (0, 0) [.ref a0, jy a1, jy a2] X I R (fun rv I' => (nzw (0 ≤ a1 ∧ a1 < (Lm l : Nat)) 1 1 (nzw (0 ≤ a2 ∧ a2 ≤ 1) 2 2 (none)) = none ∧ rv = some (jy (if a2 = 0 then Lp l a1.toNat else Lo l a1.toNat)) ∧ (I' a0 0).toInt = 0 ∧ FK a0 SCR I I') ∨ (∃ k w, nzw (0 ≤ a1 ∧ a1 < (Lm l : Nat)) 1 1 (nzw (0 ≤ a2 ∧ a2 ≤ 1) 2 2 (none)) = some (k, w) ∧ I' = RM (jx_u I a0 0 (Int32.ofInt 0)) a0 k w ∧ ∃ x : Int, rv = some (jy x))) QE := by
  have hW0 := hW.1
  have hW0 := hW.1
  refine wm_236 hV (by omega) (by omega)  (fun J19 J42 hJJ => ?_)
  obtain ⟨hJ19, hJ42⟩ := hJJ
  unfold wz_236
  refine ⟨s_M_0 hM, ?_⟩
  intro I2 e_I2; subst e_I2
  have hX0 := MSX_0 (v := Int32.ofInt 0) hX hW
  have h00 : (jx_u I a0 0 (Int32.ofInt 0) a0 0).toInt = 0 := by rw [jx_u_s]; rfl
  refine ⟨_, cz_233 hV hM hX0.1 hW (by omega), ?_⟩
  rintro _ I5 ⟨rfl, e9⟩; replace e9 := e9.symm; subst e9
  refine ⟨_, rfl, ?_⟩
  refine ⟨by omega, ?_⟩
  refine ⟨fun hq1 => ?_, fun hq1 => ?_⟩
  · have c1 := bi_t hq1
    refine hJ19 _ _ _ ?_
    unfold wz_236_19
    refine ⟨s_M_0 hM, ?_⟩
    refine ⟨_, cz_202o hV hM h00 (by omega) (by omega), ?_⟩
    rintro _ I11 ⟨rfl, e9⟩; replace e9 := e9.symm; subst e9
    refine ⟨_, rfl, ?_⟩
    refine ⟨by omega, ?_⟩
    refine ⟨fun hq2 => ?_, fun hq2 => ?_⟩
    · exact absurd hq2 (by decide)
    · refine ⟨_, cz_203 hV (by omega) (by omega) (by omega), ?_⟩
      rintro _ I16 ⟨rfl, e9⟩; replace e9 := e9.symm; subst e9
      refine ⟨_, rfl, ?_⟩
      refine ⟨by omega, ?_⟩
      refine ⟨fun hq3 => ?_, fun hq3 => ?_⟩
      · have c2 := bi_t hq3
        refine hJ42 _ _ _ ?_
        unfold wz_236_42
        refine ⟨s_M_0 hM, ?_⟩
        refine ⟨_, cz_202o hV hM h00 (by omega) (by omega), ?_⟩
        rintro _ I22 ⟨rfl, e9⟩; replace e9 := e9.symm; subst e9
        refine ⟨_, rfl, ?_⟩
        refine ⟨by omega, ?_⟩
        refine ⟨fun hq4 => ?_, fun hq4 => ?_⟩
        · refine ⟨fun hq5 => ?_, fun hq5 => ?_⟩
          · refine ⟨s_M_0 hM, _, r_M_17 hM, _, ⟨s_M_10 hM, by decide⟩, by omega, ?_⟩
            exact Or.inl ⟨by rw [nzw_t c1, nzw_t c2], by rw [if_neg (by omega), (hX0.1.2.2.2.1 a1.toNat (by omega)).2.1], h00, FK_0⟩
          · refine ⟨s_M_0 hM, _, r_M_15 hM, _, ⟨s_M_8 hM, by decide⟩, by omega, ?_⟩
            exact Or.inl ⟨by rw [nzw_t c1, nzw_t c2], by rw [if_pos (by omega), (hX0.1.2.2.2.1 a1.toNat (by omega)).1], h00, FK_0⟩
        · exact absurd hq4 (by decide)
      · have c2 := bi_f hq3
        refine hJ42 _ _ _ ?_
        unfold wz_236_42
        refine ⟨s_M_0 hM, ?_⟩
        refine ⟨_, cz_202b hV hM h00 (by omega) (by omega), ?_⟩
        rintro _ I22 ⟨rfl, e9⟩; replace e9 := e9.symm; subst e9
        refine ⟨_, rfl, ?_⟩
        refine ⟨by omega, ?_⟩
        refine ⟨fun hq6 => ?_, fun hq6 => ?_⟩
        · exact absurd hq6 (by decide)
        · exact Or.inr ⟨_, _, by rw [nzw_t c1]; exact nzw_f c2, rfl, _, rfl⟩
  · have c1 := bi_f hq1
    refine hJ19 _ _ _ ?_
    unfold wz_236_19
    refine ⟨s_M_0 hM, ?_⟩
    refine ⟨_, cz_202b hV hM h00 (by omega) (by omega), ?_⟩
    rintro _ I11 ⟨rfl, e9⟩; replace e9 := e9.symm; subst e9
    refine ⟨_, rfl, ?_⟩
    refine ⟨by omega, ?_⟩
    refine ⟨fun hq7 => ?_, fun hq7 => ?_⟩
    · exact Or.inr ⟨_, _, by exact nzw_f c1, rfl, _, rfl⟩
    · exact absurd hq7 (by decide)
/-- GrievingCamelsModel.grief -/
theorem cz_237 {V : jx_V} (hV : V.1.stackTraces = false) {X : jx_X} {R : jx_R} {I : jx_I} {a0 : Nat} {a1 : Int} {a2 : Int} {a3 : Int} {l : LT} {c : CT} 
    (hM : MX X R a0) (hX : MSX I a0 l c) (hW : WT l) (hC : WC l c) (r_a1 : -2147483648 ≤ a1 ∧ a1 < 2147483648) (r_a2 : -2147483648 ≤ a2 ∧ a2 < 2147483648) (r_a3 : -2147483648 ≤ a3 ∧ a3 < 2147483648)
    {QE : String → jx_I → Prop} : jc V 3 237 (0, 0) [.ref a0, jy a1, jy a2, jy a3] X I R (fun rv I' => (nzw (0 ≤ a1 ∧ a1 < (Ln l : Nat)) 0 1 (nzw (0 ≤ a2 ∧ a2 < (Lm l : Nat)) 1 2 (nzw (0 ≤ a3 ∧ a3 ≤ 1) 2 3 (none))) = none ∧ rv = some (jy (if a3 = 0 then Cg c a1.toNat a2.toNat else Cd c a1.toNat a2.toNat)) ∧ (I' a0 0).toInt = 0 ∧ FK a0 SCR I I') ∨ (∃ k w, nzw (0 ≤ a1 ∧ a1 < (Ln l : Nat)) 0 1 (nzw (0 ≤ a2 ∧ a2 < (Lm l : Nat)) 1 2 (nzw (0 ≤ a3 ∧ a3 ≤ 1) 2 3 (none))) = some (k, w) ∧ I' = RM (jx_u I a0 0 (Int32.ofInt 0)) a0 k w ∧ ∃ x : Int, rv = some (jy x))) QE := by
  have hW0 := hW.1
  have hW0 := hW.1
  refine wm_237 hV (by omega) (by omega) (by omega)  (fun J19 J41 J64 hJJ => ?_)
  obtain ⟨hJ19, hJ41, hJ64⟩ := hJJ
  unfold wz_237
  refine ⟨s_M_0 hM, ?_⟩
  intro I2 e_I2; subst e_I2
  have hX0 := MSX_0 (v := Int32.ofInt 0) hX hW
  have h00 : (jx_u I a0 0 (Int32.ofInt 0) a0 0).toInt = 0 := by rw [jx_u_s]; rfl
  refine ⟨_, cz_232 hV hM hX0.1 hW (by omega), ?_⟩
  rintro _ I5 ⟨rfl, e9⟩; replace e9 := e9.symm; subst e9
  refine ⟨_, rfl, ?_⟩
  refine ⟨by omega, ?_⟩
  refine ⟨fun hq1 => ?_, fun hq1 => ?_⟩
  · have c1 := bi_t hq1
    refine hJ19 _ _ _ ?_
    unfold wz_237_19
    refine ⟨s_M_0 hM, ?_⟩
    refine ⟨_, cz_202o hV hM h00 (by omega) (by omega), ?_⟩
    rintro _ I11 ⟨rfl, e9⟩; replace e9 := e9.symm; subst e9
    refine ⟨_, rfl, ?_⟩
    refine ⟨by omega, ?_⟩
    refine ⟨fun hq2 => ?_, fun hq2 => ?_⟩
    · exact absurd hq2 (by decide)
    · refine ⟨s_M_0 hM, ?_⟩
      refine ⟨_, cz_233 hV hM hX0.1 hW (by omega), ?_⟩
      rintro _ I17 ⟨rfl, e9⟩; replace e9 := e9.symm; subst e9
      refine ⟨_, rfl, ?_⟩
      refine ⟨by omega, ?_⟩
      refine ⟨fun hq3 => ?_, fun hq3 => ?_⟩
      · have c2 := bi_t hq3
        refine hJ41 _ _ _ ?_
        unfold wz_237_41
        refine ⟨s_M_0 hM, ?_⟩
        refine ⟨_, cz_202o hV hM h00 (by omega) (by omega), ?_⟩
        rintro _ I23 ⟨rfl, e9⟩; replace e9 := e9.symm; subst e9
        refine ⟨_, rfl, ?_⟩
        refine ⟨by omega, ?_⟩
        refine ⟨fun hq4 => ?_, fun hq4 => ?_⟩
        · exact absurd hq4 (by decide)
        · refine ⟨_, cz_203 hV (by omega) (by omega) (by omega), ?_⟩
          rintro _ I28 ⟨rfl, e9⟩; replace e9 := e9.symm; subst e9
          refine ⟨_, rfl, ?_⟩
          refine ⟨by omega, ?_⟩
          refine ⟨fun hq5 => ?_, fun hq5 => ?_⟩
          · have c3 := bi_t hq5
            refine hJ64 _ _ _ ?_
            unfold wz_237_64
            refine ⟨s_M_0 hM, ?_⟩
            refine ⟨_, cz_202o hV hM h00 (by omega) (by omega), ?_⟩
            rintro _ I34 ⟨rfl, e9⟩; replace e9 := e9.symm; subst e9
            refine ⟨_, rfl, ?_⟩
            refine ⟨by omega, ?_⟩
            refine ⟨fun hq6 => ?_, fun hq6 => ?_⟩
            · refine ⟨fun hq7 => ?_, fun hq7 => ?_⟩
              · refine ⟨s_M_0 hM, _, r_M_30 hM, _, ⟨s_M_1296 hM, by decide⟩, by omega, _, rr_M_1296 hM (by omega), _, ⟨sr_M_1296 hM (by omega), by decide⟩, by omega, ?_⟩
                exact Or.inl ⟨by rw [nzw_t c1, nzw_t c2, nzw_t c3], by rw [if_neg (by omega), hX0.2.1.2.2 a1.toNat a2.toNat (by omega) (by omega)], h00, FK_0⟩
              · refine ⟨s_M_0 hM, _, r_M_29 hM, _, ⟨s_M_1287 hM, by decide⟩, by omega, _, rr_M_1287 hM (by omega), _, ⟨sr_M_1287 hM (by omega), by decide⟩, by omega, ?_⟩
                exact Or.inl ⟨by rw [nzw_t c1, nzw_t c2, nzw_t c3], by rw [if_pos (by omega), hX0.2.1.2.1 a1.toNat a2.toNat (by omega) (by omega)], h00, FK_0⟩
            · exact absurd hq6 (by decide)
          · have c3 := bi_f hq5
            refine hJ64 _ _ _ ?_
            unfold wz_237_64
            refine ⟨s_M_0 hM, ?_⟩
            refine ⟨_, cz_202b hV hM h00 (by omega) (by omega), ?_⟩
            rintro _ I34 ⟨rfl, e9⟩; replace e9 := e9.symm; subst e9
            refine ⟨_, rfl, ?_⟩
            refine ⟨by omega, ?_⟩
            refine ⟨fun hq8 => ?_, fun hq8 => ?_⟩
            · exact absurd hq8 (by decide)
            · exact Or.inr ⟨_, _, by rw [nzw_t c1]; rw [nzw_t c2]; exact nzw_f c3, rfl, _, rfl⟩
      · have c2 := bi_f hq3
        refine hJ41 _ _ _ ?_
        unfold wz_237_41
        refine ⟨s_M_0 hM, ?_⟩
        refine ⟨_, cz_202b hV hM h00 (by omega) (by omega), ?_⟩
        rintro _ I23 ⟨rfl, e9⟩; replace e9 := e9.symm; subst e9
        refine ⟨_, rfl, ?_⟩
        refine ⟨by omega, ?_⟩
        refine ⟨fun hq9 => ?_, fun hq9 => ?_⟩
        · exact Or.inr ⟨_, _, by rw [nzw_t c1]; exact nzw_f c2, rfl, _, rfl⟩
        · exact absurd hq9 (by decide)
  · have c1 := bi_f hq1
    refine hJ19 _ _ _ ?_
    unfold wz_237_19
    refine ⟨s_M_0 hM, ?_⟩
    refine ⟨_, cz_202b hV hM h00 (by omega) (by omega), ?_⟩
    rintro _ I11 ⟨rfl, e9⟩; replace e9 := e9.symm; subst e9
    refine ⟨_, rfl, ?_⟩
    refine ⟨by omega, ?_⟩
    refine ⟨fun hq10 => ?_, fun hq10 => ?_⟩
    · exact Or.inr ⟨_, _, by exact nzw_f c1, rfl, _, rfl⟩
    · exact absurd hq10 (by decide)
/-- GrievingCamelsModel.row -/
theorem cz_242 {V : jx_V} (hV : V.1.stackTraces = false) {X : jx_X} {R : jx_R} {I : jx_I} {a0 : Nat} {a1 : Int} {l : LT} {c : CT}
    (hM : MX X R a0) (hX : MSX I a0 l c) (hW : WT l) (hC : WC l c) (r_a1 : -2147483648 ≤ a1 ∧ a1 < 2147483648)
    {QE : String → jx_I → Prop} : jc V 2 242 (0, 0) [.ref a0, jy a1] X I R (fun rv I' => rv = some (jy (itm (CL c) a1)) ∧ (I' a0 0).toInt = 0 ∧ FK a0 SCR I I') QE := by
  have hW0 := hW.1
  refine wm_242 hV (by omega)  ?_
  unfold wz_242
  refine ⟨s_M_0 hM, ?_⟩
  intro I2 e_I2; subst e_I2
  have hX0 := MSX_0 (v := Int32.ofInt 0) hX hW
  have h00 : (jx_u I a0 0 (Int32.ofInt 0) a0 0).toInt = 0 := by rw [jx_u_s]; rfl
  have hL := hX0.2.1.1
  have hm := hL.1
  have h8 := WC_8 hW hC
  have hl8 : (CL c).length ≤ 12 := by
    have := WC_8 hW hC
    rcases hC.2.2.1 with e | e
    · first | omega | (rw [e]; decide)
    · omega
  refine ⟨_, cz_203 hV (by omega) (by omega) (by omega), ?_⟩
  rintro _ I5 ⟨rfl, e9⟩; replace e9 := e9.symm; subst e9
  refine ⟨_, rfl, ?_⟩
  refine ⟨by omega, ?_⟩
  refine ⟨fun hq1 => ?_, fun hq1 => ?_⟩
  · have c1 := bi_f hq1
    exact ⟨by rw [itm_o (by omega)], h00, FK_0⟩
  · have c1 := bi_t hq1
    refine ⟨_, r_M_34 hM, _, ⟨s_M_1344 hM, by decide⟩, by omega, ?_⟩
    obtain ⟨y, hy, hv⟩ := ML_get hL (i := a1.toNat) (by omega)
    exact ⟨by rw [hv, itm_i (by omega) hy], h00, FK_0⟩
/-- GrievingCamelsModel.at -/
theorem cz_257 {V : jx_V} (hV : V.1.stackTraces = false) {X : jx_X} {R : jx_R} {I : jx_I} {a0 : Nat} {a1 : Int} {l : LT} {c : CT}
    (hM : MX X R a0) (hX : MSX I a0 l c) (hW : WT l) (hC : WC l c) (r_a1 : -2147483648 ≤ a1 ∧ a1 < 2147483648)
    {QE : String → jx_I → Prop} : jc V 2 257 (0, 0) [.ref a0, jy a1] X I R (fun rv I' => rv = some (jy (itm (CJ c) a1)) ∧ (I' a0 0).toInt = 0 ∧ FK a0 SCR I I') QE := by
  have hW0 := hW.1
  refine wm_257 hV (by omega)  ?_
  unfold wz_257
  refine ⟨s_M_0 hM, ?_⟩
  intro I2 e_I2; subst e_I2
  have hX0 := MSX_0 (v := Int32.ofInt 0) hX hW
  have h00 : (jx_u I a0 0 (Int32.ofInt 0) a0 0).toInt = 0 := by rw [jx_u_s]; rfl
  have hL := hX0.2.2.1
  have hm := hL.1
  have h8 := WC_8 hW hC
  have hl8 : (CJ c).length ≤ 12 := by
    have := WC_8 hW hC
    rcases hC.2.2.1 with e | e
    · first | omega | (rw [e]; decide)
    · omega
  refine ⟨_, cz_203 hV (by omega) (by omega) (by omega), ?_⟩
  rintro _ I5 ⟨rfl, e9⟩; replace e9 := e9.symm; subst e9
  refine ⟨_, rfl, ?_⟩
  refine ⟨by omega, ?_⟩
  refine ⟨fun hq1 => ?_, fun hq1 => ?_⟩
  · have c1 := bi_f hq1
    exact ⟨by rw [itm_o (by omega)], h00, FK_0⟩
  · have c1 := bi_t hq1
    refine ⟨_, r_M_35 hM, _, ⟨s_M_1345 hM, by decide⟩, by omega, ?_⟩
    obtain ⟨y, hy, hv⟩ := ML_get hL (i := a1.toNat) (by omega)
    exact ⟨by rw [hv, itm_i (by omega) hy], h00, FK_0⟩
