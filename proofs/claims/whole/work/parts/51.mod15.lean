/-! ===== the reference: status, counts, a value moved ===== -/
/-- GrievingCamelsModel.status -/
theorem cz_325 {V : jx_V} (hV : V.1.stackTraces = false) {X : jx_X} {R : jx_R} {I : jx_I} {a0 : Nat} {a1 : Int} 
    (hM : MX X R a0) (r_a1 : -2147483648 ≤ a1 ∧ a1 < 2147483648)
    {QE : String → jx_I → Prop} : jc V 2 325 (0, 0) [.ref a0, jy a1] X I R (fun rv I' => rv = some (jy (if 0 ≤ a1 ∧ a1 ≤ 3 then (I (a0 + 2) a1.toNat).toInt else -1)) ∧ I' = jx_u I a0 0 (Int32.ofInt 0)) QE := by
  refine wm_325 hV (by omega)  ?_
  unfold wz_325
  refine ⟨s_M_0 hM, ?_⟩
  intro I2 e_I2; subst e_I2
  refine ⟨_, cz_203 hV (by omega) (by omega) (by omega), ?_⟩
  rintro _ I5 ⟨rfl, e9⟩; replace e9 := e9.symm; subst e9
  refine ⟨_, rfl, ?_⟩
  refine ⟨by omega, ?_⟩
  refine ⟨fun hq1 => ?_, fun hq1 => ?_⟩
  · have c1 := bi_f hq1
    exact ⟨by rw [if_neg c1], rfl⟩
  · have c1 := bi_t hq1
    refine ⟨_, r_M_9 hM, _, ⟨s_M_2 hM, by decide⟩, by omega, ?_⟩
    exact ⟨by rw [if_pos c1, jx_u_a _ _ _ _ (by omega)], rfl⟩
/-- GrievingCamelsModel.count -/
theorem cz_326 {V : jx_V} (hV : V.1.stackTraces = false) {X : jx_X} {R : jx_R} {I : jx_I} {a0 : Nat} {a1 : Int} 
    (hM : MX X R a0) (r_a1 : -2147483648 ≤ a1 ∧ a1 < 2147483648)
    {QE : String → jx_I → Prop} : jc V 1 326 (0, 0) [.ref a0, jy a1] X I R (fun rv I' => rv = some (jy (if a1 = 0 then (I a0 40).toInt else if a1 = 1 then (I a0 1).toInt else if a1 = 2 then (I a0 39).toInt else -1)) ∧ I' = jx_u I a0 0 (Int32.ofInt 0)) QE := by
  refine wm_326 hV (by omega)  ?_
  unfold wz_326
  refine ⟨s_M_0 hM, ?_⟩
  intro I2 e_I2; subst e_I2
  refine ⟨fun hq1 => ?_, fun hq1 => ?_⟩
  · refine ⟨fun hq2 => ?_, fun hq2 => ?_⟩
    · refine ⟨fun hq3 => ?_, fun hq3 => ?_⟩
      · exact ⟨by rw [if_neg (by omega), if_neg (by omega), if_neg (by omega)], rfl⟩
      · exact ⟨by rw [if_neg (by omega), if_neg (by omega), if_pos (by omega), jx_u_k _ _ _ _ (by omega)], rfl⟩
    · exact ⟨by rw [if_neg (by omega), if_pos (by omega), jx_u_k _ _ _ _ (by omega)], rfl⟩
  · exact ⟨by rw [if_pos (by omega), jx_u_k _ _ _ _ (by omega)], rfl⟩
