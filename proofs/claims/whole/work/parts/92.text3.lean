/-! ===== the reference: a text begins; digits ===== -/
/-- GrievingCamelsModel.isDigit -/
theorem cz_209 {V : jx_V} (hV : V.1.stackTraces = false) {X : jx_X} {R : jx_R} {I : jx_I} {a0 : Int} 
    (r_a0 : -2147483648 ≤ a0 ∧ a0 < 2147483648)
    {QE : String → jx_I → Prop} : jc V 1 209 (0, 0) [jy a0] X I R (fun rv I' => rv = some (jy (if 48 ≤ a0 ∧ a0 ≤ 57 then 1 else 0)) ∧ I' = I) QE := by
  refine wm_209 hV (by omega)  ?_
  unfold wz_209
  refine ⟨fun hq1 => ?_, fun hq1 => ?_⟩
  · rw [if_neg (by omega)]
    exact ⟨rfl, rfl⟩
  · refine ⟨fun hq2 => ?_, fun hq2 => ?_⟩
    · rw [if_neg (by omega)]
      exact ⟨rfl, rfl⟩
    · rw [if_pos (by omega)]
      exact ⟨rfl, rfl⟩
/-- GrievingCamelsModel.starts -/
theorem cz_219 {V : jx_V} (hV : V.1.stackTraces = false) {X : jx_X} {R : jx_R} {I : jx_I} {a0 : Nat} {a1 : Int} {T : List Int}
    (hM : MX X R a0) (h1 : a1 = (T.length : Int)) (h600 : T.length ≤ 600) (hb : ∀ (k : Nat) (x : Int), T[k]? = some x → (I (a0 + 1) k).toInt = x)
    {QE : String → jx_I → Prop} : jc V 3 219 (0, 0) [.ref a0, jy a1] X I R (fun rv I' => rv = none ∧ RTX I' a0 T (skB T 0 : Nat) 0 (-1) ∧ FO a0 [1, 2, 4, 5, 6, 7, 25] I I' ∧ (I' a0 1).toInt = 0 ∧ (I' a0 7).toInt = 0 ∧ (I' a0 25).toInt = 0) QE := by
  refine wm_219 hV (by omega)  ?_
  unfold wz_219
  refine ⟨s_M_0 hM, ?_⟩
  intro I2 e_I2; subst e_I2
  intro I3 e_I3; subst e_I3
  intro I4 e_I4; subst e_I4
  intro I5 e_I5; subst e_I5
  intro I6 e_I6; subst e_I6
  intro I7 e_I7; subst e_I7
  intro I8 e_I8; subst e_I8
  have hT8 : RTX (jx_u (jx_u (jx_u (jx_u (jx_u (jx_u (jx_u I a0 1 (Int32.ofInt 0)) a0 2 (Int32.ofInt a1)) a0 4 (Int32.ofInt 0)) a0 5 (Int32.ofInt 0)) a0 6 (Int32.ofInt (-1))) a0 7 (Int32.ofInt 0)) a0 25 (Int32.ofInt 0)) a0 T ((0 : Nat) : Int) 0 (-1) := ⟨⟨by rw [jx_u_k _ _ _ _ (by omega), jx_u_k _ _ _ _ (by omega), jx_u_k _ _ _ _ (by omega), jx_u_k _ _ _ _ (by omega), jx_u_k _ _ _ _ (by omega), jx_u_s]; rw [jy_toInt (by omega)]; exact h1, by rw [jx_u_k _ _ _ _ (by omega), jx_u_k _ _ _ _ (by omega), jx_u_k _ _ _ _ (by omega), jx_u_k _ _ _ _ (by omega), jx_u_s]; rfl, by rw [jx_u_k _ _ _ _ (by omega), jx_u_k _ _ _ _ (by omega), jx_u_k _ _ _ _ (by omega), jx_u_s]; rfl, by rw [jx_u_k _ _ _ _ (by omega), jx_u_k _ _ _ _ (by omega), jx_u_s]; rfl⟩, h600, fun k x hk => by rw [jx_u_r _ _ _ (by omega), jx_u_r _ _ _ (by omega), jx_u_r _ _ _ (by omega), jx_u_r _ _ _ (by omega), jx_u_r _ _ _ (by omega), jx_u_r _ _ _ (by omega), jx_u_r _ _ _ (by omega)]; exact hb k x hk⟩
  have hF8 : FO a0 [1, 2, 4, 5, 6, 7, 25] I (jx_u (jx_u (jx_u (jx_u (jx_u (jx_u (jx_u I a0 1 (Int32.ofInt 0)) a0 2 (Int32.ofInt a1)) a0 4 (Int32.ofInt 0)) a0 5 (Int32.ofInt 0)) a0 6 (Int32.ofInt (-1))) a0 7 (Int32.ofInt 0)) a0 25 (Int32.ofInt 0)) := FO_f (FO_f (FO_f (FO_f (FO_f (FO_f (FO_f FO_refl (by decide)) (by decide)) (by decide)) (by decide)) (by decide)) (by decide)) (by decide)
  refine ⟨_, cz_207 (p := 0) hV hM hT8 (by omega), ?_⟩
  rintro _ I11 ⟨rfl, hT11, hF11⟩
  refine ⟨rfl, ?_⟩
  exact ⟨rfl, hT11, FO_trans hF8 (FO_mono hF11 (by decide)), by rw [hF11.2 1 (by decide), jx_u_k _ _ _ _ (by omega), jx_u_k _ _ _ _ (by omega), jx_u_k _ _ _ _ (by omega), jx_u_k _ _ _ _ (by omega), jx_u_k _ _ _ _ (by omega), jx_u_k _ _ _ _ (by omega), jx_u_s]; rfl, by rw [hF11.2 7 (by decide), jx_u_k _ _ _ _ (by omega), jx_u_s]; rfl, by rw [hF11.2 25 (by decide), jx_u_s]; rfl⟩
