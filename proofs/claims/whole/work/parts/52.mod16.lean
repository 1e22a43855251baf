/-! ===== the reference: a value moved to an image, or from it ===== -/
/-- GrievingCamelsModel.moves -/
theorem cz_321p {V : jx_V} (hV : V.1.stackTraces = false) {X : jx_X} {R : jx_R} {I : jx_I} {a0 : Nat} {a1 : Nat} {a2 : Int} {a3 : Int} {k : Nat}
    (hM : MX X R a0) (hs : X.2.1 a1 = some (100, 4042)) (hne : a1 ≠ a0) (hk : (I a0 41).toInt = (k : Int)) (hk2 : k < 4042) (r_a2 : -2147483648 ≤ a2 ∧ a2 < 2147483648) (h3 : a3 = 0)
    {QE : String → jx_I → Prop} : jc V 1 321 (0, 0) [.ref a0, .ref a1, jy a2, jy a3] X I R (fun rv I' => rv = some (jy a2) ∧ (I' a0 41).toInt = ((k + 1 : Nat) : Int) ∧ (I' a1 k).toInt = a2 ∧ (∀ j, j ≠ k → I' a1 j = I a1 j) ∧ (∀ j, j ≠ 41 → I' a0 j = I a0 j) ∧ ∀ q, q ≠ a0 → q ≠ a1 → I' q = I q) QE := by
  refine wm_321 hV (by omega) (by omega)  (fun J11 hJJ => ?_)
  have hJ11 := hJJ
  unfold wz_321
  refine ⟨fun hq1 => ?_, fun hq1 => ?_⟩
  · omega
  · refine ⟨s_M_0 hM, _, ⟨hs, by decide⟩, ?_⟩
    try simp only [-eq_self, hk, Int.toNat_natCast]
    refine ⟨by omega, ?_⟩
    intro I10 e_I10; subst e_I10
    refine hJ11 _ ?_
    unfold wz_321_11
    refine ⟨s_M_0 hM, ?_⟩
    intro I12 e_I12; subst e_I12
    have e1 : ((jx_u I a1 k (Int32.ofInt a2)) a0 41).toInt = (k : Int) := by rw [jx_u_a _ _ _ _ (by omega)]; exact hk
    have e2 : ((jx_u (jx_u I a1 k (Int32.ofInt a2)) a0 41 (Int32.ofInt (((jx_u I a1 k (Int32.ofInt a2)) a0 41).toInt + 1))) a0 41).toInt = ((k + 1 : Nat) : Int) := by rw [jx_u_s, e1]; rw [jy_toInt (by omega)]; omega
    simp only [-eq_self, e2, show (((k + 1 : Nat) : Int) - 1).toNat = k by omega]
    refine ⟨_, ⟨hs, by decide⟩, by omega, ?_⟩
    have e5 : ((jx_u (jx_u I a1 k (Int32.ofInt a2)) a0 41 (Int32.ofInt (((jx_u I a1 k (Int32.ofInt a2)) a0 41).toInt + 1))) a1 k).toInt = a2 := by rw [jx_u_a _ _ _ _ (by omega), jx_u_s]; exact jy_toInt (by omega)
    exact ⟨by rw [e5], by first | exact e2 | trivial, e5, fun j hj => by rw [jx_u_a _ _ _ _ (by omega), jx_u_k _ _ _ _ hj], fun j hj => by rw [jx_u_k _ _ _ _ hj, jx_u_a _ _ _ _ (by omega)], fun q h1 h2 => by rw [jx_u_r _ _ _ h1, jx_u_r _ _ _ h2]⟩
/-- GrievingCamelsModel.moves -/
theorem cz_321g {V : jx_V} (hV : V.1.stackTraces = false) {X : jx_X} {R : jx_R} {I : jx_I} {a0 : Nat} {a1 : Nat} {a2 : Int} {a3 : Int} {k : Nat}
    (hM : MX X R a0) (hs : X.2.1 a1 = some (100, 4042)) (hne : a1 ≠ a0) (hk : (I a0 41).toInt = (k : Int)) (hk2 : k < 4042) (r_a2 : -2147483648 ≤ a2 ∧ a2 < 2147483648) (h3 : a3 = 1)
    {QE : String → jx_I → Prop} : jc V 1 321 (0, 0) [.ref a0, .ref a1, jy a2, jy a3] X I R (fun rv I' => rv = some (jy (I a1 k).toInt) ∧ (I' a0 41).toInt = ((k + 1 : Nat) : Int) ∧ (∀ j, j ≠ 41 → I' a0 j = I a0 j) ∧ ∀ q, q ≠ a0 → I' q = I q) QE := by
  refine wm_321 hV (by omega) (by omega)  (fun J11 hJJ => ?_)
  have hJ11 := hJJ
  unfold wz_321
  refine ⟨fun hq1 => ?_, fun hq1 => ?_⟩
  · refine ⟨s_M_0 hM, ?_⟩
    intro I2 e_I2; subst e_I2
    have e2 : ((jx_u I a0 41 (Int32.ofInt ((I a0 41).toInt + 1))) a0 41).toInt = ((k + 1 : Nat) : Int) := by rw [jx_u_s, hk]; rw [jy_toInt (by omega)]; omega
    simp only [-eq_self, e2, show (((k + 1 : Nat) : Int) - 1).toNat = k by omega]
    refine ⟨_, ⟨hs, by decide⟩, by omega, ?_⟩
    exact ⟨by rw [jx_u_a _ _ _ _ (by omega)], by first | exact e2 | trivial, fun j hj => by rw [jx_u_k _ _ _ _ hj], fun q h1 => by rw [jx_u_r _ _ _ h1]⟩
  · omega
