/-! ===== the reference: letters skipped, signs ===== -/
/-- GrievingCamelsModel.skipWord -/
theorem cz_215 {V : jx_V} (hV : V.1.stackTraces = false) {X : jx_X} {R : jx_R} {I : jx_I} {a0 : Nat} {T : List Int} {p : Nat} {fk fa : Int}
    (hM : MX X R a0) (hT : RTX I a0 T (p : Int) fk fa) (hp : p ≤ T.length)
    {QE : String → jx_I → Prop} : jc V 2 215 (0, 0) [.ref a0] X I R (fun rv I' => rv = none ∧ RTX I' a0 T (p + (wrd T p).length : Nat) fk fa ∧ FO a0 [4] I I') QE := by
  have h6 := hT.2.1
  refine wm_215 hV   (fun J0 hJJ => ?_)
  have hJ0 := hJJ
  unfold wz_215
  have L0 : ∀ (n0 : Nat)  (K : jx_I), n0 = ((T.length : Int) - (K a0 4).toInt).toNat → (∃ q : Nat, (K a0 4).toInt = (q : Int) ∧ q ≤ T.length ∧ p + (wrd T p).length = q + (wrd T q).length ∧ RTX K a0 T (q : Int) fk fa ∧ FO a0 [4] I K) → J0  K := by
    intro n0
    induction n0 using Nat.strongRecOn with
    | ind n0 ih0 =>
    intro  K hn0 hI0
    obtain ⟨q, h4, hq, hs, hTK, hF⟩ := hI0
    have hrg := RTX_r hTK q
    refine hJ0 _ ?_
    unfold wz_215_0
    refine ⟨s_M_0 hM, ?_⟩
    refine ⟨_, cz_206 (i := q) hV hM hTK h4 (by omega), ?_⟩
    rintro _ I4 ⟨rfl, e9⟩; replace e9 := e9.symm; subst e9
    refine ⟨_, rfl, ?_⟩
    refine ⟨by omega, ?_⟩
    refine ⟨fun hq1 => ?_, fun hq1 => ?_⟩
    · exact ⟨rfl, by rw [hs, wrd_0 (by omega)]; exact hTK, hF⟩
    · refine ⟨_, cz_206 (i := q) hV hM hTK h4 (by omega), ?_⟩
      rintro _ I9 ⟨rfl, e9⟩; replace e9 := e9.symm; subst e9
      refine ⟨_, rfl, ?_⟩
      refine ⟨by omega, ?_⟩
      refine ⟨fun hq2 => ?_, fun hq2 => ?_⟩
      · exact ⟨rfl, by rw [hs, wrd_0 (by omega)]; exact hTK, hF⟩
      · have hql : q < T.length := by
          rcases Nat.lt_or_ge q T.length with e | e
          · exact e
          · rw [tat_ge e] at hq1; exact absurd (by decide : (-1 : Int) < 97) hq1
        simp only [-eq_self, h4]
        have h9 : (jx_u K a0 4 (Int32.ofInt ((q : Int) + 1)) a0 4).toInt = ((q + 1 : Nat) : Int) := by rw [jx_u_s]; exact jy_toInt (by omega)
        have hw1 : (wrd T q).length = (wrd T (q + 1)).length + 1 := by rw [wrd_1 (by omega), List.length_cons]
        intro I12 e_I12; subst e_I12
        exact ih0 _ (by omega) _ rfl (⟨q + 1, h9, by omega, by omega, RTX_4 hTK (by omega), FO_f hF (by decide)⟩)
  exact L0 _ _ rfl (⟨p, hT.1.2.1, hp, rfl, hT, FO_refl⟩)
/-- GrievingCamelsModel.sign -/
theorem cz_217 {V : jx_V} (hV : V.1.stackTraces = false) {X : jx_X} {R : jx_R} {I : jx_I} {a0 : Nat} {a1 : Int} {T : List Int} {p : Nat} {fk fa : Int}
    (hM : MX X R a0) (hT : RTX I a0 T (p : Int) fk fa) (hp : p ≤ T.length) (hk : fk = 0) (r_a1 : 0 ≤ a1 ∧ a1 < 2147483648)
    {QE : String → jx_I → Prop} : jc V 3 217 (0, 0) [.ref a0, jy a1] X I R (fun rv I' => rv = none ∧ ((tat T (skB T p) = a1 ∧ RTX I' a0 T (skB T p + 1 : Nat) 0 fa) ∨ (tat T (skB T p) ≠ a1 ∧ RTX I' a0 T (skB T p : Nat) 1 (skB T p : Nat))) ∧ FO a0 [4, 5, 6] I I') QE := by
  have h6 := hT.2.1
  have h5 := hT.1.2.2.1
  have hsk := skB_le hp
  have hrg := RTX_r hT (skB T p)
  subst hk
  refine wm_217 hV (by omega)  ?_
  unfold wz_217
  refine ⟨s_M_0 hM, ?_⟩
  refine ⟨fun hq1 => ?_, fun hq1 => ?_⟩
  · refine ⟨_, cz_207 hV hM hT hp, ?_⟩
    rintro _ I4 ⟨rfl, hT4, hF4⟩
    refine ⟨rfl, ?_⟩
    have h44 := hT4.1.2.1
    simp only [-eq_self, h44]
    refine ⟨_, cz_206 (i := skB T p) hV hM hT4 rfl (by omega), ?_⟩
    rintro _ I8 ⟨rfl, e9⟩; replace e9 := e9.symm; subst e9
    refine ⟨_, rfl, ?_⟩
    refine ⟨by omega, ?_⟩
    refine ⟨fun hq2 => ?_, fun hq2 => ?_⟩
    · refine ⟨_, cz_208 hV hM hT4 (by omega) (by omega), ?_⟩
      rintro _ I13 ⟨rfl, hT13, hF13⟩
      refine ⟨rfl, ?_⟩
      rw [if_pos rfl, if_pos rfl, h44] at hT13
      exact ⟨rfl, Or.inr ⟨hq2, hT13⟩, FO_trans (FO_mono hF4 (by decide)) (FO_mono hF13 (by decide))⟩
    · intro I15 e_I15; subst e_I15
      rw [h44]
      exact ⟨rfl, Or.inl ⟨by omega, RTX_4 hT4 (by omega)⟩, FO_f (FO_mono hF4 (by decide)) (by decide)⟩
  · exact absurd (by omega : (I a0 5).toInt = 0) hq1
/-- GrievingCamelsModel.sign -/
theorem cz_217f {V : jx_V} (hV : V.1.stackTraces = false) {X : jx_X} {R : jx_R} {I : jx_I} {a0 : Nat} {a1 : Int} 
    (hM : MX X R a0) (hk : (I a0 5).toInt ≠ 0) (r_a1 : -2147483648 ≤ a1 ∧ a1 < 2147483648)
    {QE : String → jx_I → Prop} : jc V 3 217 (0, 0) [.ref a0, jy a1] X I R (fun rv I' => rv = none ∧ I' = I) QE := by
  refine wm_217 hV (by omega)  ?_
  unfold wz_217
  refine ⟨s_M_0 hM, ?_⟩
  refine ⟨fun hq1 => ?_, fun hq1 => ?_⟩
  · exact absurd hq1 hk
  · exact ⟨rfl, rfl⟩
/-- GrievingCamelsModel.takesSign -/
theorem cz_218 {V : jx_V} (hV : V.1.stackTraces = false) {X : jx_X} {R : jx_R} {I : jx_I} {a0 : Nat} {a1 : Int} {T : List Int} {p : Nat} {fk fa : Int}
    (hM : MX X R a0) (hT : RTX I a0 T (p : Int) fk fa) (hp : p ≤ T.length) (hk : fk = 0) (r_a1 : 0 ≤ a1 ∧ a1 < 2147483648)
    {QE : String → jx_I → Prop} : jc V 3 218 (0, 0) [.ref a0, jy a1] X I R (fun rv I' => ((rv = some (jy 1) ∧ tat T (skB T p) = a1 ∧ RTX I' a0 T (skB T p + 1 : Nat) 0 fa) ∨ (rv = some (jy 0) ∧ tat T (skB T p) ≠ a1 ∧ RTX I' a0 T (skB T p : Nat) 0 fa)) ∧ FO a0 [4] I I') QE := by
  have h6 := hT.2.1
  have h5 := hT.1.2.2.1
  have hsk := skB_le hp
  have hrg := RTX_r hT (skB T p)
  subst hk
  refine wm_218 hV (by omega)  (fun J30 hJJ => ?_)
  have hJ30 := hJJ
  unfold wz_218
  refine ⟨s_M_0 hM, ?_⟩
  refine ⟨fun hq1 => ?_, fun hq1 => ?_⟩
  · refine ⟨_, cz_207 hV hM hT hp, ?_⟩
    rintro _ I4 ⟨rfl, hT4, hF4⟩
    refine ⟨rfl, ?_⟩
    have h44 := hT4.1.2.1
    try simp only [-eq_self, h44]
    refine ⟨_, cz_206 (i := skB T p) hV hM hT4 rfl (by omega), ?_⟩
    rintro _ I8 ⟨rfl, e9⟩; replace e9 := e9.symm; subst e9
    refine ⟨_, rfl, ?_⟩
    refine ⟨by omega, ?_⟩
    refine ⟨fun hq2 => ?_, fun hq2 => ?_⟩
    · refine hJ30 _ _ ?_
      unfold wz_218_30
      refine ⟨by omega, ?_⟩
      refine ⟨fun hq3 => ?_, fun hq3 => ?_⟩
      · refine ⟨by omega, ?_⟩
        exact ⟨Or.inr ⟨rfl, hq2, hT4⟩, FO_mono hF4 (by decide)⟩
      · refine ⟨s_M_0 hM, ?_⟩
        intro I14 e_I14; subst e_I14
        refine ⟨by omega, ?_⟩
        exact absurd rfl hq3
    · refine hJ30 _ _ ?_
      unfold wz_218_30
      refine ⟨by omega, ?_⟩
      refine ⟨fun hq4 => ?_, fun hq4 => ?_⟩
      · refine ⟨by omega, ?_⟩
        exact absurd hq4 (by decide)
      · refine ⟨s_M_0 hM, ?_⟩
        intro I14 e_I14; subst e_I14
        refine ⟨by omega, ?_⟩
        rw [h44]
        exact ⟨Or.inl ⟨rfl, by omega, RTX_4 hT4 (by omega)⟩, FO_f hF4 (by decide)⟩
  · exact absurd (by omega : (I a0 5).toInt = 0) hq1
