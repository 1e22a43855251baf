/-! ===== the reference: hurt, soothed, hours, stops ===== -/
/-- GrievingCamelsModel.badRoute -/
theorem cz_259 {V : jx_V} (hV : V.1.stackTraces = false) {X : jx_X} {R : jx_R} {I : jx_I} {a0 : Nat} {J : List Nat}
    (hM : MX X R a0) (h00 : (I a0 0).toInt = 0) (hJ : (I a0 37).toInt = J.length)
    {QE : String → jx_I → Prop} : jc V 2 259 (0, 0) [.ref a0] X I R (fun rv I' => rv = some (jy (if J = [] then 1 else 0)) ∧ I' = if J = [] then RM I a0 3 1 else I) QE := by
  refine wm_259 hV   (fun J13 hJJ => ?_)
  have hJ13 := hJJ
  unfold wz_259
  refine ⟨s_M_0 hM, ?_⟩
  refine ⟨fun hq1 => ?_, fun hq1 => ?_⟩
  · refine hJ13 _ _ _ ?_
    unfold wz_259_13
    refine ⟨s_M_0 hM, ?_⟩
    refine ⟨_, cz_202o hV hM h00 (by omega) (by omega), ?_⟩
    rintro _ I5 ⟨rfl, e9⟩; replace e9 := e9.symm; subst e9
    refine ⟨_, rfl, ?_⟩
    refine ⟨by omega, ?_⟩
    have hn := (show J ≠ [] from fun e => by rw [e] at hJ; exact hq1 hJ)
    exact ⟨by rw [if_neg hn], by rw [if_neg hn]⟩
  · refine hJ13 _ _ _ ?_
    unfold wz_259_13
    refine ⟨s_M_0 hM, ?_⟩
    refine ⟨_, cz_202b hV hM h00 (by omega) (by omega), ?_⟩
    rintro _ I5 ⟨rfl, e9⟩; replace e9 := e9.symm; subst e9
    refine ⟨_, rfl, ?_⟩
    refine ⟨by omega, ?_⟩
    have hn : J = [] := List.eq_nil_of_length_eq_zero (by omega)
    exact ⟨by rw [if_pos hn], by rw [if_pos hn]; rfl⟩
/-- GrievingCamelsModel.badBoth -/
theorem cz_260o {V : jx_V} (hV : V.1.stackTraces = false) {X : jx_X} {R : jx_R} {I : jx_I} {a0 : Nat} {a1 : Int} {J : List Nat}
    (hM : MX X R a0) (h00 : (I a0 0).toInt = 0) (hJ : (I a0 37).toInt = J.length) (h1 : a1 = 0)
    {QE : String → jx_I → Prop} : jc V 2 260 (0, 0) [.ref a0, jy a1] X I R (fun rv I' => rv = some (jy (if J = [] then 1 else 0)) ∧ I' = if J = [] then RM I a0 3 2 else I) QE := by
  refine wm_260 hV (by omega)  (fun J23 hJJ => ?_)
  have hJ23 := hJJ
  unfold wz_260
  refine ⟨s_M_0 hM, ?_⟩
  refine ⟨_, cz_202o hV hM h00 (by omega) (by omega), ?_⟩
  rintro _ I4 ⟨rfl, e9⟩; replace e9 := e9.symm; subst e9
  refine ⟨_, rfl, ?_⟩
  refine ⟨by omega, ?_⟩
  refine ⟨fun hq1 => ?_, fun hq1 => ?_⟩
  · exact absurd hq1 (by decide)
  · refine ⟨fun hq2 => ?_, fun hq2 => ?_⟩
    · refine hJ23 _ _ _ ?_
      unfold wz_260_23
      refine ⟨s_M_0 hM, ?_⟩
      refine ⟨_, cz_202o hV hM h00 (by omega) (by omega), ?_⟩
      rintro _ I10 ⟨rfl, e9⟩; replace e9 := e9.symm; subst e9
      refine ⟨_, rfl, ?_⟩
      refine ⟨by omega, ?_⟩
      refine ⟨fun hq3 => ?_, fun hq3 => ?_⟩
      · have hn := (show J ≠ [] from fun e => by rw [e] at hJ; exact hq2 hJ)
        exact ⟨by rw [if_neg hn], by rw [if_neg hn]⟩
      · exact absurd hq3 (by decide)
    · refine hJ23 _ _ _ ?_
      unfold wz_260_23
      refine ⟨s_M_0 hM, ?_⟩
      refine ⟨_, cz_202b hV hM h00 (by omega) (by omega), ?_⟩
      rintro _ I10 ⟨rfl, e9⟩; replace e9 := e9.symm; subst e9
      refine ⟨_, rfl, ?_⟩
      refine ⟨by omega, ?_⟩
      refine ⟨fun hq4 => ?_, fun hq4 => ?_⟩
      · exact absurd hq4 (by decide)
      · have hn : J = [] := List.eq_nil_of_length_eq_zero (by omega)
        exact ⟨by rw [if_pos hn], by rw [if_pos hn]; rfl⟩
/-- GrievingCamelsModel.badBoth -/
theorem cz_260b {V : jx_V} (hV : V.1.stackTraces = false) {X : jx_X} {R : jx_R} {I : jx_I} {a0 : Nat} {a1 : Int} 
    (hM : MX X R a0) (h00 : (I a0 0).toInt = 0) (h1 : a1 = 1)
    {QE : String → jx_I → Prop} : jc V 2 260 (0, 0) [.ref a0, jy a1] X I R (fun rv I' => rv = some (jy 1) ∧ I' = RM I a0 2 1) QE := by
  refine wm_260 hV (by omega)  (fun J23 hJJ => ?_)
  have hJ23 := hJJ
  unfold wz_260
  refine ⟨s_M_0 hM, ?_⟩
  refine ⟨_, cz_202b hV hM h00 (by omega) (by omega), ?_⟩
  rintro _ I4 ⟨rfl, e9⟩; replace e9 := e9.symm; subst e9
  refine ⟨_, rfl, ?_⟩
  refine ⟨by omega, ?_⟩
  refine ⟨fun hq1 => ?_, fun hq1 => ?_⟩
  · exact ⟨rfl, rfl⟩
  · exact absurd hq1 (by decide)
/-- GrievingCamelsModel.soothe -/
theorem cz_239 {V : jx_V} (hV : V.1.stackTraces = false) {X : jx_X} {R : jx_R} {I : jx_I} {a0 : Nat} {a1 : Int} {a2 : Int} {l : LT} {c : CT} 
    (hM : MX X R a0) (hX : MSX I a0 l c) (hW : WT l) (hC : WC l c) (r_a1 : -2147483648 ≤ a1 ∧ a1 < 2147483648) (r_a2 : -2147483648 ≤ a2 ∧ a2 < 2147483648)
    {QE : String → jx_I → Prop} : jc V 3 239 (0, 0) [.ref a0, jy a1, jy a2] X I R (fun rv I' => (nzw (0 ≤ a1 ∧ a1 < (Ln l : Nat)) 0 1 (nzw (0 ≤ a2 ∧ a2 < (Lm l : Nat)) 1 2 (none)) = none ∧ rv = some (jy (Cg c a1.toNat a2.toNat)) ∧ (I' a0 0).toInt = 0 ∧ MSX I' a0 l ((gu (Cg c) a1.toNat a2.toNat 0, Cd c), c.2) ∧ FQ a0 I I') ∨ (∃ k w, nzw (0 ≤ a1 ∧ a1 < (Ln l : Nat)) 0 1 (nzw (0 ≤ a2 ∧ a2 < (Lm l : Nat)) 1 2 (none)) = some (k, w) ∧ I' = RM (jx_u I a0 0 (Int32.ofInt 0)) a0 k w ∧ ∃ x : Int, rv = some (jy x))) QE := by
  have hW0 := hW.1
  have hW0 := hW.1
  refine wm_239 hV (by omega) (by omega)  (fun J19 J41 hJJ => ?_)
  obtain ⟨hJ19, hJ41⟩ := hJJ
  unfold wz_239
  refine ⟨s_M_0 hM, ?_⟩
  intro I2 e_I2; subst e_I2
  have hX0 := MSX_0 (v := Int32.ofInt 0) hX hW
  have h00 : (jx_u I a0 0 (Int32.ofInt 0) a0 0).toInt = 0 := by rw [jx_u_s]; rfl
  refine ⟨_, cz_232 hV hM hX0.1 hW (by omega), ?_⟩
  rintro _ I5 ⟨rfl, e9⟩; replace e9 := e9.symm; subst e9
  refine ⟨_, rfl, ?_⟩
  refine ⟨by omega, ?_⟩
  refine ⟨fun hq1 => ?_, fun hq1 => ?_⟩
  · have c1 := bi_t hq1
    refine hJ19 _ _ _ ?_
    unfold wz_239_19
    refine ⟨s_M_0 hM, ?_⟩
    refine ⟨_, cz_202o hV hM h00 (by omega) (by omega), ?_⟩
    rintro _ I11 ⟨rfl, e9⟩; replace e9 := e9.symm; subst e9
    refine ⟨_, rfl, ?_⟩
    refine ⟨by omega, ?_⟩
    refine ⟨fun hq2 => ?_, fun hq2 => ?_⟩
    · exact absurd hq2 (by decide)
    · refine ⟨s_M_0 hM, ?_⟩
      refine ⟨_, cz_233 hV hM hX0.1 hW (by omega), ?_⟩
      rintro _ I17 ⟨rfl, e9⟩; replace e9 := e9.symm; subst e9
      refine ⟨_, rfl, ?_⟩
      refine ⟨by omega, ?_⟩
      refine ⟨fun hq3 => ?_, fun hq3 => ?_⟩
      · have c2 := bi_t hq3
        refine hJ41 _ _ _ ?_
        unfold wz_239_41
        refine ⟨s_M_0 hM, ?_⟩
        refine ⟨_, cz_202o hV hM h00 (by omega) (by omega), ?_⟩
        rintro _ I23 ⟨rfl, e9⟩; replace e9 := e9.symm; subst e9
        refine ⟨_, rfl, ?_⟩
        refine ⟨by omega, ?_⟩
        refine ⟨fun hq4 => ?_, fun hq4 => ?_⟩
        · refine ⟨s_M_0 hM, _, r_M_29 hM, _, ⟨s_M_1287 hM, by decide⟩, by omega, _, rr_M_1287 hM (by omega), _, ⟨sr_M_1287 hM (by omega), by decide⟩, by omega, by omega, _, rr_M_1287 hM (by omega), _, ⟨sr_M_1287 hM (by omega), by decide⟩, by omega, ?_⟩
          intro I43 e_I43; subst e_I43
          exact Or.inl ⟨by rw [nzw_t c1, nzw_t c2], by rw [hX0.2.1.2.1 a1.toNat a2.toNat (by omega) (by omega)], by rw [jx_u_a _ _ _ _ (by omega)]; exact h00, MSX_hd hX0 hW (fun q h => jx_u_r _ _ _ (by omega)) (MH_u hX0.2.1.2.1 (by omega)) (MH_of hX0.2.1.2.2 (fun c hc => jx_u_r _ _ _ (by omega))), FQ_u (FQ_k FK_0) (by omega)⟩
        · exact absurd hq4 (by decide)
      · have c2 := bi_f hq3
        refine hJ41 _ _ _ ?_
        unfold wz_239_41
        refine ⟨s_M_0 hM, ?_⟩
        refine ⟨_, cz_202b hV hM h00 (by omega) (by omega), ?_⟩
        rintro _ I23 ⟨rfl, e9⟩; replace e9 := e9.symm; subst e9
        refine ⟨_, rfl, ?_⟩
        refine ⟨by omega, ?_⟩
        refine ⟨fun hq5 => ?_, fun hq5 => ?_⟩
        · exact absurd hq5 (by decide)
        · exact Or.inr ⟨_, _, by rw [nzw_t c1]; exact nzw_f c2, rfl, _, rfl⟩
  · have c1 := bi_f hq1
    refine hJ19 _ _ _ ?_
    unfold wz_239_19
    refine ⟨s_M_0 hM, ?_⟩
    refine ⟨_, cz_202b hV hM h00 (by omega) (by omega), ?_⟩
    rintro _ I11 ⟨rfl, e9⟩; replace e9 := e9.symm; subst e9
    refine ⟨_, rfl, ?_⟩
    refine ⟨by omega, ?_⟩
    refine ⟨fun hq6 => ?_, fun hq6 => ?_⟩
    · exact Or.inr ⟨_, _, by exact nzw_f c1, rfl, _, rfl⟩
    · exact absurd hq6 (by decide)
/-- GrievingCamelsModel.hurt -/
theorem cz_238 {V : jx_V} (hV : V.1.stackTraces = false) {X : jx_X} {R : jx_R} {I : jx_I} {a0 : Nat} {a1 : Int} {a2 : Int} {a3 : Int} {l : LT} {c : CT} 
    (hM : MX X R a0) (hX : MSX I a0 l c) (hW : WT l) (hC : WC l c) (r_a1 : -2147483648 ≤ a1 ∧ a1 < 2147483648) (r_a2 : -2147483648 ≤ a2 ∧ a2 < 2147483648) (r_a3 : -2147483648 ≤ a3 ∧ a3 < 2147483648)
    {QE : String → jx_I → Prop} : jc V 3 238 (0, 0) [.ref a0, jy a1, jy a2, jy a3] X I R (fun rv I' => (nzw (0 ≤ a1 ∧ a1 < (Ln l : Nat)) 0 1 (nzw (0 ≤ a2 ∧ a2 < (Lm l : Nat)) 1 2 (nzw (1 ≤ a3 ∧ a3 ≤ 20) 2 3 (none))) = none ∧ rv = some (jy (min 20 (Cg c a1.toNat a2.toNat + a3))) ∧ (I' a0 0).toInt = 0 ∧ MSX I' a0 l ((gu (Cg c) a1.toNat a2.toNat (min 20 (Cg c a1.toNat a2.toNat + a3)), gu (Cd c) a1.toNat a2.toNat (min 20 (Cd c a1.toNat a2.toNat + a3))), c.2) ∧ FQ a0 I I') ∨ (∃ k w, nzw (0 ≤ a1 ∧ a1 < (Ln l : Nat)) 0 1 (nzw (0 ≤ a2 ∧ a2 < (Lm l : Nat)) 1 2 (nzw (1 ≤ a3 ∧ a3 ≤ 20) 2 3 (none))) = some (k, w) ∧ I' = RM (jx_u I a0 0 (Int32.ofInt 0)) a0 k w ∧ ∃ x : Int, rv = some (jy x))) QE := by
  have hW0 := hW.1
  have hW0 := hW.1
  refine wm_238 hV (by omega) (by omega) (by omega)  (fun J19 J41 J65 hJJ => ?_)
  obtain ⟨hJ19, hJ41, hJ65⟩ := hJJ
  unfold wz_238
  refine ⟨s_M_0 hM, ?_⟩
  intro I2 e_I2; subst e_I2
  have hX0 := MSX_0 (v := Int32.ofInt 0) hX hW
  have h00 : (jx_u I a0 0 (Int32.ofInt 0) a0 0).toInt = 0 := by rw [jx_u_s]; rfl
  refine ⟨_, cz_232 hV hM hX0.1 hW (by omega), ?_⟩
  rintro _ I5 ⟨rfl, e9⟩; replace e9 := e9.symm; subst e9
  refine ⟨_, rfl, ?_⟩
  refine ⟨by omega, ?_⟩
  refine ⟨fun hq1 => ?_, fun hq1 => ?_⟩
  · have c1 := bi_t hq1
    refine hJ19 _ _ _ ?_
    unfold wz_238_19
    refine ⟨s_M_0 hM, ?_⟩
    refine ⟨_, cz_202o hV hM h00 (by omega) (by omega), ?_⟩
    rintro _ I11 ⟨rfl, e9⟩; replace e9 := e9.symm; subst e9
    refine ⟨_, rfl, ?_⟩
    refine ⟨by omega, ?_⟩
    refine ⟨fun hq2 => ?_, fun hq2 => ?_⟩
    · exact absurd hq2 (by decide)
    · refine ⟨s_M_0 hM, ?_⟩
      refine ⟨_, cz_233 hV hM hX0.1 hW (by omega), ?_⟩
      rintro _ I17 ⟨rfl, e9⟩; replace e9 := e9.symm; subst e9
      refine ⟨_, rfl, ?_⟩
      refine ⟨by omega, ?_⟩
      refine ⟨fun hq3 => ?_, fun hq3 => ?_⟩
      · have c2 := bi_t hq3
        refine hJ41 _ _ _ ?_
        unfold wz_238_41
        refine ⟨s_M_0 hM, ?_⟩
        refine ⟨_, cz_202o hV hM h00 (by omega) (by omega), ?_⟩
        rintro _ I23 ⟨rfl, e9⟩; replace e9 := e9.symm; subst e9
        refine ⟨_, rfl, ?_⟩
        refine ⟨by omega, ?_⟩
        refine ⟨fun hq4 => ?_, fun hq4 => ?_⟩
        · exact absurd hq4 (by decide)
        · refine ⟨_, cz_203 hV (by omega) (by omega) (by omega), ?_⟩
          rintro _ I28 ⟨rfl, e9⟩; replace e9 := e9.symm; subst e9
          refine ⟨_, rfl, ?_⟩
          refine ⟨by omega, ?_⟩
          refine ⟨fun hq5 => ?_, fun hq5 => ?_⟩
          · have c3 := bi_t hq5
            refine hJ65 _ _ _ ?_
            unfold wz_238_65
            refine ⟨s_M_0 hM, ?_⟩
            refine ⟨_, cz_202o hV hM h00 (by omega) (by omega), ?_⟩
            rintro _ I34 ⟨rfl, e9⟩; replace e9 := e9.symm; subst e9
            refine ⟨_, rfl, ?_⟩
            refine ⟨by omega, ?_⟩
            refine ⟨fun hq6 => ?_, fun hq6 => ?_⟩
            · refine ⟨s_M_0 hM, _, r_M_29 hM, _, ⟨s_M_1287 hM, by decide⟩, by omega, _, rr_M_1287 hM (by omega), by omega, _, rr_M_1287 hM (by omega), _, ⟨sr_M_1287 hM (by omega), by decide⟩, ?_⟩
              have hG9 := GDn_w hW hC a1.toNat a2.toNat (by omega) (by omega)
              have hgv := hX0.2.1.2.1 a1.toNat a2.toNat (by omega) (by omega)
              have hdv := hX0.2.1.2.2 a1.toNat a2.toNat (by omega) (by omega)
              try simp only [-eq_self, hgv]
              refine ⟨by omega, ?_⟩
              refine ⟨_, cz_204 hV (by omega) (by omega), ?_⟩
              rintro _ I53 ⟨rfl, e9⟩; replace e9 := e9.symm; subst e9
              refine ⟨_, rfl, ?_⟩
              refine ⟨_, ⟨sr_M_1287 hM (by omega), by decide⟩, by omega, ?_⟩
              intro I58 e_I58; subst e_I58
              refine ⟨_, r_M_30 hM, _, ⟨s_M_1296 hM, by decide⟩, by omega, _, rr_M_1296 hM (by omega), by omega, _, rr_M_1296 hM (by omega), _, ⟨sr_M_1296 hM (by omega), by decide⟩, ?_⟩
              have e9 : (jx_u (jx_u I a0 0 (Int32.ofInt 0)) (a0 + 1288 + a2.toNat) a1.toNat (Int32.ofInt (min 20 (Cg c a1.toNat a2.toNat + a3))) (a0 + 1297 + a2.toNat) a1.toNat).toInt = Cd c a1.toNat a2.toNat := by rw [jx_u_a _ _ _ _ (by omega)]; exact hdv
              try simp only [-eq_self, e9]
              refine ⟨by omega, ?_⟩
              refine ⟨_, cz_204 hV (by omega) (by omega), ?_⟩
              rintro _ I74 ⟨rfl, e9⟩; replace e9 := e9.symm; subst e9
              refine ⟨_, rfl, ?_⟩
              refine ⟨_, ⟨sr_M_1296 hM (by omega), by decide⟩, by omega, ?_⟩
              intro I79 e_I79; subst e_I79
              refine ⟨by omega, _, rr_M_1287 hM (by omega), _, ⟨sr_M_1287 hM (by omega), by decide⟩, by omega, ?_⟩
              exact Or.inl ⟨by rw [nzw_t c1, nzw_t c2, nzw_t c3], by rw [jx_u_a _ _ _ _ (by omega), jx_u_s, jy_toInt (by omega)], by rw [jx_u_a _ _ _ _ (by omega), jx_u_a _ _ _ _ (by omega)]; exact h00, MSX_hd hX0 hW (fun q h => by rw [jx_u_r _ _ _ (by omega), jx_u_r _ _ _ (by omega)]) (MH_of (MH_u hX0.2.1.2.1 (by omega)) (fun c hc => jx_u_r _ _ _ (by omega))) (MH_u (MH_of hX0.2.1.2.2 (fun c hc => jx_u_r _ _ _ (by omega))) (by omega)), FQ_u (FQ_u (FQ_k FK_0) (by omega)) (by omega)⟩
            · exact absurd hq6 (by decide)
          · have c3 := bi_f hq5
            refine hJ65 _ _ _ ?_
            unfold wz_238_65
            refine ⟨s_M_0 hM, ?_⟩
            refine ⟨_, cz_202b hV hM h00 (by omega) (by omega), ?_⟩
            rintro _ I34 ⟨rfl, e9⟩; replace e9 := e9.symm; subst e9
            refine ⟨_, rfl, ?_⟩
            refine ⟨by omega, ?_⟩
            refine ⟨fun hq7 => ?_, fun hq7 => ?_⟩
            · exact absurd hq7 (by decide)
            · exact Or.inr ⟨_, _, by rw [nzw_t c1]; rw [nzw_t c2]; exact nzw_f c3, rfl, _, rfl⟩
      · have c2 := bi_f hq3
        refine hJ41 _ _ _ ?_
        unfold wz_238_41
        refine ⟨s_M_0 hM, ?_⟩
        refine ⟨_, cz_202b hV hM h00 (by omega) (by omega), ?_⟩
        rintro _ I23 ⟨rfl, e9⟩; replace e9 := e9.symm; subst e9
        refine ⟨_, rfl, ?_⟩
        refine ⟨by omega, ?_⟩
        refine ⟨fun hq8 => ?_, fun hq8 => ?_⟩
        · exact Or.inr ⟨_, _, by rw [nzw_t c1]; exact nzw_f c2, rfl, _, rfl⟩
        · exact absurd hq8 (by decide)
  · have c1 := bi_f hq1
    refine hJ19 _ _ _ ?_
    unfold wz_238_19
    refine ⟨s_M_0 hM, ?_⟩
    refine ⟨_, cz_202b hV hM h00 (by omega) (by omega), ?_⟩
    rintro _ I11 ⟨rfl, e9⟩; replace e9 := e9.symm; subst e9
    refine ⟨_, rfl, ?_⟩
    refine ⟨by omega, ?_⟩
    refine ⟨fun hq9 => ?_, fun hq9 => ?_⟩
    · exact Or.inr ⟨_, _, by exact nzw_f c1, rfl, _, rfl⟩
    · exact absurd hq9 (by decide)
/-- GrievingCamelsModel.hours -/
theorem cz_261 {V : jx_V} (hV : V.1.stackTraces = false) {X : jx_X} {R : jx_R} {I : jx_I} {a0 : Nat} {a1 : Int} {l : LT} {c : CT} 
    (hM : MX X R a0) (hX : MSX I a0 l c) (hW : WT l) (hC : WC l c) (r_a1 : -2147483648 ≤ a1 ∧ a1 < 2147483648)
    {QE : String → jx_I → Prop} : jc V 6 261 (0, 0) [.ref a0, jy a1] X I R (fun rv I' => (nzw (0 ≤ a1 ∧ a1 ≤ 2) 2 1 (nzw (CJ c ≠ []) 3 2 (none)) = none ∧ rv = some (jy (if a1 = 0 then hrs l (CJ c) (CL c) (Cg c) (Cd c) else if a1 = 1 then rs (Lr l) (CJ c) ((CJ c).length - 1) else jhs l (CJ c) (CL c) (Cg c) (Cd c) ((CJ c).length - 1))) ∧ (I' a0 0).toInt = 0 ∧ FK a0 SCR I I') ∨ (∃ k w, nzw (0 ≤ a1 ∧ a1 ≤ 2) 2 1 (nzw (CJ c ≠ []) 3 2 (none)) = some (k, w) ∧ I' = RM (jx_u I a0 0 (Int32.ofInt 0)) a0 k w ∧ ∃ x : Int, rv = some (jy x))) QE := by
  have hW0 := hW.1
  have hW0 := hW.1
  refine wm_261 hV (by omega)  (fun J20 hJJ => ?_)
  have hJ20 := hJJ
  unfold wz_261
  refine ⟨s_M_0 hM, ?_⟩
  intro I2 e_I2; subst e_I2
  have hX0 := MSX_0 (v := Int32.ofInt 0) hX hW
  have h00 : (jx_u I a0 0 (Int32.ofInt 0) a0 0).toInt = 0 := by rw [jx_u_s]; rfl
  refine ⟨_, cz_203 hV (by omega) (by omega) (by omega), ?_⟩
  rintro _ I5 ⟨rfl, e9⟩; replace e9 := e9.symm; subst e9
  refine ⟨_, rfl, ?_⟩
  refine ⟨by omega, ?_⟩
  refine ⟨fun hq1 => ?_, fun hq1 => ?_⟩
  · have c1 := bi_t hq1
    refine hJ20 _ _ _ ?_
    unfold wz_261_20
    refine ⟨s_M_0 hM, ?_⟩
    refine ⟨_, cz_260o hV hM h00 hX0.2.2.1.1 rfl, ?_⟩
    rintro _ I11 ⟨rfl, hI⟩
    refine ⟨_, rfl, ?_⟩
    refine ⟨by omega, ?_⟩
    refine ⟨fun hq2 => ?_, fun hq2 => ?_⟩
    · have cJ := bi_f hq2
      rw [if_neg cJ] at hI
      subst hI
      have hJ1 := WC_J hC cJ
      refine ⟨s_M_0 hM, ?_⟩
      refine ⟨_, cz_243 hV hM hX0.1 hW hX0.2.1 (GDn_w hW hC) hC.2.1.2 (WC_8 hW hC), ?_⟩
      rintro _ I17 ⟨rfl, hN1, hF1⟩
      refine ⟨rfl, ?_⟩
      refine ⟨_, cz_258 hV hM (FK_MD hX0.1 hF1 (by decide) hW) hW hN1 (GDn_w hW hC) hC.2.1.2 (WC_8 hW hC) hC.2.1.1 (FK_ML hX0.2.2.1 hF1 (by decide) (by omega) (by omega) (by omega)) hJ1.2.1 hJ1.1.2, ?_⟩
      rintro _ I21 ⟨rfl, h48, h49, hN9, hF9⟩
      refine ⟨_, rfl, ?_⟩
      refine ⟨fun hq3 => ?_, fun hq3 => ?_⟩
      · refine ⟨fun hq4 => ?_, fun hq4 => ?_⟩
        · exact Or.inl ⟨by rw [nzw_t c1, nzw_t cJ], by rw [h49, if_neg (by omega), if_neg (by omega)], by rw [hF9.2 0 (by decide), hF1.2 0 (by decide)]; exact h00, FK_trans FK_0 (FK_trans (FK_mono hF1 (by decide)) (FK_mono hF9 (by decide)))⟩
        · exact Or.inl ⟨by rw [nzw_t c1, nzw_t cJ], by rw [h48, if_neg (by omega), if_pos (by omega)], by rw [hF9.2 0 (by decide), hF1.2 0 (by decide)]; exact h00, FK_trans FK_0 (FK_trans (FK_mono hF1 (by decide)) (FK_mono hF9 (by decide)))⟩
      · exact Or.inl ⟨by rw [nzw_t c1, nzw_t cJ], by rw [if_pos (by omega)]; rfl, by rw [hF9.2 0 (by decide), hF1.2 0 (by decide)]; exact h00, FK_trans FK_0 (FK_trans (FK_mono hF1 (by decide)) (FK_mono hF9 (by decide)))⟩
    · have cJ := bi_t hq2
      rw [if_pos cJ] at hI
      subst hI
      exact Or.inr ⟨_, _, by rw [nzw_t c1]; exact nzw_f (fun k => k cJ), rfl, _, rfl⟩
  · have c1 := bi_f hq1
    refine hJ20 _ _ _ ?_
    unfold wz_261_20
    refine ⟨s_M_0 hM, ?_⟩
    refine ⟨_, cz_260b hV hM h00 rfl, ?_⟩
    rintro _ I11 ⟨rfl, e9⟩; replace e9 := e9.symm; subst e9
    refine ⟨_, rfl, ?_⟩
    refine ⟨by omega, ?_⟩
    refine ⟨fun hq5 => ?_, fun hq5 => ?_⟩
    · exact absurd hq5 (by decide)
    · exact Or.inr ⟨_, _, nzw_f c1, rfl, _, rfl⟩
/-- GrievingCamelsModel.stop -/
theorem cz_263 {V : jx_V} (hV : V.1.stackTraces = false) {X : jx_X} {R : jx_R} {I : jx_I} {a0 : Nat} {a1 : Int} {l : LT} {c : CT} 
    (hM : MX X R a0) (hX : MSX I a0 l c) (hW : WT l) (hC : WC l c) (r_a1 : -2147483648 ≤ a1 ∧ a1 < 2147483648)
    {QE : String → jx_I → Prop} : jc V 6 263 (0, 0) [.ref a0, jy a1] X I R (fun rv I' => (nzw (CJ c ≠ []) 3 1 (none) = none ∧ rv = some (jy (if 0 ≤ a1 ∧ a1 < (CJ c).length then (if a1 = 0 then 0 else jht l (CJ c) (CL c) (Cg c) (Cd c) (a1.toNat - 1)) else -1)) ∧ (I' a0 0).toInt = 0 ∧ FK a0 SCR I I') ∨ (∃ k w, nzw (CJ c ≠ []) 3 1 (none) = some (k, w) ∧ I' = RM (jx_u I a0 0 (Int32.ofInt 0)) a0 k w ∧ ∃ x : Int, rv = some (jy x))) QE := by
  have hW0 := hW.1
  have hW0 := hW.1
  refine wm_263 hV (by omega)  ?_
  unfold wz_263
  refine ⟨s_M_0 hM, ?_⟩
  intro I2 e_I2; subst e_I2
  have hX0 := MSX_0 (v := Int32.ofInt 0) hX hW
  have h00 : (jx_u I a0 0 (Int32.ofInt 0) a0 0).toInt = 0 := by rw [jx_u_s]; rfl
  refine ⟨_, cz_259 hV hM h00 hX0.2.2.1.1, ?_⟩
  rintro _ I5 ⟨rfl, hI⟩
  refine ⟨_, rfl, ?_⟩
  refine ⟨by omega, ?_⟩
  refine ⟨fun hq1 => ?_, fun hq1 => ?_⟩
  · have cJ := bi_f hq1
    rw [if_neg cJ] at hI
    subst hI
    have hJ1 := WC_J hC cJ
    have h37 := hX0.2.2.1.1
    refine ⟨_, cz_203 hV (by omega) (by omega) (by omega), ?_⟩
    rintro _ I10 ⟨rfl, e9⟩; replace e9 := e9.symm; subst e9
    refine ⟨_, rfl, ?_⟩
    refine ⟨by omega, ?_⟩
    refine ⟨fun hq2 => ?_, fun hq2 => ?_⟩
    · have c1 := bi_t hq2
      refine ⟨_, cz_262 (k := a1.toNat) hV hM hX0.1 hW hX0.2.1 (GDn_w hW hC) hC.2.1.2 (WC_8 hW hC) hC.2.1.1 hX0.2.2.1 hJ1.2.1 hJ1.1.2 (by omega) (by omega), ?_⟩
      rintro _ I15 ⟨rfl, hN1, hF1⟩
      refine ⟨rfl, ?_⟩
      refine ⟨fun hq3 => ?_, fun hq3 => ?_⟩
      · refine ⟨_, r_M_35 hM, _, ⟨s_M_1345 hM, by decide⟩, ?_⟩
        obtain ⟨e1, m1⟩ := ML_gd (FK_ML hX0.2.2.1 hF1 (by decide) (by omega) (by omega) (by omega)) (i := a1.toNat) (by omega)
        try simp only [-eq_self, e1]
        refine ⟨by omega, ?_⟩
        refine ⟨_, cz_246 (p := (CJ c).getD a1.toNat 0) hV hM (FK_MD hX0.1 hF1 (by decide) hW) hW hN1 (GDn_j (l := l) (GDn_w hW hC) hJ1.2.1 hC.2.1.2 (a1.toNat - 1) (by omega)) hC.2.1.2 (WC_8 hW hC) rfl (hJ1.2.1 _ m1), ?_⟩
        rintro _ I24 ⟨rfl, hF2⟩
        refine ⟨_, rfl, ?_⟩
        refine Or.inl ⟨by rw [nzw_t cJ], ?_, by rw [hF2 a0 (by omega), hF1.2 0 (by decide)]; exact h00, FK_trans FK_0 (FK_trans (FK_mono hF1 (by decide)) (FK_fr hF2 (by omega)))⟩
        rw [if_pos (by omega), if_neg (by omega)]
        unfold jht
        rw [show a1.toNat - 1 + 1 = a1.toNat by omega]
      · exact Or.inl ⟨by rw [nzw_t cJ], by rw [if_pos (by omega), if_pos (by omega)], by rw [hF1.2 0 (by decide)]; exact h00, FK_trans FK_0 (FK_mono hF1 (by decide))⟩
    · have c1 := bi_f hq2
      exact Or.inl ⟨by rw [nzw_t cJ], by rw [if_neg (by omega)], h00, FK_0⟩
  · have cJ := bi_t hq1
    rw [if_pos cJ] at hI
    subst hI
    exact Or.inr ⟨_, _, nzw_f (fun k => k cJ), rfl, _, rfl⟩
/-- GrievingCamelsModel.whose -/
theorem cz_264 {V : jx_V} (hV : V.1.stackTraces = false) {X : jx_X} {R : jx_R} {I : jx_I} {a0 : Nat} {a1 : Int} {l : LT} {c : CT} 
    (hM : MX X R a0) (hX : MSX I a0 l c) (hW : WT l) (hC : WC l c) (r_a1 : -2147483648 ≤ a1 ∧ a1 < 2147483648)
    {QE : String → jx_I → Prop} : jc V 6 264 (0, 0) [.ref a0, jy a1] X I R (fun rv I' => (nzw (CJ c ≠ []) 3 1 (none) = none ∧ rv = some (jy (if 1 ≤ a1 ∧ a1 < (CJ c).length then (mgr ((jst l (CJ c) (CL c) (Cg c) (Cd c) (a1.toNat - 1)).1 ((CJ c).getD a1.toNat 0)) (CL c)).2 else -1)) ∧ (I' a0 0).toInt = 0 ∧ FK a0 SCR I I') ∨ (∃ k w, nzw (CJ c ≠ []) 3 1 (none) = some (k, w) ∧ I' = RM (jx_u I a0 0 (Int32.ofInt 0)) a0 k w ∧ ∃ x : Int, rv = some (jy x))) QE := by
  have hW0 := hW.1
  have hW0 := hW.1
  refine wm_264 hV (by omega)  (fun J42 J105 hJJ => ?_)
  obtain ⟨hJ42, hJ105⟩ := hJJ
  unfold wz_264
  refine ⟨s_M_0 hM, ?_⟩
  intro I2 e_I2; subst e_I2
  have hX0 := MSX_0 (v := Int32.ofInt 0) hX hW
  have h00 : (jx_u I a0 0 (Int32.ofInt 0) a0 0).toInt = 0 := by rw [jx_u_s]; rfl
  refine ⟨_, cz_259 hV hM h00 hX0.2.2.1.1, ?_⟩
  rintro _ I5 ⟨rfl, hI⟩
  refine ⟨_, rfl, ?_⟩
  refine ⟨by omega, ?_⟩
  refine ⟨fun hq1 => ?_, fun hq1 => ?_⟩
  · have cJ := bi_f hq1
    rw [if_neg cJ] at hI
    subst hI
    have hJ1 := WC_J hC cJ
    have h37 := hX0.2.2.1.1
    refine ⟨_, cz_203 hV (by omega) (by omega) (by omega), ?_⟩
    rintro _ I10 ⟨rfl, e9⟩; replace e9 := e9.symm; subst e9
    refine ⟨_, rfl, ?_⟩
    refine ⟨by omega, ?_⟩
    refine ⟨fun hq2 => ?_, fun hq2 => ?_⟩
    · have c1 := bi_t hq2
      refine ⟨_, cz_262 (k := a1.toNat) hV hM hX0.1 hW hX0.2.1 (GDn_w hW hC) hC.2.1.2 (WC_8 hW hC) hC.2.1.1 hX0.2.2.1 hJ1.2.1 hJ1.1.2 (by omega) (by omega), ?_⟩
      rintro _ I15 ⟨rfl, hN1, hF1⟩
      refine ⟨rfl, ?_⟩
      have L42 : ∀ (n42 : Nat) (l2 : Int) (l3 : Int) (l4 : Int) (K : jx_I), n42 = (((CL c).length : Int) - l4).toNat → (∃ k : Nat, l4 = k ∧ k ≤ (CL c).length ∧ l3 = (mgr ((jst l (CJ c) (CL c) (Cg c) (Cd c) (a1.toNat - 1)).1 ((CJ c).getD a1.toNat 0)) ((CL c).take k)).1 ∧ l2 = (mgr ((jst l (CJ c) (CL c) (Cg c) (Cd c) (a1.toNat - 1)).1 ((CJ c).getD a1.toNat 0)) ((CL c).take k)).2 ∧ K = I15) → J42 l2 l3 l4 K := by
        intro n42
        induction n42 using Nat.strongRecOn with
        | ind n42 ih42 =>
        intro l2 l3 l4 K hn42 hI42
        obtain ⟨k, rfl, hk, rfl, rfl, rfl⟩ := hI42
        have hGG := GDn_j (l := l) (GDn_w hW hC) hJ1.2.1 hC.2.1.2 (a1.toNat - 1) (by omega)
        obtain ⟨e1, m1⟩ := ML_gd (FK_ML hX0.2.2.1 hF1 (by decide) (by omega) (by omega) (by omega)) (i := a1.toNat) (by omega)
        have h46 := hN1.1.1
        have h8 := WC_8 hW hC
        have hn := hW.1
        have hmr := mgr_rng ((jst l (CJ c) (CL c) (Cg c) (Cd c) (a1.toNat - 1)).1 ((CJ c).getD a1.toNat 0)) ((CL c).take k) (fun x hx => (hGG _ x (hJ1.2.1 _ m1) (hC.2.1.2 x (List.mem_of_mem_take hx))).1.2)
        refine hJ42 _ _ _ _ ?_
        unfold wz_264_42
        refine ⟨s_M_0 hM, by omega, ?_⟩
        refine ⟨fun hq3 => ?_, fun hq3 => ?_⟩
        · rw [show k = (CL c).length by omega, List.take_length]
          exact Or.inl ⟨by rw [nzw_t cJ], by rw [if_pos (by omega)], by rw [hF1.2 0 (by decide)]; exact h00, FK_trans FK_0 (FK_mono hF1 (by decide))⟩
        · obtain ⟨y, hy, hy2⟩ := ML_get hN1.1 (i := k) (by omega)
          have hym := List.mem_of_getElem? hy
          have hy8 := hC.2.1.2 y hym
          have hgv : (K (a0 + 1347 + y) ((CJ c).getD a1.toNat 0)).toInt = ((jst l (CJ c) (CL c) (Cg c) (Cd c) (a1.toNat - 1)).1 ((CJ c).getD a1.toNat 0)) y := hN1.2.1 _ _ (hJ1.2.1 _ m1) hy8
          have hjn := hJ1.2.1 _ m1
          have hgr := hGG _ y hjn hy8
          refine ⟨_, r_M_42 hM, _, r_M_44 hM, _, ⟨s_M_1364 hM, by decide⟩, ?_⟩
          try simp only [-eq_self, Int.toNat_natCast, hy2]
          refine ⟨by omega, _, ⟨s_M_1346 hM, by decide⟩, by omega, _, rr_M_1346 hM (by omega), _, r_M_35 hM, _, ⟨s_M_1345 hM, by decide⟩, ?_⟩
          try simp only [-eq_self, e1]
          refine ⟨by omega, _, ⟨sr_M_1346 hM (by omega), by decide⟩, ?_⟩
          try simp only [-eq_self, Int.toNat_natCast, hgv]
          refine ⟨by omega, by omega, ?_⟩
          refine ⟨fun hq4 => ?_, fun hq4 => ?_⟩
          · refine ⟨by omega, by omega, by omega, _, rr_M_1346 hM (by omega), by omega, _, ⟨sr_M_1346 hM (by omega), by decide⟩, ?_⟩
            try simp only [-eq_self, Int.toNat_natCast, hy2, e1, hgv]
            refine ⟨by omega, ?_⟩
            refine hJ105 _ _ _ _ ?_
            unfold wz_264_105
            exact ih42 _ (by omega) _ _ _ _ rfl (⟨k + 1, by omega, by omega, by rw [ls_last hy, mgr_app, if_pos (by omega)], by rw [ls_last hy, mgr_app, if_pos (by omega)], rfl⟩)
          · refine hJ105 _ _ _ _ ?_
            unfold wz_264_105
            exact ih42 _ (by omega) _ _ _ _ rfl (⟨k + 1, by omega, by omega, by rw [ls_last hy, mgr_app, if_neg (by omega)], by rw [ls_last hy, mgr_app, if_neg (by omega)], rfl⟩)
      exact L42 _ _ _ _ _ rfl (⟨0, rfl, by omega, by rw [List.take_zero]; rfl, by rw [List.take_zero]; rfl, rfl⟩)
    · have c1 := bi_f hq2
      exact Or.inl ⟨by rw [nzw_t cJ], by rw [if_neg (by omega)], h00, FK_0⟩
  · have cJ := bi_t hq1
    rw [if_pos cJ] at hI
    subst hI
    exact Or.inr ⟨_, _, nzw_f (fun k => k cJ), rfl, _, rfl⟩
