/-! ===== the reference: the fewest to leave behind ===== -/
/-- GrievingCamelsModel.light -/
theorem cz_281 {V : jx_V} (hV : V.1.stackTraces = false) {X : jx_X} {R : jx_R} {I : jx_I} {a0 : Nat} {a1 : Int} {l : LT} {c : CT} 
    (hM : MX X R a0) (hX : MSX I a0 l c) (hW : WT l) (hC : WC l c) (r_a1 : -2147483648 ≤ a1 ∧ a1 < 2147483648)
    {QE : String → jx_I → Prop} : jc V 7 281 (0, 0) [.ref a0, jy a1] X I R (fun rv I' => (nzw (0 ≤ a1 ∧ a1 ≤ 9999) 2 1 (nzw (CJ c ≠ []) 3 2 (none)) = none ∧ rv = some (jy (lgf l c a1 (bo (CL c) + 1))) ∧ (I' a0 0).toInt = 0 ∧ FK a0 SCR I I') ∨ (∃ k w, nzw (0 ≤ a1 ∧ a1 ≤ 9999) 2 1 (nzw (CJ c ≠ []) 3 2 (none)) = some (k, w) ∧ I' = RM (jx_u I a0 0 (Int32.ofInt 0)) a0 k w ∧ ∃ x : Int, rv = some (jy x))) QE := by
  have hW0 := hW.1
  have hW0 := hW.1
  refine wm_281 hV (by omega)  (fun J22 J40 J95 J96 hJJ => ?_)
  obtain ⟨hJ22, hJ40, hJ95, hJ96⟩ := hJJ
  unfold wz_281
  refine ⟨s_M_0 hM, ?_⟩
  intro I2 e_I2; subst e_I2
  have hX0 := MSX_0 (v := Int32.ofInt 0) hX hW
  have h00 : (jx_u I a0 0 (Int32.ofInt 0) a0 0).toInt = 0 := by rw [jx_u_s]; rfl
  refine ⟨_, cz_203 hV (by omega) (by omega) (by omega), ?_⟩
  rintro _ I5 ⟨rfl, e9⟩; replace e9 := e9.symm; subst e9
  refine ⟨_, rfl, ?_⟩
  refine ⟨by omega, ?_⟩
  refine ⟨fun hq1 => ?_, fun hq1 => ?_⟩
  · have c1 := bi_t hq1
    refine hJ22 _ _ _ ?_
    unfold wz_281_22
    refine ⟨s_M_0 hM, ?_⟩
    refine ⟨_, cz_260o hV hM h00 hX0.2.2.1.1 rfl, ?_⟩
    rintro _ I11 ⟨rfl, hI⟩
    refine ⟨_, rfl, ?_⟩
    refine ⟨by omega, ?_⟩
    refine ⟨fun hq2 => ?_, fun hq2 => ?_⟩
    · have cJ := bi_f hq2
      rw [if_neg cJ] at hI
      subst hI
      have hJ1 := WC_J hC cJ
      refine ⟨s_M_0 hM, ?_⟩
      have hL8 : ∀ x ∈ CL c, x < 8 := fun x hx => by have := hC.2.1.2 x hx; have := hW.1.2; omega
      have hbo : bo (CL c) < 2 ^ 8 := bo_lt _ hL8
      refine ⟨_, cz_277 hV hM hX0.2.1.1 (WC_8 hW hC) hL8, ?_⟩
      rintro _ I17 ⟨rfl, e9⟩; replace e9 := e9.symm; subst e9
      refine ⟨_, rfl, ?_⟩
      have L40 : ∀ (n40 : Nat) (l2 : Int) (l3 : Int) (l4 : Int) (K : jx_I), n40 = ((bo (CL c) : Int) + 1 - l4).toNat → (∃ k : Nat, l2 = (bo (CL c) : Nat) ∧ l4 = k ∧ k ≤ bo (CL c) + 1 ∧ l3 = lgf l c a1 k ∧ FK a0 [46, 48, 49] (jx_u I a0 0 (Int32.ofInt 0)) K) → J40 l2 l3 l4 K := by
        intro n40
        induction n40 using Nat.strongRecOn with
        | ind n40 ih40 =>
        intro l2 l3 l4 K hn40 hI40
        obtain ⟨k, rfl, rfl, hk, rfl, hF⟩ := hI40
        have hrg := lgf_rng l c a1 k
        have hfs : lgf l c a1 (k + 1) = if bdf k (bo (CL c)) = 0 ∧ (lgf l c a1 k < 0 ∨ pc k < pc (lgf l c a1 k).toNat) ∧ hwb l c (bdf (bo (CL c)) k) ≤ a1 then (k : Int) else lgf l c a1 k := rfl
        have hpc1 : pc k ≤ 10 := by unfold pc; have := List.length_filter_le (fun x => k.testBit x) (List.range 10); simpa using this
        have hpc2 : pc (lgf l c a1 k).toNat ≤ 10 := by unfold pc; have := List.length_filter_le (fun x => (lgf l c a1 k).toNat.testBit x) (List.range 10); simpa using this
        refine hJ40 _ _ _ _ ?_
        unfold wz_281_40
        refine ⟨by omega, by omega, ?_⟩
        refine ⟨fun hq3 => ?_, fun hq3 => ?_⟩
        · rw [show bo (CL c) + 1 = k by omega]
          exact Or.inl ⟨by rw [nzw_t c1, nzw_t cJ], rfl, by rw [hF.2 0 (by decide)]; exact h00, FK_trans FK_0 (FK_mono hF (by decide))⟩
        · have hb2 : k < 2 ^ 8 := by omega
          have had := jz_adn (A := k) (B := bo (CL c)) (by omega) (by omega)
          have had2 := jz_adn (A := bo (CL c)) (B := k) (by omega) (by omega)
          have hbd : bdf (bo (CL c)) k < 2 ^ 8 := bdf_le _ _ hbo
          have hwr := hwb_rng hW hC cJ (bdf (bo (CL c)) k)
          simp only [-eq_self, had]
          refine ⟨fun hq4 => ?_, fun hq4 => ?_⟩
          · exact ih40 _ (by omega) _ _ _ _ rfl (⟨k + 1, rfl, by omega, by omega, by rw [hfs, if_neg (by intro h; omega)], hF⟩)
          · refine ⟨by omega, ?_⟩
            refine ⟨fun hq5 => ?_, fun hq5 => ?_⟩
            · refine ⟨s_M_0 hM, ?_⟩
              try simp only [-eq_self, had2]
              refine ⟨_, cz_276 (B := bdf (bo (CL c)) k) hV hM (FK_MD hX0.1 hF (by decide) hW) hW (FK_MB hX0.2.1 hF (by decide) hW) (GDn_w hW hC) hC.2.1.2 (WC_8 hW hC) hC.2.1.1 (FK_ML hX0.2.2.1 hF (by decide) (by omega) (by omega) (by omega)) hJ1.2.1 hJ1.1.2 rfl (by omega), ?_⟩
              rintro _ I25 ⟨rfl, hF9⟩
              refine ⟨_, rfl, ?_⟩
              have hwv : rs (Lr l) (CJ c) ((CJ c).length - 1) + jhs l (CJ c) ((CL c).filter (fun x => (bdf (bo (CL c)) k).testBit x)) (Cg c) (Cd c) ((CJ c).length - 1) = hwb l c (bdf (bo (CL c)) k) := rfl
              simp only [-eq_self, hwv]
              refine ⟨by omega, ?_⟩
              refine ⟨fun hq6 => ?_, fun hq6 => ?_⟩
              · refine hJ95 _ _ _ _ ?_
                unfold wz_281_95
                refine hJ96 _ _ _ _ ?_
                unfold wz_281_96
                exact ih40 _ (by omega) _ _ _ _ rfl (⟨k + 1, rfl, by omega, by omega, by rw [hfs, if_neg (by intro h; omega)], FK_trans hF hF9⟩)
              · refine hJ95 _ _ _ _ ?_
                unfold wz_281_95
                refine hJ96 _ _ _ _ ?_
                unfold wz_281_96
                exact ih40 _ (by omega) _ _ _ _ rfl (⟨k + 1, rfl, by omega, by omega, by rw [hfs, if_pos (by refine ⟨by omega, by omega, by omega⟩)], FK_trans hF hF9⟩)
            · refine ⟨_, cz_272 (B := k) hV rfl (by omega), ?_⟩
              rintro _ I30 ⟨rfl, e9⟩; replace e9 := e9.symm; subst e9
              refine ⟨_, rfl, ?_⟩
              refine ⟨_, cz_272 (B := (lgf l c a1 k).toNat) hV (by omega) (by omega), ?_⟩
              rintro _ I34 ⟨rfl, e9⟩; replace e9 := e9.symm; subst e9
              refine ⟨_, rfl, ?_⟩
              refine ⟨by omega, by omega, ?_⟩
              refine ⟨fun hq7 => ?_, fun hq7 => ?_⟩
              · refine ⟨s_M_0 hM, ?_⟩
                try simp only [-eq_self, had2]
                refine ⟨_, cz_276 (B := bdf (bo (CL c)) k) hV hM (FK_MD hX0.1 hF (by decide) hW) hW (FK_MB hX0.2.1 hF (by decide) hW) (GDn_w hW hC) hC.2.1.2 (WC_8 hW hC) hC.2.1.1 (FK_ML hX0.2.2.1 hF (by decide) (by omega) (by omega) (by omega)) hJ1.2.1 hJ1.1.2 rfl (by omega), ?_⟩
                rintro _ I41 ⟨rfl, hF9⟩
                refine ⟨_, rfl, ?_⟩
                have hwv : rs (Lr l) (CJ c) ((CJ c).length - 1) + jhs l (CJ c) ((CL c).filter (fun x => (bdf (bo (CL c)) k).testBit x)) (Cg c) (Cd c) ((CJ c).length - 1) = hwb l c (bdf (bo (CL c)) k) := rfl
                simp only [-eq_self, hwv]
                refine ⟨by omega, ?_⟩
                refine ⟨fun hq8 => ?_, fun hq8 => ?_⟩
                · refine hJ95 _ _ _ _ ?_
                  unfold wz_281_95
                  refine hJ96 _ _ _ _ ?_
                  unfold wz_281_96
                  exact ih40 _ (by omega) _ _ _ _ rfl (⟨k + 1, rfl, by omega, by omega, by rw [hfs, if_neg (by intro h; omega)], FK_trans hF hF9⟩)
                · refine hJ95 _ _ _ _ ?_
                  unfold wz_281_95
                  refine hJ96 _ _ _ _ ?_
                  unfold wz_281_96
                  exact ih40 _ (by omega) _ _ _ _ rfl (⟨k + 1, rfl, by omega, by omega, by rw [hfs, if_pos (by refine ⟨by omega, by omega, by omega⟩)], FK_trans hF hF9⟩)
              · refine hJ96 _ _ _ _ ?_
                unfold wz_281_96
                exact ih40 _ (by omega) _ _ _ _ rfl (⟨k + 1, rfl, by omega, by omega, by rw [hfs, if_neg (by intro h; omega)], hF⟩)
      exact L40 _ _ _ _ _ rfl (⟨0, rfl, rfl, by omega, rfl, FK_refl⟩)
    · have cJ := bi_t hq2
      rw [if_pos cJ] at hI
      subst hI
      exact Or.inr ⟨_, _, by rw [nzw_t c1]; exact nzw_f (fun k => k cJ), rfl, _, rfl⟩
  · have c1 := bi_f hq1
    refine hJ22 _ _ _ ?_
    unfold wz_281_22
    refine ⟨s_M_0 hM, ?_⟩
    refine ⟨_, cz_260b hV hM h00 rfl, ?_⟩
    rintro _ I11 ⟨rfl, e9⟩; replace e9 := e9.symm; subst e9
    refine ⟨_, rfl, ?_⟩
    refine ⟨by omega, ?_⟩
    refine ⟨fun hq9 => ?_, fun hq9 => ?_⟩
    · exact absurd hq9 (by decide)
    · exact Or.inr ⟨_, _, nzw_f c1, rfl, _, rfl⟩
