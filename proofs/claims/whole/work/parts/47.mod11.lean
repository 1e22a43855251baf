/-! ===== the reference: what one place healed would bring ===== -/
theorem hlf_pos {l : LT} {c : CT} (hW : WT l) (hC : WC l c) (hj : CJ c ≠ []) {k : Nat} (h : 0 < k) : 0 ≤ (hlf l c k).1 := by
  obtain ⟨m, rfl⟩ : ∃ m, k = m + 1 := ⟨k - 1, by omega⟩
  have h1 := hlf_rng hW hC hj m
  unfold hlf
  split
  · show (0 : Int) ≤ (m : Int); omega
  · omega
/-- GrievingCamelsModel.heal -/
theorem cz_280 {V : jx_V} (hV : V.1.stackTraces = false) {X : jx_X} {R : jx_R} {I : jx_I} {a0 : Nat} {a1 : Int} {l : LT} {c : CT} 
    (hM : MX X R a0) (hX : MSX I a0 l c) (hW : WT l) (hC : WC l c) (r_a1 : -2147483648 ≤ a1 ∧ a1 < 2147483648)
    {QE : String → jx_I → Prop} : jc V 6 280 (0, 0) [.ref a0, jy a1] X I R (fun rv I' => (nzw (0 ≤ a1 ∧ a1 ≤ 1) 2 1 (nzw (CJ c ≠ []) 3 2 (none)) = none ∧ rv = some (jy (if a1 = 0 then (hlf l c (Ln l)).1 else (hlf l c (Ln l)).2)) ∧ (I' a0 0).toInt = 0 ∧ FK a0 SCR I I') ∨ (∃ k w, nzw (0 ≤ a1 ∧ a1 ≤ 1) 2 1 (nzw (CJ c ≠ []) 3 2 (none)) = some (k, w) ∧ I' = RM (jx_u I a0 0 (Int32.ofInt 0)) a0 k w ∧ ∃ x : Int, rv = some (jy x))) QE := by
  have hW0 := hW.1
  have hW0 := hW.1
  refine wm_280 hV (by omega)  (fun J20 J35 J53 J107 hJJ => ?_)
  obtain ⟨hJ20, hJ35, hJ53, hJ107⟩ := hJJ
  unfold wz_280
  refine ⟨s_M_0 hM, ?_⟩
  intro I2 e_I2; subst e_I2
  have hX0 := MSX_0 (v := Int32.ofInt 0) hX hW
  have h00 : (jx_u I a0 0 (Int32.ofInt 0) a0 0).toInt = 0 := by rw [jx_u_s]; rfl
  refine ⟨_, cz_203 hV (by omega) (by omega) (by omega), ?_⟩
  rintro _ I5 ⟨rfl, e9⟩; replace e9 := e9.symm; subst e9
  refine ⟨_, rfl, ?_⟩
  refine ⟨by omega, ?_⟩
  refine ⟨fun hq1 => ?_, fun hq1 => ?_⟩
  · have c1 := bi_t hq1
    refine hJ20 _ _ _ ?_
    unfold wz_280_20
    refine ⟨s_M_0 hM, ?_⟩
    refine ⟨_, cz_260o hV hM h00 hX0.2.2.1.1 rfl, ?_⟩
    rintro _ I11 ⟨rfl, hI⟩
    refine ⟨_, rfl, ?_⟩
    refine ⟨by omega, ?_⟩
    refine ⟨fun hq2 => ?_, fun hq2 => ?_⟩
    · have cJ := bi_f hq2
      rw [if_neg cJ] at hI
      subst hI
      have hJ1 := WC_J hC cJ
      have L35 : ∀ (n35 : Nat) (l2 : Int) (l3 : Int) (l4 : Int) (K : jx_I), n35 = ((Ln l : Int) - l4).toNat → (∃ k : Nat, l4 = k ∧ k ≤ Ln l ∧ l2 = (hlf l c k).1 ∧ (l3 = (hlf l c k).2 ∨ (hlf l c k).1 < 0) ∧ (0 ≤ l3 ∧ l3 ≤ 1500) ∧ FK a0 [46, 48, 49] (jx_u I a0 0 (Int32.ofInt 0)) K) → J35 l2 l3 l4 K := by
        intro n35
        induction n35 using Nat.strongRecOn with
        | ind n35 ih35 =>
        intro l2 l3 l4 K hn35 hI35
        obtain ⟨k, rfl, hk, rfl, hl3, hl3r, hF⟩ := hI35
        have hn := hW.1
        have hrg := hlf_rng hW hC cJ k
        have hfs : hlf l c (k + 1) = if (hlf l c k).1 < 0 ∨ hlv l c k < (hlf l c k).2 then ((k : Int), hlv l c k) else hlf l c k := rfl
        have hvr : 0 ≤ hlv l c k ∧ hlv l c k ≤ 1500 := hrs_rng hW hJ1.2.1 hJ1.1.2 _ _ _
        refine hJ35 _ _ _ _ ?_
        unfold wz_280_35
        refine ⟨s_M_0 hM, _, r_M_11 hM, _, ⟨s_M_4 hM, by decide⟩, ?_⟩
        have hn4 : (K (a0 + 4) 0).toInt = Ln l := by rw [hF.1 (a0 + 4) (by omega) (by omega) (by omega)]; exact hX0.1.1.1
        try simp only [-eq_self, show (0 : Int).toNat = 0 from rfl, hn4]
        refine ⟨by omega, by omega, ?_⟩
        refine ⟨fun hq3 => ?_, fun hq3 => ?_⟩
        · have hn0 : 0 < Ln l := by
            have h2 := hJ1.1.1
            have h3 := hJ1.2.1 _ (gd_mem (L := CJ c) (t := 0) (by omega))
            omega
          refine ⟨fun hq4 => ?_, fun hq4 => ?_⟩
          · have hp0 := hlf_pos hW hC cJ (k := k) (by omega)
            rw [show Ln l = k by omega]
            exact Or.inl ⟨by rw [nzw_t c1, nzw_t cJ], by rw [if_neg (by omega), hl3.resolve_right (by omega)], by rw [hF.2 0 (by decide)]; exact h00, FK_trans FK_0 (FK_mono hF (by decide))⟩
          · rw [show Ln l = k by omega]
            exact Or.inl ⟨by rw [nzw_t c1, nzw_t cJ], by rw [if_pos (by omega)], by rw [hF.2 0 (by decide)]; exact h00, FK_trans FK_0 (FK_mono hF (by decide))⟩
        · refine ⟨_, cz_243 hV hM (FK_MD hX0.1 hF (by decide) hW) hW (FK_MB hX0.2.1 hF (by decide) hW) (GDn_w hW hC) hC.2.1.2 (WC_8 hW hC), ?_⟩
          rintro _ I23 ⟨rfl, hN1, hF1⟩
          refine ⟨rfl, ?_⟩
          have L53 : ∀ (n53 : Nat) (m2 : Int) (m3 : Int) (m4 : Int) (m5 : Int) (K2 : jx_I), n53 = ((Lm l : Int) - m5).toNat → (∃ j : Nat, m2 = (hlf l c k).1 ∧ m3 = l3 ∧ m4 = (k : Int) ∧ m5 = j ∧ j ≤ Lm l ∧ MN K2 a0 l (CL c) (fun q e => if q = k ∧ e < j then 0 else Cg c q e) (Cd c) ∧ FK a0 [46] K K2) → J53 m2 m3 m4 m5 K2 := by
            intro n53
            induction n53 using Nat.strongRecOn with
            | ind n53 ih53 =>
            intro m2 m3 m4 m5 K2 hn53 hI53
            obtain ⟨j, rfl, rfl, rfl, rfl, hj, hN2, hF2⟩ := hI53
            refine hJ53 _ _ _ _ _ ?_
            unfold wz_280_53
            refine ⟨s_M_0 hM, _, r_M_11 hM, _, ⟨s_M_4 hM, by decide⟩, ?_⟩
            have hm4 : (K2 (a0 + 4) 1).toInt = Lm l := by rw [hF2.1 (a0 + 4) (by omega) (by omega) (by omega), hF.1 (a0 + 4) (by omega) (by omega) (by omega)]; exact hX0.1.1.2
            try simp only [-eq_self, show (1 : Int).toNat = 1 from rfl, hm4]
            refine ⟨by omega, by omega, ?_⟩
            refine ⟨fun hq5 => ?_, fun hq5 => ?_⟩
            · have hFa : FK a0 [46, 48, 49] (jx_u I a0 0 (Int32.ofInt 0)) K2 := FK_trans hF (FK_mono hF2 (by decide))
              have hN3 : MN K2 a0 l (CL c) (fun q e => if q = k then 0 else Cg c q e) (Cd c) := ⟨hN2.1, MH_eq hN2.2.1 (fun q e hq he => by
                show (if q = k then (0 : Int) else Cg c q e) = if q = k ∧ e < j then 0 else Cg c q e
                by_cases h9 : q = k
                · rw [if_pos h9, if_pos ⟨h9, by omega⟩]
                · rw [if_neg h9, if_neg (fun h => h9 h.1)]), hN2.2.2⟩
              have hG3 : GDn (Ln l) (Lm l) (fun q e => if q = k then 0 else Cg c q e) (Cd c) := fun q e hq he => ⟨by
                have h9 := (GDn_w hW hC q e hq he).1
                show 0 ≤ (if q = k then (0 : Int) else Cg c q e) ∧ (if q = k then (0 : Int) else Cg c q e) ≤ 20
                split <;> omega, (GDn_w hW hC q e hq he).2⟩
              refine ⟨_, cz_258 hV hM (FK_MD hX0.1 hFa (by decide) hW) hW hN3 hG3 hC.2.1.2 (WC_8 hW hC) hC.2.1.1 (FK_ML hX0.2.2.1 hFa (by decide) (by omega) (by omega) (by omega)) hJ1.2.1 hJ1.1.2, ?_⟩
              rintro _ I34 ⟨rfl, h48, h49, hN9, hF9⟩
              refine ⟨_, rfl, ?_⟩
              have hF3 : FK a0 [46, 48, 49] (jx_u I a0 0 (Int32.ofInt 0)) I34 := FK_trans hFa (FK_mono hF9 (by decide))
              simp only [-eq_self, show rs (Lr l) (CJ c) ((CJ c).length - 1) + jhs l (CJ c) (CL c) (fun q e => if q = k then 0 else Cg c q e) (Cd c) ((CJ c).length - 1) = hlv l c k from rfl]
              refine ⟨by omega, ?_⟩
              refine ⟨fun hq6 => ?_, fun hq6 => ?_⟩
              · refine hJ107 _ _ _ _ ?_
                unfold wz_280_107
                exact ih35 _ (by omega) _ _ _ _ rfl (⟨k + 1, by omega, by omega, by rw [hfs, if_pos (by omega)], Or.inl (by rw [hfs, if_pos (by omega)]), by omega, hF3⟩)
              · refine ⟨by omega, by omega, ?_⟩
                refine ⟨fun hq7 => ?_, fun hq7 => ?_⟩
                · refine hJ107 _ _ _ _ ?_
                  unfold wz_280_107
                  exact ih35 _ (by omega) _ _ _ _ rfl (⟨k + 1, by omega, by omega, by rw [hfs, if_pos (by omega)], Or.inl (by rw [hfs, if_pos (by omega)]), by omega, hF3⟩)
                · refine hJ107 _ _ _ _ ?_
                  unfold wz_280_107
                  exact ih35 _ (by omega) _ _ _ _ rfl (⟨k + 1, by omega, by omega, by rw [hfs, if_neg (by omega)], Or.inl (by rw [hfs, if_neg (by omega)]; exact hl3.resolve_right (by omega)), by omega, hF3⟩)
            · refine ⟨_, r_M_42 hM, _, ⟨s_M_1346 hM, by decide⟩, by omega, _, rr_M_1346 hM (by omega), _, ⟨sr_M_1346 hM (by omega), by decide⟩, ?_⟩
              try simp only [-eq_self, Int.toNat_natCast]
              refine ⟨by omega, ?_⟩
              intro I49 e_I49; subst e_I49
              exact ih53 _ (by omega) _ _ _ _ _ rfl (⟨j + 1, rfl, rfl, rfl, by omega, by omega, ⟨ML_of hN2.1 (by rw [jx_u_a _ _ _ _ (by omega)]) (jx_u_r _ _ _ (by omega)), MH_eq (MH_u hN2.2.1 (by omega)) (fun q e hq he => by
                show (if q = k ∧ e < j + 1 then (0 : Int) else Cg c q e) = if q = k ∧ e = j then 0 else if q = k ∧ e < j then 0 else Cg c q e
                by_cases h1 : q = k
                · by_cases h2 : e = j
                  · rw [if_pos ⟨h1, by omega⟩, if_pos ⟨h1, h2⟩]
                  · rw [if_neg (fun h : q = k ∧ e = j => h2 h.2)]
                    by_cases h3 : e < j
                    · rw [if_pos ⟨h1, by omega⟩, if_pos ⟨h1, h3⟩]
                    · rw [if_neg (by omega), if_neg (by omega)]
                · rw [if_neg (fun h => h1 h.1), if_neg (fun h => h1 h.1), if_neg (fun h => h1 h.1)]), MH_of hN2.2.2 (fun e he => jx_u_r _ _ _ (by omega))⟩, FK_u hF2 (by omega)⟩)
          exact L53 _ _ _ _ _ _ rfl (⟨0, rfl, rfl, rfl, rfl, by omega, ⟨hN1.1, MH_eq hN1.2.1 (fun q e hq he => if_neg (by omega)), hN1.2.2⟩, hF1⟩)
      exact L35 _ _ _ _ _ rfl (⟨0, rfl, by omega, rfl, Or.inr (by show (-1 : Int) < 0; decide), by omega, FK_refl⟩)
    · have cJ := bi_t hq2
      rw [if_pos cJ] at hI
      subst hI
      exact Or.inr ⟨_, _, by rw [nzw_t c1]; exact nzw_f (fun k => k cJ), rfl, _, rfl⟩
  · have c1 := bi_f hq1
    refine hJ20 _ _ _ ?_
    unfold wz_280_20
    refine ⟨s_M_0 hM, ?_⟩
    refine ⟨_, cz_260b hV hM h00 rfl, ?_⟩
    rintro _ I11 ⟨rfl, e9⟩; replace e9 := e9.symm; subst e9
    refine ⟨_, rfl, ?_⟩
    refine ⟨by omega, ?_⟩
    refine ⟨fun hq8 => ?_, fun hq8 => ?_⟩
    · exact absurd hq8 (by decide)
    · exact Or.inr ⟨_, _, nzw_f c1, rfl, _, rfl⟩
