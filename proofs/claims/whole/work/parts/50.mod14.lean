/-! ===== the reference: the row parted ===== -/
theorem ptf_k (l : LT) (c : CT) (b0 k : Nat) (h : b0 ≤ k) : ptf l c b0 (k + 1 - b0) = if bdf k (bo (CL c)) = 0 ∧ k &&& b0 ≠ 0 ∧ ptv l c k < (ptf l c b0 (k - b0)).1 then (ptv l c k, k) else ptf l c b0 (k - b0) := by
  obtain ⟨n, rfl⟩ : ∃ n, k = b0 + n := ⟨k - b0, by omega⟩
  rw [show b0 + n + 1 - b0 = n + 1 by omega, show b0 + n - b0 = n by omega]
  rfl
theorem bo_0 {L : List Nat} (h : 0 < L.length) : 2 ^ (L.getD 0 0) ≤ bo L ∧ bdf (2 ^ (L.getD 0 0)) (bo L) = 0 := by
  have hm : L.getD 0 0 ∈ L := gd_mem h
  have ht : (bo L).testBit (L.getD 0 0) = true := by rw [bo_t]; exact decide_eq_true hm
  refine ⟨?_, ?_⟩
  · rcases Nat.lt_or_ge (bo L) (2 ^ (L.getD 0 0)) with h1 | h1
    · rw [Nat.testBit_lt_two_pow h1] at ht; exact absurd ht (by decide)
    · exact h1
  · apply Nat.eq_of_testBit_eq
    intro i
    rw [bdf_t, Nat.testBit_two_pow, Nat.zero_testBit]
    by_cases h2 : L.getD 0 0 = i
    · rw [← h2, ht]; simp
    · rw [decide_eq_false h2]; rfl
/-- what the reference keeps when it parts: the best up to k -/
def PT (l : LT) (c : CT) (b0 k : Nat) (x y : Int) : Prop := (k ≤ b0 ∧ x = -1) ∨ (b0 < k ∧ x = ((ptf l c b0 (k - b0)).2 : Int) ∧ y = (ptf l c b0 (k - b0)).1 ∧ 0 ≤ y ∧ y ≤ 1500 ∧ x < k)
theorem PT_no {l : LT} {c : CT} {b0 k : Nat} {x y : Int} (h : PT l c b0 k x y) (hn : k ≠ b0) (h2 : b0 ≤ k → ¬ (bdf k (bo (CL c)) = 0 ∧ k &&& b0 ≠ 0 ∧ ptv l c k < (ptf l c b0 (k - b0)).1)) : PT l c b0 (k + 1) x y := by
  rcases h with ⟨h1, h3⟩ | ⟨h1, h3, h4, h5⟩
  · exact Or.inl ⟨by omega, h3⟩
  · refine Or.inr ⟨by omega, ?_, ?_, h5.1, h5.2.1, by omega⟩
    · rw [ptf_k l c b0 k (by omega), if_neg (h2 (by omega))]; exact h3
    · rw [ptf_k l c b0 k (by omega), if_neg (h2 (by omega))]; exact h4
theorem PT_yes {l : LT} {c : CT} {b0 k : Nat} {x y v : Int} (h : PT l c b0 k x y) (hb : b0 ≤ k) (hv : v = ptv l c k) (hr : 0 ≤ v ∧ v ≤ 1500) (h1 : bdf k (bo (CL c)) = 0) (h2 : k &&& b0 ≠ 0) (h3 : x = -1 ∨ v < y) : PT l c b0 (k + 1) (k : Int) v := by
  have h4 : ptv l c k < (ptf l c b0 (k - b0)).1 := by
    rcases h with ⟨h5, h6⟩ | ⟨h5, h6, h7, _⟩
    · rw [show k - b0 = 0 by omega]
      show ptv l c k < 2147483647
      omega
    · rw [← h7, ← hv]; omega
  refine Or.inr ⟨by omega, ?_, ?_, hr.1, hr.2, by omega⟩
  · rw [ptf_k l c b0 k hb, if_pos ⟨h1, h2, h4⟩]
  · rw [ptf_k l c b0 k hb, if_pos ⟨h1, h2, h4⟩]; exact hv
theorem PT_same {l : LT} {c : CT} {b0 k : Nat} {x y v : Int} (h : PT l c b0 k x y) (hv : v = ptv l c k) (h3 : x ≠ -1) (h4 : ¬ v < y) : PT l c b0 (k + 1) x y := by
  rcases h with ⟨_, h6⟩ | ⟨h5, h6, h7, h8⟩
  · exact absurd h6 h3
  · exact PT_no (Or.inr ⟨h5, h6, h7, h8⟩) (by omega) (fun _ k => by rw [← h7, ← hv] at k; exact h4 k.2.2)
/-- GrievingCamelsModel.parted -/
theorem cz_278 {V : jx_V} (hV : V.1.stackTraces = false) {X : jx_X} {R : jx_R} {I : jx_I} {a0 : Nat} {a1 : Int} {l : LT} {c : CT} 
    (hM : MX X R a0) (hX : MSX I a0 l c) (hW : WT l) (hC : WC l c) (r_a1 : -2147483648 ≤ a1 ∧ a1 < 2147483648)
    {QE : String → jx_I → Prop} : jc V 7 278 (0, 0) [.ref a0, jy a1] X I R (fun rv I' => (nzw (0 ≤ a1 ∧ a1 ≤ 1) 2 1 (nzw (CJ c ≠ []) 3 2 (none)) = none ∧ rv = some (jy (if CL c = [] then 0 else if a1 = 0 then (ptf l c (2 ^ (CL c).getD 0 0) (bo (CL c) + 1 - (2 ^ (CL c).getD 0 0))).1 else ((ptf l c (2 ^ (CL c).getD 0 0) (bo (CL c) + 1 - (2 ^ (CL c).getD 0 0))).2 : Nat))) ∧ (I' a0 0).toInt = 0 ∧ FK a0 SCR I I') ∨ (∃ k w, nzw (0 ≤ a1 ∧ a1 ≤ 1) 2 1 (nzw (CJ c ≠ []) 3 2 (none)) = some (k, w) ∧ I' = RM (jx_u I a0 0 (Int32.ofInt 0)) a0 k w ∧ ∃ x : Int, rv = some (jy x))) QE := by
  have hW0 := hW.1
  have hW0 := hW.1
  refine wm_278 hV (by omega)  (fun J20 J41 J108 J124 J148 hJJ => ?_)
  obtain ⟨hJ20, hJ41, hJ108, hJ124, hJ148⟩ := hJJ
  unfold wz_278
  refine ⟨s_M_0 hM, ?_⟩
  intro I2 e_I2; subst e_I2
  have hX0 := MSX_0 (v := Int32.ofInt 0) hX hW
  have h00 : (jx_u I a0 0 (Int32.ofInt 0) a0 0).toInt = 0 := by rw [jx_u_s]; rfl
  refine ⟨_, cz_203 hV (by omega) (by omega) (by omega), ?_⟩
  rintro _ I5 ⟨rfl, e9⟩; replace e9 := e9.symm; subst e9
  refine ⟨_, rfl, ?_⟩
  refine ⟨by omega, ?_⟩
  refine ⟨fun hq1 => ?_, fun hq1 => ?_⟩
  · have c1 := bi_t hq1
    refine hJ20 _ _ _ ?_
    unfold wz_278_20
    refine ⟨s_M_0 hM, ?_⟩
    refine ⟨_, cz_260o hV hM h00 hX0.2.2.1.1 rfl, ?_⟩
    rintro _ I11 ⟨rfl, hI⟩
    refine ⟨_, rfl, ?_⟩
    refine ⟨by omega, ?_⟩
    refine ⟨fun hq2 => ?_, fun hq2 => ?_⟩
    · have cJ := bi_f hq2
      rw [if_neg cJ] at hI
      subst hI
      have hJ1 := WC_J hC cJ
      refine ⟨s_M_0 hM, ?_⟩
      have hL8 : ∀ x ∈ CL c, x < 8 := fun x hx => by have := hC.2.1.2 x hx; have := hW.1.2; omega
      have hbo : bo (CL c) < 2 ^ 8 := bo_lt _ hL8
      refine ⟨_, cz_277 hV hM hX0.2.1.1 (WC_8 hW hC) hL8, ?_⟩
      rintro _ I17 ⟨rfl, e9⟩; replace e9 := e9.symm; subst e9
      refine ⟨_, rfl, ?_⟩
      have L41 : ∀ (n41 : Nat) (l2 : Int) (l3 : Int) (l4 : Int) (l5 : Int) (K : jx_I), n41 = ((bo (CL c) : Int) + 1 - l5).toNat → (∃ k : Nat, l2 = (bo (CL c) : Nat) ∧ l5 = k ∧ k ≤ bo (CL c) + 1 ∧ (k = 0 ∨ CL c ≠ []) ∧ PT l c (2 ^ (CL c).getD 0 0) k l3 l4 ∧ FK a0 [46, 48, 49] (jx_u I a0 0 (Int32.ofInt 0)) K) → J41 l2 l3 l4 l5 K := by
        intro n41
        induction n41 using Nat.strongRecOn with
        | ind n41 ih41 =>
        intro l2 l3 l4 l5 K hn41 hI41
        obtain ⟨k, rfl, rfl, hk, hk0, hst, hF⟩ := hI41
        have h36 := (FK_ML hX0.2.1.1 hF (by decide) (by omega) (by omega) (by omega)).1
        have h8 := WC_8 hW hC
        have hl3r : (-1 ≤ l3 ∧ l3 < 1000) ∧ (l3 = -1 ∨ (0 ≤ l4 ∧ l4 ≤ 1500)) := by
          have hbo9 : bo (CL c) < 2 ^ 8 := hbo
          rcases hst with ⟨_, h⟩ | ⟨_, h, _, h2⟩ <;> omega
        refine hJ41 _ _ _ _ _ ?_
        unfold wz_278_41
        refine ⟨by omega, by omega, ?_⟩
        refine ⟨fun hq3 => ?_, fun hq3 => ?_⟩
        · refine ⟨by omega, ?_⟩
          refine ⟨fun hq4 => ?_, fun hq4 => ?_⟩
          · refine ⟨fun hq5 => ?_, fun hq5 => ?_⟩
            · rw [show k = bo (CL c) + 1 by omega] at hst
              have hb00 : CL c ≠ [] := hk0.resolve_left (by omega)
              have hb0 := (bo_0 (L := CL c) (List.length_pos_iff.mpr hb00)).1
              rcases hst with hst | ⟨_, h2, h3, _⟩
              · omega
              · exact Or.inl ⟨by rw [nzw_t c1, nzw_t cJ], by rw [if_neg hb00, if_neg (by omega), h2], by rw [hF.2 0 (by decide)]; exact h00, FK_trans FK_0 (FK_mono hF (by decide))⟩
            · rw [show k = bo (CL c) + 1 by omega] at hst
              have hb00 : CL c ≠ [] := hk0.resolve_left (by omega)
              have hb0 := (bo_0 (L := CL c) (List.length_pos_iff.mpr hb00)).1
              rcases hst with hst | ⟨_, h2, h3, _⟩
              · omega
              · exact Or.inl ⟨by rw [nzw_t c1, nzw_t cJ], by rw [if_neg hb00, if_pos (by omega), h3], by rw [hF.2 0 (by decide)]; exact h00, FK_trans FK_0 (FK_mono hF (by decide))⟩
          · have hb00 : CL c ≠ [] := hk0.resolve_left (by omega)
            have hb0 := (bo_0 (L := CL c) (List.length_pos_iff.mpr hb00)).1
            exfalso
            rcases hst with hst | ⟨_, h2, _⟩ <;> omega
        · refine ⟨s_M_0 hM, ?_⟩
          refine ⟨fun hq6 => ?_, fun hq6 => ?_⟩
          · refine ⟨by omega, ?_⟩
            refine ⟨fun hq7 => ?_, fun hq7 => ?_⟩
            · refine ⟨fun hq8 => ?_, fun hq8 => ?_⟩
              · exfalso
                have hbz : CL c = [] := List.eq_nil_of_length_eq_zero (by omega)
                have hk9 := hk0.resolve_right (fun k => k hbz)
                rcases hst with hst | ⟨h1, _⟩ <;> omega
              · exfalso
                have hbz : CL c = [] := List.eq_nil_of_length_eq_zero (by omega)
                have hk9 := hk0.resolve_right (fun k => k hbz)
                rcases hst with hst | ⟨h1, _⟩ <;> omega
            · have hbz : CL c = [] := List.eq_nil_of_length_eq_zero (by omega)
              exact Or.inl ⟨by rw [nzw_t c1, nzw_t cJ], by rw [if_pos hbz], by rw [hF.2 0 (by decide)]; exact h00, FK_trans FK_0 (FK_mono hF (by decide))⟩
          · have hb00 : CL c ≠ [] := fun e => by rw [e] at h36; simp at h36; omega
            have hb0 := bo_0 (L := CL c) (List.length_pos_iff.mpr hb00)
            have had := jz_adn (A := k) (B := bo (CL c)) (by omega) (by omega)
            have had2 := jz_adn (A := bo (CL c)) (B := k) (by omega) (by omega)
            simp only [-eq_self, had]
            refine ⟨fun hq9 => ?_, fun hq9 => ?_⟩
            · exact ih41 _ (by omega) _ _ _ _ _ rfl (⟨k + 1, rfl, rfl, by omega, Or.inr hb00, PT_no hst (fun e => by rw [e] at hq9; exact hq9 (by rw [hb0.2]; rfl)) (fun _ k => hq9 (by rw [k.1]; rfl)), hF⟩)
            · have hz : bdf k (bo (CL c)) = 0 := by omega
              have hr0 := (ML_gd (FK_ML hX0.2.1.1 hF (by decide) (by omega) (by omega) (by omega)) (i := 0) (by omega)).1
              have hx8 := hL8 _ (gd_mem (L := CL c) (t := 0) (by omega))
              have hbit := jz_bit (B := k) (k := (CL c).getD 0 0) (by omega) (by omega)
              have hwr1 := hwb_rng hW hC cJ k
              have hwr2 := hwb_rng hW hC cJ (bdf (bo (CL c)) k)
              have hbd : bdf (bo (CL c)) k < 2 ^ 8 := bdf_le _ _ hbo
              have hap := and_pow k ((CL c).getD 0 0)
              have hbt := bN_t k ((CL c).getD 0 0)
              have h01 := bN_01 k ((CL c).getD 0 0)
              refine ⟨_, r_M_34 hM, _, ⟨s_M_1344 hM, by decide⟩, ?_⟩
              try simp only [-eq_self, show (0 : Int).toNat = 0 from rfl, hr0, hbit]
              refine ⟨by omega, ?_⟩
              refine ⟨fun hq10 => ?_, fun hq10 => ?_⟩
              · have hb1 : bN k ((CL c).getD 0 0) = 1 := by omega
                rw [hb1] at hbt
                rw [hbt] at hap
                have hap2 : k &&& 2 ^ (CL c).getD 0 0 = 2 ^ (CL c).getD 0 0 := by rw [hap]; rfl
                have hpp : 0 < 2 ^ (CL c).getD 0 0 := Nat.two_pow_pos _
                have hba : k &&& 2 ^ (CL c).getD 0 0 ≠ 0 := by omega
                have hkb : 2 ^ (CL c).getD 0 0 ≤ k := by have := Nat.and_le_left (n := k) (m := 2 ^ (CL c).getD 0 0); omega
                refine ⟨_, cz_276 (B := k) hV hM (FK_MD hX0.1 hF (by decide) hW) hW (FK_MB hX0.2.1 hF (by decide) hW) (GDn_w hW hC) hC.2.1.2 (WC_8 hW hC) hC.2.1.1 (FK_ML hX0.2.2.1 hF (by decide) (by omega) (by omega) (by omega)) hJ1.2.1 hJ1.1.2 rfl (by omega), ?_⟩
                rintro _ I31 ⟨rfl, hF9⟩
                refine ⟨_, rfl, ?_⟩
                have hFb := FK_trans hF hF9
                have hwv : rs (Lr l) (CJ c) ((CJ c).length - 1) + jhs l (CJ c) ((CL c).filter (fun x => k.testBit x)) (Cg c) (Cd c) ((CJ c).length - 1) = hwb l c k := rfl
                simp only [-eq_self, hwv]
                refine ⟨fun hq11 => ?_, fun hq11 => ?_⟩
                · try simp only [-eq_self, had2]
                  refine ⟨_, cz_276 (B := bdf (bo (CL c)) k) hV hM (FK_MD hX0.1 hFb (by decide) hW) hW (FK_MB hX0.2.1 hFb (by decide) hW) (GDn_w hW hC) hC.2.1.2 (WC_8 hW hC) hC.2.1.1 (FK_ML hX0.2.2.1 hFb (by decide) (by omega) (by omega) (by omega)) hJ1.2.1 hJ1.1.2 rfl (by omega), ?_⟩
                  rintro _ I35 ⟨rfl, hF8⟩
                  refine ⟨_, rfl, ?_⟩
                  have hFc := FK_trans hFb hF8
                  have hwv2 : rs (Lr l) (CJ c) ((CJ c).length - 1) + jhs l (CJ c) ((CL c).filter (fun x => (bdf (bo (CL c)) k).testBit x)) (Cg c) (Cd c) ((CJ c).length - 1) = hwb l c (bdf (bo (CL c)) k) := rfl
                  simp only [-eq_self, hwv2]
                  refine hJ108 _ _ _ _ _ _ _ ?_
                  unfold wz_278_108
                  refine ⟨by omega, by omega, ?_⟩
                  refine ⟨fun hq12 => ?_, fun hq12 => ?_⟩
                  · refine hJ124 _ _ _ _ _ _ ?_
                    unfold wz_278_124
                    refine ⟨by omega, ?_⟩
                    refine ⟨fun hq13 => ?_, fun hq13 => ?_⟩
                    · refine hJ148 _ _ _ _ _ ?_
                      unfold wz_278_148
                      exact ih41 _ (by omega) _ _ _ _ _ rfl (⟨k + 1, rfl, rfl, by omega, Or.inr hb00, PT_yes hst hkb (by unfold ptv; first | (rw [if_neg (by omega)]; omega) | (rw [if_pos (by omega)]; omega)) (by omega) hz hba (by omega), hFc⟩)
                    · refine ⟨by omega, by omega, ?_⟩
                      refine ⟨fun hq14 => ?_, fun hq14 => ?_⟩
                      · refine hJ148 _ _ _ _ _ ?_
                        unfold wz_278_148
                        exact ih41 _ (by omega) _ _ _ _ _ rfl (⟨k + 1, rfl, rfl, by omega, Or.inr hb00, PT_yes hst hkb (by unfold ptv; first | (rw [if_neg (by omega)]; omega) | (rw [if_pos (by omega)]; omega)) (by omega) hz hba (by omega), hFc⟩)
                      · refine hJ148 _ _ _ _ _ ?_
                        unfold wz_278_148
                        exact ih41 _ (by omega) _ _ _ _ _ rfl (⟨k + 1, rfl, rfl, by omega, Or.inr hb00, PT_same hst (v := ptv l c k) rfl (by omega) (by unfold ptv; first | (rw [if_neg (by omega)]; omega) | (rw [if_pos (by omega)]; omega)), hFc⟩)
                  · refine hJ124 _ _ _ _ _ _ ?_
                    unfold wz_278_124
                    refine ⟨by omega, ?_⟩
                    refine ⟨fun hq15 => ?_, fun hq15 => ?_⟩
                    · refine hJ148 _ _ _ _ _ ?_
                      unfold wz_278_148
                      exact ih41 _ (by omega) _ _ _ _ _ rfl (⟨k + 1, rfl, rfl, by omega, Or.inr hb00, PT_yes hst hkb (by unfold ptv; first | (rw [if_neg (by omega)]; omega) | (rw [if_pos (by omega)]; omega)) (by omega) hz hba (by omega), hFc⟩)
                    · refine ⟨by omega, by omega, ?_⟩
                      refine ⟨fun hq16 => ?_, fun hq16 => ?_⟩
                      · refine hJ148 _ _ _ _ _ ?_
                        unfold wz_278_148
                        exact ih41 _ (by omega) _ _ _ _ _ rfl (⟨k + 1, rfl, rfl, by omega, Or.inr hb00, PT_yes hst hkb (by unfold ptv; first | (rw [if_neg (by omega)]; omega) | (rw [if_pos (by omega)]; omega)) (by omega) hz hba (by omega), hFc⟩)
                      · refine hJ148 _ _ _ _ _ ?_
                        unfold wz_278_148
                        exact ih41 _ (by omega) _ _ _ _ _ rfl (⟨k + 1, rfl, rfl, by omega, Or.inr hb00, PT_same hst (v := ptv l c k) rfl (by omega) (by unfold ptv; first | (rw [if_neg (by omega)]; omega) | (rw [if_pos (by omega)]; omega)), hFc⟩)
                · refine hJ108 _ _ _ _ _ _ _ ?_
                  unfold wz_278_108
                  refine ⟨by omega, by omega, ?_⟩
                  refine ⟨fun hq17 => ?_, fun hq17 => ?_⟩
                  · refine hJ124 _ _ _ _ _ _ ?_
                    unfold wz_278_124
                    refine ⟨by omega, ?_⟩
                    refine ⟨fun hq18 => ?_, fun hq18 => ?_⟩
                    · refine hJ148 _ _ _ _ _ ?_
                      unfold wz_278_148
                      exact ih41 _ (by omega) _ _ _ _ _ rfl (⟨k + 1, rfl, rfl, by omega, Or.inr hb00, PT_yes hst hkb (by unfold ptv; first | (rw [if_neg (by omega)]; omega) | (rw [if_pos (by omega)]; omega)) (by omega) hz hba (by omega), hFb⟩)
                    · refine ⟨by omega, by omega, ?_⟩
                      refine ⟨fun hq19 => ?_, fun hq19 => ?_⟩
                      · refine hJ148 _ _ _ _ _ ?_
                        unfold wz_278_148
                        exact ih41 _ (by omega) _ _ _ _ _ rfl (⟨k + 1, rfl, rfl, by omega, Or.inr hb00, PT_yes hst hkb (by unfold ptv; first | (rw [if_neg (by omega)]; omega) | (rw [if_pos (by omega)]; omega)) (by omega) hz hba (by omega), hFb⟩)
                      · refine hJ148 _ _ _ _ _ ?_
                        unfold wz_278_148
                        exact ih41 _ (by omega) _ _ _ _ _ rfl (⟨k + 1, rfl, rfl, by omega, Or.inr hb00, PT_same hst (v := ptv l c k) rfl (by omega) (by unfold ptv; first | (rw [if_neg (by omega)]; omega) | (rw [if_pos (by omega)]; omega)), hFb⟩)
                  · refine hJ124 _ _ _ _ _ _ ?_
                    unfold wz_278_124
                    refine ⟨by omega, ?_⟩
                    refine ⟨fun hq20 => ?_, fun hq20 => ?_⟩
                    · refine hJ148 _ _ _ _ _ ?_
                      unfold wz_278_148
                      exact ih41 _ (by omega) _ _ _ _ _ rfl (⟨k + 1, rfl, rfl, by omega, Or.inr hb00, PT_yes hst hkb (by unfold ptv; first | (rw [if_neg (by omega)]; omega) | (rw [if_pos (by omega)]; omega)) (by omega) hz hba (by omega), hFb⟩)
                    · refine ⟨by omega, by omega, ?_⟩
                      refine ⟨fun hq21 => ?_, fun hq21 => ?_⟩
                      · refine hJ148 _ _ _ _ _ ?_
                        unfold wz_278_148
                        exact ih41 _ (by omega) _ _ _ _ _ rfl (⟨k + 1, rfl, rfl, by omega, Or.inr hb00, PT_yes hst hkb (by unfold ptv; first | (rw [if_neg (by omega)]; omega) | (rw [if_pos (by omega)]; omega)) (by omega) hz hba (by omega), hFb⟩)
                      · refine hJ148 _ _ _ _ _ ?_
                        unfold wz_278_148
                        exact ih41 _ (by omega) _ _ _ _ _ rfl (⟨k + 1, rfl, rfl, by omega, Or.inr hb00, PT_same hst (v := ptv l c k) rfl (by omega) (by unfold ptv; first | (rw [if_neg (by omega)]; omega) | (rw [if_pos (by omega)]; omega)), hFb⟩)
              · have hb1 : bN k ((CL c).getD 0 0) = 0 := by omega
                rw [hb1] at hbt
                rw [hbt] at hap
                have hba : k &&& 2 ^ (CL c).getD 0 0 = 0 := by rw [hap]; rfl
                have hnb : k ≠ 2 ^ (CL c).getD 0 0 := fun e => by
                  rw [← e, Nat.and_self] at hba
                  have hpp : 0 < 2 ^ (CL c).getD 0 0 := Nat.two_pow_pos _
                  omega
                refine hJ148 _ _ _ _ _ ?_
                unfold wz_278_148
                exact ih41 _ (by omega) _ _ _ _ _ rfl (⟨k + 1, rfl, rfl, by omega, Or.inr hb00, PT_no hst hnb (fun _ k => k.2.1 hba), hF⟩)
      exact L41 _ _ _ _ _ _ rfl (⟨0, rfl, rfl, by omega, Or.inl rfl, Or.inl ⟨Nat.zero_le _, rfl⟩, FK_refl⟩)
    · have cJ := bi_t hq2
      rw [if_pos cJ] at hI
      subst hI
      exact Or.inr ⟨_, _, by rw [nzw_t c1]; exact nzw_f (fun k => k cJ), rfl, _, rfl⟩
  · have c1 := bi_f hq1
    refine hJ20 _ _ _ ?_
    unfold wz_278_20
    refine ⟨s_M_0 hM, ?_⟩
    refine ⟨_, cz_260b hV hM h00 rfl, ?_⟩
    rintro _ I11 ⟨rfl, e9⟩; replace e9 := e9.symm; subst e9
    refine ⟨_, rfl, ?_⟩
    refine ⟨by omega, ?_⟩
    refine ⟨fun hq22 => ?_, fun hq22 => ?_⟩
    · exact absurd hq22 (by decide)
    · exact Or.inr ⟨_, _, nzw_f c1, rfl, _, rfl⟩
