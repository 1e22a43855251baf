/-! ===== the reference: races, doubt, quarrels in the row, the longest halt ===== -/
/-- GrievingCamelsModel.race -/
theorem cz_289 {V : jx_V} (hV : V.1.stackTraces = false) {X : jx_X} {R : jx_R} {I : jx_I} {a0 : Nat} {a1 : Int} {l : LT} {c : CT} 
    (hM : MX X R a0) (hX : MSX I a0 l c) (hW : WT l) (hC : WC l c) (r_a1 : -2147483648 ≤ a1 ∧ a1 < 2147483648)
    {QE : String → jx_I → Prop} : jc V 5 289 (0, 0) [.ref a0, jy a1] X I R (fun rv I' => (nzw (0 ≤ a1 ∧ a1 ≤ 99) 2 1 (nzw (CJ c ≠ []) 3 2 (none)) = none ∧ rv = some (jy (ff (fun i => decide (a1 ≤ jhs l (CJ c) (CL c) (Cg c) (Cd c) i)) ((CJ c).length - 1) 0)) ∧ (I' a0 0).toInt = 0 ∧ FK a0 SCR I I') ∨ (∃ k w, nzw (0 ≤ a1 ∧ a1 ≤ 99) 2 1 (nzw (CJ c ≠ []) 3 2 (none)) = some (k, w) ∧ I' = RM (jx_u I a0 0 (Int32.ofInt 0)) a0 k w ∧ ∃ x : Int, rv = some (jy x))) QE := by
  have hW0 := hW.1
  have hW0 := hW.1
  refine wm_289 hV (by omega)  (fun J21 J40 hJJ => ?_)
  obtain ⟨hJ21, hJ40⟩ := hJJ
  unfold wz_289
  refine ⟨s_M_0 hM, ?_⟩
  intro I2 e_I2; subst e_I2
  have hX0 := MSX_0 (v := Int32.ofInt 0) hX hW
  have h00 : (jx_u I a0 0 (Int32.ofInt 0) a0 0).toInt = 0 := by rw [jx_u_s]; rfl
  refine ⟨_, cz_203 hV (by omega) (by omega) (by omega), ?_⟩
  rintro _ I5 ⟨rfl, e9⟩; replace e9 := e9.symm; subst e9
  refine ⟨_, rfl, ?_⟩
  refine ⟨by omega, ?_⟩
  refine ⟨fun hq1 => ?_, fun hq1 => ?_⟩
  · have c1 := bi_t hq1
    refine hJ21 _ _ _ ?_
    unfold wz_289_21
    refine ⟨s_M_0 hM, ?_⟩
    refine ⟨_, cz_260o hV hM h00 hX0.2.2.1.1 rfl, ?_⟩
    rintro _ I11 ⟨rfl, hI⟩
    refine ⟨_, rfl, ?_⟩
    refine ⟨by omega, ?_⟩
    refine ⟨fun hq2 => ?_, fun hq2 => ?_⟩
    · have cJ := bi_f hq2
      rw [if_neg cJ] at hI
      subst hI
      have hJ1 := WC_J hC cJ
      refine ⟨s_M_0 hM, ?_⟩
      refine ⟨_, cz_243 hV hM hX0.1 hW hX0.2.1 (GDn_w hW hC) hC.2.1.2 (WC_8 hW hC), ?_⟩
      rintro _ I17 ⟨rfl, hN1, hF1⟩
      refine ⟨rfl, ?_⟩
      have L40 : ∀ (n40 : Nat) (l2 : Int) (l3 : Int) (l4 : Int) (K : jx_I), n40 = (((CJ c).length : Int) - l4).toNat → (∃ n : Nat, l4 = (n + 1 : Nat) ∧ n + 1 ≤ (CJ c).length ∧ l2 = rs (Lr l) (CJ c) n ∧ l3 = jhs l (CJ c) (CL c) (Cg c) (Cd c) n ∧ ff (fun i => decide (a1 ≤ jhs l (CJ c) (CL c) (Cg c) (Cd c) i)) ((CJ c).length - 1) 0 = ff (fun i => decide (a1 ≤ jhs l (CJ c) (CL c) (Cg c) (Cd c) i)) ((CJ c).length - 1 - n) n ∧ MN K a0 l (CL c) (jst l (CJ c) (CL c) (Cg c) (Cd c) n).1 (jst l (CJ c) (CL c) (Cg c) (Cd c) n).2 ∧ FK a0 [46] (jx_u I a0 0 (Int32.ofInt 0)) K) → J40 l2 l3 l4 K := by
        intro n40
        induction n40 using Nat.strongRecOn with
        | ind n40 ih40 =>
        intro l2 l3 l4 K hn40 hI40
        obtain ⟨n, rfl, hn9, rfl, rfl, hff, hNK, hF⟩ := hI40
        have hJK := FK_ML hX0.2.2.1 hF (by decide) (by omega) (by omega) (by omega)
        have hDK := FK_MD hX0.1 hF (by decide) hW
        have h37 := hJK.1
        have hGi := GDn_j (l := l) (GDn_w hW hC) hJ1.2.1 hC.2.1.2 n (by omega)
        refine hJ40 _ _ _ _ ?_
        unfold wz_289_40
        refine ⟨s_M_0 hM, by omega, ?_⟩
        refine ⟨fun hq3 => ?_, fun hq3 => ?_⟩
        · rw [show (CJ c).length - 1 - n = 0 by omega] at hff
          exact Or.inl ⟨by rw [nzw_t c1, nzw_t cJ], by rw [hff]; rfl, by rw [hF.2 0 (by decide)]; exact h00, FK_trans FK_0 (FK_mono hF (by decide))⟩
        · obtain ⟨e1, m1⟩ := ML_gd hJK (i := n) (by omega)
          obtain ⟨e2, m2⟩ := ML_gd hJK (i := n + 1) (by omega)
          have b1 := hJ1.2.1 _ m1
          have b2 := hJ1.2.1 _ m2
          have hrr := (hW.2.2.1 _ _ b1 b2).1
          have hrv := hDK.2.2.1 _ _ b1 b2
          have hn := hW.1
          have hrb := rs_rng (r := Lr l) (J := CJ c) (b := 24) (fun k hk => by
            obtain ⟨e1, m1⟩ := ML_gd hJK (i := k) (by omega)
            obtain ⟨e2, m2⟩ := ML_gd hJK (i := k + 1) (by omega)
            exact (hW.2.2.1 _ _ (hJ1.2.1 _ m1) (hJ1.2.1 _ m2)).1) n (by omega)
          refine ⟨_, r_M_21 hM, _, r_M_35 hM, _, ⟨s_M_1345 hM, by decide⟩, ?_⟩
          try simp only [-eq_self, show (((n + 1 : Nat) : Int) - 1).toNat = n by omega, show ((n + 1 : Nat) : Int).toNat = n + 1 by omega, e1, e2]
          refine ⟨by omega, _, ⟨s_M_24 hM, by decide⟩, by omega, _, rr_M_24 hM (by omega), by omega, _, ⟨sr_M_24 hM (by omega), by decide⟩, ?_⟩
          try simp only [-eq_self, Int.toNat_natCast, hrv]
          refine ⟨by omega, by omega, ?_⟩
          refine ⟨_, cz_255 hV hM hDK hW hNK hGi hC.2.1.2 (WC_8 hW hC) hC.2.1.1 rfl b2, ?_⟩
          rintro _ I40 ⟨rfl, hN2, hF2⟩
          refine ⟨_, rfl, ?_⟩
          simp only [-eq_self, show hlt (Lc l) ((CL c).map ((jst l (CJ c) (CL c) (Cg c) (Cd c) n).1 ((CJ c).getD (n + 1) 0))) (nd (Lk l ((CJ c).getD (n + 1) 0))) = jht l (CJ c) (CL c) (Cg c) (Cd c) n from rfl]
          have hrg := jhs_rng l (CJ c) (CL c) (Cg c) (Cd c) n
          have hrg2 := jhs_rng l (CJ c) (CL c) (Cg c) (Cd c) (n + 1)
          have hst : jhs l (CJ c) (CL c) (Cg c) (Cd c) (n + 1) = jhs l (CJ c) (CL c) (Cg c) (Cd c) n + jht l (CJ c) (CL c) (Cg c) (Cd c) n := rfl
          refine ⟨by omega, by omega, ?_⟩
          refine ⟨fun hq4 => ?_, fun hq4 => ?_⟩
          · exact ih40 _ (by omega) _ _ _ _ rfl (⟨n + 1, by omega, by omega, rfl, hst.symm, by rw [hff, show (CJ c).length - 1 - n = ((CJ c).length - 1 - (n + 1)) + 1 by omega, ff_s, if_neg (by simp only [decide_eq_true_eq]; omega)], hN2, FK_trans hF (FK_c hF2)⟩)
          · have hF3 := FK_trans hF (FK_c (ks := [46]) hF2)
            exact Or.inl ⟨by rw [nzw_t c1, nzw_t cJ], by rw [hff, show (CJ c).length - 1 - n = ((CJ c).length - 1 - (n + 1)) + 1 by omega, ff_s, if_pos (by simp only [decide_eq_true_eq]; omega)], by rw [hF3.2 0 (by decide)]; exact h00, FK_trans FK_0 (FK_mono hF3 (by decide))⟩
      exact L40 _ _ _ _ _ rfl (⟨0, rfl, by have := hJ1.1; omega, rfl, rfl, rfl, hN1, hF1⟩)
    · have cJ := bi_t hq2
      rw [if_pos cJ] at hI
      subst hI
      exact Or.inr ⟨_, _, by rw [nzw_t c1]; exact nzw_f (fun k => k cJ), rfl, _, rfl⟩
  · have c1 := bi_f hq1
    refine hJ21 _ _ _ ?_
    unfold wz_289_21
    refine ⟨s_M_0 hM, ?_⟩
    refine ⟨_, cz_260b hV hM h00 rfl, ?_⟩
    rintro _ I11 ⟨rfl, e9⟩; replace e9 := e9.symm; subst e9
    refine ⟨_, rfl, ?_⟩
    refine ⟨by omega, ?_⟩
    refine ⟨fun hq5 => ?_, fun hq5 => ?_⟩
    · exact absurd hq5 (by decide)
    · exact Or.inr ⟨_, _, nzw_f c1, rfl, _, rfl⟩
theorem dbt_w {l : LT} {c : CT} {a b : Int} (q : Int) (h : Int32.ofInt a = Int32.ofInt b) : dbt l c a q = dbt l c b q := by
  unfold dbt
  rw [late_w a b q h]
/-- GrievingCamelsModel.doubtOf -/
theorem cz_290 {V : jx_V} (hV : V.1.stackTraces = false) {X : jx_X} {R : jx_R} {I : jx_I} {a0 : Nat} {a1 : Int} {a2 : Int} {l : LT} {c : CT}
    (hM : MX X R a0) (hX : MSX I a0 l c) (hW : WT l) (hC : WC l c) (hj : CJ c ≠ []) (r_a1 : -2147483648 ≤ a1 ∧ a1 < 2147483648) (h2 : 0 ≤ a2 ∧ a2 ≤ 8)
    {QE : String → jx_I → Prop} : jc V 6 290 (0, 0) [.ref a0, jy a1, jy a2] X I R (fun rv I' => rv = some (jy (dbt l c a1 a2)) ∧ FK a0 [46, 48, 49] I I') QE := by
  have hW0 := hW.1
  refine wm_290 hV (by omega) (by omega)  (fun J15 J52 hJJ => ?_)
  obtain ⟨hJ15, hJ52⟩ := hJJ
  have hJ1 := WC_J hC hj
  have hn := hW.1
  unfold wz_290
  refine ⟨s_M_0 hM, ?_⟩
  refine ⟨_, cz_243 hV hM hX.1 hW hX.2.1 (GDn_w hW hC) hC.2.1.2 (WC_8 hW hC), ?_⟩
  rintro _ I4 ⟨rfl, hN1, hF1⟩
  refine ⟨rfl, ?_⟩
  refine ⟨_, cz_258 hV hM (FK_MD hX.1 hF1 (by decide) hW) hW hN1 (GDn_w hW hC) hC.2.1.2 (WC_8 hW hC) hC.2.1.1 (FK_ML hX.2.2.1 hF1 (by decide) (by omega) (by omega) (by omega)) hJ1.2.1 hJ1.1.2, ?_⟩
  rintro _ I8 ⟨rfl, h48, h49, hN9, hF9⟩
  refine ⟨_, rfl, ?_⟩
  have hF : FK a0 [46, 48, 49] I I8 := FK_trans (FK_mono hF1 (by decide)) (FK_mono hF9 (by decide))
  have h37 := (FK_ML hX.2.2.1 hF (by decide) (by omega) (by omega) (by omega)).1
  have hrr := hrs_rng hW hJ1.2.1 hJ1.1.2 (CL c) (Cg c) (Cd c)
  have L15 : ∀ (n15 : Nat) (l3 : Int) (l4 : Int) (l5 : Int) (K : jx_I), n15 = (((CJ c).length : Int) - l5).toNat → (∃ n : Nat, l5 = (n + 1 : Nat) ∧ n + 1 ≤ (CJ c).length ∧ l3 = lot a1 n ∧ l4 = hrs l (CJ c) (CL c) (Cg c) (Cd c) + late a1 a2 n ∧ K = I8) → J15 l3 l4 l5 K := by
    intro n15
    induction n15 using Nat.strongRecOn with
    | ind n15 ih15 =>
    intro l3 l4 l5 K hn15 hI15
    obtain ⟨n, rfl, hn9, rfl, rfl, rfl⟩ := hI15
    have hb := jz_lots (lot a1 n * 1103515245 + 12345)
    have hbr : 0 ≤ lotb (lot a1 n * 1103515245 + 12345) ∧ lotb (lot a1 n * 1103515245 + 12345) < 8 := by unfold lotb; omega
    have hls : late a1 a2 (n + 1) = late a1 a2 n + if lotb (lot a1 n * 1103515245 + 12345) < a2 then 1 else 0 := rfl
    have hlr := late_rng a1 a2 n
    refine hJ15 _ _ _ _ ?_
    unfold wz_290_15
    refine ⟨s_M_0 hM, by omega, ?_⟩
    refine ⟨fun hq1 => ?_, fun hq1 => ?_⟩
    · unfold dbt
      rw [show (CJ c).length - 1 = n by omega]
      exact ⟨rfl, hF⟩
    · simp only [-eq_self, hb]
      refine ⟨fun hq2 => ?_, fun hq2 => ?_⟩
      · refine hJ52 _ _ _ _ _ ?_
        unfold wz_290_52
        exact ih15 _ (by omega) _ _ _ _ rfl (⟨n + 1, by omega, by omega, rfl, by rw [hls, if_neg (by omega)]; omega, rfl⟩)
      · refine hJ52 _ _ _ _ _ ?_
        unfold wz_290_52
        exact ih15 _ (by omega) _ _ _ _ rfl (⟨n + 1, by omega, by omega, rfl, by rw [hls, if_pos (by omega)]; omega, rfl⟩)
  exact L15 _ _ _ _ _ rfl (⟨0, rfl, by have := hJ1.1; omega, rfl, by show _ = hrs l (CJ c) (CL c) (Cg c) (Cd c) + 0; rw [Int.add_zero]; rfl, rfl⟩)
/-- GrievingCamelsModel.doubt -/
theorem cz_291 {V : jx_V} (hV : V.1.stackTraces = false) {X : jx_X} {R : jx_R} {I : jx_I} {a0 : Nat} {a1 : Int} {a2 : Int} {l : LT} {c : CT} 
    (hM : MX X R a0) (hX : MSX I a0 l c) (hW : WT l) (hC : WC l c) (r_a1 : -2147483648 ≤ a1 ∧ a1 < 2147483648) (r_a2 : -2147483648 ≤ a2 ∧ a2 < 2147483648)
    {QE : String → jx_I → Prop} : jc V 7 291 (0, 0) [.ref a0, jy a1, jy a2] X I R (fun rv I' => (nzw (0 ≤ a2 ∧ a2 ≤ 8) 2 1 (nzw (CJ c ≠ []) 3 2 (none)) = none ∧ rv = some (jy (dbt l c a1 a2)) ∧ (I' a0 0).toInt = 0 ∧ FK a0 SCR I I') ∨ (∃ k w, nzw (0 ≤ a2 ∧ a2 ≤ 8) 2 1 (nzw (CJ c ≠ []) 3 2 (none)) = some (k, w) ∧ I' = RM (jx_u I a0 0 (Int32.ofInt 0)) a0 k w ∧ ∃ x : Int, rv = some (jy x))) QE := by
  have hW0 := hW.1
  have hW0 := hW.1
  refine wm_291 hV (by omega) (by omega)  (fun J21 hJJ => ?_)
  have hJ21 := hJJ
  unfold wz_291
  refine ⟨s_M_0 hM, ?_⟩
  intro I2 e_I2; subst e_I2
  have hX0 := MSX_0 (v := Int32.ofInt 0) hX hW
  have h00 : (jx_u I a0 0 (Int32.ofInt 0) a0 0).toInt = 0 := by rw [jx_u_s]; rfl
  refine ⟨_, cz_203 hV (by omega) (by omega) (by omega), ?_⟩
  rintro _ I5 ⟨rfl, e9⟩; replace e9 := e9.symm; subst e9
  refine ⟨_, rfl, ?_⟩
  refine ⟨by omega, ?_⟩
  refine ⟨fun hq1 => ?_, fun hq1 => ?_⟩
  · have c1 := bi_t hq1
    refine hJ21 _ _ _ ?_
    unfold wz_291_21
    refine ⟨s_M_0 hM, ?_⟩
    refine ⟨_, cz_260o hV hM h00 hX0.2.2.1.1 rfl, ?_⟩
    rintro _ I11 ⟨rfl, hI⟩
    refine ⟨_, rfl, ?_⟩
    refine ⟨by omega, ?_⟩
    refine ⟨fun hq2 => ?_, fun hq2 => ?_⟩
    · have cJ := bi_f hq2
      rw [if_neg cJ] at hI
      subst hI
      have hJ1 := WC_J hC cJ
      refine ⟨s_M_0 hM, ?_⟩
      refine ⟨_, cz_290 hV hM hX0 hW hC cJ (by omega) c1, ?_⟩
      rintro _ I17 ⟨rfl, hF⟩
      refine ⟨_, rfl, ?_⟩
      exact Or.inl ⟨by rw [nzw_t c1, nzw_t cJ], rfl, by rw [hF.2 0 (by decide)]; exact h00, FK_trans FK_0 (FK_mono hF (by decide))⟩
    · have cJ := bi_t hq2
      rw [if_pos cJ] at hI
      subst hI
      exact Or.inr ⟨_, _, by rw [nzw_t c1]; exact nzw_f (fun k => k cJ), rfl, _, rfl⟩
  · have c1 := bi_f hq1
    refine hJ21 _ _ _ ?_
    unfold wz_291_21
    refine ⟨s_M_0 hM, ?_⟩
    refine ⟨_, cz_260b hV hM h00 rfl, ?_⟩
    rintro _ I11 ⟨rfl, e9⟩; replace e9 := e9.symm; subst e9
    refine ⟨_, rfl, ?_⟩
    refine ⟨by omega, ?_⟩
    refine ⟨fun hq3 => ?_, fun hq3 => ?_⟩
    · exact absurd hq3 (by decide)
    · exact Or.inr ⟨_, _, nzw_f c1, rfl, _, rfl⟩
/-- GrievingCamelsModel.span -/
theorem cz_292 {V : jx_V} (hV : V.1.stackTraces = false) {X : jx_X} {R : jx_R} {I : jx_I} {a0 : Nat} {a1 : Int} {a2 : Int} {a3 : Int} {a4 : Int} {l : LT} {c : CT} 
    (hM : MX X R a0) (hX : MSX I a0 l c) (hW : WT l) (hC : WC l c) (r_a1 : -2147483648 ≤ a1 ∧ a1 < 2147483648) (r_a2 : -2147483648 ≤ a2 ∧ a2 < 2147483648) (r_a3 : -2147483648 ≤ a3 ∧ a3 < 2147483648) (r_a4 : -2147483648 ≤ a4 ∧ a4 < 2147483648)
    {QE : String → jx_I → Prop} : jc V 7 292 (0, 0) [.ref a0, jy a1, jy a2, jy a3, jy a4] X I R (fun rv I' => (nzw ((0 ≤ a2 ∧ a2 ≤ 8) ∧ (1 ≤ a3 ∧ a3 ≤ 60) ∧ (0 ≤ a4 ∧ a4 ≤ 2)) 2 1 (nzw (CJ c ≠ []) 3 2 (none)) = none ∧ rv = some (jy (if a4 = 0 then spl (fun k => dbt l c (a1 + k) a2) a3.toNat else if a4 = 1 then spg (fun k => dbt l c (a1 + k) a2) a3.toNat else spa (fun k => dbt l c (a1 + k) a2) a3.toNat)) ∧ (I' a0 0).toInt = 0 ∧ FK a0 SCR I I') ∨ (∃ k w, nzw ((0 ≤ a2 ∧ a2 ≤ 8) ∧ (1 ≤ a3 ∧ a3 ≤ 60) ∧ (0 ≤ a4 ∧ a4 ≤ 2)) 2 1 (nzw (CJ c ≠ []) 3 2 (none)) = some (k, w) ∧ I' = RM (jx_u I a0 0 (Int32.ofInt 0)) a0 k w ∧ ∃ x : Int, rv = some (jy x))) QE := by
  have hW0 := hW.1
  have hW0 := hW.1
  refine wm_292 hV (by omega) (by omega) (by omega) (by omega)  (fun J41 J61 J105 J121 hJJ => ?_)
  obtain ⟨hJ41, hJ61, hJ105, hJ121⟩ := hJJ
  unfold wz_292
  refine ⟨s_M_0 hM, ?_⟩
  intro I2 e_I2; subst e_I2
  have hX0 := MSX_0 (v := Int32.ofInt 0) hX hW
  have h00 : (jx_u I a0 0 (Int32.ofInt 0) a0 0).toInt = 0 := by rw [jx_u_s]; rfl
  refine ⟨_, cz_203 hV (by omega) (by omega) (by omega), ?_⟩
  rintro _ I5 ⟨rfl, e9⟩; replace e9 := e9.symm; subst e9
  refine ⟨_, rfl, ?_⟩
  refine ⟨by omega, ?_⟩
  refine ⟨fun hq1 => ?_, fun hq1 => ?_⟩
  · have c1 := bi_f hq1
    refine hJ41 _ _ _ ?_
    unfold wz_292_41
    refine ⟨s_M_0 hM, ?_⟩
    refine ⟨_, cz_260b hV hM h00 rfl, ?_⟩
    rintro _ I21 ⟨rfl, e9⟩; replace e9 := e9.symm; subst e9
    refine ⟨_, rfl, ?_⟩
    refine ⟨by omega, ?_⟩
    refine ⟨fun hq2 => ?_, fun hq2 => ?_⟩
    · exact absurd hq2 (by decide)
    · exact Or.inr ⟨_, _, nzw_f (fun k => c1 k.1), rfl, _, rfl⟩
  · have c1 := bi_t hq1
    refine ⟨_, cz_203 hV (by omega) (by omega) (by omega), ?_⟩
    rintro _ I10 ⟨rfl, e9⟩; replace e9 := e9.symm; subst e9
    refine ⟨_, rfl, ?_⟩
    refine ⟨by omega, ?_⟩
    refine ⟨fun hq3 => ?_, fun hq3 => ?_⟩
    · have c2 := bi_f hq3
      refine hJ41 _ _ _ ?_
      unfold wz_292_41
      refine ⟨s_M_0 hM, ?_⟩
      refine ⟨_, cz_260b hV hM h00 rfl, ?_⟩
      rintro _ I21 ⟨rfl, e9⟩; replace e9 := e9.symm; subst e9
      refine ⟨_, rfl, ?_⟩
      refine ⟨by omega, ?_⟩
      refine ⟨fun hq4 => ?_, fun hq4 => ?_⟩
      · exact absurd hq4 (by decide)
      · exact Or.inr ⟨_, _, nzw_f (fun k => c2 k.2.1), rfl, _, rfl⟩
    · have c2 := bi_t hq3
      refine ⟨_, cz_203 hV (by omega) (by omega) (by omega), ?_⟩
      rintro _ I15 ⟨rfl, e9⟩; replace e9 := e9.symm; subst e9
      refine ⟨_, rfl, ?_⟩
      refine ⟨by omega, ?_⟩
      refine ⟨fun hq5 => ?_, fun hq5 => ?_⟩
      · have c3 := bi_t hq5
        refine hJ41 _ _ _ ?_
        unfold wz_292_41
        refine ⟨s_M_0 hM, ?_⟩
        refine ⟨_, cz_260o hV hM h00 hX0.2.2.1.1 rfl, ?_⟩
        rintro _ I21 ⟨rfl, hI⟩
        refine ⟨_, rfl, ?_⟩
        refine ⟨by omega, ?_⟩
        refine ⟨fun hq6 => ?_, fun hq6 => ?_⟩
        · have cJ := bi_f hq6
          rw [if_neg cJ] at hI
          subst hI
          have hJ1 := WC_J hC cJ
          have L61 : ∀ (n61 : Nat) (l5 : Int) (l6 : Int) (l7 : Int) (l8 : Int) (K : jx_I), n61 = (a3 - l8).toNat → (∃ k : Nat, l8 = k ∧ k ≤ a3.toNat ∧ l5 = spa (fun k => dbt l c (a1 + k) a2) k ∧ ((k = 0 ∧ l6 = -1 ∧ l7 = -1) ∨ (0 < k ∧ l6 = spl (fun k => dbt l c (a1 + k) a2) k ∧ l7 = spg (fun k => dbt l c (a1 + k) a2) k)) ∧ FK a0 [46, 48, 49] (jx_u I a0 0 (Int32.ofInt 0)) K) → J61 l5 l6 l7 l8 K := by
            intro n61
            induction n61 using Nat.strongRecOn with
            | ind n61 ih61 =>
            intro l5 l6 l7 l8 K hn61 hI61
            obtain ⟨k, rfl, hk, rfl, hst, hF⟩ := hI61
            have hdr := fun k : Nat => dbt_rng hW hC cJ (a1 + k) a2
            have hdk := hdr k
            have hl1 := spl_rng (fun k => dbt l c (a1 + k) a2) (fun k => (hdr k).1) k
            have hl2 := spg_rng (fun k => dbt l c (a1 + k) a2) hdr k
            have hsl : spl (fun k => dbt l c (a1 + k) a2) (k + 1) = min (spl (fun k => dbt l c (a1 + k) a2) k) (dbt l c (a1 + (k : Int)) a2) := rfl
            have hsg : spg (fun k => dbt l c (a1 + k) a2) (k + 1) = max (spg (fun k => dbt l c (a1 + k) a2) k) (dbt l c (a1 + (k : Int)) a2) := rfl
            have hz : k = 0 → spl (fun k => dbt l c (a1 + k) a2) k = 2147483647 ∧ spg (fun k => dbt l c (a1 + k) a2) k = 0 := fun e => by rw [e]; exact ⟨rfl, rfl⟩
            refine hJ61 _ _ _ _ _ ?_
            unfold wz_292_61
            refine ⟨by omega, ?_⟩
            refine ⟨fun hq7 => ?_, fun hq7 => ?_⟩
            · refine ⟨fun hq8 => ?_, fun hq8 => ?_⟩
              · refine ⟨fun hq9 => ?_, fun hq9 => ?_⟩
                · rw [show a3.toNat = k by omega]
                  exact Or.inl ⟨by rw [nzw_t ⟨c1, c2, c3⟩, nzw_t cJ], by rw [if_neg (by omega), if_neg (by omega)], by rw [hF.2 0 (by decide)]; exact h00, FK_trans FK_0 (FK_mono hF (by decide))⟩
                · rw [show a3.toNat = k by omega]
                  exact Or.inl ⟨by rw [nzw_t ⟨c1, c2, c3⟩, nzw_t cJ], by rw [if_neg (by omega), if_pos (by omega), show l7 = spg (fun k => dbt l c (a1 + k) a2) k by omega], by rw [hF.2 0 (by decide)]; exact h00, FK_trans FK_0 (FK_mono hF (by decide))⟩
              · rw [show a3.toNat = k by omega]
                exact Or.inl ⟨by rw [nzw_t ⟨c1, c2, c3⟩, nzw_t cJ], by rw [if_pos (by omega), show l6 = spl (fun k => dbt l c (a1 + k) a2) k by omega], by rw [hF.2 0 (by decide)]; exact h00, FK_trans FK_0 (FK_mono hF (by decide))⟩
            · refine ⟨s_M_0 hM, ?_⟩
              refine ⟨_, by rw [jy_wrap (a1 + (k : Int))]; exact cz_290 hV hM (MSX_s hX0 (FK_mono hF (by decide)) hW) hW hC cJ (jy_rng _) c1, ?_⟩
              rintro _ I28 ⟨rfl, hF9⟩
              refine ⟨_, rfl, ?_⟩
              simp only [-eq_self, show dbt l c (Int32.ofInt (a1 + (k : Int))).toInt a2 = dbt l c (a1 + (k : Int)) a2 from dbt_w a2 (by rw [Int32.ofInt_toInt])]
              refine ⟨by omega, ?_⟩
              refine ⟨fun hq10 => ?_, fun hq10 => ?_⟩
              · refine hJ105 _ _ _ _ _ _ ?_
                unfold wz_292_105
                refine ⟨by omega, by omega, ?_⟩
                refine ⟨fun hq11 => ?_, fun hq11 => ?_⟩
                · refine hJ121 _ _ _ _ _ ?_
                  unfold wz_292_121
                  exact ih61 _ (by omega) _ _ _ _ _ rfl (⟨k + 1, by omega, by omega, rfl, Or.inr ⟨by omega, by omega, by omega⟩, FK_trans hF hF9⟩)
                · refine hJ121 _ _ _ _ _ ?_
                  unfold wz_292_121
                  exact ih61 _ (by omega) _ _ _ _ _ rfl (⟨k + 1, by omega, by omega, rfl, Or.inr ⟨by omega, by omega, by omega⟩, FK_trans hF hF9⟩)
              · refine ⟨by omega, ?_⟩
                refine ⟨fun hq12 => ?_, fun hq12 => ?_⟩
                · refine hJ105 _ _ _ _ _ _ ?_
                  unfold wz_292_105
                  refine ⟨by omega, by omega, ?_⟩
                  refine ⟨fun hq13 => ?_, fun hq13 => ?_⟩
                  · refine hJ121 _ _ _ _ _ ?_
                    unfold wz_292_121
                    exact ih61 _ (by omega) _ _ _ _ _ rfl (⟨k + 1, by omega, by omega, rfl, Or.inr ⟨by omega, by omega, by omega⟩, FK_trans hF hF9⟩)
                  · refine hJ121 _ _ _ _ _ ?_
                    unfold wz_292_121
                    exact ih61 _ (by omega) _ _ _ _ _ rfl (⟨k + 1, by omega, by omega, rfl, Or.inr ⟨by omega, by omega, by omega⟩, FK_trans hF hF9⟩)
                · refine hJ105 _ _ _ _ _ _ ?_
                  unfold wz_292_105
                  refine ⟨by omega, by omega, ?_⟩
                  refine ⟨fun hq14 => ?_, fun hq14 => ?_⟩
                  · refine hJ121 _ _ _ _ _ ?_
                    unfold wz_292_121
                    exact ih61 _ (by omega) _ _ _ _ _ rfl (⟨k + 1, by omega, by omega, rfl, Or.inr ⟨by omega, by omega, by omega⟩, FK_trans hF hF9⟩)
                  · refine hJ121 _ _ _ _ _ ?_
                    unfold wz_292_121
                    exact ih61 _ (by omega) _ _ _ _ _ rfl (⟨k + 1, by omega, by omega, rfl, Or.inr ⟨by omega, by omega, by omega⟩, FK_trans hF hF9⟩)
          exact L61 _ _ _ _ _ _ rfl (⟨0, rfl, by omega, rfl, Or.inl ⟨rfl, rfl, rfl⟩, FK_refl⟩)
        · have cJ := bi_t hq6
          rw [if_pos cJ] at hI
          subst hI
          exact Or.inr ⟨_, _, by rw [nzw_t ⟨c1, c2, c3⟩]; exact nzw_f (fun k => k cJ), rfl, _, rfl⟩
      · have c3 := bi_f hq5
        refine hJ41 _ _ _ ?_
        unfold wz_292_41
        refine ⟨s_M_0 hM, ?_⟩
        refine ⟨_, cz_260b hV hM h00 rfl, ?_⟩
        rintro _ I21 ⟨rfl, e9⟩; replace e9 := e9.symm; subst e9
        refine ⟨_, rfl, ?_⟩
        refine ⟨by omega, ?_⟩
        refine ⟨fun hq15 => ?_, fun hq15 => ?_⟩
        · exact absurd hq15 (by decide)
        · exact Or.inr ⟨_, _, nzw_f (fun k => c3 k.2.2), rfl, _, rfl⟩
/-- GrievingCamelsModel.shy -/
theorem cz_299 {V : jx_V} (hV : V.1.stackTraces = false) {X : jx_X} {R : jx_R} {I : jx_I} {a0 : Nat} {l : LT} {c : CT} 
    (hM : MX X R a0) (hX : MSX I a0 l c) (hW : WT l) (hC : WC l c) 
    {QE : String → jx_I → Prop} : jc V 1 299 (0, 0) [.ref a0] X I R (fun rv I' => ((none : Option (Nat × Int)) = none ∧ rv = some (jy (qn (Lf l) (CL c) ((CL c).length - 1) : Nat)) ∧ (I' a0 0).toInt = 0 ∧ FK a0 SCR I I') ∨ (∃ k w, (none : Option (Nat × Int)) = some (k, w) ∧ I' = RM (jx_u I a0 0 (Int32.ofInt 0)) a0 k w ∧ ∃ x : Int, rv = some (jy x))) QE := by
  have hW0 := hW.1
  have hW0 := hW.1
  refine wm_299 hV   (fun J9 hJJ => ?_)
  have hJ9 := hJJ
  unfold wz_299
  refine ⟨s_M_0 hM, ?_⟩
  intro I2 e_I2; subst e_I2
  have hX0 := MSX_0 (v := Int32.ofInt 0) hX hW
  have h00 : (jx_u I a0 0 (Int32.ofInt 0) a0 0).toInt = 0 := by rw [jx_u_s]; rfl
  have L9 : ∀ (n9 : Nat) (l1 : Int) (l2 : Int) (K : jx_I), n9 = (((CL c).length : Int) - l2).toNat → (∃ n : Nat, l2 = (n + 1 : Nat) ∧ (n + 1 ≤ (CL c).length ∨ n = 0) ∧ l1 = (qn (Lf l) (CL c) n : Nat) ∧ K = jx_u I a0 0 (Int32.ofInt 0)) → J9 l1 l2 K := by
    intro n9
    induction n9 using Nat.strongRecOn with
    | ind n9 ih9 =>
    intro l1 l2 K hn9 hI9
    obtain ⟨n, rfl, hn9, rfl, rfl⟩ := hI9
    have h36 := hX0.2.1.1.1
    have h8 := WC_8 hW hC
    have hn := hW.1
    refine hJ9 _ _ _ ?_
    unfold wz_299_9
    refine ⟨s_M_0 hM, by omega, ?_⟩
    refine ⟨fun hq1 => ?_, fun hq1 => ?_⟩
    · rw [show (CL c).length - 1 = n by omega]
      exact Or.inl ⟨rfl, rfl, h00, FK_0⟩
    · obtain ⟨e1, m1⟩ := ML_gd hX0.2.1.1 (i := n) (by omega)
      obtain ⟨e2, m2⟩ := ML_gd hX0.2.1.1 (i := n + 1) (by omega)
      have b1 := hC.2.1.2 _ m1
      have b2 := hC.2.1.2 _ m2
      have hcc := hW.2.2.2.1 _ b2
      have hf := (hX0.1.2.2.2.1 _ b2).2.2
      have hbit := jz_bit (B := Lf l ((CL c).getD (n + 1) 0)) (k := (CL c).getD n 0) (by omega) (by omega)
      have hsym := hW.2.2.2.2.1 _ _ b2 b1
      refine ⟨_, r_M_19 hM, _, r_M_34 hM, _, ⟨s_M_1344 hM, by decide⟩, ?_⟩
      try simp only [-eq_self, show (((n + 1 : Nat) : Int) - 1).toNat = n by omega, show ((n + 1 : Nat) : Int).toNat = n + 1 by omega, e1, e2]
      refine ⟨by omega, _, ⟨s_M_12 hM, by decide⟩, ?_⟩
      try simp only [-eq_self, Int.toNat_natCast, hf, hbit, hsym]
      refine ⟨by omega, by omega, ?_⟩
      exact ih9 _ (by omega) _ _ _ rfl (⟨n + 1, by omega, by omega, by show _ = ((qn (Lf l) (CL c) n + bN (Lf l ((CL c).getD n 0)) ((CL c).getD (n + 1) 0) : Nat) : Int); omega, rfl⟩)
  exact L9 _ _ _ _ rfl (⟨0, rfl, Or.inr rfl, rfl, rfl⟩)
theorem hvy_n (f : Nat → Int) (n : Nat) (h : 0 < n) : hvy f n = if f (hvy f (n - 1)) < f n then n else hvy f (n - 1) := by
  obtain ⟨m, rfl⟩ : ∃ m, n = m + 1 := ⟨n - 1, by omega⟩
  exact hvy_s f m
/-- GrievingCamelsModel.heavy -/
theorem cz_300 {V : jx_V} (hV : V.1.stackTraces = false) {X : jx_X} {R : jx_R} {I : jx_I} {a0 : Nat} {l : LT} {c : CT} 
    (hM : MX X R a0) (hX : MSX I a0 l c) (hW : WT l) (hC : WC l c) 
    {QE : String → jx_I → Prop} : jc V 5 300 (0, 0) [.ref a0] X I R (fun rv I' => (nzw (CJ c ≠ []) 3 1 (none) = none ∧ rv = some (jy ((hvy (jht l (CJ c) (CL c) (Cg c) (Cd c)) ((CJ c).length - 2) + 1 : Nat) : Int)) ∧ (I' a0 0).toInt = 0 ∧ FK a0 SCR I I') ∨ (∃ k w, nzw (CJ c ≠ []) 3 1 (none) = some (k, w) ∧ I' = RM (jx_u I a0 0 (Int32.ofInt 0)) a0 k w ∧ ∃ x : Int, rv = some (jy x))) QE := by
  have hW0 := hW.1
  have hW0 := hW.1
  refine wm_300 hV   (fun J24 J58 hJJ => ?_)
  obtain ⟨hJ24, hJ58⟩ := hJJ
  unfold wz_300
  refine ⟨s_M_0 hM, ?_⟩
  intro I2 e_I2; subst e_I2
  have hX0 := MSX_0 (v := Int32.ofInt 0) hX hW
  have h00 : (jx_u I a0 0 (Int32.ofInt 0) a0 0).toInt = 0 := by rw [jx_u_s]; rfl
  refine ⟨_, cz_259 hV hM h00 hX0.2.2.1.1, ?_⟩
  rintro _ I5 ⟨rfl, hI⟩
  refine ⟨_, rfl, ?_⟩
  refine ⟨by omega, ?_⟩
  refine ⟨fun hq1 => ?_, fun hq1 => ?_⟩
  · have cJ := bi_f hq1
    rw [if_neg cJ] at hI
    subst hI
    have hJ1 := WC_J hC cJ
    refine ⟨_, cz_243 hV hM hX0.1 hW hX0.2.1 (GDn_w hW hC) hC.2.1.2 (WC_8 hW hC), ?_⟩
    rintro _ I10 ⟨rfl, hN1, hF1⟩
    refine ⟨rfl, ?_⟩
    have L24 : ∀ (n24 : Nat) (l1 : Int) (l2 : Int) (l3 : Int) (K : jx_I), n24 = (((CJ c).length : Int) - l3).toNat → (∃ n : Nat, l3 = (n + 1 : Nat) ∧ n + 1 ≤ (CJ c).length ∧ ((n = 0 ∧ l1 = 1 ∧ l2 = -1) ∨ (0 < n ∧ l1 = (hvy (jht l (CJ c) (CL c) (Cg c) (Cd c)) (n - 1) + 1 : Nat) ∧ l2 = jht l (CJ c) (CL c) (Cg c) (Cd c) (hvy (jht l (CJ c) (CL c) (Cg c) (Cd c)) (n - 1)) ∧ 0 ≤ l2 ∧ l2 ≤ 99)) ∧ MN K a0 l (CL c) (jst l (CJ c) (CL c) (Cg c) (Cd c) n).1 (jst l (CJ c) (CL c) (Cg c) (Cd c) n).2 ∧ FK a0 [46] (jx_u I a0 0 (Int32.ofInt 0)) K) → J24 l1 l2 l3 K := by
      intro n24
      induction n24 using Nat.strongRecOn with
      | ind n24 ih24 =>
      intro l1 l2 l3 K hn24 hI24
      obtain ⟨n, rfl, hn9, hst, hNK, hF⟩ := hI24
      have hJK := FK_ML hX0.2.2.1 hF (by decide) (by omega) (by omega) (by omega)
      have hDK := FK_MD hX0.1 hF (by decide) hW
      have h37 := hJK.1
      have hGi := GDn_j (l := l) (GDn_w hW hC) hJ1.2.1 hC.2.1.2 n (by omega)
      have hle := hvy_le (jht l (CJ c) (CL c) (Cg c) (Cd c)) (n - 1)
      refine hJ24 _ _ _ _ ?_
      unfold wz_300_24
      refine ⟨s_M_0 hM, by omega, ?_⟩
      refine ⟨fun hq2 => ?_, fun hq2 => ?_⟩
      · have h12 := hJ1.1
        obtain ⟨h0, h1, h2, h3⟩ := hst.resolve_left (fun k => by omega)
        rw [show (CJ c).length - 2 = n - 1 by omega]
        exact Or.inl ⟨nzw_t cJ, by rw [h1], by rw [hF.2 0 (by decide)]; exact h00, FK_trans FK_0 (FK_mono hF (by decide))⟩
      · obtain ⟨e2, m2⟩ := ML_gd hJK (i := n + 1) (by omega)
        have b2 := hJ1.2.1 _ m2
        have hn := hW.1
        have hht := hlt_rng (Lc l) ((CL c).map ((jst l (CJ c) (CL c) (Cg c) (Cd c) n).1 ((CJ c).getD (n + 1) 0))) (nd (Lk l ((CJ c).getD (n + 1) 0)))
        rw [show hlt (Lc l) ((CL c).map ((jst l (CJ c) (CL c) (Cg c) (Cd c) n).1 ((CJ c).getD (n + 1) 0))) (nd (Lk l ((CJ c).getD (n + 1) 0))) = jht l (CJ c) (CL c) (Cg c) (Cd c) n from rfl] at hht
        refine ⟨_, r_M_35 hM, _, ⟨s_M_1345 hM, by decide⟩, ?_⟩
        try simp only [-eq_self, show ((n + 1 : Nat) : Int).toNat = n + 1 by omega, e2]
        refine ⟨by omega, ?_⟩
        refine ⟨_, cz_255 hV hM hDK hW hNK hGi hC.2.1.2 (WC_8 hW hC) hC.2.1.1 rfl b2, ?_⟩
        rintro _ I21 ⟨rfl, hN2, hF2⟩
        refine ⟨_, rfl, ?_⟩
        simp only [-eq_self, show hlt (Lc l) ((CL c).map ((jst l (CJ c) (CL c) (Cg c) (Cd c) n).1 ((CJ c).getD (n + 1) 0))) (nd (Lk l ((CJ c).getD (n + 1) 0))) = jht l (CJ c) (CL c) (Cg c) (Cd c) n from rfl]
        refine ⟨by omega, by omega, ?_⟩
        refine ⟨fun hq3 => ?_, fun hq3 => ?_⟩
        · refine hJ58 _ _ _ _ ?_
          unfold wz_300_58
          have hh : hvy (jht l (CJ c) (CL c) (Cg c) (Cd c)) n = n := by
            rcases hst with ⟨h0, _, _⟩ | ⟨h0, _, h2, _⟩
            · subst h0; rfl
            · rw [hvy_n _ n h0, if_pos (by omega)]
          exact ih24 _ (by omega) _ _ _ _ rfl (⟨n + 1, by omega, by omega, Or.inr ⟨by omega, by rw [show n + 1 - 1 = n by omega, hh], by rw [show n + 1 - 1 = n by omega, hh], hht.1, hht.2⟩, hN2, FK_trans hF (FK_c hF2)⟩)
        · refine hJ58 _ _ _ _ ?_
          unfold wz_300_58
          have hh : 0 < n ∧ hvy (jht l (CJ c) (CL c) (Cg c) (Cd c)) n = hvy (jht l (CJ c) (CL c) (Cg c) (Cd c)) (n - 1) := by
            rcases hst with ⟨h0, _, _⟩ | ⟨h0, _, h2, _⟩
            · omega
            · exact ⟨h0, by rw [hvy_n _ n h0, if_neg (by omega)]⟩
          obtain ⟨h0, h1, h2, h3⟩ := hst.resolve_left (fun k => by omega)
          exact ih24 _ (by omega) _ _ _ _ rfl (⟨n + 1, by omega, by omega, Or.inr ⟨by omega, by rw [show n + 1 - 1 = n by omega, hh.2]; exact h1, by rw [show n + 1 - 1 = n by omega, hh.2]; exact h2, h3⟩, hN2, FK_trans hF (FK_c hF2)⟩)
    exact L24 _ _ _ _ _ rfl (⟨0, rfl, by have := hJ1.1; omega, Or.inl ⟨rfl, rfl, rfl⟩, hN1, hF1⟩)
  · have cJ := bi_t hq1
    rw [if_pos cJ] at hI
    subst hI
    exact Or.inr ⟨_, _, nzw_f (fun k => k cJ), rfl, _, rfl⟩
