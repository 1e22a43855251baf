/-! ===== the reference: the camel to sell ===== -/
/-- GrievingCamelsModel.sell -/
theorem cz_279 {V : jx_V} (hV : V.1.stackTraces = false) {X : jx_X} {R : jx_R} {I : jx_I} {a0 : Nat} {a1 : Int} {l : LT} {c : CT} 
    (hM : MX X R a0) (hX : MSX I a0 l c) (hW : WT l) (hC : WC l c) (r_a1 : -2147483648 ≤ a1 ∧ a1 < 2147483648)
    {QE : String → jx_I → Prop} : jc V 7 279 (0, 0) [.ref a0, jy a1] X I R (fun rv I' => (nzw (0 ≤ a1 ∧ a1 ≤ 1) 2 1 (nzw (CJ c ≠ []) 3 2 (none)) = none ∧ rv = some (jy (if a1 = 0 then (slf l c (CL c)).1 else (slf l c (CL c)).2)) ∧ (I' a0 0).toInt = 0 ∧ FK a0 SCR I I') ∨ (∃ k w, nzw (0 ≤ a1 ∧ a1 ≤ 1) 2 1 (nzw (CJ c ≠ []) 3 2 (none)) = some (k, w) ∧ I' = RM (jx_u I a0 0 (Int32.ofInt 0)) a0 k w ∧ ∃ x : Int, rv = some (jy x))) QE := by
  have hW0 := hW.1
  have hW0 := hW.1
  refine wm_279 hV (by omega)  (fun J20 J35 J118 hJJ => ?_)
  obtain ⟨hJ20, hJ35, hJ118⟩ := hJJ
  unfold wz_279
  refine ⟨s_M_0 hM, ?_⟩
  intro I2 e_I2; subst e_I2
  have hX0 := MSX_0 (v := Int32.ofInt 0) hX hW
  have h00 : (jx_u I a0 0 (Int32.ofInt 0) a0 0).toInt = 0 := by rw [jx_u_s]; rfl
  refine ⟨_, cz_203 hV (by omega) (by omega) (by omega), ?_⟩
  rintro _ I5 ⟨rfl, e9⟩; replace e9 := e9.symm; subst e9
  refine ⟨_, rfl, ?_⟩
  refine ⟨by omega, ?_⟩
  refine ⟨fun hq1 => ?_, fun hq1 => ?_⟩
  · have c1 := bi_t hq1
    refine hJ20 _ _ _ ?_
    unfold wz_279_20
    refine ⟨s_M_0 hM, ?_⟩
    refine ⟨_, cz_260o hV hM h00 hX0.2.2.1.1 rfl, ?_⟩
    rintro _ I11 ⟨rfl, hI⟩
    refine ⟨_, rfl, ?_⟩
    refine ⟨by omega, ?_⟩
    refine ⟨fun hq2 => ?_, fun hq2 => ?_⟩
    · have cJ := bi_f hq2
      rw [if_neg cJ] at hI
      subst hI
      have hJ1 := WC_J hC cJ
      have L35 : ∀ (n35 : Nat) (l2 : Int) (l3 : Int) (l4 : Int) (K : jx_I), n35 = (((CL c).length : Int) - l4).toNat → (∃ k : Nat, l4 = k ∧ k ≤ (CL c).length ∧ l2 = (slf l c ((CL c).take k)).1 ∧ (((slf l c ((CL c).take k)).1 = -1 ∧ (slf l c ((CL c).take k)).2 = -1) ∨ (0 ≤ (slf l c ((CL c).take k)).1 ∧ l3 = (slf l c ((CL c).take k)).2)) ∧ (0 ≤ l3 ∧ l3 ≤ 1500) ∧ FK a0 [46, 48, 49] (jx_u I a0 0 (Int32.ofInt 0)) K) → J35 l2 l3 l4 K := by
        intro n35
        induction n35 using Nat.strongRecOn with
        | ind n35 ih35 =>
        intro l2 l3 l4 K hn35 hI35
        have hL8 : ∀ x ∈ CL c, x < 8 := fun x hx => by have := hC.2.1.2 x hx; have := hW.1.2; omega
        have hbo : bo (CL c) < 2 ^ 8 := bo_lt _ hL8
        obtain ⟨k, rfl, hk, rfl, hst, hl3r, hF⟩ := hI35
        have h36 := (FK_ML hX0.2.1.1 hF (by decide) (by omega) (by omega) (by omega)).1
        have h8 := WC_8 hW hC
        have hn := hW.1
        have hrg := slf_rng hW hC cJ _ ((CL c).take k) rfl (fun x hx => hC.2.1.2 x (List.mem_of_mem_take hx))
        refine hJ35 _ _ _ _ ?_
        unfold wz_279_35
        refine ⟨s_M_0 hM, by omega, ?_⟩
        refine ⟨fun hq3 => ?_, fun hq3 => ?_⟩
        · refine ⟨fun hq4 => ?_, fun hq4 => ?_⟩
          · rw [show (CL c).take k = CL c from List.take_of_length_le (by omega)]
            exact Or.inl ⟨by rw [nzw_t c1, nzw_t cJ], by rw [if_pos (by omega)], by rw [hF.2 0 (by decide)]; exact h00, FK_trans FK_0 (FK_mono hF (by decide))⟩
          · refine ⟨by omega, ?_⟩
            refine ⟨fun hq5 => ?_, fun hq5 => ?_⟩
            · rw [show (CL c).take k = CL c from List.take_of_length_le (by omega)] at hst
              exact Or.inl ⟨by rw [nzw_t c1, nzw_t cJ], by rw [if_neg (by omega), show l3 = (slf l c (CL c)).2 by rw [show (CL c).take k = CL c from List.take_of_length_le (by omega)] at hq5; omega], by rw [hF.2 0 (by decide)]; exact h00, FK_trans FK_0 (FK_mono hF (by decide))⟩
            · rw [show (CL c).take k = CL c from List.take_of_length_le (by omega)] at hst hq5 ⊢
              exact Or.inl ⟨by rw [nzw_t c1, nzw_t cJ], by rw [if_neg (by omega), show (slf l c (CL c)).1 = (slf l c (CL c)).2 by omega], by rw [hF.2 0 (by decide)]; exact h00, FK_trans FK_0 (FK_mono hF (by decide))⟩
        · obtain ⟨y, hy, hy2⟩ := ML_get (FK_ML hX0.2.1.1 hF (by decide) (by omega) (by omega) (by omega)) (i := k) (by omega)
          have hym := List.mem_of_getElem? hy
          have hy8 := hL8 y hym
          have hym2 := hC.2.1.2 y hym
          have hls := ls_last hy
          have hb2 : 2 ^ y < 2 ^ 8 := Nat.pow_lt_pow_right (by omega) hy8
          have had2 := jz_adn (A := bo (CL c)) (B := 2 ^ y) (by omega) (by omega)
          have hbd : bdf (bo (CL c)) (2 ^ y) < 2 ^ 8 := bdf_le _ _ hbo
          have hwr := hwb_rng hW hC cJ (bdf (bo (CL c)) (2 ^ y))
          have hss : ∀ s : Int × Int, slst l c s y = if s.1 < 0 ∨ hwb l c (bdf (bo (CL c)) (2 ^ y)) < s.2 ∨ (hwb l c (bdf (bo (CL c)) (2 ^ y)) = s.2 ∧ Lp l s.1.toNat < Lp l y) then ((y : Int), hwb l c (bdf (bo (CL c)) (2 ^ y))) else s := fun _ => rfl
          refine ⟨_, cz_277 hV hM (FK_ML hX0.2.1.1 hF (by decide) (by omega) (by omega) (by omega)) (WC_8 hW hC) hL8, ?_⟩
          rintro _ I19 ⟨rfl, e9⟩; replace e9 := e9.symm; subst e9
          refine ⟨_, rfl, ?_⟩
          refine ⟨_, r_M_34 hM, _, ⟨s_M_1344 hM, by decide⟩, ?_⟩
          try simp only [-eq_self, Int.toNat_natCast, hy2]
          refine ⟨by omega, ?_⟩
          try simp only [-eq_self, jz_1sh (show y < 31 by omega), had2]
          refine ⟨_, cz_276 (B := bdf (bo (CL c)) (2 ^ y)) hV hM (FK_MD hX0.1 hF (by decide) hW) hW (FK_MB hX0.2.1 hF (by decide) hW) (GDn_w hW hC) hC.2.1.2 (WC_8 hW hC) hC.2.1.1 (FK_ML hX0.2.2.1 hF (by decide) (by omega) (by omega) (by omega)) hJ1.2.1 hJ1.1.2 rfl (by omega), ?_⟩
          rintro _ I28 ⟨rfl, hF9⟩
          refine ⟨_, rfl, ?_⟩
          have hF3 := FK_trans hF hF9
          have hwv : rs (Lr l) (CJ c) ((CJ c).length - 1) + jhs l (CJ c) ((CL c).filter (fun x => (bdf (bo (CL c)) (2 ^ y)).testBit x)) (Cg c) (Cd c) ((CJ c).length - 1) = hwb l c (bdf (bo (CL c)) (2 ^ y)) := rfl
          simp only [-eq_self, hwv]
          have hy3 : (I28 (a0 + 1344) k).toInt = (y : Int) := by rw [hF9.1 (a0 + 1344) (by omega) (by omega) (by omega)]; exact hy2
          simp only [-eq_self, Int.toNat_natCast, hy3]
          have hD3 := FK_MD hX0.1 hF3 (by decide) hW
          refine ⟨by omega, ?_⟩
          refine ⟨fun hq6 => ?_, fun hq6 => ?_⟩
          · refine ⟨by omega, ?_⟩
            refine hJ118 _ _ _ _ ?_
            unfold wz_279_118
            exact ih35 _ (by omega) _ _ _ _ rfl (⟨k + 1, by omega, by omega, by rw [hls, slf_app, hss, if_pos (by omega)], Or.inr ⟨by rw [hls, slf_app, hss, if_pos (by omega)]; show (0 : Int) ≤ (y : Int); omega, by rw [hls, slf_app, hss, if_pos (by omega)]⟩, by omega, hF3⟩)
          · refine ⟨by omega, by omega, ?_⟩
            refine ⟨fun hq7 => ?_, fun hq7 => ?_⟩
            · exact ih35 _ (by omega) _ _ _ _ rfl (⟨k + 1, by omega, by omega, by rw [hls, slf_app, hss, if_neg (by omega)], Or.inr ⟨by rw [hls, slf_app, hss, if_neg (by omega)]; omega, by rw [hls, slf_app, hss, if_neg (by omega)]; omega⟩, by omega, hF3⟩)
            · refine ⟨fun hq8 => ?_, fun hq8 => ?_⟩
              · refine ⟨by omega, ?_⟩
                refine hJ118 _ _ _ _ ?_
                unfold wz_279_118
                exact ih35 _ (by omega) _ _ _ _ rfl (⟨k + 1, by omega, by omega, by rw [hls, slf_app, hss, if_pos (by omega)], Or.inr ⟨by rw [hls, slf_app, hss, if_pos (by omega)]; show (0 : Int) ≤ (y : Int); omega, by rw [hls, slf_app, hss, if_pos (by omega)]⟩, by omega, hF3⟩)
              · refine ⟨_, r_M_15 hM, by omega, _, ⟨s_M_8 hM, by decide⟩, ?_⟩
                have p1 := (hD3.2.2.2.1 y hym2).1
                have p2 := (hD3.2.2.2.1 ((slf l c ((CL c).take k))).1.toNat (by omega)).1
                try simp only [-eq_self, Int.toNat_natCast, hy3, p1, p2]
                refine ⟨by omega, by omega, ?_⟩
                refine ⟨fun hq9 => ?_, fun hq9 => ?_⟩
                · refine ⟨by omega, ?_⟩
                  refine hJ118 _ _ _ _ ?_
                  unfold wz_279_118
                  exact ih35 _ (by omega) _ _ _ _ rfl (⟨k + 1, by omega, by omega, by rw [hls, slf_app, hss, if_pos (by omega)], Or.inr ⟨by rw [hls, slf_app, hss, if_pos (by omega)]; show (0 : Int) ≤ (y : Int); omega, by rw [hls, slf_app, hss, if_pos (by omega)]⟩, by omega, hF3⟩)
                · refine hJ118 _ _ _ _ ?_
                  unfold wz_279_118
                  exact ih35 _ (by omega) _ _ _ _ rfl (⟨k + 1, by omega, by omega, by rw [hls, slf_app, hss, if_neg (by omega)], Or.inr ⟨by rw [hls, slf_app, hss, if_neg (by omega)]; omega, by rw [hls, slf_app, hss, if_neg (by omega)]; omega⟩, by omega, hF3⟩)
      exact L35 _ _ _ _ _ rfl (⟨0, rfl, by omega, by rw [List.take_zero]; rfl, Or.inl ⟨by rw [List.take_zero]; rfl, by rw [List.take_zero]; rfl⟩, by omega, FK_refl⟩)
    · have cJ := bi_t hq2
      rw [if_pos cJ] at hI
      subst hI
      exact Or.inr ⟨_, _, by rw [nzw_t c1]; exact nzw_f (fun k => k cJ), rfl, _, rfl⟩
  · have c1 := bi_f hq1
    refine hJ20 _ _ _ ?_
    unfold wz_279_20
    refine ⟨s_M_0 hM, ?_⟩
    refine ⟨_, cz_260b hV hM h00 rfl, ?_⟩
    rintro _ I11 ⟨rfl, e9⟩; replace e9 := e9.symm; subst e9
    refine ⟨_, rfl, ?_⟩
    refine ⟨by omega, ?_⟩
    refine ⟨fun hq10 => ?_, fun hq10 => ?_⟩
    · exact absurd hq10 (by decide)
    · exact Or.inr ⟨_, _, nzw_f c1, rfl, _, rfl⟩
