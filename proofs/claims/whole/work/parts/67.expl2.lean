/-! ===== explain: the reference ===== -/
theorem exs_s {l : LT} {c : CT} {n w : Nat} {s : ES} : exs l c n 0 (w + 1) s = stp l c n w (exs l c n 0 w s) := by
  show stp l c n (0 + w) _ = _
  rw [Nat.zero_add]
theorem gbp_of {g : Nat → Int} {n b : Nat} (h : ∀ i, b.testBit i = decide (0 ≤ i ∧ i < n ∧ 0 < g i)) : b = gbp g n := by
  apply Nat.eq_of_testBit_eq
  intro i
  rw [h, gbp_t]
  exact decide_eq_decide.mpr ⟨fun k => k.2, fun k => ⟨Nat.zero_le _, k⟩⟩
theorem mn6_le (l : LT) : mn6 l ≤ 6 ∧ mn6 l ≤ Lm l := by unfold mn6; omega
/-- GrievingCamelsModel.explains -/
theorem cz_285 {V : jx_V} (hV : V.1.stackTraces = false) {X : jx_X} {R : jx_R} {I : jx_I} {a0 : Nat} {l : LT} {c : CT} {n w : Nat}
    (hM : MX X R a0) (hX : MSX I a0 l c) (hW : WT l) (hC : WC l c) (hg : ∀ e, e < Lm l → (I (a0 + 1370) e).toInt = gw n w e)
    {QE : String → jx_I → Prop} : jc V 3 285 (0, 0) [.ref a0] X I R (fun rv I' => rv = some (jy (if aok l c n w = true then 1 else 0)) ∧ FR (a0 + 1286) (a0 + 1287) I I') QE := by
  have hW0 := hW.1
  have hn := hW.1
  have h9 := hX.2.2.2.1.2.1
  refine wm_285 hV   (fun J2 hJJ => ?_)
  have hJ2 := hJJ
  unfold wz_285
  have L2 : ∀ (n2 : Nat) (l1 : Int) (K : jx_I), n2 = (((CN c).length : Int) - l1).toNat → (∃ i : Nat, l1 = (i : Int) ∧ i ≤ (CN c).length ∧ ((CN c).take i).all (lok l n w) = true ∧ FR (a0 + 1286) (a0 + 1287) I K) → J2 l1 K := by
    intro n2
    induction n2 using Nat.strongRecOn with
    | ind n2 ih2 =>
    intro l1 K hn2 hI2
    obtain ⟨i, rfl, hi, hK, hF⟩ := hI2
    have h38 : (K a0 38).toInt = ((CN c).length : Int) := by rw [hF a0 (by omega)]; exact hX.2.2.2.1.1
    refine hJ2 _ _ ?_
    unfold wz_285_2
    refine ⟨s_M_0 hM, by omega, ?_⟩
    refine ⟨fun hq1 => ?_, fun hq1 => ?_⟩
    · rw [List.take_of_length_le (by omega)] at hK
      exact ⟨by rw [if_pos (show aok l c n w = true from hK)], hF⟩
    · have he := List.getElem?_eq_getElem (l := CN c) (i := i) (by omega)
      generalize (CN c)[i]'(by omega) = e at he
      have hee := hX.2.2.2.1.2.2 i e he
      have hem := List.mem_of_getElem? he
      have hC9 := hC.2.2.2.1 e hem
      have hB8 : e.1 < 256 := Nat.lt_of_lt_of_le hC9.1 (Nat.pow_le_pow_right (by omega) hn.2 : 2 ^ Lm l ≤ 2 ^ 8)
      have hk0 : (K (a0 + 1306 + i) 0).toInt = e.1 := by rw [hF _ (by omega)]; exact hee.1
      have hDK : MD K a0 l := MD_of hX.1 (by rw [hF a0 (by omega)]) (fun q h1 h2 => hF q (by omega)) hW
      refine ⟨_, r_M_31 hM, _, ⟨s_M_1305 hM, by decide⟩, by omega, _, rr_M_1305 hM (by omega), _, ⟨sr_M_1305 hM (by omega), by decide⟩, ?_⟩
      try simp only [-eq_self, Int.toNat_natCast, show (0 : Int).toNat = 0 from rfl, hk0]
      refine ⟨by omega, ?_⟩
      refine ⟨_, cz_284 (B := e.1) (g := gw n w) hV hM hDK hW rfl hC9.1 (fun x hx => ⟨by rw [hF _ (by omega)]; exact hg x hx, gw_rng n w x⟩) rfl, ?_⟩
      rintro _ I15 ⟨rfl, hF2⟩
      refine ⟨_, rfl, ?_⟩
      have hk1 : (I15 (a0 + 1306 + i) 1).toInt = e.2 := by rw [hF2 _ (by omega), hF _ (by omega)]; exact hee.2
      have hlr := hlt_rng (Lc l) ((bl e.1 (Lm l)).map (gw n w)) 1
      have hbt := bl_top hC9.1 8 hn.2
      refine ⟨by omega, _, rr_M_1305 hM (by omega), _, ⟨sr_M_1305 hM (by omega), by decide⟩, ?_⟩
      try simp only [-eq_self, Int.toNat_natCast, show (1 : Int).toNat = 1 from rfl, hk1]
      refine ⟨by omega, by omega, ?_⟩
      refine ⟨fun hq2 => ?_, fun hq2 => ?_⟩
      · exact ih2 _ (by omega) _ _ rfl (⟨i + 1, by omega, by omega, by
          rw [ls_last he, List.all_append, hK]
          have h8 : lok l n w e = true := by unfold lok; rw [hbt]; exact decide_eq_true hq2
          simp [h8], FR_trans hF hF2⟩)
      · exact ⟨by
          rw [if_neg]
          intro k
          have h8 := List.all_eq_true.mp k e hem
          unfold lok at h8
          rw [hbt] at h8
          exact hq2 (of_decide_eq_true h8), FR_trans hF hF2⟩
  exact L2 _ _ _ rfl (⟨0, rfl, by omega, by rw [List.take_zero]; rfl, FR_refl⟩)
/-- GrievingCamelsModel.explain -/
theorem cz_286 {V : jx_V} (hV : V.1.stackTraces = false) {X : jx_X} {R : jx_R} {I : jx_I} {a0 : Nat} {a1 : Int} {l : LT} {c : CT} 
    (hM : MX X R a0) (hX : MSX I a0 l c) (hW : WT l) (hC : WC l c) (r_a1 : -2147483648 ≤ a1 ∧ a1 < 2147483648)
    {QE : String → jx_I → Prop} : jc V 4 286 (0, 0) [.ref a0, jy a1] X I R (fun rv I' => (nzw (0 ≤ a1 ∧ a1 ≤ 3) 2 1 (none) = none ∧ rv = some (jy (exa l c a1)) ∧ (I' a0 0).toInt = 0 ∧ FK a0 SCR I I') ∨ (∃ k w, nzw (0 ≤ a1 ∧ a1 ≤ 3) 2 1 (none) = some (k, w) ∧ I' = RM (jx_u I a0 0 (Int32.ofInt 0)) a0 k w ∧ ∃ x : Int, rv = some (jy x))) QE := by
  have hW0 := hW.1
  have hW0 := hW.1
  refine wm_286 hV (by omega)  (fun J20 J63 J83 J107 J125 J169 J200 J219 hJJ => ?_)
  obtain ⟨hJ20, hJ63, hJ83, hJ107, hJ125, hJ169, hJ200, hJ219⟩ := hJJ
  unfold wz_286
  refine ⟨s_M_0 hM, ?_⟩
  intro I2 e_I2; subst e_I2
  have hX0 := MSX_0 (v := Int32.ofInt 0) hX hW
  have h00 : (jx_u I a0 0 (Int32.ofInt 0) a0 0).toInt = 0 := by rw [jx_u_s]; rfl
  refine ⟨_, cz_203 hV (by omega) (by omega) (by omega), ?_⟩
  rintro _ I5 ⟨rfl, e9⟩; replace e9 := e9.symm; subst e9
  refine ⟨_, rfl, ?_⟩
  refine ⟨by omega, ?_⟩
  refine ⟨fun hq1 => ?_, fun hq1 => ?_⟩
  · have c1 := bi_t hq1
    refine hJ20 _ _ _ ?_
    unfold wz_286_20
    refine ⟨s_M_0 hM, ?_⟩
    refine ⟨_, cz_202o hV hM h00 (by omega) (by omega), ?_⟩
    rintro _ I11 ⟨rfl, e9⟩; replace e9 := e9.symm; subst e9
    refine ⟨_, rfl, ?_⟩
    refine ⟨by omega, ?_⟩
    refine ⟨fun hq2 => ?_, fun hq2 => ?_⟩
    · refine ⟨s_M_0 hM, _, r_M_11 hM, _, ⟨s_M_4 hM, by decide⟩, ?_⟩
      have h41 := hX0.1.1.2
      have hW0 := hW.1
      try simp only [-eq_self, show (1 : Int).toNat = 1 from rfl, h41]
      refine ⟨by omega, ?_⟩
      refine ⟨_, cz_204 hV (by omega) (by omega), ?_⟩
      rintro _ I22 ⟨rfl, e9⟩; replace e9 := e9.symm; subst e9
      refine ⟨_, rfl, ?_⟩
      have hm6 := mn6_le l
      have hn9 : min ((Lm l : Nat) : Int) 6 = (mn6 l : Nat) := by unfold mn6; omega
      have hp6 := pow6_le hm6.1
      have h26 : 2 ^ mn6 l ≤ 64 := (Nat.pow_le_pow_right (by omega) hm6.1 : 2 ^ mn6 l ≤ 2 ^ 6)
      have h27 : 0 < 2 ^ mn6 l := Nat.two_pow_pos _
      have p1 : (0 : Int) ≤ ((2 ^ mn6 l : Nat) : Int) := Int.natCast_nonneg _
      have L63 : ∀ (n63 : Nat) (l2 : Int) (l3 : Int) (l4 : Int) (l5 : Int) (l6 : Int) (l7 : Int) (l8 : Int) (K1 : jx_I), n63 = ((mn6 l : Int) - l8).toNat → (∃ k : Nat, l2 = (mn6 l : Nat) ∧ l3 = ((6 ^ k : Nat) : Int) ∧ l4 = 0 ∧ l5 = -1 ∧ l6 = ((2 ^ mn6 l - 1 : Nat) : Int) ∧ l7 = 0 ∧ l8 = (k : Int) ∧ k ≤ mn6 l ∧ FK a0 [] (jx_u I a0 0 (Int32.ofInt 0))  K1) → J63 l2 l3 l4 l5 l6 l7 l8 K1 := by
        intro n63
        induction n63 using Nat.strongRecOn with
        | ind n63 ih63 =>
        intro l2 l3 l4 l5 l6 l7 l8 K1 hn63 hI63
        obtain ⟨k, rfl, rfl, rfl, rfl, rfl, rfl, rfl, hk, hF⟩ := hI63
        refine hJ63 _ _ _ _ _ _ _ _ ?_
        unfold wz_286_63
        refine ⟨by omega, by omega, ?_⟩
        refine ⟨fun hq3 => ?_, fun hq3 => ?_⟩
        · have L83 : ∀ (n83 : Nat) (l2 : Int) (l3 : Int) (l4 : Int) (l5 : Int) (l6 : Int) (l7 : Int) (l8 : Int) (K2 : jx_I), n83 = (8 - l8).toNat → (∃ k : Nat, l2 = (mn6 l : Nat) ∧ l3 = ((6 ^ mn6 l : Nat) : Int) ∧ l4 = 0 ∧ l5 = -1 ∧ l6 = ((2 ^ mn6 l - 1 : Nat) : Int) ∧ l7 = 0 ∧ l8 = (k : Int) ∧ k ≤ 8 ∧ (∀ j, j < k → (K2 (a0 + 1370) j).toInt = 0) ∧ FK a0 [] (jx_u I a0 0 (Int32.ofInt 0))  K2) → J83 l2 l3 l4 l5 l6 l7 l8 K2 := by
            intro n83
            induction n83 using Nat.strongRecOn with
            | ind n83 ih83 =>
            intro l2 l3 l4 l5 l6 l7 l8 K2 hn83 hI83
            obtain ⟨k, rfl, rfl, rfl, rfl, rfl, rfl, rfl, hk, hz, hF⟩ := hI83
            refine hJ83 _ _ _ _ _ _ _ _ ?_
            unfold wz_286_83
            refine ⟨by omega, ?_⟩
            refine ⟨fun hq4 => ?_, fun hq4 => ?_⟩
            · have L107 : ∀ (n107 : Nat) (l2 : Int) (l3 : Int) (l4 : Int) (l5 : Int) (l6 : Int) (l7 : Int) (l8 : Int) (K3 : jx_I), n107 = (((6 ^ mn6 l : Nat) : Int) - l8).toNat → (∃ w : Nat, l2 = (mn6 l : Nat) ∧ l3 = ((6 ^ mn6 l : Nat) : Int) ∧ l4 = ((exs l c (mn6 l) 0 w (es0 (mn6 l))).1 : Int) ∧ l5 = (exs l c (mn6 l) 0 w (es0 (mn6 l))).2.1 ∧ l6 = ((exs l c (mn6 l) 0 w (es0 (mn6 l))).2.2.1 : Int) ∧ l7 = ((exs l c (mn6 l) 0 w (es0 (mn6 l))).2.2.2 : Int) ∧ l8 = (w : Int) ∧ w ≤ 6 ^ mn6 l ∧ (∀ j, mn6 l ≤ j → j < 8 → (K3 (a0 + 1370) j).toInt = 0) ∧ FK a0 [] (jx_u I a0 0 (Int32.ofInt 0))  K3) → J107 l2 l3 l4 l5 l6 l7 l8 K3 := by
                intro n107
                induction n107 using Nat.strongRecOn with
                | ind n107 ih107 =>
                intro l2 l3 l4 l5 l6 l7 l8 K3 hn107 hI107
                obtain ⟨w, rfl, rfl, rfl, rfl, rfl, rfl, rfl, hw, hz, hF⟩ := hI107
                have hw6 := hp6
                have hk9 := esk_t (l := l) (c := c) (w0 := 0) (esk_0 (mn6 l)) w (by show 0 + w ≤ 46656; omega) (by omega)
                have hk1 := hk9.1.1
                have hk2 := hk9.1.2.1
                have hk3 := hk9.1.2.2.1
                have hk4 := hk9.1.2.2.2
                have hk5 : (exs l c (mn6 l) 0 w (es0 (mn6 l))).1 ≤ w := by have := hk9.2; have e0 : (es0 (mn6 l)).1 = 0 := rfl; omega
                refine hJ107 _ _ _ _ _ _ _ _ ?_
                unfold wz_286_107
                refine ⟨by omega, by omega, ?_⟩
                refine ⟨fun hq5 => ?_, fun hq5 => ?_⟩
                · refine ⟨fun hq6 => ?_, fun hq6 => ?_, fun hq6 => ?_, fun hq6 => ?_⟩
                  · refine ⟨by omega, ?_⟩
                    refine ⟨fun hq7 => ?_, fun hq7 => ?_⟩
                    · have hwW : w = 6 ^ mn6 l := by omega
                      subst hwW
                      have hex : exs l c (mn6 l) 0 (6 ^ mn6 l) (es0 (mn6 l)) = exr l c := rfl
                      simp only [hex] at *
                      exact Or.inl ⟨nzw_t c1, by unfold exa; rw [if_neg (by omega), if_neg (by omega), if_neg (by omega), if_neg (by omega), jz_1sh (show mn6 l < 31 by omega), show ((2 ^ mn6 l : Nat) : Int) - 1 = ((2 ^ mn6 l - 1 : Nat) : Int) by omega, jz_adn (by omega) (by omega)], by rw [hF.2 0 (by decide)]; exact h00, FK_trans FK_0 (FK_mono hF (by decide))⟩
                    · have hwW : w = 6 ^ mn6 l := by omega
                      subst hwW
                      have hex : exs l c (mn6 l) 0 (6 ^ mn6 l) (es0 (mn6 l)) = exr l c := rfl
                      simp only [hex] at *
                      exact Or.inl ⟨nzw_t c1, by unfold exa; rw [if_neg (by omega), if_neg (by omega), if_neg (by omega), if_pos (by omega)], by rw [hF.2 0 (by decide)]; exact h00, FK_trans FK_0 (FK_mono hF (by decide))⟩
                  · have hwW : w = 6 ^ mn6 l := by omega
                    subst hwW
                    have hex : exs l c (mn6 l) 0 (6 ^ mn6 l) (es0 (mn6 l)) = exr l c := rfl
                    simp only [hex] at *
                    exact Or.inl ⟨nzw_t c1, by unfold exa; rw [if_pos (by omega)], by rw [hF.2 0 (by decide)]; exact h00, FK_trans FK_0 (FK_mono hF (by decide))⟩
                  · have hwW : w = 6 ^ mn6 l := by omega
                    subst hwW
                    have hex : exs l c (mn6 l) 0 (6 ^ mn6 l) (es0 (mn6 l)) = exr l c := rfl
                    simp only [hex] at *
                    exact Or.inl ⟨nzw_t c1, by unfold exa; rw [if_neg (by omega), if_pos (by omega)], by rw [hF.2 0 (by decide)]; exact h00, FK_trans FK_0 (FK_mono hF (by decide))⟩
                  · refine ⟨by omega, ?_⟩
                    refine ⟨fun hq8 => ?_, fun hq8 => ?_⟩
                    · have hwW : w = 6 ^ mn6 l := by omega
                      subst hwW
                      have hex : exs l c (mn6 l) 0 (6 ^ mn6 l) (es0 (mn6 l)) = exr l c := rfl
                      simp only [hex] at *
                      exact Or.inl ⟨nzw_t c1, by unfold exa; rw [if_neg (by omega), if_neg (by omega), if_pos (by omega), if_neg (by omega)], by rw [hF.2 0 (by decide)]; exact h00, FK_trans FK_0 (FK_mono hF (by decide))⟩
                    · have hwW : w = 6 ^ mn6 l := by omega
                      subst hwW
                      have hex : exs l c (mn6 l) 0 (6 ^ mn6 l) (es0 (mn6 l)) = exr l c := rfl
                      simp only [hex] at *
                      exact Or.inl ⟨nzw_t c1, by unfold exa; rw [if_neg (by omega), if_neg (by omega), if_pos (by omega), if_pos (by omega)], by rw [hF.2 0 (by decide)]; exact h00, FK_trans FK_0 (FK_mono hF (by decide))⟩
                · have L125 : ∀ (n125 : Nat) (l2 : Int) (l3 : Int) (l4 : Int) (l5 : Int) (l6 : Int) (l7 : Int) (l8 : Int) (l9 : Int) (l10 : Int) (l11 : Int) (K4 : jx_I), n125 = (l11 + 1).toNat → (∃ k b : Nat, l2 = (mn6 l : Nat) ∧ l3 = ((6 ^ mn6 l : Nat) : Int) ∧ l4 = ((exs l c (mn6 l) 0 w (es0 (mn6 l))).1 : Int) ∧ l5 = (exs l c (mn6 l) 0 w (es0 (mn6 l))).2.1 ∧ l6 = ((exs l c (mn6 l) 0 w (es0 (mn6 l))).2.2.1 : Int) ∧ l7 = ((exs l c (mn6 l) 0 w (es0 (mn6 l))).2.2.2 : Int) ∧ l8 = (w : Int) ∧ l9 = ((w / 6 ^ (mn6 l - k) : Nat) : Int) ∧ l10 = (b : Int) ∧ l11 = (k : Int) - 1 ∧ k ≤ mn6 l ∧ (∀ i, b.testBit i = decide (k ≤ i ∧ i < mn6 l ∧ 0 < gw (mn6 l) w i)) ∧ (∀ j, k ≤ j → j < mn6 l → (K4 (a0 + 1370) j).toInt = gw (mn6 l) w j) ∧ (∀ j, mn6 l ≤ j → j < 8 → (K4 (a0 + 1370) j).toInt = 0) ∧ FK a0 [] (jx_u I a0 0 (Int32.ofInt 0))  K4) → J125 l2 l3 l4 l5 l6 l7 l8 l9 l10 l11 K4 := by
                    intro n125
                    induction n125 using Nat.strongRecOn with
                    | ind n125 ih125 =>
                    intro l2 l3 l4 l5 l6 l7 l8 l9 l10 l11 K4 hn125 hI125
                    obtain ⟨k, b, rfl, rfl, rfl, rfl, rfl, rfl, rfl, rfl, rfl, rfl, hk, hb, hgd, hz, hF⟩ := hI125
                    have hwd : w / 6 ^ (mn6 l - k) ≤ w := Nat.div_le_self _ _
                    have hb2 : b < 2 ^ mn6 l := Nat.lt_pow_two_of_testBit _ (fun i hi => by rw [hb]; exact decide_eq_false (by omega))
                    refine hJ125 _ _ _ _ _ _ _ _ _ _ _ ?_
                    unfold wz_286_125
                    refine ⟨by omega, ?_⟩
                    refine ⟨fun hq9 => ?_, fun hq9 => ?_⟩
                    · have hk0 : k = 0 := by omega
                      subst hk0
                      have hbe := gbp_of hb
                      have hXK := MSX_k hX0 hF hW (by decide) (by decide) (by decide) (by decide) (by decide)
                      have hgK : ∀ e, e < 8 → (K4 (a0 + 1370) e).toInt = gw (mn6 l) w e := fun e he => by
                        rcases Nat.lt_or_ge e (mn6 l) with h | h
                        · exact hgd e (Nat.zero_le _) h
                        · rw [hz e h he]; unfold gw; rw [if_neg (by omega)]
                      refine ⟨s_M_0 hM, ?_⟩
                      refine ⟨_, cz_285 (n := mn6 l) (w := w) hV hM hXK hW hC (fun e he => hgK e (by omega)), ?_⟩
                      rintro _ I42 ⟨rfl, hF2⟩
                      refine ⟨_, rfl, ?_⟩
                      have hF9 := FK_trans hF (FK_fr (ks := []) hF2 (by omega))
                      have hz := fun j h1 h2 => (congrArg (fun g => (g j).toInt) (hF2 (a0 + 1370) (by omega))).trans (hz j h1 h2)
                      refine ⟨by omega, ?_⟩
                      refine ⟨fun hq10 => ?_, fun hq10 => ?_⟩
                      · have hao : aok l c (mn6 l) w = true := by
                          by_cases h : aok l c (mn6 l) w = true
                          · exact h
                          · rw [if_neg h] at hq10; exact absurd rfl hq10
                        refine ⟨by omega, ?_⟩
                        refine ⟨fun hq11 => ?_, fun hq11 => ?_⟩
                        · refine hJ200 _ _ _ _ _ _ _ _ _ ?_
                          unfold wz_286_200
                          refine hJ219 _ _ _ _ _ _ _ _ ?_
                          unfold wz_286_219
                          exact ih107 _ (by omega) _ _ _ _ _ _ _ _ rfl (⟨w + 1, rfl, rfl, by rw [exs_s]; unfold stp; rw [if_pos hao]; rfl, by rw [exs_s]; unfold stp; rw [if_pos hao]; show _ = (if _ then _ else _ : Int); rw [if_neg (by omega)], by rw [exs_s]; unfold stp; rw [if_pos hao, hbe, jz_and (by omega) (by have := gbp_lt (gw (mn6 l) w) (Nat.le_refl (mn6 l)); omega)], by rw [exs_s]; unfold stp; rw [if_pos hao, hbe, jz_or (by omega) (by have := gbp_lt (gw (mn6 l) w) (Nat.le_refl (mn6 l)); omega)], by omega, by omega, hz, hF9⟩)
                        · refine hJ200 _ _ _ _ _ _ _ _ _ ?_
                          unfold wz_286_200
                          refine hJ219 _ _ _ _ _ _ _ _ ?_
                          unfold wz_286_219
                          exact ih107 _ (by omega) _ _ _ _ _ _ _ _ rfl (⟨w + 1, rfl, rfl, by rw [exs_s]; unfold stp; rw [if_pos hao]; rfl, by rw [exs_s]; unfold stp; rw [if_pos hao]; show _ = (if _ then _ else _ : Int); rw [if_pos (by omega)], by rw [exs_s]; unfold stp; rw [if_pos hao, hbe, jz_and (by omega) (by have := gbp_lt (gw (mn6 l) w) (Nat.le_refl (mn6 l)); omega)], by rw [exs_s]; unfold stp; rw [if_pos hao, hbe, jz_or (by omega) (by have := gbp_lt (gw (mn6 l) w) (Nat.le_refl (mn6 l)); omega)], by omega, by omega, hz, hF9⟩)
                      · have hao : ¬ aok l c (mn6 l) w = true := fun h => by rw [if_pos h] at hq10; exact absurd hq10 (by decide)
                        refine hJ219 _ _ _ _ _ _ _ _ ?_
                        unfold wz_286_219
                        exact ih107 _ (by omega) _ _ _ _ _ _ _ _ rfl (⟨w + 1, rfl, rfl, by rw [exs_s]; unfold stp; rw [if_neg hao], by rw [exs_s]; unfold stp; rw [if_neg hao], by rw [exs_s]; unfold stp; rw [if_neg hao], by rw [exs_s]; unfold stp; rw [if_neg hao], by omega, by omega, hz, hF9⟩)
                    · have hdg : ((w / 6 ^ (mn6 l - k) % 6 : Nat) : Int) = gw (mn6 l) w (k - 1) := by
                        unfold gw
                        rw [if_pos (by omega), show mn6 l - 1 - (k - 1) = mn6 l - k by omega]
                      have hgr := gw_rng (mn6 l) w (k - 1)
                      have hdv : w / 6 ^ (mn6 l - k) / 6 = w / 6 ^ (mn6 l - (k - 1)) := by rw [show mn6 l - (k - 1) = (mn6 l - k) + 1 by omega, Nat.pow_succ, Nat.div_div_eq_div_mul]
                      have hd6 := jz_div6 (x := w / 6 ^ (mn6 l - k)) (by omega)
                      rw [hdv] at hd6
                      have hkp : 2 ^ (k - 1) ≤ 64 := (Nat.pow_le_pow_right (by omega) (by omega) : 2 ^ (k - 1) ≤ 2 ^ 6)
                      refine ⟨s_M_0 hM, _, r_M_55 hM, _, ⟨s_M_1370 hM, by decide⟩, ?_⟩
                      try simp only [-eq_self, show ((k : Int) - 1).toNat = k - 1 by omega, jz_rem6 (show w / 6 ^ (mn6 l - k) < 100000 by omega), hdg]
                      refine ⟨by omega, ?_⟩
                      intro I52 e_I52; subst e_I52
                      have hjv : ((jx_u K4 (a0 + 1370) (k - 1) (Int32.ofInt (gw (mn6 l) w (k - 1)))) (a0 + 1370) (k - 1)).toInt = gw (mn6 l) w (k - 1) := by rw [jx_u_s]; exact jy_toInt (by omega)
                      refine ⟨by omega, ?_⟩
                      refine ⟨fun hq12 => ?_, fun hq12 => ?_⟩
                      · refine hJ169 _ _ _ _ _ _ _ _ _ _ _ _ ?_
                        unfold wz_286_169
                        exact ih125 _ (by omega) _ _ _ _ _ _ _ _ _ _ _ rfl (⟨k - 1, _, rfl, rfl, rfl, rfl, rfl, rfl, rfl, hd6, jz_or (b := 0) (by omega) (by decide), by omega, by omega, fun i => by
                          rw [Nat.or_zero, hb]
                          apply decide_eq_decide.mpr
                          constructor
                          · intro h; exact ⟨by omega, h.2⟩
                          · intro h
                            by_cases e : i = k - 1
                            · rw [e] at h; exact absurd h.2.2 (by omega)
                            · exact ⟨by omega, h.2⟩, fun j h1 h2 => by
                          by_cases e : j = k - 1
                          · rw [e, jx_u_s]; exact jy_toInt (by omega)
                          · rw [jx_u_k _ _ _ _ e]; exact hgd j (by omega) h2, fun j h1 h2 => by rw [jx_u_k _ _ _ _ (by omega)]; exact hz j h1 h2, FK_u hF (by omega)⟩)
                      · refine hJ169 _ _ _ _ _ _ _ _ _ _ _ _ ?_
                        unfold wz_286_169
                        exact ih125 _ (by omega) _ _ _ _ _ _ _ _ _ _ _ rfl (⟨k - 1, _, rfl, rfl, rfl, rfl, rfl, rfl, rfl, hd6, (by rw [show ((k : Int) - 1) = ((k - 1 : Nat) : Int) by omega, jz_1sh (show k - 1 < 31 by omega)]; exact jz_or (by omega) (by omega)), by omega, by omega, fun i => by
                          rw [Nat.testBit_or, hb, Nat.testBit_two_pow, ← Bool.decide_or]
                          apply decide_eq_decide.mpr
                          constructor
                          · rintro (h | h)
                            · exact ⟨by omega, h.2⟩
                            · rw [← h]; exact ⟨Nat.le_refl _, by omega, by omega⟩
                          · intro h
                            by_cases e : k - 1 = i
                            · exact Or.inr e
                            · exact Or.inl ⟨by omega, h.2⟩, fun j h1 h2 => by
                          by_cases e : j = k - 1
                          · rw [e, jx_u_s]; exact jy_toInt (by omega)
                          · rw [jx_u_k _ _ _ _ e]; exact hgd j (by omega) h2, fun j h1 h2 => by rw [jx_u_k _ _ _ _ (by omega)]; exact hz j h1 h2, FK_u hF (by omega)⟩)
                  exact L125 _ _ _ _ _ _ _ _ _ _ _ _ rfl (⟨mn6 l, 0, rfl, rfl, rfl, rfl, rfl, rfl, rfl, by rw [Nat.sub_self, Nat.pow_zero, Nat.div_one], rfl, rfl, Nat.le_refl _, fun i => by rw [Nat.zero_testBit]; exact (decide_eq_false (by omega)).symm, fun j h1 h2 => by omega, hz, hF⟩)
              exact L107 _ _ _ _ _ _ _ _ _ rfl (⟨0, rfl, rfl, rfl, rfl, rfl, rfl, rfl, Nat.zero_le _, fun j _ h => hz j (by omega), hF⟩)
            · refine ⟨s_M_0 hM, _, r_M_55 hM, _, ⟨s_M_1370 hM, by decide⟩, ?_⟩
              try simp only [-eq_self, Int.toNat_natCast]
              refine ⟨by omega, ?_⟩
              intro I33 e_I33; subst e_I33
              exact ih83 _ (by omega) _ _ _ _ _ _ _ _ rfl (⟨k + 1, rfl, rfl, rfl, rfl, rfl, rfl, by omega, by omega, fun j hj => by
                rcases Nat.lt_or_ge j k with h9 | h9
                · rw [jx_u_k _ _ _ _ (by omega)]; exact hz j h9
                · rw [show j = k by omega, jx_u_s]; rfl, FK_u hF (by omega)⟩)
          exact L83 _ _ _ _ _ _ _ _ _ rfl (⟨0, rfl, by rw [show k = mn6 l by omega], rfl, rfl, rfl, rfl, rfl, by omega, fun j h => absurd h (by omega), hF⟩)
        · exact ih63 _ (by omega) _ _ _ _ _ _ _ _ rfl (⟨k + 1, rfl, by rw [Nat.pow_succ]; omega, rfl, rfl, rfl, rfl, by omega, by omega, hF⟩)
      exact L63 _ _ _ _ _ _ _ _ _ rfl (⟨0, hn9, rfl, rfl, rfl, by rw [hn9, jz_1sh (show mn6 l < 31 by omega)]; omega, rfl, rfl, by omega, FK_refl⟩)
    · exact absurd hq2 (by decide)
  · have c1 := bi_f hq1
    refine hJ20 _ _ _ ?_
    unfold wz_286_20
    refine ⟨s_M_0 hM, ?_⟩
    refine ⟨_, cz_202b hV hM h00 (by omega) (by omega), ?_⟩
    rintro _ I11 ⟨rfl, e9⟩; replace e9 := e9.symm; subst e9
    refine ⟨_, rfl, ?_⟩
    refine ⟨by omega, ?_⟩
    refine ⟨fun hq13 => ?_, fun hq13 => ?_⟩
    · exact absurd hq13 (by decide)
    · exact Or.inr ⟨_, _, by exact nzw_f c1, rfl, _, rfl⟩
