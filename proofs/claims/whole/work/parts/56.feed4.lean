/-! ===== the reference: fed, quarrels ===== -/
theorem wby_rng (x : Int) (i : Nat) : 0 ≤ wby x i ∧ wby x i < 256 := by unfold wby; omega
/-- GrievingCamelsModel.feed -/
theorem cz_205 {V : jx_V} (hV : V.1.stackTraces = false) {X : jx_X} {R : jx_R} {I : jx_I} {a0 : Nat} {a1 : Int} {a2 : Int} {a3 : Int} {a4 : Int} {a5 : Int} {f : Nat}
    (hM : MX X R a0) (hf : (I a0 1).toInt = (f : Int)) (hf6 : f ≤ 600) (r_a1 : -2147483648 ≤ a1 ∧ a1 < 2147483648) (r_a2 : -2147483648 ≤ a2 ∧ a2 < 2147483648) (r_a3 : -2147483648 ≤ a3 ∧ a3 < 2147483648) (r_a4 : -2147483648 ≤ a4 ∧ a4 < 2147483648) (r_a5 : -2147483648 ≤ a5 ∧ a5 < 2147483648)
    {QE : String → jx_I → Prop} : jc V 1 205 (0, 0) [.ref a0, jy a1, jy a2, jy a3, jy a4, jy a5] X I R (fun rv I' => (f + 20 ≤ 600 ∧ rv = some (jy ((f + 20 : Nat) : Int)) ∧ (I' a0 1).toInt = ((f + 20 : Nat) : Int) ∧ (∀ j, j < 20 → (I' (a0 + 1) (f + j)).toInt = wby (fdw a1 a2 a3 a4 a5 (j / 4)) (j % 4)) ∧ (∀ k, k < f → I' (a0 + 1) k = I (a0 + 1) k) ∧ (∀ k, k ≠ 1 → I' a0 k = (jx_u I a0 0 (Int32.ofInt 0)) a0 k) ∧ ∀ q, q ≠ a0 → q ≠ a0 + 1 → I' q = I q) ∨ (600 < f + 20 ∧ rv = some (jy (-1)) ∧ I' = jx_u I a0 0 (Int32.ofInt 0))) QE := by
  refine wm_205 hV (by omega) (by omega) (by omega) (by omega) (by omega)  (fun J23 J76 hJJ => ?_)
  obtain ⟨hJ23, hJ76⟩ := hJJ
  unfold wz_205
  refine ⟨s_M_0 hM, ?_⟩
  intro I2 e_I2; subst e_I2
  have hf2 : ((jx_u I a0 0 (Int32.ofInt 0)) a0 1).toInt = (f : Int) := by rw [jx_u_k _ _ _ _ (by omega)]; exact hf
  refine ⟨by omega, ?_⟩
  refine ⟨fun hq1 => ?_, fun hq1 => ?_⟩
  · have L23 : ∀ (n23 : Nat) (l6 : Int) (K : jx_I), n23 = (20 - l6).toNat → (∃ i : Nat, l6 = (i : Int) ∧ i ≤ 20 ∧ (K a0 1).toInt = ((f + i : Nat) : Int) ∧ (∀ j, j < i → (K (a0 + 1) (f + j)).toInt = wby (fdw a1 a2 a3 a4 a5 (j / 4)) (j % 4)) ∧ (∀ k, k < f → K (a0 + 1) k = I (a0 + 1) k) ∧ (∀ k, k ≠ 1 → K a0 k = (jx_u I a0 0 (Int32.ofInt 0)) a0 k) ∧ ∀ q, q ≠ a0 → q ≠ a0 + 1 → K q = I q) → J23 l6 K := by
      intro n23
      induction n23 using Nat.strongRecOn with
      | ind n23 ih23 =>
      intro l6 K hn23 hI23
      obtain ⟨i, rfl, hi, hfk, hb, hk1, hk2, hO⟩ := hI23
      refine hJ23 _ _ ?_
      unfold wz_205_23
      refine ⟨by omega, ?_⟩
      refine ⟨fun hq2 => ?_, fun hq2 => ?_⟩
      · refine ⟨s_M_0 hM, ?_⟩
        have hi20 : i = 20 := by omega
        subst hi20
        exact Or.inl ⟨by omega, by rw [hfk], hfk, hb, hk1, hk2, hO⟩
      · refine ⟨fun hq3 => ?_, fun hq3 => ?_⟩
        · refine ⟨fun hq4 => ?_, fun hq4 => ?_⟩
          · refine ⟨fun hq5 => ?_, fun hq5 => ?_⟩
            · refine ⟨fun hq6 => ?_, fun hq6 => ?_⟩
              · refine hJ76 _ _ _ ?_
                unfold wz_205_76
                refine ⟨s_M_0 hM, _, r_M_8 hM, _, ⟨s_M_1 hM, by decide⟩, ?_⟩
                have hby := fun x : Int => jz_bys x (i % 4) (by omega)
                have hr4 := jz_rem4 i (by omega)
                try simp only [-eq_self, hr4, hfk, Int.toNat_natCast, hby]
                refine ⟨by omega, ?_⟩
                intro I12 e_I12; subst e_I12
                intro I13 e_I13; subst e_I13
                exact ih23 _ (by omega) _ _ rfl (⟨i + 1, by omega, by omega, by rw [jx_u_s, jx_u_a _ _ _ _ (by omega), hfk]; rw [jy_toInt (by omega)]; omega, fun j hj => by
                  rw [jx_u_a _ _ _ _ (by omega)]
                  rcases Nat.lt_or_ge j i with h | h
                  · rw [jx_u_k _ _ _ _ (by omega)]; exact hb j h
                  · have hwr := wby_rng a5 (i % 4)
                    have hji : j = i := by omega
                    subst hji
                    rw [jx_u_s, jy_toInt (by omega), show j / 4 = 4 by omega]; rfl, fun k hk => by rw [jx_u_a _ _ _ _ (by omega), jx_u_k _ _ _ _ (by omega)]; exact hk1 k hk, fun k hk => by rw [jx_u_k _ _ _ _ hk, jx_u_a _ _ _ _ (by omega)]; exact hk2 k hk, fun q h1 h2 => by rw [jx_u_r _ _ _ h1, jx_u_r _ _ _ h2]; exact hO q h1 h2⟩)
              · refine hJ76 _ _ _ ?_
                unfold wz_205_76
                refine ⟨s_M_0 hM, _, r_M_8 hM, _, ⟨s_M_1 hM, by decide⟩, ?_⟩
                have hby := fun x : Int => jz_bys x (i % 4) (by omega)
                have hr4 := jz_rem4 i (by omega)
                try simp only [-eq_self, hr4, hfk, Int.toNat_natCast, hby]
                refine ⟨by omega, ?_⟩
                intro I12 e_I12; subst e_I12
                intro I13 e_I13; subst e_I13
                exact ih23 _ (by omega) _ _ rfl (⟨i + 1, by omega, by omega, by rw [jx_u_s, jx_u_a _ _ _ _ (by omega), hfk]; rw [jy_toInt (by omega)]; omega, fun j hj => by
                  rw [jx_u_a _ _ _ _ (by omega)]
                  rcases Nat.lt_or_ge j i with h | h
                  · rw [jx_u_k _ _ _ _ (by omega)]; exact hb j h
                  · have hwr := wby_rng a4 (i % 4)
                    have hji : j = i := by omega
                    subst hji
                    rw [jx_u_s, jy_toInt (by omega), show j / 4 = 3 by omega]; rfl, fun k hk => by rw [jx_u_a _ _ _ _ (by omega), jx_u_k _ _ _ _ (by omega)]; exact hk1 k hk, fun k hk => by rw [jx_u_k _ _ _ _ hk, jx_u_a _ _ _ _ (by omega)]; exact hk2 k hk, fun q h1 h2 => by rw [jx_u_r _ _ _ h1, jx_u_r _ _ _ h2]; exact hO q h1 h2⟩)
            · refine hJ76 _ _ _ ?_
              unfold wz_205_76
              refine ⟨s_M_0 hM, _, r_M_8 hM, _, ⟨s_M_1 hM, by decide⟩, ?_⟩
              have hby := fun x : Int => jz_bys x (i % 4) (by omega)
              have hr4 := jz_rem4 i (by omega)
              try simp only [-eq_self, hr4, hfk, Int.toNat_natCast, hby]
              refine ⟨by omega, ?_⟩
              intro I12 e_I12; subst e_I12
              intro I13 e_I13; subst e_I13
              exact ih23 _ (by omega) _ _ rfl (⟨i + 1, by omega, by omega, by rw [jx_u_s, jx_u_a _ _ _ _ (by omega), hfk]; rw [jy_toInt (by omega)]; omega, fun j hj => by
                rw [jx_u_a _ _ _ _ (by omega)]
                rcases Nat.lt_or_ge j i with h | h
                · rw [jx_u_k _ _ _ _ (by omega)]; exact hb j h
                · have hwr := wby_rng a3 (i % 4)
                  have hji : j = i := by omega
                  subst hji
                  rw [jx_u_s, jy_toInt (by omega), show j / 4 = 2 by omega]; rfl, fun k hk => by rw [jx_u_a _ _ _ _ (by omega), jx_u_k _ _ _ _ (by omega)]; exact hk1 k hk, fun k hk => by rw [jx_u_k _ _ _ _ hk, jx_u_a _ _ _ _ (by omega)]; exact hk2 k hk, fun q h1 h2 => by rw [jx_u_r _ _ _ h1, jx_u_r _ _ _ h2]; exact hO q h1 h2⟩)
          · refine hJ76 _ _ _ ?_
            unfold wz_205_76
            refine ⟨s_M_0 hM, _, r_M_8 hM, _, ⟨s_M_1 hM, by decide⟩, ?_⟩
            have hby := fun x : Int => jz_bys x (i % 4) (by omega)
            have hr4 := jz_rem4 i (by omega)
            try simp only [-eq_self, hr4, hfk, Int.toNat_natCast, hby]
            refine ⟨by omega, ?_⟩
            intro I12 e_I12; subst e_I12
            intro I13 e_I13; subst e_I13
            exact ih23 _ (by omega) _ _ rfl (⟨i + 1, by omega, by omega, by rw [jx_u_s, jx_u_a _ _ _ _ (by omega), hfk]; rw [jy_toInt (by omega)]; omega, fun j hj => by
              rw [jx_u_a _ _ _ _ (by omega)]
              rcases Nat.lt_or_ge j i with h | h
              · rw [jx_u_k _ _ _ _ (by omega)]; exact hb j h
              · have hwr := wby_rng a2 (i % 4)
                have hji : j = i := by omega
                subst hji
                rw [jx_u_s, jy_toInt (by omega), show j / 4 = 1 by omega]; rfl, fun k hk => by rw [jx_u_a _ _ _ _ (by omega), jx_u_k _ _ _ _ (by omega)]; exact hk1 k hk, fun k hk => by rw [jx_u_k _ _ _ _ hk, jx_u_a _ _ _ _ (by omega)]; exact hk2 k hk, fun q h1 h2 => by rw [jx_u_r _ _ _ h1, jx_u_r _ _ _ h2]; exact hO q h1 h2⟩)
        · refine hJ76 _ _ _ ?_
          unfold wz_205_76
          refine ⟨s_M_0 hM, _, r_M_8 hM, _, ⟨s_M_1 hM, by decide⟩, ?_⟩
          have hby := fun x : Int => jz_bys x (i % 4) (by omega)
          have hr4 := jz_rem4 i (by omega)
          try simp only [-eq_self, hr4, hfk, Int.toNat_natCast, hby]
          refine ⟨by omega, ?_⟩
          intro I12 e_I12; subst e_I12
          intro I13 e_I13; subst e_I13
          exact ih23 _ (by omega) _ _ rfl (⟨i + 1, by omega, by omega, by rw [jx_u_s, jx_u_a _ _ _ _ (by omega), hfk]; rw [jy_toInt (by omega)]; omega, fun j hj => by
            rw [jx_u_a _ _ _ _ (by omega)]
            rcases Nat.lt_or_ge j i with h | h
            · rw [jx_u_k _ _ _ _ (by omega)]; exact hb j h
            · have hwr := wby_rng a1 (i % 4)
              have hji : j = i := by omega
              subst hji
              rw [jx_u_s, jy_toInt (by omega), show j / 4 = 0 by omega]; rfl, fun k hk => by rw [jx_u_a _ _ _ _ (by omega), jx_u_k _ _ _ _ (by omega)]; exact hk1 k hk, fun k hk => by rw [jx_u_k _ _ _ _ hk, jx_u_a _ _ _ _ (by omega)]; exact hk2 k hk, fun q h1 h2 => by rw [jx_u_r _ _ _ h1, jx_u_r _ _ _ h2]; exact hO q h1 h2⟩)
    exact L23 _ _ _ rfl (⟨0, rfl, by omega, by rw [hf2]; rfl, fun j h => absurd h (by omega), fun k _ => by rw [jx_u_a _ _ _ _ (by omega)], fun _ _ => rfl, fun q h1 _ => by rw [jx_u_r _ _ _ h1]⟩)
  · exact Or.inr ⟨by omega, rfl, rfl⟩
/-- GrievingCamelsModel.quarrel -/
theorem cz_298 {V : jx_V} (hV : V.1.stackTraces = false) {X : jx_X} {R : jx_R} {I : jx_I} {a0 : Nat} {a1 : Int} {a2 : Int} {l : LT} {c : CT} 
    (hM : MX X R a0) (hX : MSX I a0 l c) (hW : WT l) (hC : WC l c) (r_a1 : -2147483648 ≤ a1 ∧ a1 < 2147483648) (r_a2 : -2147483648 ≤ a2 ∧ a2 < 2147483648)
    {QE : String → jx_I → Prop} : jc V 3 298 (0, 0) [.ref a0, jy a1, jy a2] X I R (fun rv I' => (nzw ((0 ≤ a1 ∧ a1 < (Lm l : Nat)) ∧ (0 ≤ a2 ∧ a2 < (Lm l : Nat))) 1 1 (nzw (a1 ≠ a2) 2 2 (none)) = none ∧ rv = some (jy (bN (Lf l a1.toNat) a2.toNat : Nat)) ∧ (I' a0 0).toInt = 0 ∧ FK a0 SCR I I') ∨ (∃ k w, nzw ((0 ≤ a1 ∧ a1 < (Lm l : Nat)) ∧ (0 ≤ a2 ∧ a2 < (Lm l : Nat))) 1 1 (nzw (a1 ≠ a2) 2 2 (none)) = some (k, w) ∧ I' = RM (jx_u I a0 0 (Int32.ofInt 0)) a0 k w ∧ ∃ x : Int, rv = some (jy x))) QE := by
  have hW0 := hW.1
  have hW0 := hW.1
  refine wm_298 hV (by omega) (by omega)  (fun J27 J46 hJJ => ?_)
  obtain ⟨hJ27, hJ46⟩ := hJJ
  unfold wz_298
  refine ⟨s_M_0 hM, ?_⟩
  intro I2 e_I2; subst e_I2
  have hX0 := MSX_0 (v := Int32.ofInt 0) hX hW
  have h00 : (jx_u I a0 0 (Int32.ofInt 0) a0 0).toInt = 0 := by rw [jx_u_s]; rfl
  refine ⟨_, cz_233 hV hM hX0.1 hW (by omega), ?_⟩
  rintro _ I5 ⟨rfl, e9⟩; replace e9 := e9.symm; subst e9
  refine ⟨_, rfl, ?_⟩
  refine ⟨by omega, ?_⟩
  refine ⟨fun hq1 => ?_, fun hq1 => ?_⟩
  · have c1 := bi_f hq1
    refine hJ27 _ _ _ ?_
    unfold wz_298_27
    refine ⟨s_M_0 hM, ?_⟩
    refine ⟨_, cz_202b hV hM h00 (by omega) (by omega), ?_⟩
    rintro _ I16 ⟨rfl, e9⟩; replace e9 := e9.symm; subst e9
    refine ⟨_, rfl, ?_⟩
    refine ⟨by omega, ?_⟩
    refine ⟨fun hq2 => ?_, fun hq2 => ?_⟩
    · exact Or.inr ⟨_, _, by exact nzw_f (fun k => c1 k.1), rfl, _, rfl⟩
    · exact absurd hq2 (by decide)
  · have c1 := bi_t hq1
    refine ⟨_, cz_233 hV hM hX0.1 hW (by omega), ?_⟩
    rintro _ I10 ⟨rfl, e9⟩; replace e9 := e9.symm; subst e9
    refine ⟨_, rfl, ?_⟩
    refine ⟨by omega, ?_⟩
    refine ⟨fun hq3 => ?_, fun hq3 => ?_⟩
    · have c2 := bi_t hq3
      refine hJ27 _ _ _ ?_
      unfold wz_298_27
      refine ⟨s_M_0 hM, ?_⟩
      refine ⟨_, cz_202o hV hM h00 (by omega) (by omega), ?_⟩
      rintro _ I16 ⟨rfl, e9⟩; replace e9 := e9.symm; subst e9
      refine ⟨_, rfl, ?_⟩
      refine ⟨by omega, ?_⟩
      refine ⟨fun hq4 => ?_, fun hq4 => ?_⟩
      · exact absurd hq4 (by decide)
      · refine ⟨fun hq5 => ?_, fun hq5 => ?_⟩
        · refine hJ46 _ _ _ ?_
          unfold wz_298_46
          refine ⟨s_M_0 hM, ?_⟩
          refine ⟨_, cz_202o hV hM h00 (by omega) (by omega), ?_⟩
          rintro _ I22 ⟨rfl, e9⟩; replace e9 := e9.symm; subst e9
          refine ⟨_, rfl, ?_⟩
          refine ⟨by omega, ?_⟩
          refine ⟨fun hq6 => ?_, fun hq6 => ?_⟩
          · refine ⟨s_M_0 hM, _, r_M_19 hM, _, ⟨s_M_12 hM, by decide⟩, ?_⟩
            have hf := (hX0.1.2.2.2.1 a1.toNat (by omega)).2.2
            have hfr := (hW.2.2.2.1 a1.toNat (by omega)).2.2
            have hbit := jz_bit (B := Lf l a1.toNat) (k := a2.toNat) (by omega) (by omega)
            rw [Int.toNat_of_nonneg (by omega)] at hbit
            try simp only [-eq_self, hf, hbit]
            have h01 := bN_01 (Lf l a1.toNat) a2.toNat
            refine ⟨by omega, ?_⟩
            refine ⟨fun hq7 => ?_, fun hq7 => ?_⟩
            · exact Or.inl ⟨by rw [nzw_t (And.intro c1 c2), nzw_t hq5], by rw [show ((bN (Lf l a1.toNat) a2.toNat : Nat) : Int) = 0 by omega], h00, FK_0⟩
            · exact Or.inl ⟨by rw [nzw_t (And.intro c1 c2), nzw_t hq5], by rw [show ((bN (Lf l a1.toNat) a2.toNat : Nat) : Int) = 1 by omega], h00, FK_0⟩
          · exact absurd hq6 (by decide)
        · refine hJ46 _ _ _ ?_
          unfold wz_298_46
          refine ⟨s_M_0 hM, ?_⟩
          refine ⟨_, cz_202b hV hM h00 (by omega) (by omega), ?_⟩
          rintro _ I22 ⟨rfl, e9⟩; replace e9 := e9.symm; subst e9
          refine ⟨_, rfl, ?_⟩
          refine ⟨by omega, ?_⟩
          refine ⟨fun hq8 => ?_, fun hq8 => ?_⟩
          · exact absurd hq8 (by decide)
          · exact Or.inr ⟨_, _, by rw [nzw_t (And.intro c1 c2)]; exact nzw_f (fun k => k hq5), rfl, _, rfl⟩
    · have c2 := bi_f hq3
      refine hJ27 _ _ _ ?_
      unfold wz_298_27
      refine ⟨s_M_0 hM, ?_⟩
      refine ⟨_, cz_202b hV hM h00 (by omega) (by omega), ?_⟩
      rintro _ I16 ⟨rfl, e9⟩; replace e9 := e9.symm; subst e9
      refine ⟨_, rfl, ?_⟩
      refine ⟨by omega, ?_⟩
      refine ⟨fun hq9 => ?_, fun hq9 => ?_⟩
      · exact Or.inr ⟨_, _, by exact nzw_f (fun k => c2 k.2), rfl, _, rfl⟩
      · exact absurd hq9 (by decide)
