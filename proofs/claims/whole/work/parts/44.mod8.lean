/-! ===== the reference: digits of a number, routes laid ===== -/
theorem lgc_0 {x : Int64} (h : ¬ (lg_cmp x (0 : Int64)).toInt ≠ 0) : x = 0 := by
  unfold lg_cmp at h
  by_cases c1 : x > 0
  · rw [if_pos c1] at h; exact absurd h (by decide)
  · rw [if_neg c1] at h
    by_cases c2 : x = 0
    · exact c2
    · rw [if_neg c2] at h; exact absurd h (by decide)
theorem lgc_n {x : Int64} (h : (lg_cmp x (0 : Int64)).toInt < 0) : x.toInt < 0 := by
  unfold lg_cmp at h
  by_cases c1 : x > 0
  · rw [if_pos c1] at h; exact absurd h (by decide)
  · rw [if_neg c1] at h
    by_cases c2 : x = 0
    · rw [if_pos c2] at h; exact absurd h (by decide)
    · have h1 : x ≤ 0 := Int64.not_lt.mp c1
      have h2 : x.toInt ≤ (0 : Int64).toInt := Int64.le_iff_toInt_le.mp h1
      have h3 : x.toInt ≠ (0 : Int64).toInt := fun e => c2 (Int64.toInt_inj.mp e)
      rw [show (0 : Int64).toInt = 0 from rfl] at h2 h3
      omega
theorem lgc_p {x : Int64} (h : ¬ (lg_cmp x (0 : Int64)).toInt < 0) : 0 ≤ x.toInt := by
  unfold lg_cmp at h
  by_cases c1 : x > 0
  · have h2 := Int64.lt_iff_toInt_lt.mp c1
    rw [show (0 : Int64).toInt = 0 from rfl] at h2
    omega
  · rw [if_neg c1] at h
    by_cases c2 : x = 0
    · rw [c2]; decide
    · rw [if_neg c2] at h; exact absurd (by decide) h
/-- GrievingCamelsModel.laysDigits -/
theorem cz_240 {V : jx_V} (hV : V.1.stackTraces = false) {X : jx_X} {R : jx_R} {I : jx_I} {a0 : Nat} {a1 : Int64} {a2 : Int} {k : Nat}
    (hM : MX X R a0) (h2 : a2 = (k : Int)) (hk : k ≤ 12)
    {QE : String → jx_I → Prop} : jc V 1 240 (0, 0) [.ref a0, .long a1, jy a2] X I R (fun rv I' => (∃ r : Int, rv = some (jy r) ∧ ((r = 1 ∧ dok k a1.toInt 10 ∧ ∀ (t x : Nat), (dgs k a1.toInt.toNat)[t]? = some x → (I' (a0 + 1366) t).toInt = (x : Int)) ∨ (r = 0 ∧ ¬ dok k a1.toInt 10))) ∧ FR (a0 + 1366) (a0 + 1367) I I') QE := by
  refine wm_240 hV (by omega)  (fun J8 hJJ => ?_)
  have hJ8 := hJJ
  unfold wz_240
  have L8 : ∀ (n8 : Nat) (l4 : Int64) (l6 : Int) (K : jx_I), n8 = (l6 + 1).toNat → (∃ (j : Nat) (S : List Nat), l6 = (j : Int) - 1 ∧ j ≤ k ∧ S.length + j = k ∧ (0 ≤ a1.toInt → 0 ≤ l4.toInt ∧ (dok k a1.toInt 10 ↔ dok j l4.toInt 10) ∧ dgs k a1.toInt.toNat = dgs j l4.toInt.toNat ++ S ∧ (∀ (t x : Nat), S[t]? = some x → (K (a0 + 1366) (j + t)).toInt = (x : Int))) ∧ FR (a0 + 1366) (a0 + 1367) I K) → J8 l4 l6 K := by
    intro n8
    induction n8 using Nat.strongRecOn with
    | ind n8 ih8 =>
    intro l4 l6 K hn8 hI8
    obtain ⟨j, S, rfl, hj, hS, hpos, hF⟩ := hI8
    have hq := jz_ldiv l4
    have hr5 := jz_lrem l4
    refine hJ8 _ _ _ ?_
    unfold wz_240_8
    refine ⟨by omega, ?_⟩
    refine ⟨fun hq1 => ?_, fun hq1 => ?_⟩
    · refine ⟨fun hq2 => ?_, fun hq2 => ?_⟩
      · have hn := lgc_n hq2
        exact ⟨⟨_, rfl, Or.inr ⟨rfl, fun hd => by have := hd.1; omega⟩⟩, hF⟩
      · refine ⟨fun hq3 => ?_, fun hq3 => ?_⟩
        · have hp := lgc_p hq2
          have hj0 : j = 0 := by omega
          subst hj0
          refine ⟨⟨_, rfl, Or.inr ⟨rfl, fun hd => ?_⟩⟩, hF⟩
          obtain ⟨d1, d2, _⟩ := (hpos hp).2.1.mp hd
          have h0 : l4 = lN 0 := by apply Int64.toInt_inj.mp; rw [show (lN 0).toInt = 0 from rfl]; simp at d2; omega
          rw [h0] at hq3
          exact hq3 (by decide)
        · have hp := lgc_p hq2
          have hj0 : j = 0 := by omega
          subst hj0
          have h6 : l4.toInt = 0 := by rw [lgc_0 (fun k => k hq3)]; rfl
          obtain ⟨_, hd, hg, hst⟩ := hpos hp
          refine ⟨⟨_, rfl, Or.inl ⟨rfl, hd.mpr ⟨by omega, by rw [h6]; decide, by unfold dgs; simp⟩, fun t x ht => ?_⟩⟩, hF⟩
          rw [hg] at ht
          have := hst t x (by simpa [dgs] using ht)
          simpa using this
    · refine ⟨s_M_0 hM, _, r_M_47 hM, _, ⟨s_M_1366 hM, by decide⟩, by omega, ?_⟩
      intro I8 e_I8; subst e_I8
      exact ih8 _ (by omega) _ _ _ rfl (⟨j - 1, ((l4.toInt % 10).toNat) :: S, by omega, by omega, by simp; omega, fun h => by
        obtain ⟨p1, p2, p3, hst⟩ := hpos h
        rw [if_pos p1] at hq hr5
        refine ⟨by omega, ?_, ?_, ?_⟩
        · rw [p2, show j = (j - 1) + 1 by omega, dok_step p1, hq]
          exact ⟨fun h => h.1, fun h => ⟨h, by omega⟩⟩
        · rw [p3, show j = (j - 1) + 1 by omega]
          show dgs (j - 1) (l4.toInt.toNat / 10) ++ [l4.toInt.toNat % 10] ++ S = _
          rw [hq, show (l4.toInt / 10).toNat = l4.toInt.toNat / 10 by omega, show (l4.toInt % 10).toNat = l4.toInt.toNat % 10 by omega]
          simp
        · intro t x ht
          cases t with
          | zero =>
            simp at ht
            rw [show ((j : Int) - 1).toNat = j - 1 + 0 by omega, jx_u_s, jy_toInt (by omega), hr5, ← ht]
            omega
          | succ t =>
            simp at ht
            rw [jx_u_k _ _ _ _ (by omega), show j - 1 + (t + 1) = j + t by omega]
            exact hst t x ht, FR_u hF (by omega) (by omega)⟩)
  exact L8 _ _ _ _ rfl (⟨k, [], by omega, by omega, by simp, fun h => ⟨h, Iff.rfl, by simp, fun t x h => by simp at h⟩, FR_refl⟩)
theorem MSX_j {I I' : jx_I} {m : Nat} {l : LT} {c : CT} {J : List Nat} (h : MSX I m l c) (hW : WT l) (hk : ∀ k, k ≠ 37 → k ∉ SCR → I' m k = I m k) (hq : ∀ q, q ≠ m → q ≠ m + 1345 → (q < m + 1346 ∨ m + 1371 ≤ q) → I' q = I q) (hJ : ML I' m 37 (m + 1345) J) : MSX I' m l (c.1, (CL c, J), c.2.2) := by
  have hn := hW.1
  refine ⟨MD_of h.1 (hk 23 (by omega) (by decide)) (fun q h1 h2 => hq q (by omega) (by omega) (by omega)) hW, ⟨ML_of h.2.1.1 (hk 36 (by omega) (by decide)) (hq _ (by omega) (by omega) (by omega)), MH_of h.2.1.2.1 (fun j hj => hq _ (by omega) (by omega) (by omega)), MH_of h.2.1.2.2 (fun j hj => hq _ (by omega) (by omega) (by omega))⟩, hJ, ⟨?_, h.2.2.2.1.2.1, ?_⟩, ⟨?_, h.2.2.2.2.2.1, ?_⟩⟩
  · rw [hk 38 (by omega) (by decide)]; exact h.2.2.2.1.1
  · intro k e he
    have hk9 := (List.getElem?_eq_some_iff.mp he).1
    have := h.2.2.2.1.2.1
    have hk8 : k < 9 := by
      have h3 : (CN (c.1, (CL c, J), c.2.2)).length = (CN c).length := rfl
      omega
    rw [hq _ (by omega) (by omega) (by omega)]
    exact h.2.2.2.1.2.2 k e he
  · rw [hk 39 (by omega) (by decide)]; exact h.2.2.2.2.1
  · intro k e he p q hp hq2
    have hk9 := (List.getElem?_eq_some_iff.mp he).1
    have := h.2.2.2.2.2.1
    have hk8 : k < 24 := by
      have h3 : (CU (c.1, (CL c, J), c.2.2)).length = (CU c).length := rfl
      omega
    rw [hq _ (by omega) (by omega) (by omega)]
    exact h.2.2.2.2.2.2 k e he p q hp hq2
theorem gd_mem {L : List Nat} {t : Nat} (h : t < L.length) : L.getD t 0 ∈ L := by
  rw [List.getD_eq_getElem?_getD, List.getElem?_eq_getElem h]; exact List.getElem_mem _
theorem gd_all {L : List Nat} {P : Nat → Prop} (h : ∀ t, t < L.length → P (L.getD t 0)) : ∀ x ∈ L, P x := by
  intro x hx
  obtain ⟨t, ht, e⟩ := List.mem_iff_getElem.mp hx
  have := h t ht
  rw [List.getD_eq_getElem?_getD, List.getElem?_eq_getElem ht] at this
  rw [← e]; exact this
/-- GrievingCamelsModel.route -/
theorem cz_256 {V : jx_V} (hV : V.1.stackTraces = false) {X : jx_X} {R : jx_R} {I : jx_I} {a0 : Nat} {a1 : Int} {a2 : Int64} {l : LT} {c : CT} 
    (hM : MX X R a0) (hX : MSX I a0 l c) (hW : WT l) (hC : WC l c) (r_a1 : -2147483648 ≤ a1 ∧ a1 < 2147483648)
    {QE : String → jx_I → Prop} : jc V 3 256 (0, 0) [.ref a0, jy a1, .long a2] X I R (fun rv I' => (nzw (2 ≤ a1 ∧ a1 ≤ 12) 2 1 (none) = none ∧ (I' a0 0).toInt = 0 ∧ (((dok a1.toNat a2.toInt (Ln l) ∧ RJ (Lr l) (dgs a1.toNat a2.toInt.toNat)) ∧ rv = some (jy (rs (Lr l) (dgs a1.toNat a2.toInt.toNat) (a1.toNat - 1))) ∧ MSX I' a0 l (c.1, (CL c, dgs a1.toNat a2.toInt.toNat), c.2.2) ∧ FQ a0 I I') ∨ (¬ (dok a1.toNat a2.toInt (Ln l) ∧ RJ (Lr l) (dgs a1.toNat a2.toInt.toNat)) ∧ rv = some (jy (-1)) ∧ FK a0 SCR I I'))) ∨ (∃ k w, nzw (2 ≤ a1 ∧ a1 ≤ 12) 2 1 (none) = some (k, w) ∧ I' = RM (jx_u I a0 0 (Int32.ofInt 0)) a0 k w ∧ ∃ x : Int, rv = some (jy x))) QE := by
  have hW0 := hW.1
  have hW0 := hW.1
  refine wm_256 hV (by omega)  (fun J21 J48 J133 J145 hJJ => ?_)
  obtain ⟨hJ21, hJ48, hJ133, hJ145⟩ := hJJ
  unfold wz_256
  refine ⟨s_M_0 hM, ?_⟩
  intro I2 e_I2; subst e_I2
  have hX0 := MSX_0 (v := Int32.ofInt 0) hX hW
  have h00 : (jx_u I a0 0 (Int32.ofInt 0) a0 0).toInt = 0 := by rw [jx_u_s]; rfl
  refine ⟨_, cz_203 hV (by omega) (by omega) (by omega), ?_⟩
  rintro _ I5 ⟨rfl, e9⟩; replace e9 := e9.symm; subst e9
  refine ⟨_, rfl, ?_⟩
  refine ⟨by omega, ?_⟩
  refine ⟨fun hq1 => ?_, fun hq1 => ?_⟩
  · have c1 := bi_t hq1
    refine hJ21 _ _ _ ?_
    unfold wz_256_21
    refine ⟨s_M_0 hM, ?_⟩
    refine ⟨_, cz_202o hV hM h00 (by omega) (by omega), ?_⟩
    rintro _ I11 ⟨rfl, e9⟩; replace e9 := e9.symm; subst e9
    refine ⟨_, rfl, ?_⟩
    refine ⟨by omega, ?_⟩
    refine ⟨fun hq2 => ?_, fun hq2 => ?_⟩
    · refine ⟨s_M_0 hM, ?_⟩
      refine ⟨_, cz_240 (k := a1.toNat) hV hM (by omega) (by omega), ?_⟩
      rintro _ I17 ⟨⟨r, rfl, hr⟩, hFR⟩
      refine ⟨_, rfl, ?_⟩
      have hF : FK a0 [] (jx_u I a0 0 (Int32.ofInt 0)) I17 := FK_fr hFR (by omega)
      have hlen : (dgs a1.toNat a2.toInt.toNat).length = a1.toNat := dgs_len _ _
      have hn := hW.1
      have hX7 := MSX_s hX0 (FK_mono hF (by decide)) hW
      have hDK := hX7.1
      refine ⟨by rcases hr with ⟨h, _⟩ | ⟨h, _⟩ <;> omega, ?_⟩
      refine ⟨fun hq3 => ?_, fun hq3 => ?_⟩
      · obtain ⟨_, hd, hx⟩ := hr.resolve_right (fun k => absurd k.1 (by omega))
        have hval : ∀ t, t < a1.toNat → (I17 (a0 + 1366) t).toInt = ((dgs a1.toNat a2.toInt.toNat).getD t 0 : Nat) := fun t ht => hx t _ (by rw [List.getD_eq_getElem?_getD, List.getElem?_eq_getElem (by omega)]; rfl)
        have hsm : ∀ t, (dgs a1.toNat a2.toInt.toNat).getD t 0 < 10 := fun t => by
          rcases Nat.lt_or_ge t (dgs a1.toNat a2.toInt.toNat).length with h | h
          · exact dgs_10 _ _ _ (gd_mem h)
          · rw [List.getD_eq_getElem?_getD, List.getElem?_eq_none h]; decide
        have L48 : ∀ (n48 : Nat) (l4 : Int) (l5 : Int) (K : jx_I), n48 = (a1 - l5).toNat → (∃ i : Nat, l5 = i ∧ i ≤ a1.toNat ∧ (∀ t, t < i → (dgs a1.toNat a2.toInt.toNat).getD t 0 < Ln l) ∧ (∀ t, t + 1 < i → Lr l ((dgs a1.toNat a2.toInt.toNat).getD (t) 0) ((dgs a1.toNat a2.toInt.toNat).getD (t + 1) 0) ≠ 0) ∧ l4 = rs (Lr l) (dgs a1.toNat a2.toInt.toNat) (i - 1) ∧ K = I17) → J48 l4 l5 K := by
          intro n48
          induction n48 using Nat.strongRecOn with
          | ind n48 ih48 =>
          intro l4 l5 K hn48 hI48
          obtain ⟨i, rfl, hi, hpl, hro, rfl, rfl⟩ := hI48
          have hrb : 0 ≤ rs (Lr l) (dgs a1.toNat a2.toInt.toNat) (i - 1) ∧ rs (Lr l) (dgs a1.toNat a2.toInt.toNat) (i - 1) ≤ 300 := by
            have key : ∀ j, j + 1 ≤ i ∨ j = 0 → 0 ≤ rs (Lr l) (dgs a1.toNat a2.toInt.toNat) j ∧ rs (Lr l) (dgs a1.toNat a2.toInt.toNat) j ≤ 24 * j := by
              intro j
              induction j with
              | zero => intro _; simp [rs]
              | succ j ih =>
                intro h
                have h1 := ih (by omega)
                have h2 := (hW.2.2.1 _ _ (hpl j (by omega)) (hpl (j + 1) (by omega))).1
                unfold rs
                omega
            have := key (i - 1) (by omega)
            omega
          refine hJ48 _ _ _ ?_
          unfold wz_256_48
          refine ⟨by omega, ?_⟩
          refine ⟨fun hq4 => ?_, fun hq4 => ?_⟩
          · have L145 : ∀ (n145 : Nat) (l4 : Int) (l5 : Int) (K2 : jx_I), n145 = (a1 - l5).toNat → (∃ j : Nat, l4 = rs (Lr l) (dgs a1.toNat a2.toInt.toNat) (i - 1) ∧ l5 = j ∧ j ≤ a1.toNat ∧ (∀ s, s < j → K2 (a0 + 1345) s = K (a0 + 1366) s) ∧ ∀ q, q ≠ a0 + 1345 → K2 q = K q) → J145 l4 l5 K2 := by
              intro n145
              induction n145 using Nat.strongRecOn with
              | ind n145 ih145 =>
              intro l4 l5 K2 hn145 hI145
              obtain ⟨j, rfl, rfl, hj, hcp, hO⟩ := hI145
              refine hJ145 _ _ _ ?_
              unfold wz_256_145
              refine ⟨by omega, ?_⟩
              refine ⟨fun hq5 => ?_, fun hq5 => ?_⟩
              · refine ⟨s_M_0 hM, ?_⟩
                intro I66 e_I66; subst e_I66
                have hi2 : i = a1.toNat := by omega
                have hj2 : j = a1.toNat := by omega
                have hX9 : MSX (jx_u K2 a0 37 (Int32.ofInt a1)) a0 l (c.1, (CL c, dgs a1.toNat a2.toInt.toNat), c.2.2) := by
                  refine MSX_j hX7 hW (fun k h1 h2 => by rw [jx_u_k _ _ _ _ h1, hO a0 (by omega)]) (fun q h1 h2 h3 => by rw [jx_u_r _ _ _ h1, hO q h2]) ⟨by rw [jx_u_s, jy_toInt (by omega), hlen]; omega, fun s x hs => ?_⟩
                  have hs2 := (List.getElem?_eq_some_iff.mp hs).1
                  rw [jx_u_a _ _ _ _ (by omega), hcp s (by omega)]
                  exact hx s x hs
                exact Or.inl ⟨nzw_t c1, by rw [jx_u_k _ _ _ _ (by omega), hO a0 (by omega), hF.2 0 (by decide)]; exact h00, Or.inl ⟨⟨⟨hd.1, hd.2.1, gd_all (P := fun x => (x : Int) < Ln l) (fun t ht => by have := hpl t (by omega); omega)⟩, fun t ht => hro t (by omega)⟩, by rw [hi2], hX9, FQ_f (FQ_trans (FQ_trans (FQ_k FK_0) (FQ_k (FK_mono hF (by decide)))) ⟨fun q h1 h2 => hO q (by omega), fun k _ => by rw [hO a0 (by omega)]⟩) (by decide)⟩⟩
              · refine ⟨s_M_0 hM, _, r_M_35 hM, _, r_M_47 hM, _, ⟨s_M_1366 hM, by decide⟩, by omega, _, ⟨s_M_1345 hM, by decide⟩, by omega, ?_⟩
                intro I78 e_I78; subst e_I78
                exact ih145 _ (by omega) _ _ _ rfl (⟨j + 1, rfl, by omega, by omega, fun s hs => by
                  rcases Nat.lt_or_ge s j with h | h
                  · rw [jx_u_k _ _ _ _ (by omega)]; exact hcp s h
                  · rw [show s = j by omega, Int.toNat_natCast, jx_u_s, Int32.ofInt_toInt, hO _ (by omega)], fun q hq => by rw [jx_u_r _ _ _ hq]; exact hO q hq⟩)
            exact L145 _ _ _ _ rfl (⟨0, rfl, rfl, by omega, fun s h => absurd h (by omega), fun q _ => rfl⟩)
          · have e1 := hval i (by omega)
            have e0 := hval (i - 1) (by omega)
            have s1 := hsm i
            have s0 := hsm (i - 1)
            refine ⟨s_M_0 hM, _, r_M_47 hM, _, ⟨s_M_1366 hM, by decide⟩, ?_⟩
            try simp only [-eq_self, Int.toNat_natCast, e1]
            refine ⟨by omega, ?_⟩
            refine ⟨_, cz_232 hV hM hDK hW (by omega), ?_⟩
            rintro _ I29 ⟨rfl, e9⟩; replace e9 := e9.symm; subst e9
            refine ⟨_, rfl, ?_⟩
            refine ⟨by omega, ?_⟩
            refine ⟨fun hq6 => ?_, fun hq6 => ?_⟩
            · have cp := bi_f hq6
              exact Or.inl ⟨nzw_t c1, by rw [hF.2 0 (by decide)]; exact h00, Or.inr ⟨fun k => by have h7 := k.1.2.2 _ (gd_mem (show i < (dgs a1.toNat a2.toInt.toNat).length by omega)); omega, rfl, FK_trans FK_0 (FK_mono hF (by decide))⟩⟩
            · have cp := bi_t hq6
              refine ⟨fun hq7 => ?_, fun hq7 => ?_⟩
              · refine ⟨fun hq8 => ?_, fun hq8 => ?_⟩
                · omega
                · refine hJ133 _ _ _ _ ?_
                  unfold wz_256_133
                  exact ih48 _ (by omega) _ _ _ rfl (⟨i + 1, by omega, by omega, fun t h => by rw [show t = i by omega]; omega, fun t h => absurd h (by omega), by rw [show i + 1 - 1 = 0 by omega, show i - 1 = 0 by omega]; rfl, rfl⟩)
              · have s3 := hpl (i - 1) (by omega)
                have hrv := hDK.2.2.1 _ _ s3 (show (dgs a1.toNat a2.toInt.toNat).getD i 0 < Ln l by omega)
                have hrr := (hW.2.2.1 _ _ s3 (show (dgs a1.toNat a2.toInt.toNat).getD i 0 < Ln l by omega)).1
                refine ⟨_, r_M_21 hM, by omega, _, ⟨s_M_24 hM, by decide⟩, ?_⟩
                try simp only [-eq_self, show ((i : Int) - 1).toNat = i - 1 by omega, e0, Int.toNat_natCast, e1, hrv]
                refine ⟨by omega, _, rr_M_24 hM (by omega), by omega, _, ⟨sr_M_24 hM (by omega), by decide⟩, ?_⟩
                try simp only [-eq_self, Int.toNat_natCast, hrv]
                refine ⟨by omega, ?_⟩
                refine ⟨fun hq9 => ?_, fun hq9 => ?_⟩
                · refine ⟨fun hq10 => ?_, fun hq10 => ?_⟩
                  · refine ⟨by omega, by omega, _, rr_M_24 hM (by omega), by omega, _, ⟨sr_M_24 hM (by omega), by decide⟩, ?_⟩
                    try simp only [-eq_self, Int.toNat_natCast, hrv]
                    refine ⟨by omega, ?_⟩
                    refine hJ133 _ _ _ _ ?_
                    unfold wz_256_133
                    exact ih48 _ (by omega) _ _ _ rfl (⟨i + 1, by omega, by omega, fun t h => by
                      rcases Nat.lt_or_ge t i with h9 | h9
                      · exact hpl t h9
                      · rw [show t = i by omega]; omega, fun t h => by
                      rcases Nat.lt_or_ge (t + 1) i with h9 | h9
                      · exact hro t h9
                      · rw [show t = i - 1 by omega, show i - 1 + 1 = i by omega]; exact hq9, by
                      have h7 : rs (Lr l) (dgs a1.toNat a2.toInt.toNat) (i - 1 + 1) = rs (Lr l) (dgs a1.toNat a2.toInt.toNat) (i - 1) + Lr l ((dgs a1.toNat a2.toInt.toNat).getD (i - 1) 0) ((dgs a1.toNat a2.toInt.toNat).getD (i - 1 + 1) 0) := rfl
                      rw [show i - 1 + 1 = i by omega] at h7
                      rw [show i + 1 - 1 = i by omega, h7], rfl⟩)
                  · omega
                · exact Or.inl ⟨nzw_t c1, by rw [hF.2 0 (by decide)]; exact h00, Or.inr ⟨fun k => by have h7 := k.2 (i - 1) (by omega); rw [show i - 1 + 1 = i by omega] at h7; omega, rfl, FK_trans FK_0 (FK_mono hF (by decide))⟩⟩
        exact L48 _ _ _ _ rfl (⟨0, rfl, by omega, fun t h => absurd h (by omega), fun t h => absurd h (by omega), rfl, rfl⟩)
      · obtain ⟨_, hnd⟩ := hr.resolve_left (fun k => absurd k.1 (by omega))
        exact Or.inl ⟨nzw_t c1, by rw [hF.2 0 (by decide)]; exact h00, Or.inr ⟨fun k => hnd ⟨k.1.1, k.1.2.1, fun x hx => by have := dgs_10 _ _ x hx; omega⟩, rfl, FK_trans FK_0 (FK_mono hF (by decide))⟩⟩
    · exact absurd hq2 (by decide)
  · have c1 := bi_f hq1
    refine hJ21 _ _ _ ?_
    unfold wz_256_21
    refine ⟨s_M_0 hM, ?_⟩
    refine ⟨_, cz_202b hV hM h00 (by omega) (by omega), ?_⟩
    rintro _ I11 ⟨rfl, e9⟩; replace e9 := e9.symm; subst e9
    refine ⟨_, rfl, ?_⟩
    refine ⟨by omega, ?_⟩
    refine ⟨fun hq11 => ?_, fun hq11 => ?_⟩
    · exact absurd hq11 (by decide)
    · exact Or.inr ⟨_, _, by exact nzw_f c1, rfl, _, rfl⟩
