/-! ===== the reference: rows laid ===== -/
theorem MSX_l {I I' : jx_I} {m : Nat} {l : LT} {c : CT} {L : List Nat} (h : MSX I m l c) (hW : WT l) (hk : ∀ k, k ≠ 36 → k ∉ SCR → I' m k = I m k) (hq : ∀ q, q ≠ m → q ≠ m + 1344 → (q < m + 1346 ∨ m + 1371 ≤ q) → I' q = I q) (hL : ML I' m 36 (m + 1344) L) : MSX I' m l (c.1, (L, CJ c), c.2.2) := by
  have hn := hW.1
  refine ⟨MD_of h.1 (hk 23 (by omega) (by decide)) (fun q h1 h2 => hq q (by omega) (by omega) (by omega)) hW, ⟨hL, MH_of h.2.1.2.1 (fun j hj => hq _ (by omega) (by omega) (by omega)), MH_of h.2.1.2.2 (fun j hj => hq _ (by omega) (by omega) (by omega))⟩, ML_of h.2.2.1 (hk 37 (by omega) (by decide)) (hq _ (by omega) (by omega) (by omega)), ⟨?_, h.2.2.2.1.2.1, ?_⟩, ⟨?_, h.2.2.2.2.2.1, ?_⟩⟩
  · rw [hk 38 (by omega) (by decide)]; exact h.2.2.2.1.1
  · intro k e he
    have hk9 := (List.getElem?_eq_some_iff.mp he).1
    have := h.2.2.2.1.2.1
    have hk8 : k < 9 := by
      have h3 : (CN (c.1, (L, CJ c), c.2.2)).length = (CN c).length := rfl
      omega
    rw [hq _ (by omega) (by omega) (by omega)]
    exact h.2.2.2.1.2.2 k e he
  · rw [hk 39 (by omega) (by decide)]; exact h.2.2.2.2.1
  · intro k e he p q hp hq2
    have hk9 := (List.getElem?_eq_some_iff.mp he).1
    have := h.2.2.2.2.2.1
    have hk8 : k < 24 := by
      have h3 : (CU (c.1, (L, CJ c), c.2.2)).length = (CU c).length := rfl
      omega
    rw [hq _ (by omega) (by omega) (by omega)]
    exact h.2.2.2.2.2.2 k e he p q hp hq2
theorem nd_snoc {L : List Nat} {x : Nat} : (L ++ [x]).Nodup ↔ L.Nodup ∧ x ∉ L := by
  rw [List.nodup_append]
  constructor
  · rintro ⟨h1, _, h3⟩
    exact ⟨h1, fun h => h3 x h x (by simp) rfl⟩
  · rintro ⟨h1, h2⟩
    refine ⟨h1, by simp, fun a ha b hb => ?_⟩
    simp only [List.mem_singleton] at hb
    rw [hb]
    intro e
    exact h2 (e ▸ ha)
/-- GrievingCamelsModel.string -/
theorem cz_241 {V : jx_V} (hV : V.1.stackTraces = false) {X : jx_X} {R : jx_R} {I : jx_I} {a0 : Nat} {a1 : Int} {a2 : Int64} {l : LT} {c : CT} 
    (hM : MX X R a0) (hX : MSX I a0 l c) (hW : WT l) (hC : WC l c) (r_a1 : -2147483648 ≤ a1 ∧ a1 < 2147483648)
    {QE : String → jx_I → Prop} : jc V 3 241 (0, 0) [.ref a0, jy a1, .long a2] X I R (fun rv I' => (nzw (0 ≤ a1 ∧ a1 ≤ 8) 2 1 (none) = none ∧ (I' a0 0).toInt = 0 ∧ (((dok a1.toNat a2.toInt (Lm l) ∧ (dgs a1.toNat a2.toInt.toNat).Nodup) ∧ rv = some (jy 1) ∧ MSX I' a0 l (c.1, (dgs a1.toNat a2.toInt.toNat, CJ c), c.2.2) ∧ FQ a0 I I') ∨ (¬ (dok a1.toNat a2.toInt (Lm l) ∧ (dgs a1.toNat a2.toInt.toNat).Nodup) ∧ rv = some (jy 0) ∧ FK a0 SCR I I'))) ∨ (∃ k w, nzw (0 ≤ a1 ∧ a1 ≤ 8) 2 1 (none) = some (k, w) ∧ I' = RM (jx_u I a0 0 (Int32.ofInt 0)) a0 k w ∧ ∃ x : Int, rv = some (jy x))) QE := by
  have hW0 := hW.1
  have hW0 := hW.1
  refine wm_241 hV (by omega)  (fun J21 J48 J109 hJJ => ?_)
  obtain ⟨hJ21, hJ48, hJ109⟩ := hJJ
  unfold wz_241
  refine ⟨s_M_0 hM, ?_⟩
  intro I2 e_I2; subst e_I2
  have hX0 := MSX_0 (v := Int32.ofInt 0) hX hW
  have h00 : (jx_u I a0 0 (Int32.ofInt 0) a0 0).toInt = 0 := by rw [jx_u_s]; rfl
  refine ⟨_, cz_203 hV (by omega) (by omega) (by omega), ?_⟩
  rintro _ I5 ⟨rfl, e9⟩; replace e9 := e9.symm; subst e9
  refine ⟨_, rfl, ?_⟩
  refine ⟨by omega, ?_⟩
  refine ⟨fun hq1 => ?_, fun hq1 => ?_⟩
  · have c1 := bi_t hq1
    refine hJ21 _ _ _ ?_
    unfold wz_241_21
    refine ⟨s_M_0 hM, ?_⟩
    refine ⟨_, cz_202o hV hM h00 (by omega) (by omega), ?_⟩
    rintro _ I11 ⟨rfl, e9⟩; replace e9 := e9.symm; subst e9
    refine ⟨_, rfl, ?_⟩
    refine ⟨by omega, ?_⟩
    refine ⟨fun hq2 => ?_, fun hq2 => ?_⟩
    · refine ⟨s_M_0 hM, ?_⟩
      refine ⟨_, cz_240 (k := a1.toNat) hV hM (by omega) (by omega), ?_⟩
      rintro _ I17 ⟨⟨r, rfl, hr⟩, hFR⟩
      refine ⟨_, rfl, ?_⟩
      have hF : FK a0 [] (jx_u I a0 0 (Int32.ofInt 0)) I17 := FK_fr hFR (by omega)
      have hlen : (dgs a1.toNat a2.toInt.toNat).length = a1.toNat := dgs_len _ _
      have hn := hW.1
      have hX7 := MSX_s hX0 (FK_mono hF (by decide)) hW
      have hDK := hX7.1
      refine ⟨by rcases hr with ⟨h, _⟩ | ⟨h, _⟩ <;> omega, ?_⟩
      refine ⟨fun hq3 => ?_, fun hq3 => ?_⟩
      · obtain ⟨_, hd, hx⟩ := hr.resolve_right (fun k => absurd k.1 (by omega))
        have hval : ∀ t, t < a1.toNat → (I17 (a0 + 1366) t).toInt = ((dgs a1.toNat a2.toInt.toNat).getD t 0 : Nat) := fun t ht => hx t _ (by rw [List.getD_eq_getElem?_getD, List.getElem?_eq_getElem (by omega)]; rfl)
        have L48 : ∀ (n48 : Nat) (l4 : Int) (l5 : Int) (K : jx_I), n48 = (a1 - l5).toNat → (∃ i : Nat, l5 = i ∧ i ≤ a1.toNat ∧ (∀ t, t < i → (dgs a1.toNat a2.toInt.toNat).getD t 0 < Lm l) ∧ ((dgs a1.toNat a2.toInt.toNat).take i).Nodup ∧ l4 = (bo ((dgs a1.toNat a2.toInt.toNat).take i) : Nat) ∧ K = I17) → J48 l4 l5 K := by
          intro n48
          induction n48 using Nat.strongRecOn with
          | ind n48 ih48 =>
          intro l4 l5 K hn48 hI48
          obtain ⟨i, rfl, hi, hpl, hnd, rfl, rfl⟩ := hI48
          refine hJ48 _ _ _ ?_
          unfold wz_241_48
          refine ⟨by omega, ?_⟩
          refine ⟨fun hq4 => ?_, fun hq4 => ?_⟩
          · have L109 : ∀ (n109 : Nat) (l5 : Int) (K2 : jx_I), n109 = (a1 - l5).toNat → (∃ j : Nat, l5 = j ∧ j ≤ a1.toNat ∧ (∀ s, s < j → K2 (a0 + 1344) s = K (a0 + 1366) s) ∧ ∀ q, q ≠ a0 + 1344 → K2 q = K q) → J109 l5 K2 := by
              intro n109
              induction n109 using Nat.strongRecOn with
              | ind n109 ih109 =>
              intro l5 K2 hn109 hI109
              obtain ⟨j, rfl, hj, hcp, hO⟩ := hI109
              refine hJ109 _ _ ?_
              unfold wz_241_109
              refine ⟨by omega, ?_⟩
              refine ⟨fun hq5 => ?_, fun hq5 => ?_⟩
              · refine ⟨s_M_0 hM, ?_⟩
                intro I36 e_I36; subst e_I36
                have hi2 : i = a1.toNat := by omega
                have hj2 : j = a1.toNat := by omega
                rw [hi2, List.take_of_length_le (by omega)] at hnd
                have hX9 : MSX (jx_u K2 a0 36 (Int32.ofInt a1)) a0 l (c.1, (dgs a1.toNat a2.toInt.toNat, CJ c), c.2.2) := by
                  refine MSX_l hX7 hW (fun k h1 h2 => by rw [jx_u_k _ _ _ _ h1, hO a0 (by omega)]) (fun q h1 h2 h3 => by rw [jx_u_r _ _ _ h1, hO q h2]) ⟨by rw [jx_u_s, jy_toInt (by omega), hlen]; omega, fun s x hs => ?_⟩
                  have hs2 := (List.getElem?_eq_some_iff.mp hs).1
                  rw [jx_u_a _ _ _ _ (by omega), hcp s (by omega)]
                  exact hx s x hs
                exact Or.inl ⟨nzw_t c1, by rw [jx_u_k _ _ _ _ (by omega), hO a0 (by omega), hF.2 0 (by decide)]; exact h00, Or.inl ⟨⟨⟨hd.1, hd.2.1, gd_all (P := fun x => (x : Int) < Lm l) (fun t ht => by have := hpl t (by omega); omega)⟩, hnd⟩, rfl, hX9, FQ_f (FQ_trans (FQ_trans (FQ_k FK_0) (FQ_k (FK_mono hF (by decide)))) ⟨fun q h1 h2 => hO q (by omega), fun k _ => by rw [hO a0 (by omega)]⟩) (by decide)⟩⟩
              · refine ⟨s_M_0 hM, _, r_M_34 hM, _, r_M_47 hM, _, ⟨s_M_1366 hM, by decide⟩, by omega, _, ⟨s_M_1344 hM, by decide⟩, by omega, ?_⟩
                intro I48 e_I48; subst e_I48
                exact ih109 _ (by omega) _ _ rfl (⟨j + 1, by omega, by omega, fun s hs => by
                  rcases Nat.lt_or_ge s j with h | h
                  · rw [jx_u_k _ _ _ _ (by omega)]; exact hcp s h
                  · rw [show s = j by omega, Int.toNat_natCast, jx_u_s, Int32.ofInt_toInt, hO _ (by omega)], fun q hq => by rw [jx_u_r _ _ _ hq]; exact hO q hq⟩)
            exact L109 _ _ _ rfl (⟨0, rfl, by omega, fun s h => absurd h (by omega), fun q _ => rfl⟩)
          · have e1 := hval i (by omega)
            have s1 := dgs_10 _ _ _ (gd_mem (show i < (dgs a1.toNat a2.toInt.toNat).length by omega))
            have hy : (dgs a1.toNat a2.toInt.toNat)[i]? = some ((dgs a1.toNat a2.toInt.toNat).getD i 0) := by rw [List.getD_eq_getElem?_getD, List.getElem?_eq_getElem (by omega)]; rfl
            refine ⟨s_M_0 hM, _, r_M_47 hM, _, ⟨s_M_1366 hM, by decide⟩, ?_⟩
            try simp only [-eq_self, Int.toNat_natCast, e1]
            refine ⟨by omega, ?_⟩
            refine ⟨_, cz_233 hV hM hDK hW (by omega), ?_⟩
            rintro _ I29 ⟨rfl, e9⟩; replace e9 := e9.symm; subst e9
            refine ⟨_, rfl, ?_⟩
            refine ⟨by omega, ?_⟩
            refine ⟨fun hq6 => ?_, fun hq6 => ?_⟩
            · have cp := bi_f hq6
              exact Or.inl ⟨nzw_t c1, by rw [hF.2 0 (by decide)]; exact h00, Or.inr ⟨fun k => by have h7 := k.1.2.2 _ (gd_mem (show i < (dgs a1.toNat a2.toInt.toNat).length by omega)); omega, rfl, FK_trans FK_0 (FK_mono hF (by decide))⟩⟩
            · have cp := bi_t hq6
              have hbl := bo_lt (n := 10) ((dgs a1.toNat a2.toInt.toNat).take i) (fun x hx => dgs_10 _ _ x (List.mem_of_mem_take hx))
              have hp2 : 2 ^ ((dgs a1.toNat a2.toInt.toNat).getD i 0) < 2 ^ 10 := Nat.pow_lt_pow_right (by omega) s1
              have hbit := jz_bit (B := bo ((dgs a1.toNat a2.toInt.toNat).take i)) (k := (dgs a1.toNat a2.toInt.toNat).getD i 0) (by omega) (by omega)
              have hor := jz_or (a := bo ((dgs a1.toNat a2.toInt.toNat).take i)) (b := 2 ^ ((dgs a1.toNat a2.toInt.toNat).getD i 0)) (by omega) (by omega)
              have hbt := bo_t ((dgs a1.toNat a2.toInt.toNat).take i) ((dgs a1.toNat a2.toInt.toNat).getD i 0)
              rw [bN_t] at hbt
              simp only [decide_eq_decide] at hbt
              simp only [-eq_self, Int.toNat_natCast, e1, hbit, jz_1sh (show (dgs a1.toNat a2.toInt.toNat).getD i 0 < 31 by omega), hor]
              refine ⟨by omega, ?_⟩
              refine ⟨fun hq7 => ?_, fun hq7 => ?_⟩
              · refine ⟨by omega, ?_⟩
                exact ih48 _ (by omega) _ _ _ rfl (⟨i + 1, by omega, by omega, fun t h => by
                  rcases Nat.lt_or_ge t i with h9 | h9
                  · exact hpl t h9
                  · rw [show t = i by omega]; omega, by rw [ls_last hy, nd_snoc]; exact ⟨hnd, fun k => by have := hbt.mpr k; omega⟩, by rw [ls_last hy, bo_app], rfl⟩)
              · have h01 := bN_01 (bo ((dgs a1.toNat a2.toInt.toNat).take i)) ((dgs a1.toNat a2.toInt.toNat).getD i 0)
                exact Or.inl ⟨nzw_t c1, by rw [hF.2 0 (by decide)]; exact h00, Or.inr ⟨fun k => by
                  have h7 : ((dgs a1.toNat a2.toInt.toNat).take (i + 1)).Nodup := k.2.sublist (List.take_sublist _ _)
                  rw [ls_last hy, nd_snoc] at h7
                  exact h7.2 (hbt.mp (by omega)), rfl, FK_trans FK_0 (FK_mono hF (by decide))⟩⟩
        exact L48 _ _ _ _ rfl (⟨0, rfl, by omega, fun t h => absurd h (by omega), by rw [List.take_zero]; exact List.nodup_nil, by rw [List.take_zero]; rfl, rfl⟩)
      · obtain ⟨_, hnd⟩ := hr.resolve_left (fun k => absurd k.1 (by omega))
        exact Or.inl ⟨nzw_t c1, by rw [hF.2 0 (by decide)]; exact h00, Or.inr ⟨fun k => hnd ⟨k.1.1, k.1.2.1, fun x hx => by have := dgs_10 _ _ x hx; omega⟩, rfl, FK_trans FK_0 (FK_mono hF (by decide))⟩⟩
    · exact absurd hq2 (by decide)
  · have c1 := bi_f hq1
    refine hJ21 _ _ _ ?_
    unfold wz_241_21
    refine ⟨s_M_0 hM, ?_⟩
    refine ⟨_, cz_202b hV hM h00 (by omega) (by omega), ?_⟩
    rintro _ I11 ⟨rfl, e9⟩; replace e9 := e9.symm; subst e9
    refine ⟨_, rfl, ?_⟩
    refine ⟨by omega, ?_⟩
    refine ⟨fun hq8 => ?_, fun hq8 => ?_⟩
    · exact absurd hq8 (by decide)
    · exact Or.inr ⟨_, _, by exact nzw_f c1, rfl, _, rfl⟩
