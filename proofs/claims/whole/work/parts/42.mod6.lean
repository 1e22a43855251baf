/-! ===== the reference: a journey gone, undone ===== -/
/-- GrievingCamelsModel.notesGriefs -/
theorem cz_265 {V : jx_V} (hV : V.1.stackTraces = false) {X : jx_X} {R : jx_R} {I : jx_I} {a0 : Nat} {a1 : Nat} 
    (hM : MX X R a0) (hs : X.2.1 a1 = some (100, 160)) (ha : a1 < a0 + 1288 ∨ a0 + 1305 ≤ a1)
    {QE : String → jx_I → Prop} : jc V 1 265 (0, 0) [.ref a0, .ref a1] X I R (fun rv I' => rv = none ∧ (∀ c p, c < 8 → p < 10 → I' a1 (c * 10 + p) = I (a0 + 1288 + c) p ∧ I' a1 (80 + c * 10 + p) = I (a0 + 1297 + c) p) ∧ ∀ q, q ≠ a1 → I' q = I q) QE := by
  refine wm_265 hV   (fun J2 J10 hJJ => ?_)
  obtain ⟨hJ2, hJ10⟩ := hJJ
  unfold wz_265
  have L2 : ∀ (n2 : Nat) (l2 : Int) (K : jx_I), n2 = (8 - l2).toNat → (∃ i : Nat, l2 = i ∧ i ≤ 8 ∧ (∀ c p, c < 8 → p < 10 → (c < i) → K a1 (c * 10 + p) = I (a0 + 1288 + c) p ∧ K a1 (80 + c * 10 + p) = I (a0 + 1297 + c) p) ∧ ∀ q, q ≠ a1 → K q = I q) → J2 l2 K := by
    intro n2
    induction n2 using Nat.strongRecOn with
    | ind n2 ih2 =>
    intro l2 K hn2 hI2
    obtain ⟨i, rfl, hi, hN, hO⟩ := hI2
    refine hJ2 _ _ ?_
    unfold wz_265_2
    refine ⟨by omega, ?_⟩
    refine ⟨fun hq1 => ?_, fun hq1 => ?_⟩
    · exact ⟨rfl, fun c p h1 h2 => hN c p h1 h2 (by omega), hO⟩
    · have L10 : ∀ (n10 : Nat) (l2 : Int) (l3 : Int) (K2 : jx_I), n10 = (10 - l3).toNat → (∃ j : Nat, l2 = (i : Int) ∧ l3 = j ∧ i < 8 ∧ j ≤ 10 ∧ (∀ c p, c < 8 → p < 10 → (c < i ∨ (c = i ∧ p < j)) → K2 a1 (c * 10 + p) = I (a0 + 1288 + c) p ∧ K2 a1 (80 + c * 10 + p) = I (a0 + 1297 + c) p) ∧ ∀ q, q ≠ a1 → K2 q = I q) → J10 l2 l3 K2 := by
        intro n10
        induction n10 using Nat.strongRecOn with
        | ind n10 ih10 =>
        intro l2 l3 K2 hn10 hI10
        obtain ⟨j, rfl, rfl, hi, hj, hN, hO⟩ := hI10
        refine hJ10 _ _ _ ?_
        unfold wz_265_10
        refine ⟨by omega, ?_⟩
        refine ⟨fun hq2 => ?_, fun hq2 => ?_⟩
        · exact ih2 _ (by omega) _ _ rfl (⟨i + 1, by omega, by omega, fun c p h1 h2 h3 => hN c p h1 h2 (by omega), hO⟩)
        · refine ⟨s_M_0 hM, _, r_M_29 hM, _, ⟨s_M_1287 hM, by decide⟩, by omega, _, rr_M_1287 hM (by omega), _, ⟨sr_M_1287 hM (by omega), by decide⟩, ?_⟩
          try simp only [-eq_self, Int.toNat_natCast, show (((i : Int) * 10) + (j : Int)).toNat = i * 10 + j by omega, show ((80 + ((i : Int) * 10)) + (j : Int)).toNat = 80 + i * 10 + j by omega]
          refine ⟨by omega, _, ⟨hs, by decide⟩, by omega, ?_⟩
          intro I17 e_I17; subst e_I17
          refine ⟨_, r_M_30 hM, _, ⟨s_M_1296 hM, by decide⟩, by omega, _, rr_M_1296 hM (by omega), _, ⟨sr_M_1296 hM (by omega), by decide⟩, by omega, by omega, ?_⟩
          intro I29 e_I29; subst e_I29
          exact ih10 _ (by omega) _ _ _ rfl (⟨j + 1, rfl, by omega, hi, by omega, by
            intro c p hc hp h9
            rcases (by omega : (c = i ∧ p = j) ∨ (c < i ∨ (c = i ∧ p < j))) with ⟨h7, h8⟩ | h8
            · rw [h7, h8]
              refine ⟨?_, ?_⟩
              · rw [jx_u_k _ _ _ _ (by omega), jx_u_s, Int32.ofInt_toInt, hO _ (by omega)]
              · rw [jx_u_s, Int32.ofInt_toInt, jx_u_a _ _ _ _ (by omega), hO _ (by omega)]
            · refine ⟨?_, ?_⟩
              · rw [jx_u_k _ _ _ _ (by omega), jx_u_k _ _ _ _ (by omega)]; exact (hN c p hc hp h8).1
              · rw [jx_u_k _ _ _ _ (by omega), jx_u_k _ _ _ _ (by omega)]; exact (hN c p hc hp h8).2, fun q hq => by rw [jx_u_r _ _ _ hq, jx_u_r _ _ _ hq]; exact hO q hq⟩)
      exact L10 _ _ _ _ rfl (⟨0, rfl, rfl, by omega, by omega, fun c p h1 h2 h3 => hN c p h1 h2 (by omega), hO⟩)
  exact L2 _ _ _ rfl (⟨0, rfl, by omega, fun c p _ _ h => absurd h (by omega), fun q _ => rfl⟩)
theorem MSX_un {I I' : jx_I} {m : Nat} {l : LT} {c : CT} {U : List (GT × GT)} (h : MSX I m l c) (hW : WT l) (hk : ∀ k, k ≠ 39 → I' m k = I m k) (hq : ∀ q, q ≠ m → (q < m + 1316 ∨ m + 1340 ≤ q) → I' q = I q) (h39 : (I' m 39).toInt = (U.length : Int)) (h24 : U.length ≤ 24) (hU : ∀ (k : Nat) (e : GT × GT), U[k]? = some e → ∀ p q, p < Ln l → q < Lm l → (I' (m + 1316 + k) (q * 10 + p)).toInt = e.1 p q ∧ (I' (m + 1316 + k) (80 + q * 10 + p)).toInt = e.2 p q) : MSX I' m l (c.1, c.2.1, CN c, U) := by
  have hn := hW.1
  refine ⟨MD_of h.1 (hk 23 (by omega)) (fun q h1 h2 => hq q (by omega) (by omega)) hW, ⟨ML_of h.2.1.1 (hk 36 (by omega)) (hq _ (by omega) (by omega)), MH_of h.2.1.2.1 (fun j hj => hq _ (by omega) (by omega)), MH_of h.2.1.2.2 (fun j hj => hq _ (by omega) (by omega))⟩, ML_of h.2.2.1 (hk 37 (by omega)) (hq _ (by omega) (by omega)), ⟨?_, h.2.2.2.1.2.1, ?_⟩, ⟨h39, h24, hU⟩⟩
  · rw [hk 38 (by omega)]; exact h.2.2.2.1.1
  · intro k e he
    have hk9 := (List.getElem?_eq_some_iff.mp he).1
    have := h.2.2.2.1.2.1
    have hk8 : k < 9 := by
      have h3 : (CN (c.1, c.2.1, CN c, U)).length = (CN c).length := rfl
      omega
    rw [hq _ (by omega) (by omega)]
    exact h.2.2.2.1.2.2 k e he
/-- GrievingCamelsModel.go -/
theorem cz_266 {V : jx_V} (hV : V.1.stackTraces = false) {X : jx_X} {R : jx_R} {I : jx_I} {a0 : Nat} {l : LT} {c : CT} 
    (hM : MX X R a0) (hX : MSX I a0 l c) (hW : WT l) (hC : WC l c) 
    {QE : String → jx_I → Prop} : jc V 6 266 (0, 0) [.ref a0] X I R (fun rv I' => (nzw (CJ c ≠ []) 3 1 (none) = none ∧ (I' a0 0).toInt = 0 ∧ ((24 ≤ (CU c).length ∧ rv = some (jy (-1)) ∧ FK a0 SCR I I') ∨ ((CU c).length < 24 ∧ rv = some (jy (hrs l (CJ c) (CL c) (Cg c) (Cd c))) ∧ MSX I' a0 l ((jst l (CJ c) (CL c) (Cg c) (Cd c) ((CJ c).length - 1)), c.2.1, CN c, CU c ++ [c.1]) ∧ FQ a0 I I'))) ∨ (∃ k w, nzw (CJ c ≠ []) 3 1 (none) = some (k, w) ∧ I' = RM (jx_u I a0 0 (Int32.ofInt 0)) a0 k w ∧ ∃ x : Int, rv = some (jy x))) QE := by
  have hW0 := hW.1
  have hW0 := hW.1
  refine wm_266 hV   (fun J59 J71 hJJ => ?_)
  obtain ⟨hJ59, hJ71⟩ := hJJ
  unfold wz_266
  refine ⟨s_M_0 hM, ?_⟩
  intro I2 e_I2; subst e_I2
  have hX0 := MSX_0 (v := Int32.ofInt 0) hX hW
  have h00 : (jx_u I a0 0 (Int32.ofInt 0) a0 0).toInt = 0 := by rw [jx_u_s]; rfl
  refine ⟨_, cz_259 hV hM h00 hX0.2.2.1.1, ?_⟩
  rintro _ I5 ⟨rfl, hI⟩
  refine ⟨_, rfl, ?_⟩
  refine ⟨by omega, ?_⟩
  refine ⟨fun hq1 => ?_, fun hq1 => ?_⟩
  · have cJ := bi_f hq1
    rw [if_neg cJ] at hI
    subst hI
    have hJ1 := WC_J hC cJ
    have h39 : (jx_u I a0 0 (Int32.ofInt 0) a0 39).toInt = ((CU c).length : Int) := hX0.2.2.2.2.1
    have h24 := hX0.2.2.2.2.2.1
    refine ⟨fun hq2 => ?_, fun hq2 => ?_⟩
    · refine ⟨_, r_M_32 hM, _, ⟨s_M_1315 hM, by decide⟩, ?_⟩
      try simp only [-eq_self, h39, Int.toNat_natCast]
      refine ⟨by omega, _, rr_M_1315 hM (by omega), ?_⟩
      refine ⟨_, cz_265 hV hM (sr_M_1315 hM (by omega)) (by omega), ?_⟩
      rintro _ I17 ⟨rfl, hcp, hfr⟩
      refine ⟨rfl, ?_⟩
      intro I19 e_I19
      have h9o : ∀ q, q ≠ a0 → q ≠ a0 + 1316 + (CU c).length → I19 q = (jx_u I a0 0 (Int32.ofInt 0)) q := fun q h1 h2 => by rw [e_I19, jx_u_r _ _ _ h1]; exact hfr q h2
      have h9k : ∀ k, k ≠ 39 → I19 a0 k = (jx_u I a0 0 (Int32.ofInt 0)) a0 k := fun k hk => by rw [e_I19, jx_u_k _ _ _ _ hk, hfr a0 (by omega)]
      have h939 : (I19 a0 39).toInt = (((CU c).length + 1 : Nat) : Int) := by rw [e_I19, jx_u_s, hfr a0 (by omega), h39]; rw [jy_toInt (by omega)]; omega
      have e99 : I19 (a0 + 1316 + (CU c).length) = I17 (a0 + 1316 + (CU c).length) := by rw [e_I19, jx_u_r _ _ _ (by omega)]
      clear e_I19
      have hX9 : MSX I19 a0 l (c.1, c.2.1, CN c, CU c ++ [c.1]) := by
        refine MSX_un hX0 hW h9k (fun q h1 h2 => h9o q h1 (by omega)) (by rw [h939, List.length_append, List.length_singleton]) (by rw [List.length_append, List.length_singleton]; omega) ?_
        intro k e hk p q hp hq
        have hn := hW.1
        rcases Nat.lt_or_ge k (CU c).length with h | h
        · rw [List.getElem?_append_left h] at hk
          rw [h9o _ (by omega) (by omega)]
          exact hX0.2.2.2.2.2.2 k e hk p q hp hq
        · have hk2 := (List.getElem?_eq_some_iff.mp hk).1
          rw [List.length_append, List.length_singleton] at hk2
          have hk3 : k = (CU c).length := by omega
          rw [hk3, List.getElem?_append_right (by omega), Nat.sub_self] at hk
          have hke : c.1 = e := Option.some.inj hk
          have hc := hcp q p (by omega) (by omega)
          rw [hk3, e99, hc.1, hc.2, ← hke]
          exact ⟨hX0.2.1.2.1 p q hp hq, hX0.2.1.2.2 p q hp hq⟩
      have hB9 : MB I19 a0 l (CL c) (Cg c) (Cd c) := hX9.2.1
      have hJ9 : ML I19 a0 37 (a0 + 1345) (CJ c) := hX9.2.2.1
      have hFQ9 : FQ a0 I I19 := FQ_trans (FQ_k FK_0) ⟨fun q h1 h2 => h9o q h1 (by omega), fun k hk => h9k k (by rintro rfl; exact hk (by decide))⟩
      refine ⟨_, cz_243 hV hM hX9.1 hW hB9 (GDn_w hW hC) hC.2.1.2 (WC_8 hW hC), ?_⟩
      rintro _ I22 ⟨rfl, hN1, hF1⟩
      refine ⟨rfl, ?_⟩
      refine ⟨_, cz_258 hV hM (FK_MD hX9.1 hF1 (by decide) hW) hW hN1 (GDn_w hW hC) hC.2.1.2 (WC_8 hW hC) hC.2.1.1 (FK_ML hJ9 hF1 (by decide) (by omega) (by omega) (by omega)) hJ1.2.1 hJ1.1.2, ?_⟩
      rintro _ I26 ⟨rfl, h48, h49, hN9, hF9⟩
      refine ⟨_, rfl, ?_⟩
      have hF26 : FK a0 SCR I19 I26 := FK_trans (FK_mono hF1 (by decide)) (FK_mono hF9 (by decide))
      have hX26 := MSX_s hX9 hF26 hW
      have h26 : (I26 a0 0).toInt = 0 := by rw [hF9.2 0 (by decide), hF1.2 0 (by decide), h9k 0 (by omega)]; exact h00
      have hGE := GDn_j (l := l) (GDn_w hW hC) hJ1.2.1 hC.2.1.2 ((CJ c).length - 1) (by have := hJ1.1; omega)
      have hn := hW.1
      have L59 : ∀ (n59 : Nat) (l1 : Int) (l2 : Int) (K : jx_I), n59 = ((Lm l : Int) - l2).toNat → (∃ i : Nat, l1 = hrs l (CJ c) (CL c) (Cg c) (Cd c) ∧ l2 = i ∧ i ≤ Lm l ∧ MH K (a0 + 1288) (Ln l) i (jst l (CJ c) (CL c) (Cg c) (Cd c) ((CJ c).length - 1)).1 ∧ MH K (a0 + 1297) (Ln l) i (jst l (CJ c) (CL c) (Cg c) (Cd c) ((CJ c).length - 1)).2 ∧ ∀ q, (q < a0 + 1288 ∨ a0 + 1305 ≤ q) → K q = I26 q) → J59 l1 l2 K := by
        intro n59
        induction n59 using Nat.strongRecOn with
        | ind n59 ih59 =>
        intro l1 l2 K hn59 hI59
        obtain ⟨i, rfl, rfl, hi, hg, hd, hO⟩ := hI59
        refine hJ59 _ _ _ ?_
        unfold wz_266_59
        refine ⟨s_M_0 hM, _, r_M_11 hM, _, ⟨s_M_4 hM, by decide⟩, ?_⟩
        have hm4 : (K (a0 + 4) 1).toInt = Lm l := by rw [hO _ (by omega)]; exact hX26.1.1.2
        try simp only [-eq_self, show (1 : Int).toNat = 1 from rfl, hm4]
        refine ⟨by omega, by omega, ?_⟩
        refine ⟨fun hq3 => ?_, fun hq3 => ?_⟩
        · rw [show i = Lm l by omega] at hg hd
          have hK : FQ a0 I26 K := ⟨fun q h1 h2 => hO q (by omega), fun k _ => by rw [hO a0 (by omega)]⟩
          exact Or.inl ⟨nzw_t cJ, by rw [hO a0 (by omega)]; exact h26, Or.inr ⟨by omega, rfl, MSX_hd hX26 hW hO hg hd, FQ_trans hFQ9 (FQ_trans (FQ_k hF26) hK)⟩⟩
        · have L71 : ∀ (n71 : Nat) (l1 : Int) (l2 : Int) (l3 : Int) (K2 : jx_I), n71 = ((Ln l : Int) - l3).toNat → (∃ j : Nat, l1 = hrs l (CJ c) (CL c) (Cg c) (Cd c) ∧ l2 = (i : Int) ∧ l3 = j ∧ i < Lm l ∧ j ≤ Ln l ∧ MH K2 (a0 + 1288) (Ln l) i (jst l (CJ c) (CL c) (Cg c) (Cd c) ((CJ c).length - 1)).1 ∧ MH K2 (a0 + 1297) (Ln l) i (jst l (CJ c) (CL c) (Cg c) (Cd c) ((CJ c).length - 1)).2 ∧ MH K2 (a0 + 1288 + i) j 1 (fun q _ => (jst l (CJ c) (CL c) (Cg c) (Cd c) ((CJ c).length - 1)).1 q i) ∧ MH K2 (a0 + 1297 + i) j 1 (fun q _ => (jst l (CJ c) (CL c) (Cg c) (Cd c) ((CJ c).length - 1)).2 q i) ∧ ∀ q, (q < a0 + 1288 ∨ a0 + 1305 ≤ q) → K2 q = I26 q) → J71 l1 l2 l3 K2 := by
            intro n71
            induction n71 using Nat.strongRecOn with
            | ind n71 ih71 =>
            intro l1 l2 l3 K2 hn71 hI71
            obtain ⟨j, rfl, rfl, rfl, hi, hj, hg, hd, hg1, hd1, hO⟩ := hI71
            refine hJ71 _ _ _ _ ?_
            unfold wz_266_71
            refine ⟨s_M_0 hM, _, r_M_11 hM, _, ⟨s_M_4 hM, by decide⟩, ?_⟩
            have hn4 : (K2 (a0 + 4) 0).toInt = Ln l := by rw [hO _ (by omega)]; exact hX26.1.1.1
            try simp only [-eq_self, show (0 : Int).toNat = 0 from rfl, hn4]
            refine ⟨by omega, by omega, ?_⟩
            refine ⟨fun hq4 => ?_, fun hq4 => ?_⟩
            · exact ih59 _ (by omega) _ _ _ rfl (⟨i + 1, rfl, by omega, by omega, fun q c hq hc => by
                rcases Nat.lt_or_ge c i with h | h
                · exact hg q c hq h
                · have := hg1 q 0 (by omega) (by omega); rw [show c = i by omega]; simpa using this, fun q c hq hc => by
                rcases Nat.lt_or_ge c i with h | h
                · exact hd q c hq h
                · have := hd1 q 0 (by omega) (by omega); rw [show c = i by omega]; simpa using this, hO⟩)
            · have hgv : (K2 (a0 + 1347 + i) j).toInt = (jst l (CJ c) (CL c) (Cg c) (Cd c) ((CJ c).length - 1)).1 j i := by rw [hO _ (by omega)]; exact hN9.2.1 j i (by omega) hi
              have hdv : (K2 (a0 + 1356 + i) j).toInt = (jst l (CJ c) (CL c) (Cg c) (Cd c) ((CJ c).length - 1)).2 j i := by rw [hO _ (by omega)]; exact hN9.2.2 j i (by omega) hi
              have hgr := hGE j i (by omega) hi
              refine ⟨_, r_M_29 hM, _, ⟨s_M_1287 hM, by decide⟩, by omega, _, rr_M_1287 hM (by omega), _, r_M_42 hM, _, ⟨s_M_1346 hM, by decide⟩, by omega, _, rr_M_1346 hM (by omega), _, ⟨sr_M_1346 hM (by omega), by decide⟩, by omega, _, ⟨sr_M_1287 hM (by omega), by decide⟩, ?_⟩
              try simp only [-eq_self, Int.toNat_natCast, hgv]
              refine ⟨by omega, ?_⟩
              intro I62 e_I62; subst e_I62
              refine ⟨_, r_M_30 hM, _, ⟨s_M_1296 hM, by decide⟩, by omega, _, rr_M_1296 hM (by omega), _, r_M_43 hM, _, ⟨s_M_1355 hM, by decide⟩, by omega, _, rr_M_1355 hM (by omega), _, ⟨sr_M_1355 hM (by omega), by decide⟩, by omega, _, ⟨sr_M_1296 hM (by omega), by decide⟩, ?_⟩
              have e9 : (jx_u K2 (a0 + 1288 + i) j (Int32.ofInt ((jst l (CJ c) (CL c) (Cg c) (Cd c) ((CJ c).length - 1)).1 j i)) (a0 + 1356 + i) j).toInt = (jst l (CJ c) (CL c) (Cg c) (Cd c) ((CJ c).length - 1)).2 j i := by rw [jx_u_a _ _ _ _ (by omega), hdv]
              try simp only [-eq_self, Int.toNat_natCast, e9]
              refine ⟨by omega, ?_⟩
              intro I83 e_I83; subst e_I83
              exact ih71 _ (by omega) _ _ _ _ rfl (⟨j + 1, rfl, rfl, by omega, hi, by omega, MH_of hg (fun c hc => by rw [jx_u_r _ _ _ (by omega), jx_u_r _ _ _ (by omega)]), MH_of hd (fun c hc => by rw [jx_u_r _ _ _ (by omega), jx_u_r _ _ _ (by omega)]), fun q c hq hc => by
                have hc0 : c = 0 := by omega
                subst hc0
                rw [jx_u_a _ _ _ _ (by omega)]
                rcases Nat.lt_or_ge q j with h | h
                · rw [jx_u_k _ _ _ _ (by omega)]; exact hg1 q 0 h (by omega)
                · rw [show a0 + 1288 + i + 0 = a0 + 1288 + i from rfl, show q = j by omega, jx_u_s]; exact jy_toInt (by omega), fun q c hq hc => by
                have hc0 : c = 0 := by omega
                subst hc0
                rcases Nat.lt_or_ge q j with h | h
                · rw [jx_u_k _ _ _ _ (by omega), jx_u_a _ _ _ _ (by omega)]; exact hd1 q 0 h (by omega)
                · rw [show a0 + 1297 + i + 0 = a0 + 1297 + i from rfl, show q = j by omega, jx_u_s]; exact jy_toInt (by omega), fun q hq => by rw [jx_u_r _ _ _ (by omega), jx_u_r _ _ _ (by omega)]; exact hO q hq⟩)
          exact L71 _ _ _ _ _ rfl (⟨0, rfl, rfl, rfl, by omega, by omega, hg, hd, fun q c hq hc => by omega, fun q c hq hc => by omega, hO⟩)
      exact L59 _ _ _ _ rfl (⟨0, rfl, rfl, by omega, fun p c _ hc => by omega, fun p c _ hc => by omega, fun q _ => rfl⟩)
    · exact Or.inl ⟨nzw_t cJ, h00, Or.inl ⟨by omega, rfl, FK_0⟩⟩
  · have cJ := bi_t hq1
    rw [if_pos cJ] at hI
    subst hI
    exact Or.inr ⟨_, _, nzw_f (fun k => k cJ), rfl, _, rfl⟩
