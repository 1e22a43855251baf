/-! ===== the reference: values, tests, leaves, joins, leads, walks ===== -/
theorem vvl_0 {l : LT} {s : RN} {e : VA} (h : e.2.1 = 0) : vvl l s e = e.1 * e.2.2 := by unfold vvl; rw [if_pos h]
theorem vvl_1 {l : LT} {s : RN} {e : VA} (h : e.2.1 = 1) : vvl l s e = e.1 * (yHe s : Int) := by unfold vvl; rw [if_neg (by omega), if_pos h]
theorem vvl_2 {l : LT} {s : RN} {e : VA} (h : e.2.1 = 2) : vvl l s e = e.1 * yHo s := by unfold vvl; rw [if_neg (by omega), if_neg (by omega), if_pos h]
theorem vvl_3 {l : LT} {s : RN} {e : VA} (h : e.2.1 = 3) : vvl l s e = e.1 * yht l s := by unfold vvl; rw [if_neg (by omega), if_neg (by omega), if_neg (by omega), if_pos h]
theorem vvl_4 {l : LT} {s : RN} {e : VA} (h : e.2.1 = 4) : vvl l s e = e.1 * ((yL s).length : Int) := by unfold vvl; rw [if_neg (by omega), if_neg (by omega), if_neg (by omega), if_neg (by omega), if_pos h]
theorem vvl_5 {l : LT} {s : RN} {e : VA} (h : e.2.1 = 5) : vvl l s e = e.1 * yLo s := by unfold vvl; rw [if_neg (by omega), if_neg (by omega), if_neg (by omega), if_neg (by omega), if_neg (by omega), if_pos h]
theorem vvl_6 {l : LT} {s : RN} {e : VA} (h : e.2.1 = 6) : vvl l s e = e.1 * (yDo s - 1) := by unfold vvl; rw [if_neg (by omega), if_neg (by omega), if_neg (by omega), if_neg (by omega), if_neg (by omega), if_neg (by omega), if_pos h]
theorem vvl_7 {l : LT} {s : RN} {e : VA} (h : e.2.1 = 7) : vvl l s e = e.1 * yG s (yHe s) e.2.2.toNat := by unfold vvl; rw [if_neg (by omega), if_neg (by omega), if_neg (by omega), if_neg (by omega), if_neg (by omega), if_neg (by omega), if_neg (by omega)]
theorem vvl_rng {l : LT} {s : RN} {e : VA} (hW : WT l) (hr : WR 0 l s) (hg : (e.1 = 1 ∨ e.1 = -1) ∧ e.2.1 ≤ 7 ∧ (0 ≤ e.2.2 ∧ e.2.2 ≤ 999) ∧ (e.2.1 = 7 → e.2.2 < (Lm l : Int))) : -37000 ≤ vvl l s e ∧ vvl l s e ≤ 37000 := by
  have hW0 := hW.1
  have h1 := hr.1
  have h2 := hr.2.1
  have h3 := hr.2.2.1
  have h4 := hr.2.2.2.1
  have h5 := hlt_rng (Lc l) ((yL s).map (yG s (yHe s))) (nd (Lk l (yHe s)))
  have h8 := WR_8 hr hW
  have key : ∃ v : Int, vvl l s e = e.1 * v ∧ -37000 ≤ v ∧ v ≤ 37000 := by
    have h7 := hg.2.1
    by_cases k0 : e.2.1 = 0
    · exact ⟨_, vvl_0 k0, by omega, by omega⟩
    by_cases k1 : e.2.1 = 1
    · exact ⟨_, vvl_1 k1, by omega, by omega⟩
    by_cases k2 : e.2.1 = 2
    · exact ⟨_, vvl_2 k2, by omega, by omega⟩
    by_cases k3 : e.2.1 = 3
    · exact ⟨_, vvl_3 k3, by unfold yht; omega, by unfold yht; omega⟩
    by_cases k4 : e.2.1 = 4
    · exact ⟨_, vvl_4 k4, by omega, by omega⟩
    by_cases k5 : e.2.1 = 5
    · exact ⟨_, vvl_5 k5, by omega, by omega⟩
    by_cases k6 : e.2.1 = 6
    · exact ⟨_, vvl_6 k6, by omega, by omega⟩
    have k7 : e.2.1 = 7 := by omega
    have h9 := hg.2.2.2 k7
    have h10 := (hr.2.2.2.2.2.1 (yHe s) e.2.2.toNat (by omega) (by omega)).1
    exact ⟨_, vvl_7 k7, by omega, by omega⟩
  obtain ⟨v, e1, e2, e3⟩ := key
  rw [e1]
  rcases hg.1 with h | h
  · rw [h]; omega
  · rw [h]; omega
theorem vsm_s {l : LT} {s : RN} {vs : List VA} {a n : Nat} {e : VA} (h : vs[a + n]? = some e) : vsm l s vs a (n + 1) = vsm l s vs a n + vvl l s e := by
  show _ + vvl l s (vs.getD (a + n) (0, 0, 0)) = _
  rw [List.getD_eq_getElem?_getD, h]
  rfl
theorem vsm_rng {l : LT} {s : RN} {P : PLT} (hW : WT l) (hr : WR 0 l s) (hp : WP l P) (a : Nat) : ∀ n, a + n ≤ P.2.2.length → -37000 * (n : Int) ≤ vsm l s P.2.2 a n ∧ vsm l s P.2.2 a n ≤ 37000 * (n : Int)
  | 0, _ => ⟨by show _ ≤ (0 : Int); omega, by show (0 : Int) ≤ _; omega⟩
  | n + 1, h => by
    have ih := vsm_rng hW hr hp a n (by omega)
    obtain ⟨e, he⟩ : ∃ e, P.2.2[a + n]? = some e := ⟨_, List.getElem?_eq_getElem (by omega)⟩
    have hv := vvl_rng hW hr (hp.2.2.2 (a + n) e he)
    rw [vsm_s he]
    omega
/-- GrievingCamelsModel.valueBy -/
theorem cz_309 {V : jx_V} (hV : V.1.stackTraces = false) {X : jx_X} {R : jx_R} {I : jx_I} {a0 : Nat} {a1 : Int} {a2 : Int} {l : LT} {s : RN} {P : PLT} {a b : Nat}
    (hM : MX X R a0) (hD : MD I a0 l) (hW : WT l) (hR : MR I a0 l s) (hP : MP I a0 P) (hp : WP l P) (hr : WR 0 l s) (h1 : a1 = (a : Int)) (h2 : a2 = (b : Int)) (hab : a ≤ b) (hb : b ≤ P.2.2.length)
    {QE : String → jx_I → Prop} : jc V 4 309 (0, 0) [.ref a0, jy a1, jy a2] X I R (fun rv I' => rv = some (jy (vsm l s P.2.2 a (b - a))) ∧ FR (a0 + 1286) (a0 + 1287) I I') QE := by
  have hW0 := hW.1
  have hW0 := hW.1
  have hp1 := hp.1
  have hr1 := hr.1
  subst h1
  subst h2
  refine wm_309 hV (by omega) (by omega)  (fun J5 J145 hJJ => ?_)
  obtain ⟨hJ5, hJ145⟩ := hJJ
  unfold wz_309
  have L5 : ∀ (n5 : Nat) (l3 : Int) (l4 : Int) (K : jx_I), n5 = ((b : Int) - l4).toNat → (∃ n : Nat, l4 = ((a + n : Nat) : Int) ∧ a + n ≤ b ∧ l3 = vsm l s P.2.2 a n ∧ FR (a0 + 1286) (a0 + 1287) I K) → J5 l3 l4 K := by
    intro n5
    induction n5 using Nat.strongRecOn with
    | ind n5 ih5 =>
    intro l3 l4 K hn5 hI5
    obtain ⟨n, rfl, hn, rfl, hF⟩ := hI5
    have hRK := MR_fr hR hW hF
    have hPK := MP_k hP (FK_fr (ks := []) hF (by omega)) (by decide)
    have hDK := FK_MD hD (FK_fr (ks := []) hF (by omega)) (by decide) hW
    have h66 := hRK.1.1
    refine hJ5 _ _ _ ?_
    unfold wz_309_5
    refine ⟨by omega, ?_⟩
    refine ⟨fun hq1 => ?_, fun hq1 => ?_⟩
    · rw [show b - a = n by omega]
      exact ⟨rfl, hF⟩
    · obtain ⟨e, he⟩ : ∃ e, P.2.2[a + n]? = some e := ⟨_, List.getElem?_eq_getElem (by omega)⟩
      have hv : (K (a0 + 1856 + ((a + n : Nat) : Int).toNat) (Int.toNat 0)).toInt = e.1 ∧ (K (a0 + 1856 + ((a + n : Nat) : Int).toNat) (Int.toNat 1)).toInt = (e.2.1 : Int) ∧ (K (a0 + 1856 + ((a + n : Nat) : Int).toNat) (Int.toNat 2)).toInt = e.2.2 := hPK.2.2.2 (a + n) e he
      have hg := hp.2.2.2 (a + n) e he
      have hs := vsm_s (l := l) (s := s) he
      have hg7 := hg.2.1
      have hg8 := hg.2.2.2
      refine ⟨s_M_0 hM, _, r_M_64 hM, _, ⟨s_M_1855 hM, by decide⟩, by omega, _, rr_M_1855 hM (by omega), _, ⟨sr_M_1855 hM (by omega), by decide⟩, by omega, ?_⟩
      refine ⟨fun hq2 => ?_, fun hq2 => ?_⟩
      · refine ⟨by omega, ?_⟩
        refine ⟨fun hq3 => ?_, fun hq3 => ?_⟩
        · refine ⟨by omega, ?_⟩
          refine ⟨fun hq4 => ?_, fun hq4 => ?_⟩
          · refine ⟨by omega, ?_⟩
            refine ⟨fun hq5 => ?_, fun hq5 => ?_⟩
            · refine ⟨by omega, ?_⟩
              refine ⟨fun hq6 => ?_, fun hq6 => ?_⟩
              · refine ⟨by omega, ?_⟩
                refine ⟨fun hq7 => ?_, fun hq7 => ?_⟩
                · refine ⟨by omega, ?_⟩
                  refine ⟨fun hq8 => ?_, fun hq8 => ?_⟩
                  · refine ⟨_, r_M_42 hM, by omega, _, ⟨s_M_1346 hM, by decide⟩, by omega, _, rr_M_1346 hM (by omega), _, ⟨sr_M_1346 hM (by omega), by decide⟩, by omega, ?_⟩
                    refine hJ145 _ _ _ _ _ ?_
                    unfold wz_309_145
                    refine ⟨_, ⟨sr_M_1855 hM (by omega), by decide⟩, by omega, ?_⟩
                    exact ih5 _ (by omega) _ _ _ rfl (⟨n + 1, by omega, by omega, by rw [hs, vvl_7 (by omega), hv.1]; rw [hv.2.2, h66, Int.toNat_natCast, hRK.2.2.1 (yHe s) e.2.2.toNat (by omega) (by have := hg8 (by omega); omega)], hF⟩)
                  · refine hJ145 _ _ _ _ _ ?_
                    unfold wz_309_145
                    refine ⟨_, ⟨sr_M_1855 hM (by omega), by decide⟩, by omega, ?_⟩
                    exact ih5 _ (by omega) _ _ _ rfl (⟨n + 1, by omega, by omega, by rw [hs, vvl_6 (by omega), hv.1]; rw [hRK.1.2.2.2.1], hF⟩)
                · refine hJ145 _ _ _ _ _ ?_
                  unfold wz_309_145
                  refine ⟨_, ⟨sr_M_1855 hM (by omega), by decide⟩, by omega, ?_⟩
                  exact ih5 _ (by omega) _ _ _ rfl (⟨n + 1, by omega, by omega, by rw [hs, vvl_5 (by omega), hv.1]; rw [hRK.1.2.2.1], hF⟩)
              · refine hJ145 _ _ _ _ _ ?_
                unfold wz_309_145
                refine ⟨_, ⟨sr_M_1855 hM (by omega), by decide⟩, by omega, ?_⟩
                exact ih5 _ (by omega) _ _ _ rfl (⟨n + 1, by omega, by omega, by rw [hs, vvl_4 (by omega), hv.1]; rw [hRK.2.1.1], hF⟩)
            · refine ⟨_, cz_246 hV hM hDK hW hRK.2 (WR_g hr hW) hr.2.2.2.2.2.2.2 (WR_8 hr hW) h66 hr1, ?_⟩
              rintro _ I32 ⟨rfl, hF9⟩
              refine ⟨_, rfl, ?_⟩
              refine hJ145 _ _ _ _ _ ?_
              unfold wz_309_145
              refine ⟨_, ⟨sr_M_1855 hM (by omega), by decide⟩, by omega, ?_⟩
              exact ih5 _ (by omega) _ _ _ rfl (⟨n + 1, by omega, by omega, by rw [hs, vvl_3 (by omega), hF9 (a0 + 1856 + ((a + n : Nat) : Int).toNat) (by omega), hv.1]; rfl, FR_trans hF hF9⟩)
          · refine hJ145 _ _ _ _ _ ?_
            unfold wz_309_145
            refine ⟨_, ⟨sr_M_1855 hM (by omega), by decide⟩, by omega, ?_⟩
            exact ih5 _ (by omega) _ _ _ rfl (⟨n + 1, by omega, by omega, by rw [hs, vvl_2 (by omega), hv.1]; rw [hRK.1.2.1], hF⟩)
        · refine hJ145 _ _ _ _ _ ?_
          unfold wz_309_145
          refine ⟨_, ⟨sr_M_1855 hM (by omega), by decide⟩, by omega, ?_⟩
          exact ih5 _ (by omega) _ _ _ rfl (⟨n + 1, by omega, by omega, by rw [hs, vvl_1 (by omega), hv.1]; rw [h66], hF⟩)
      · refine ⟨by omega, ?_⟩
        refine hJ145 _ _ _ _ _ ?_
        unfold wz_309_145
        refine ⟨_, ⟨sr_M_1855 hM (by omega), by decide⟩, by omega, ?_⟩
        exact ih5 _ (by omega) _ _ _ rfl (⟨n + 1, by omega, by omega, by rw [hs, vvl_0 (by omega), hv.1]; rw [hv.2.2], hF⟩)
  exact L5 _ _ _ _ rfl (⟨0, rfl, by omega, rfl, FR_refl⟩)
theorem tsb_0 {l : LT} {s : RN} {P : PLT} {e : TE} (h : e.2.1 = 0) : tsb l s P e = decide (vsm l s P.2.2 e.1 (e.2.2.1 - e.1) < vsm l s P.2.2 e.2.2.1 (e.2.2.2 - e.2.2.1)) := if_pos h
theorem tsb_1 {l : LT} {s : RN} {P : PLT} {e : TE} (h : e.2.1 = 1) : tsb l s P e = decide (vsm l s P.2.2 e.2.2.1 (e.2.2.2 - e.2.2.1) < vsm l s P.2.2 e.1 (e.2.2.1 - e.1)) := by unfold tsb; rw [if_neg (by omega), if_pos h]
theorem tsb_2 {l : LT} {s : RN} {P : PLT} {e : TE} (h : e.2.1 ≠ 0) (h1 : e.2.1 ≠ 1) : tsb l s P e = decide (vsm l s P.2.2 e.1 (e.2.2.1 - e.1) = vsm l s P.2.2 e.2.2.1 (e.2.2.2 - e.2.2.1)) := by unfold tsb; rw [if_neg h, if_neg h1]
/-- only the row tried changes -/
def FL (m : Nat) (I I' : jx_I) : Prop := (∀ q, q ≠ m → q ≠ m + 1364 → I' q = I q) ∧ ∀ k, k ≠ 46 → I' m k = I m k
/-- GrievingCamelsModel.isSo -/
theorem cz_310 {V : jx_V} (hV : V.1.stackTraces = false) {X : jx_X} {R : jx_R} {I : jx_I} {a0 : Nat} {a1 : Int} {l : LT} {s : RN} {P : PLT} {k : Nat} {e : TE}
    (hM : MX X R a0) (hD : MD I a0 l) (hW : WT l) (hR : MR I a0 l s) (hP : MP I a0 P) (hp : WP l P) (hr : WR 0 l s) (h1 : a1 = (k : Int)) (he : P.2.1[k]? = some e)
    {QE : String → jx_I → Prop} : jc V 5 310 (0, 0) [.ref a0, jy a1] X I R (fun rv I' => rv = some (jy (if tsb l s P e = true then 1 else 0)) ∧ FR (a0 + 1286) (a0 + 1287) I I') QE := by
  have hW0 := hW.1
  have hW0 := hW.1
  have hp1 := hp.1
  have hg := hp.2.2.1 k e he
  have hkl := gi_lt he
  subst h1
  have hv : (I (a0 + 1614 + ((k : Nat) : Int).toNat) (Int.toNat 0)).toInt = (e.1 : Int) ∧ (I (a0 + 1614 + ((k : Nat) : Int).toNat) (Int.toNat 1)).toInt = (e.2.1 : Int) ∧ (I (a0 + 1614 + ((k : Nat) : Int).toNat) (Int.toNat 2)).toInt = (e.2.2.1 : Int) ∧ (I (a0 + 1614 + ((k : Nat) : Int).toNat) (Int.toNat 3)).toInt = (e.2.2.2 : Int) := hP.2.2.1 k e he
  have hs1 := vsm_rng hW hr hp e.1 (e.2.2.1 - e.1) (by omega)
  have hs2 := vsm_rng hW hr hp e.2.2.1 (e.2.2.2 - e.2.2.1) (by omega)
  refine wm_310 hV (by omega)  ?_
  unfold wz_310
  refine ⟨s_M_0 hM, _, r_M_62 hM, _, ⟨s_M_1613 hM, by decide⟩, by omega, _, rr_M_1613 hM (by omega), _, ⟨sr_M_1613 hM (by omega), by decide⟩, by omega, by omega, _, rr_M_1613 hM (by omega), _, ⟨sr_M_1613 hM (by omega), by decide⟩, by omega, ?_⟩
  refine ⟨_, cz_309 hV hM hD hW hR hP hp hr hv.1 hv.2.2.1 (by omega) (by omega), ?_⟩
  rintro _ I20 ⟨rfl, hF1⟩
  refine ⟨_, rfl, ?_⟩
  have hP2 := MP_k hP (FK_fr (ks := []) hF1 (by omega)) (by decide)
  have hv2 : (I20 (a0 + 1614 + ((k : Nat) : Int).toNat) (Int.toNat 0)).toInt = (e.1 : Int) ∧ (I20 (a0 + 1614 + ((k : Nat) : Int).toNat) (Int.toNat 1)).toInt = (e.2.1 : Int) ∧ (I20 (a0 + 1614 + ((k : Nat) : Int).toNat) (Int.toNat 2)).toInt = (e.2.2.1 : Int) ∧ (I20 (a0 + 1614 + ((k : Nat) : Int).toNat) (Int.toNat 3)).toInt = (e.2.2.2 : Int) := hP2.2.2.1 k e he
  refine ⟨by omega, _, rr_M_1613 hM (by omega), _, ⟨sr_M_1613 hM (by omega), by decide⟩, by omega, by omega, _, rr_M_1613 hM (by omega), _, ⟨sr_M_1613 hM (by omega), by decide⟩, by omega, ?_⟩
  refine ⟨_, cz_309 hV hM (FK_MD hD (FK_fr (ks := []) hF1 (by omega)) (by decide) hW) hW (MR_fr hR hW hF1) hP2 hp hr hv2.2.2.1 hv2.2.2.2 (by omega) (by omega), ?_⟩
  rintro _ I36 ⟨rfl, hF2⟩
  refine ⟨_, rfl, ?_⟩
  have hP3 := MP_k hP2 (FK_fr (ks := []) hF2 (by omega)) (by decide)
  have hv3 : (I36 (a0 + 1614 + ((k : Nat) : Int).toNat) (Int.toNat 0)).toInt = (e.1 : Int) ∧ (I36 (a0 + 1614 + ((k : Nat) : Int).toNat) (Int.toNat 1)).toInt = (e.2.1 : Int) ∧ (I36 (a0 + 1614 + ((k : Nat) : Int).toNat) (Int.toNat 2)).toInt = (e.2.2.1 : Int) ∧ (I36 (a0 + 1614 + ((k : Nat) : Int).toNat) (Int.toNat 3)).toInt = (e.2.2.2 : Int) := hP3.2.2.1 k e he
  refine ⟨by omega, _, rr_M_1613 hM (by omega), _, ⟨sr_M_1613 hM (by omega), by decide⟩, by omega, ?_⟩
  refine ⟨fun hq1 => ?_, fun hq1 => ?_⟩
  · refine ⟨by omega, _, rr_M_1613 hM (by omega), _, ⟨sr_M_1613 hM (by omega), by decide⟩, by omega, ?_⟩
    refine ⟨fun hq2 => ?_, fun hq2 => ?_⟩
    · refine ⟨by omega, by omega, ?_⟩
      refine ⟨fun hq3 => ?_, fun hq3 => ?_⟩
      · exact ⟨by rw [tsb_2 (by omega) (by omega), decide_eq_false (by omega)]; rfl, FR_trans hF1 hF2⟩
      · exact ⟨by rw [tsb_2 (by omega) (by omega), decide_eq_true (by omega)]; rfl, FR_trans hF1 hF2⟩
    · refine ⟨by omega, by omega, ?_⟩
      refine ⟨fun hq4 => ?_, fun hq4 => ?_⟩
      · exact ⟨by rw [tsb_1 (by omega), decide_eq_false (by omega)]; rfl, FR_trans hF1 hF2⟩
      · exact ⟨by rw [tsb_1 (by omega), decide_eq_true (by omega)]; rfl, FR_trans hF1 hF2⟩
  · refine ⟨by omega, by omega, ?_⟩
    refine ⟨fun hq5 => ?_, fun hq5 => ?_⟩
    · exact ⟨by rw [tsb_0 (by omega), decide_eq_false (by omega)]; rfl, FR_trans hF1 hF2⟩
    · exact ⟨by rw [tsb_0 (by omega), decide_eq_true (by omega)]; rfl, FR_trans hF1 hF2⟩
/-- GrievingCamelsModel.leaves -/
theorem cz_311 {V : jx_V} (hV : V.1.stackTraces = false) {X : jx_X} {R : jx_R} {I : jx_I} {a0 : Nat} {a1 : Int} {x : Nat} {L : List Nat}
    (hM : MX X R a0) (hL : ML I a0 46 (a0 + 1364) L) (hL8 : L.length ≤ 8) (h1 : a1 = (x : Int)) (hx : x < 2147483648)
    {QE : String → jx_I → Prop} : jc V 1 311 (0, 0) [.ref a0, jy a1] X I R (fun rv I' => rv = none ∧ ML I' a0 46 (a0 + 1364) (L.filter (fun c => c != x)) ∧ FL a0 I I') QE := by
  refine wm_311 hV (by omega)  (fun J4 J40 hJJ => ?_)
  obtain ⟨hJ4, hJ40⟩ := hJJ
  have hm := hL.1
  unfold wz_311
  have L4 : ∀ (n4 : Nat) (l2 : Int) (l3 : Int) (K : jx_I), n4 = ((L.length : Int) - l3).toNat → (∃ i : Nat, l3 = i ∧ i ≤ L.length ∧ l2 = (((L.take i).filter (fun c => c != x)).length : Int) ∧ ((L.take i).filter (fun c => c != x)).length ≤ i ∧ (∀ k, i ≤ k → K (a0 + 1364) k = I (a0 + 1364) k) ∧ (∀ (k y : Nat), ((L.take i).filter (fun c => c != x))[k]? = some y → (K (a0 + 1364) k).toInt = (y : Int)) ∧ ∀ q, q ≠ a0 + 1364 → K q = I q) → J4 l2 l3 K := by
    intro n4
    induction n4 using Nat.strongRecOn with
    | ind n4 ih4 =>
    intro l2 l3 K hn4 hI4
    obtain ⟨i, rfl, hi, rfl, hji, h2, h3, hF⟩ := hI4
    have hK : (K a0 46).toInt = L.length := by rw [hF a0 (by omega), hm]
    refine hJ4 _ _ _ ?_
    unfold wz_311_4
    refine ⟨s_M_0 hM, by omega, ?_⟩
    refine ⟨fun hq1 => ?_, fun hq1 => ?_⟩
    · intro I3 e_I3; subst e_I3
      have e : L.take i = L := List.take_of_length_le (by omega)
      rw [e] at h3 hji ⊢
      exact ⟨rfl, ⟨by rw [jx_u_s]; exact jy_toInt (by omega), fun k y hk => by rw [jx_u_r _ _ _ (by omega)]; exact h3 k y hk⟩, fun q h5 h6 => by rw [jx_u_r _ _ _ h5]; exact hF q h6, fun k hk => by rw [jx_u_k _ _ _ _ hk, hF a0 (by omega)]⟩
    · obtain ⟨y, hy, hv⟩ := ML_get hL (i := i) (by omega)
      have hv2 : (K (a0 + 1364) i).toInt = (y : Int) := by rw [h2 i (by omega), hv]
      refine ⟨_, r_M_44 hM, _, ⟨s_M_1364 hM, by decide⟩, by omega, ?_⟩
      refine ⟨fun hq2 => ?_, fun hq2 => ?_⟩
      · rw [Int.toNat_natCast, hv2, h1] at hq2
        have hyx : y ≠ x := by omega
        refine ⟨by omega, by omega, ?_⟩
        intro I11 e_I11; subst e_I11
        refine hJ40 _ _ _ ?_
        unfold wz_311_40
        exact ih4 _ (by omega) _ _ _ rfl (⟨i + 1, by omega, by omega, by rw [ls_last hy, List.filter_append]; simp [hyx], by rw [ls_last hy, List.filter_append]; simp [hyx]; omega, fun k hk => by rw [jx_u_k _ _ _ _ (by omega)]; exact h2 k (by omega), fun k z hz => by
          rw [ls_last hy, List.filter_append] at hz
          have hz : ((L.take i).filter (fun c => c != x) ++ [y])[k]? = some z := by simpa [hyx] using hz
          rw [Int.toNat_natCast, Int.toNat_natCast, hv2]
          rcases Nat.lt_trichotomy k ((L.take i).filter (fun c => c != x)).length with hc | hc | hc
          · rw [List.getElem?_append_left hc] at hz
            rw [jx_u_k _ _ _ _ (by omega)]
            exact h3 k z hz
          · rw [hc] at hz ⊢
            simp at hz
            rw [jx_u_s, hz]
            have := hL.2 i y hy
            rw [← hz, ← this]
            simp
          · rw [List.getElem?_append_right (by omega), List.getElem?_eq_none (by simp; omega)] at hz
            exact absurd hz (by simp), fun q hq => by rw [jx_u_r _ _ _ hq]; exact hF q hq⟩)
      · rw [Int.toNat_natCast, hv2, h1] at hq2
        have hyx : y = x := by omega
        refine hJ40 _ _ _ ?_
        unfold wz_311_40
        exact ih4 _ (by omega) _ _ _ rfl (⟨i + 1, by omega, by omega, by rw [ls_last hy, List.filter_append]; simp [hyx], by rw [ls_last hy, List.filter_append]; simp [hyx]; omega, fun k hk => h2 k (by omega), fun k z hz => h3 k z (by rw [ls_last hy, List.filter_append] at hz; simpa [hyx] using hz), hF⟩)
  exact L4 _ _ _ _ rfl (⟨0, by omega, by omega, by simp, by simp, fun k _ => rfl, fun k y h => by simp at h, fun _ _ => rfl⟩)
