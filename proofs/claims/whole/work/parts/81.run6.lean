/-! ===== the reference: runs, the step ===== -/
theorem G315_e {V : jx_V} {X : jx_X} {R : jx_R} {m : Nat} {l : LT} {P : PLT} {f : Nat} (h : G315 V X R m l P f) {d a b : Nat} {a1 a2 : Int} {I : jx_I} {s : RN} {QE : String → jx_I → Prop} (h1 : a1 = (a : Int)) (h2 : a2 = (b : Int)) (hD : MD I m l) (hP : MP I m P) (hR : MR I m l s) (hr : WR 0 l s) (hb : a ≤ P.1.length ∧ b ≤ P.1.length) (hf : P.1.length ≤ f + a) (hd : 7 + f ≤ d) : jc V d 315 (0, 0) [.ref m, jy a1, jy a2] X I R (fun rv I2 => rv = none ∧ MR I2 m l (rns l P f a b s) ∧ FK m YK I I2) QE := by
  subst h1
  subst h2
  exact h d a b I s QE hD hP hR hr hb hf hd
/-- GrievingCamelsModel.runs -/
theorem cz_315s {V : jx_V} (hV : V.1.stackTraces = false) {d : Nat} {X : jx_X} {R : jx_R} {I : jx_I} {a0 : Nat} {a1 : Int} {a2 : Int} {l : LT} {P : PLT} {s : RN} {f a b : Nat}
    (hM : MX X R a0) (hD : MD I a0 l) (hP : MP I a0 P) (hW : WT l) (hp : WP l P) (hR : MR I a0 l s) (hr : WR 0 l s) (h1 : a1 = (a : Int)) (h2 : a2 = (b : Int)) (hb0 : a ≤ P.1.length ∧ b ≤ P.1.length) (hf : P.1.length ≤ f + a) (hd : 7 + f ≤ d) (ih : ∀ g, g < f → G315 V X R a0 l P g)
    {QE : String → jx_I → Prop} : jc V d 315 (0, 0) [.ref a0, jy a1, jy a2] X I R (fun rv I' => rv = none ∧ MR I' a0 l (rns l P f a b s) ∧ FK a0 YK I I') QE := by
  have hW0 := hW.1
  have hW0 := hW.1
  have hp1 := hp.1
  subst h1
  subst h2
  have hb := hb0.2
  have hb1 := hb0.1
  refine wm_315 hV (by omega) (by omega)  (fun J2 J31 J213 J286 hJJ => ?_)
  obtain ⟨hJ2, hJ31, hJ213, hJ286⟩ := hJJ
  unfold wz_315
  have L2 : ∀ (n2 : Nat) (l3 : Int) (K : jx_I), n2 = ((b : Int) - l3).toNat → (∃ (k g : Nat) (s2 : RN), l3 = (k : Int) ∧ k ≤ P.1.length ∧ P.1.length ≤ g + k ∧ g ≤ f ∧ rns l P f a b s = rns l P g k b s2 ∧ MR K a0 l s2 ∧ WR 0 l s2 ∧ FK a0 YK I K) → J2 l3 K := by
    intro n2
    induction n2 using Nat.strongRecOn with
    | ind n2 ih2 =>
    intro l3 K hn2 hI2
    obtain ⟨k, g0, s2, rfl, hkn, hgk, hgf, hE, hRK, hrK, hF⟩ := hI2
    have hDK := FK_MD hD hF (by decide) hW
    have hPK := MP_k hP hF (by decide)
    have h70 := hRK.1.2.2.2.2
    have hw2 := hrK.2.2.2.2.1
    refine hJ2 _ _ ?_
    unfold wz_315_2
    refine ⟨by omega, ?_⟩
    refine ⟨fun hq1 => ?_, fun hq1 => ?_⟩
    · rw [hE, rns_n (Or.inl (by omega))]
      exact ⟨rfl, hRK, hF⟩
    · refine ⟨s_M_0 hM, ?_⟩
      refine ⟨fun hq2 => ?_, fun hq2 => ?_⟩
      · rw [hE, rns_n (Or.inr (by omega))]
        exact ⟨rfl, hRK, hF⟩
      · obtain ⟨g, rfl⟩ : ∃ g, g0 = g + 1 := ⟨g0 - 1, by omega⟩
        obtain ⟨e, he⟩ : ∃ e, P.1[k]? = some e := ⟨_, List.getElem?_eq_getElem (by omega)⟩
        have hvK : (K (a0 + 1372 + ((k : Nat) : Int).toNat) (Int.toNat 0)).toInt = (e.1 : Int) ∧ (K (a0 + 1372 + ((k : Nat) : Int).toNat) (Int.toNat 1)).toInt = e.2.1 ∧ (K (a0 + 1372 + ((k : Nat) : Int).toNat) (Int.toNat 2)).toInt = (e.2.2.1 : Int) ∧ (K (a0 + 1372 + ((k : Nat) : Int).toNat) (Int.toNat 3)).toInt = (e.2.2.2.1 : Int) ∧ (K (a0 + 1372 + ((k : Nat) : Int).toNat) (Int.toNat 4)).toInt = (e.2.2.2.2 : Int) := hPK.2.1 k e he
        have hse := hp.2.1 k e he
        have hse1 := hse.1
        have hse2 := hse.2.1
        have hse3 := hse.2.2.2.2.2
        have hkl := gi_lt he
        have hE2 : rns l P f a b s = rns l P g e.2.2.2.2 b (stq l P (rns l P g) k e s2) := hE.trans (rns_y (by omega) hb (by omega) he)
        have hc := WR_cts hrK
        have hcw := hc.2.2.1
        have hst := KR_stq (P := P) (rec := rns l P g) (a := k) hW (KR_rns hW hp g) (WP_v hp he).1 (WP_v hp he).2 s2 hrK
        refine ⟨_, r_M_60 hM, _, ⟨s_M_1371 hM, by decide⟩, by omega, _, rr_M_1371 hM (by omega), _, ⟨sr_M_1371 hM (by omega), by decide⟩, by omega, ?_⟩
        refine ⟨fun hq3 => ?_, fun hq3 => ?_⟩
        · refine ⟨by omega, _, cz_308 hV hM hW hRK hrK, ?_⟩
          rintro _ I16 ⟨rfl, hR16, hA16⟩
          refine ⟨_, rfl, ?_⟩
          have hF16 : FK a0 YK I I16 := FK_trans hF (FK_mono hA16 (by decide))
          have hD16 := FK_MD hD hF16 (by decide) hW
          have hP16 := MP_k hP hF16 (by decide)
          have hv16 : (I16 (a0 + 1372 + ((k : Nat) : Int).toNat) (Int.toNat 0)).toInt = (e.1 : Int) ∧ (I16 (a0 + 1372 + ((k : Nat) : Int).toNat) (Int.toNat 1)).toInt = e.2.1 ∧ (I16 (a0 + 1372 + ((k : Nat) : Int).toNat) (Int.toNat 2)).toInt = (e.2.2.1 : Int) ∧ (I16 (a0 + 1372 + ((k : Nat) : Int).toNat) (Int.toNat 3)).toInt = (e.2.2.2.1 : Int) ∧ (I16 (a0 + 1372 + ((k : Nat) : Int).toNat) (Int.toNat 4)).toInt = (e.2.2.2.2 : Int) := hP16.2.1 k e he
          refine ⟨by omega, ?_⟩
          refine ⟨fun hq4 => ?_, fun hq4 => ?_⟩
          · have hcw0 : yWo (cts s2) = 0 := by omega
            have hc1 := hc.2.2.2 hcw0
            have hho := hc1.1.2.1
            have hdo := hc1.1.2.2.2.1
            have hL8 := WR_8 hc.1 hW
            have hnd := hc.1.2.2.2.2.2.2.1
            have hLm := hc.1.2.2.2.2.2.2.2
            refine ⟨by omega, ?_⟩
            refine ⟨fun hq5 => ?_, fun hq5 => ?_⟩
            · refine ⟨by omega, ?_⟩
              refine ⟨fun hq6 => ?_, fun hq6 => ?_⟩
              · refine ⟨by omega, ?_⟩
                refine ⟨fun hq7 => ?_, fun hq7 => ?_⟩
                · refine ⟨by omega, ?_⟩
                  refine ⟨fun hq8 => ?_, fun hq8 => ?_⟩
                  · refine ⟨by omega, ?_⟩
                    refine ⟨fun hq9 => ?_, fun hq9 => ?_⟩
                    · refine ⟨by omega, ?_⟩
                      refine ⟨fun hq10 => ?_, fun hq10 => ?_⟩
                      · refine ⟨by omega, ?_⟩
                        refine ⟨fun hq11 => ?_, fun hq11 => ?_⟩
                        · refine ⟨by omega, ?_⟩
                          refine ⟨fun hq12 => ?_, fun hq12 => ?_⟩
                          · obtain ⟨t, ht⟩ : ∃ t, P.2.1[e.2.2.1]? = some t := ⟨_, List.getElem?_eq_getElem (hse.2.2.2.2.1 (by omega))⟩
                            refine ⟨by omega, ?_⟩
                            refine ⟨by omega, _, cz_310 hV hM hD16 hW hR16 hP16 hp hc.1 hv16.2.2.1 ht, ?_⟩
                            rintro _ I31 ⟨rfl, hA31⟩
                            refine ⟨_, rfl, ?_⟩
                            have hF31 : FK a0 YK I I31 := FK_trans hF16 (FK_fr hA31 (by omega))
                            have hD31 := FK_MD hD hF31 (by decide) hW
                            have hP31 := MP_k hP hF31 (by decide)
                            have hv31 : (I31 (a0 + 1372 + ((k : Nat) : Int).toNat) (Int.toNat 0)).toInt = (e.1 : Int) ∧ (I31 (a0 + 1372 + ((k : Nat) : Int).toNat) (Int.toNat 1)).toInt = e.2.1 ∧ (I31 (a0 + 1372 + ((k : Nat) : Int).toNat) (Int.toNat 2)).toInt = (e.2.2.1 : Int) ∧ (I31 (a0 + 1372 + ((k : Nat) : Int).toNat) (Int.toNat 3)).toInt = (e.2.2.2.1 : Int) ∧ (I31 (a0 + 1372 + ((k : Nat) : Int).toNat) (Int.toNat 4)).toInt = (e.2.2.2.2 : Int) := hP31.2.1 k e he
                            have hR31 := MR_fr hR16 hW hA31
                            refine ⟨by omega, ?_⟩
                            refine ⟨fun hq13 => ?_, fun hq13 => ?_⟩
                            · have ct := bi_f hq13
                              refine ⟨by omega, by omega, ?_⟩
                              refine ⟨_, by omega, _, G315_e (ih g (by omega)) (d := d - 1) (a := e.2.2.2.1) (b := e.2.2.2.2) (by omega) (by omega) hD31 hP31 hR31 hc.1 (by omega) (by omega) (by omega), ?_⟩
                              rintro _ I40 ⟨rfl, hR40, hA40⟩
                              refine ⟨rfl, ?_⟩
                              refine hJ286 _ _ ?_
                              unfold wz_315_286
                              refine ⟨s_M_0 hM, _, r_M_60 hM, _, ⟨s_M_1371 hM, by decide⟩, by omega, _, rr_M_1371 hM (by omega), _, ⟨sr_M_1371 hM (by omega), by decide⟩, by omega, ?_⟩
                              have hx4 : (I40 (a0 + 1372 + ((k : Nat) : Int).toNat) (Int.toNat 4)).toInt = (e.2.2.2.2 : Int) := ((MP_k hP (FK_trans hF31 hA40) (by decide)).2.1 k e he).2.2.2.2
                              exact ih2 _ (by omega) _ _ rfl (⟨e.2.2.2.2, g, _, hx4, by omega, by omega, by omega, hE2, by rw [stq_9n (by omega) hcw0 ht ct]; exact hR40, hst.1, FK_trans hF31 hA40⟩)
                            · have ct := bi_t hq13
                              refine ⟨by omega, ?_⟩
                              refine ⟨_, by omega, _, G315_e (ih g (by omega)) (d := d - 1) (a := k + 1) (b := e.2.2.2.1) (by omega) (by omega) hD31 hP31 hR31 hc.1 (by omega) (by omega) (by omega), ?_⟩
                              rintro _ I47 ⟨rfl, hR47, hA47⟩
                              refine ⟨rfl, ?_⟩
                              refine hJ286 _ _ ?_
                              unfold wz_315_286
                              refine ⟨s_M_0 hM, _, r_M_60 hM, _, ⟨s_M_1371 hM, by decide⟩, by omega, _, rr_M_1371 hM (by omega), _, ⟨sr_M_1371 hM (by omega), by decide⟩, by omega, ?_⟩
                              have hx4 : (I47 (a0 + 1372 + ((k : Nat) : Int).toNat) (Int.toNat 4)).toInt = (e.2.2.2.2 : Int) := ((MP_k hP (FK_trans hF31 hA47) (by decide)).2.1 k e he).2.2.2.2
                              exact ih2 _ (by omega) _ _ rfl (⟨e.2.2.2.2, g, _, hx4, by omega, by omega, by omega, hE2, by rw [stq_9y (by omega) hcw0 ht ct]; exact hR47, hst.1, FK_trans hF31 hA47⟩)
                          · have L213 : ∀ (n213 : Nat) (l3 : Int) (l4 : Nat) (l5 : Int) (K2 : jx_I), n213 = (e.2.1 - l5).toNat → (∃ (i : Nat) (s3 : RN), l3 = (k : Int) ∧ l4 = a0 + 1372 + ((k : Nat) : Int).toNat ∧ l5 = (i : Int) ∧ i ≤ e.2.1.toNat ∧ agn (rns l P g (k + 1) e.2.2.2.1) e.2.1.toNat (cts s2) = agn (rns l P g (k + 1) e.2.2.2.1) (e.2.1.toNat - i) s3 ∧ MR K2 a0 l s3 ∧ WR 0 l s3 ∧ FK a0 YK I K2) → J213 l3 l4 l5 K2 := by
                              intro n213
                              induction n213 using Nat.strongRecOn with
                              | ind n213 ih213 =>
                              intro l3 l4 l5 K2 hn213 hI213
                              obtain ⟨i, s3, rfl, rfl, rfl, hi, hA, hRK2, hrK2, hFK2⟩ := hI213
                              have hDK2 := FK_MD hD hFK2 (by decide) hW
                              have hPK2 := MP_k hP hFK2 (by decide)
                              have hvK2 : (K2 (a0 + 1372 + ((k : Nat) : Int).toNat) (Int.toNat 0)).toInt = (e.1 : Int) ∧ (K2 (a0 + 1372 + ((k : Nat) : Int).toNat) (Int.toNat 1)).toInt = e.2.1 ∧ (K2 (a0 + 1372 + ((k : Nat) : Int).toNat) (Int.toNat 2)).toInt = (e.2.2.1 : Int) ∧ (K2 (a0 + 1372 + ((k : Nat) : Int).toNat) (Int.toNat 3)).toInt = (e.2.2.2.1 : Int) ∧ (K2 (a0 + 1372 + ((k : Nat) : Int).toNat) (Int.toNat 4)).toInt = (e.2.2.2.2 : Int) := hPK2.2.1 k e he
                              have h702 := hRK2.1.2.2.2.2
                              have hw3 := hrK2.2.2.2.2.1
                              refine hJ213 _ _ _ _ ?_
                              unfold wz_315_213
                              refine ⟨_, ⟨sr_M_1371 hM (by omega), by decide⟩, by omega, by omega, ?_⟩
                              refine ⟨fun hq14 => ?_, fun hq14 => ?_⟩
                              · refine hJ286 _ _ ?_
                                unfold wz_315_286
                                refine ⟨s_M_0 hM, _, r_M_60 hM, _, ⟨s_M_1371 hM, by decide⟩, by omega, _, rr_M_1371 hM (by omega), _, ⟨sr_M_1371 hM (by omega), by decide⟩, by omega, ?_⟩
                                have hx4 : (K2 (a0 + 1372 + ((k : Nat) : Int).toNat) (Int.toNat 4)).toInt = (e.2.2.2.2 : Int) := ((MP_k hP (hFK2) (by decide)).2.1 k e he).2.2.2.2
                                exact ih2 _ (by omega) _ _ rfl (⟨e.2.2.2.2, g, _, hx4, by omega, by omega, by omega, hE2, by rw [stq_7 (by omega) hcw0, hA, show e.2.1.toNat - i = 0 by omega]; exact hRK2, hst.1, hFK2⟩)
                              · refine ⟨s_M_0 hM, ?_⟩
                                refine ⟨fun hq15 => ?_, fun hq15 => ?_⟩
                                · refine hJ286 _ _ ?_
                                  unfold wz_315_286
                                  refine ⟨s_M_0 hM, _, r_M_60 hM, _, ⟨s_M_1371 hM, by decide⟩, by omega, _, rr_M_1371 hM (by omega), _, ⟨sr_M_1371 hM (by omega), by decide⟩, by omega, ?_⟩
                                  have hx4 : (K2 (a0 + 1372 + ((k : Nat) : Int).toNat) (Int.toNat 4)).toInt = (e.2.2.2.2 : Int) := ((MP_k hP (hFK2) (by decide)).2.1 k e he).2.2.2.2
                                  exact ih2 _ (by omega) _ _ rfl (⟨e.2.2.2.2, g, _, hx4, by omega, by omega, by omega, hE2, by rw [stq_7 (by omega) hcw0, hA, agn_n (by omega)]; exact hRK2, hst.1, hFK2⟩)
                                · refine ⟨by omega, ?_⟩
                                  refine ⟨_, by omega, _, G315_e (ih g (by omega)) (d := d - 1) (a := k + 1) (b := e.2.2.2.1) (by omega) (by omega) hDK2 hPK2 hRK2 hrK2 (by omega) (by omega) (by omega), ?_⟩
                                  rintro _ I170 ⟨rfl, hR170, hA170⟩
                                  refine ⟨rfl, ?_⟩
                                  have hk2 := KR_rns hW hp g (k + 1) e.2.2.2.1 s3 hrK2
                                  exact ih213 _ (by omega) _ _ _ _ rfl (⟨i + 1, rns l P g (k + 1) e.2.2.2.1 s3, rfl, rfl, by omega, by omega, by rw [hA, show e.2.1.toNat - i = (e.2.1.toNat - (i + 1)) + 1 by omega, agn_y (by omega)], hR170, hk2.1, FK_trans hFK2 hA170⟩)
                            exact L213 _ _ _ _ _ rfl (⟨0, cts s2, rfl, rfl, rfl, by omega, rfl, hR16, hc.1, hF16⟩)
                        · obtain ⟨q, hqv⟩ : ∃ q : Nat, e.2.1 = (q : Int) := ⟨e.2.1.toNat, by omega⟩
                          have hqm : q < Lm l := by have := hse.2.2.2.1 (by omega) (by omega); omega
                          have hqn : e.2.1.toNat = q := by omega
                          have h79 : q ∉ yL (cts s2) → (yL (cts s2)).length < 8 := fun hq9 => by
                            have h5 := nd_len (Lm l) (q :: yL (cts s2)) (List.nodup_cons.mpr ⟨hq9, hnd⟩) (fun c hc => by
                              rcases List.mem_cons.mp hc with e9 | e9
                              · rw [e9]; exact hqm
                              · exact hLm c e9)
                            rw [List.length_cons] at h5
                            omega
                          have h78 : ((yL (cts s2)).filter (fun c => c != q)).length < 8 := by
                            have h5 := nd_len (Lm l) (q :: (yL (cts s2)).filter (fun c => c != q)) (nd_le hnd) (fun c hc => by
                              rcases List.mem_cons.mp hc with e9 | e9
                              · rw [e9]; exact hqm
                              · exact hLm c (List.mem_filter.mp e9).1)
                            rw [List.length_cons] at h5
                            omega
                          refine ⟨by omega, ?_⟩
                          refine ⟨by omega, _, cz_313 (x := q) hV hM hR16.2.1 (by omega) (by omega) hL8 h78, ?_⟩
                          rintro _ I53 ⟨rfl, hL53, hA53⟩
                          refine ⟨rfl, ?_⟩
                          refine hJ286 _ _ ?_
                          unfold wz_315_286
                          refine ⟨s_M_0 hM, _, r_M_60 hM, _, ⟨s_M_1371 hM, by decide⟩, by omega, _, rr_M_1371 hM (by omega), _, ⟨sr_M_1371 hM (by omega), by decide⟩, by omega, ?_⟩
                          have hx4 : (I53 (a0 + 1372 + ((k : Nat) : Int).toNat) (Int.toNat 4)).toInt = (e.2.2.2.2 : Int) := ((MP_k hP (FK_trans hF16 (FK_fl hA53)) (by decide)).2.1 k e he).2.2.2.2
                          exact ih2 _ (by omega) _ _ rfl (⟨e.2.2.2.2, g, _, hx4, by omega, by omega, by omega, hE2, by rw [(stq_p (k := 6) (by omega) (by omega) hcw0), pls_6, hqn]; exact MR_fl hR16 hW hL53 hA53, hst.1, FK_trans hF16 (FK_fl hA53)⟩)
                      · obtain ⟨q, hqv⟩ : ∃ q : Nat, e.2.1 = (q : Int) := ⟨e.2.1.toNat, by omega⟩
                        have hqm : q < Lm l := by have := hse.2.2.2.1 (by omega) (by omega); omega
                        have hqn : e.2.1.toNat = q := by omega
                        have h79 : q ∉ yL (cts s2) → (yL (cts s2)).length < 8 := fun hq9 => by
                          have h5 := nd_len (Lm l) (q :: yL (cts s2)) (List.nodup_cons.mpr ⟨hq9, hnd⟩) (fun c hc => by
                            rcases List.mem_cons.mp hc with e9 | e9
                            · rw [e9]; exact hqm
                            · exact hLm c e9)
                          rw [List.length_cons] at h5
                          omega
                        have h78 : ((yL (cts s2)).filter (fun c => c != q)).length < 8 := by
                          have h5 := nd_len (Lm l) (q :: (yL (cts s2)).filter (fun c => c != q)) (nd_le hnd) (fun c hc => by
                            rcases List.mem_cons.mp hc with e9 | e9
                            · rw [e9]; exact hqm
                            · exact hLm c (List.mem_filter.mp e9).1)
                          rw [List.length_cons] at h5
                          omega
                        refine ⟨by omega, ?_⟩
                        refine ⟨by omega, _, cz_312 (x := q) hV hM hR16.2.1 (by omega) (by omega) hL8 h79, ?_⟩
                        rintro _ I59 ⟨rfl, hL59, hA59⟩
                        refine ⟨rfl, ?_⟩
                        refine hJ286 _ _ ?_
                        unfold wz_315_286
                        refine ⟨s_M_0 hM, _, r_M_60 hM, _, ⟨s_M_1371 hM, by decide⟩, by omega, _, rr_M_1371 hM (by omega), _, ⟨sr_M_1371 hM (by omega), by decide⟩, by omega, ?_⟩
                        have hx4 : (I59 (a0 + 1372 + ((k : Nat) : Int).toNat) (Int.toNat 4)).toInt = (e.2.2.2.2 : Int) := ((MP_k hP (FK_trans hF16 (FK_fl hA59)) (by decide)).2.1 k e he).2.2.2.2
                        exact ih2 _ (by omega) _ _ rfl (⟨e.2.2.2.2, g, _, hx4, by omega, by omega, by omega, hE2, by rw [(stq_p (k := 5) (by omega) (by omega) hcw0), pls_5, hqn]; exact MR_fl hR16 hW hL59 hA59, hst.1, FK_trans hF16 (FK_fl hA59)⟩)
                    · obtain ⟨q, hqv⟩ : ∃ q : Nat, e.2.1 = (q : Int) := ⟨e.2.1.toNat, by omega⟩
                      have hqm : q < Lm l := by have := hse.2.2.2.1 (by omega) (by omega); omega
                      have hqn : e.2.1.toNat = q := by omega
                      refine ⟨by omega, ?_⟩
                      refine ⟨by omega, _, cz_311 (x := q) hV hM hR16.2.1 hL8 (by omega) (by omega), ?_⟩
                      rintro _ I65 ⟨rfl, hL65, hA65⟩
                      refine ⟨rfl, ?_⟩
                      refine hJ286 _ _ ?_
                      unfold wz_315_286
                      refine ⟨s_M_0 hM, _, r_M_60 hM, _, ⟨s_M_1371 hM, by decide⟩, by omega, _, rr_M_1371 hM (by omega), _, ⟨sr_M_1371 hM (by omega), by decide⟩, by omega, ?_⟩
                      have hx4 : (I65 (a0 + 1372 + ((k : Nat) : Int).toNat) (Int.toNat 4)).toInt = (e.2.2.2.2 : Int) := ((MP_k hP (FK_trans hF16 (FK_fl hA65)) (by decide)).2.1 k e he).2.2.2.2
                      exact ih2 _ (by omega) _ _ rfl (⟨e.2.2.2.2, g, _, hx4, by omega, by omega, by omega, hE2, by rw [(stq_p (k := 4) (by omega) (by omega) hcw0), pls_4, hqn]; exact MR_fl hR16 hW hL65 hA65, hst.1, FK_trans hF16 (FK_fl hA65)⟩)
                  · refine ⟨by omega, _, cz_254 hV hM hD16 hW hR16.2 (WR_g hc.1 hW) hLm hL8 hnd, ?_⟩
                    rintro _ I70 ⟨rfl, hH70, hA70⟩
                    refine ⟨rfl, ?_⟩
                    refine hJ286 _ _ ?_
                    unfold wz_315_286
                    refine ⟨s_M_0 hM, _, r_M_60 hM, _, ⟨s_M_1371 hM, by decide⟩, by omega, _, rr_M_1371 hM (by omega), _, ⟨sr_M_1371 hM (by omega), by decide⟩, by omega, ?_⟩
                    have hx4 : (I70 (a0 + 1372 + ((k : Nat) : Int).toNat) (Int.toNat 4)).toInt = (e.2.2.2.2 : Int) := ((MP_k hP (FK_trans hF16 (FK_fr hA70 (by omega))) (by decide)).2.1 k e he).2.2.2.2
                    exact ih2 _ (by omega) _ _ rfl (⟨e.2.2.2.2, g, _, hx4, by omega, by omega, by omega, hE2, by rw [(stq_p (k := 3) (by omega) (by omega) hcw0), pls_3]; exact MR_fd hR16 hW hH70 hA70, hst.1, FK_trans hF16 (FK_fr hA70 (by omega))⟩)
                · refine ⟨by omega, _, cz_253 hV hM hD16 hW hR16.2 (WR_g hc.1 hW) hLm hL8 hnd, ?_⟩
                  rintro _ I75 ⟨rfl, hH75, hA75⟩
                  refine ⟨rfl, ?_⟩
                  refine hJ286 _ _ ?_
                  unfold wz_315_286
                  refine ⟨s_M_0 hM, _, r_M_60 hM, _, ⟨s_M_1371 hM, by decide⟩, by omega, _, rr_M_1371 hM (by omega), _, ⟨sr_M_1371 hM (by omega), by decide⟩, by omega, ?_⟩
                  have hx4 : (I75 (a0 + 1372 + ((k : Nat) : Int).toNat) (Int.toNat 4)).toInt = (e.2.2.2.2 : Int) := ((MP_k hP (FK_trans hF16 (FK_fr hA75 (by omega))) (by decide)).2.1 k e he).2.2.2.2
                  exact ih2 _ (by omega) _ _ rfl (⟨e.2.2.2.2, g, _, hx4, by omega, by omega, by omega, hE2, by rw [(stq_p (k := 2) (by omega) (by omega) hcw0), pls_2]; exact MR_fd hR16 hW hH75 hA75, hst.1, FK_trans hF16 (FK_fr hA75 (by omega))⟩)
              · refine ⟨by omega, ?_⟩
                intro I78 e_I78; subst e_I78
                simp only [-eq_self, hv16.2.1, hR16.1.2.1]
                refine hJ286 _ _ ?_
                unfold wz_315_286
                refine ⟨s_M_0 hM, _, r_M_60 hM, _, ⟨s_M_1371 hM, by decide⟩, by omega, _, rr_M_1371 hM (by omega), _, ⟨sr_M_1371 hM (by omega), by decide⟩, by omega, ?_⟩
                have hx4 : ((jx_u I16 a0 67 (Int32.ofInt (yHo (cts s2) + e.2.1))) (a0 + 1372 + ((k : Nat) : Int).toNat) (Int.toNat 4)).toInt = (e.2.2.2.2 : Int) := ((MP_k hP (FK_f hF16 (show 67 ∈ YK by decide)) (by decide)).2.1 k e he).2.2.2.2
                exact ih2 _ (by omega) _ _ rfl (⟨e.2.2.2.2, g, _, hx4, by omega, by omega, by omega, hE2, by rw [(stq_p (k := 1) (by omega) (by omega) hcw0)]; exact MR_wa hR16 hW (by omega), hst.1, FK_f hF16 (show 67 ∈ YK by decide)⟩)
            · obtain ⟨q, hqv⟩ : ∃ q : Nat, e.2.1 = (q : Int) := ⟨e.2.1.toNat, by omega⟩
              have hqm : q < Ln l := by have := hse.2.2.1 (by omega); omega
              refine ⟨by omega, ?_⟩
              refine ⟨by omega, _, cz_314 (q := q) hV hM hD16 hW hR16 hc1.1 (by omega) hqm, ?_⟩
              rintro _ I83 ⟨rfl, hR83, hA83⟩
              refine ⟨rfl, ?_⟩
              refine hJ286 _ _ ?_
              unfold wz_315_286
              refine ⟨s_M_0 hM, _, r_M_60 hM, _, ⟨s_M_1371 hM, by decide⟩, by omega, _, rr_M_1371 hM (by omega), _, ⟨sr_M_1371 hM (by omega), by decide⟩, by omega, ?_⟩
              have hx4 : (I83 (a0 + 1372 + ((k : Nat) : Int).toNat) (Int.toNat 4)).toInt = (e.2.2.2.2 : Int) := ((MP_k hP (FK_trans hF16 hA83) (by decide)).2.1 k e he).2.2.2.2
              exact ih2 _ (by omega) _ _ rfl (⟨e.2.2.2.2, g, _, hx4, by omega, by omega, by omega, hE2, by rw [(stq_p (k := 0) (by omega) (by omega) hcw0), hqv]; exact hR83, hst.1, FK_trans hF16 hA83⟩)
          · rw [hE2, stq_w (by omega) (by omega), rns_n (Or.inr (by omega))]
            exact ⟨rfl, hR16, hF16⟩
        · obtain ⟨t, ht⟩ : ∃ t, P.2.1[e.2.2.1]? = some t := ⟨_, List.getElem?_eq_getElem (hse.2.2.2.2.1 (by omega))⟩
          refine ⟨by omega, _, cz_308 hV hM hW hRK hrK, ?_⟩
          rintro _ I88 ⟨rfl, hR88, hA88⟩
          refine ⟨_, rfl, ?_⟩
          have hF88 : FK a0 YK I I88 := FK_trans hF (FK_mono hA88 (by decide))
          have hD88 := FK_MD hD hF88 (by decide) hW
          have hP88 := MP_k hP hF88 (by decide)
          have hv88 : (I88 (a0 + 1372 + ((k : Nat) : Int).toNat) (Int.toNat 0)).toInt = (e.1 : Int) ∧ (I88 (a0 + 1372 + ((k : Nat) : Int).toNat) (Int.toNat 1)).toInt = e.2.1 ∧ (I88 (a0 + 1372 + ((k : Nat) : Int).toNat) (Int.toNat 2)).toInt = (e.2.2.1 : Int) ∧ (I88 (a0 + 1372 + ((k : Nat) : Int).toNat) (Int.toNat 3)).toInt = (e.2.2.2.1 : Int) ∧ (I88 (a0 + 1372 + ((k : Nat) : Int).toNat) (Int.toNat 4)).toInt = (e.2.2.2.2 : Int) := hP88.2.1 k e he
          refine ⟨by omega, ?_⟩
          refine ⟨fun hq16 => ?_, fun hq16 => ?_⟩
          · refine ⟨by omega, _, rr_M_1371 hM (by omega), _, ⟨sr_M_1371 hM (by omega), by decide⟩, by omega, ?_⟩
            have hx4 : (I88 (a0 + 1372 + ((k : Nat) : Int).toNat) (Int.toNat 4)).toInt = (e.2.2.2.2 : Int) := ((MP_k hP (hF88) (by decide)).2.1 k e he).2.2.2.2
            exact ih2 _ (by omega) _ _ rfl (⟨e.2.2.2.2, g, _, hx4, by omega, by omega, by omega, hE2, by rw [stq_8 (by omega) ht, whl_n (n := 300) (fun z => by have := z.1; omega)]; exact hR88, hst.1, hF88⟩)
          · refine ⟨by omega, ?_⟩
            refine ⟨by omega, _, cz_310 hV hM hD88 hW hR88 hP88 hp hc.1 hv88.2.2.1 ht, ?_⟩
            rintro _ I101 ⟨rfl, hA101⟩
            refine ⟨_, rfl, ?_⟩
            have hF101 : FK a0 YK I I101 := FK_trans hF88 (FK_fr hA101 (by omega))
            have hD101 := FK_MD hD hF101 (by decide) hW
            have hP101 := MP_k hP hF101 (by decide)
            have hv101 : (I101 (a0 + 1372 + ((k : Nat) : Int).toNat) (Int.toNat 0)).toInt = (e.1 : Int) ∧ (I101 (a0 + 1372 + ((k : Nat) : Int).toNat) (Int.toNat 1)).toInt = e.2.1 ∧ (I101 (a0 + 1372 + ((k : Nat) : Int).toNat) (Int.toNat 2)).toInt = (e.2.2.1 : Int) ∧ (I101 (a0 + 1372 + ((k : Nat) : Int).toNat) (Int.toNat 3)).toInt = (e.2.2.2.1 : Int) ∧ (I101 (a0 + 1372 + ((k : Nat) : Int).toNat) (Int.toNat 4)).toInt = (e.2.2.2.2 : Int) := hP101.2.1 k e he
            have hR101 := MR_fr hR88 hW hA101
            refine ⟨by omega, ?_⟩
            refine ⟨fun hq17 => ?_, fun hq17 => ?_⟩
            · have ct := bi_f hq17
              refine ⟨by omega, _, rr_M_1371 hM (by omega), _, ⟨sr_M_1371 hM (by omega), by decide⟩, by omega, ?_⟩
              have hx4 : (I101 (a0 + 1372 + ((k : Nat) : Int).toNat) (Int.toNat 4)).toInt = (e.2.2.2.2 : Int) := ((MP_k hP (hF101) (by decide)).2.1 k e he).2.2.2.2
              exact ih2 _ (by omega) _ _ rfl (⟨e.2.2.2.2, g, _, hx4, by omega, by omega, by omega, hE2, by rw [stq_8 (by omega) ht, whl_n (n := 300) (fun z => ct z.2)]; exact hR101, hst.1, hF101⟩)
            · have ct := bi_t hq17
              refine ⟨by omega, ?_⟩
              refine ⟨_, by omega, _, G315_e (ih g (by omega)) (d := d - 1) (a := k + 1) (b := e.2.2.2.1) (by omega) (by omega) hD101 hP101 hR101 hc.1 (by omega) (by omega) (by omega), ?_⟩
              rintro _ I115 ⟨rfl, hR115, hA115⟩
              refine ⟨rfl, ?_⟩
              have hcw0 : yWo (cts s2) = 0 := by omega
              have hc1 := hc.2.2.2 hcw0
              have hd1 := hrK.2.2.2.1
              have hk1 := KR_rns hW hp g (k + 1) e.2.2.2.1 (cts s2) hc.1
              have hA0 : stq l P (rns l P g) k e s2 = whl (rns l P g (k + 1) e.2.2.2.1) (fun s => tsb l s P t) 300 (rns l P g (k + 1) e.2.2.2.1 (cts s2)) := by
                rw [stq_8 (by omega) ht]
                exact whl_y hcw0 ct
              have hF115 := FK_trans hF101 hA115
              have L31 : ∀ (n31 : Nat) (l3 : Int) (l4 : Nat) (K3 : jx_I), n31 = (301 - (K3 a0 69).toInt).toNat → (∃ (n : Nat) (s3 : RN), l3 = (k : Int) ∧ l4 = a0 + 1372 + ((k : Nat) : Int).toNat ∧ 301 ≤ (n : Int) + yDo s3 ∧ stq l P (rns l P g) k e s2 = whl (rns l P g (k + 1) e.2.2.2.1) (fun s => tsb l s P t) n s3 ∧ MR K3 a0 l s3 ∧ WR 0 l s3 ∧ FK a0 YK I K3) → J31 l3 l4 K3 := by
                intro n31
                induction n31 using Nat.strongRecOn with
                | ind n31 ih31 =>
                intro l3 l4 K3 hn31 hI31
                obtain ⟨n, s3, rfl, rfl, hn, hA, hRK3, hrK3, hFK3⟩ := hI31
                have hDK3 := FK_MD hD hFK3 (by decide) hW
                have hPK3 := MP_k hP hFK3 (by decide)
                have hvK3 : (K3 (a0 + 1372 + ((k : Nat) : Int).toNat) (Int.toNat 0)).toInt = (e.1 : Int) ∧ (K3 (a0 + 1372 + ((k : Nat) : Int).toNat) (Int.toNat 1)).toInt = e.2.1 ∧ (K3 (a0 + 1372 + ((k : Nat) : Int).toNat) (Int.toNat 2)).toInt = (e.2.2.1 : Int) ∧ (K3 (a0 + 1372 + ((k : Nat) : Int).toNat) (Int.toNat 3)).toInt = (e.2.2.2.1 : Int) ∧ (K3 (a0 + 1372 + ((k : Nat) : Int).toNat) (Int.toNat 4)).toInt = (e.2.2.2.2 : Int) := hPK3.2.1 k e he
                have h693 := hRK3.1.2.2.2.1
                have hd3 := hrK3.2.2.2.1
                obtain ⟨n, rfl⟩ : ∃ n2, n = n2 + 1 := ⟨n - 1, by omega⟩
                have hc3 := WR_cts hrK3
                have hcw3 := hc3.2.2.1
                refine hJ31 _ _ _ ?_
                unfold wz_315_31
                refine ⟨s_M_0 hM, ?_⟩
                refine ⟨by omega, _, cz_308 hV hM hW hRK3 hrK3, ?_⟩
                rintro _ I121 ⟨rfl, hR121, hA121⟩
                refine ⟨_, rfl, ?_⟩
                have hF121 : FK a0 YK I I121 := FK_trans hFK3 (FK_mono hA121 (by decide))
                have hD121 := FK_MD hD hF121 (by decide) hW
                have hP121 := MP_k hP hF121 (by decide)
                have hv121 : (I121 (a0 + 1372 + ((k : Nat) : Int).toNat) (Int.toNat 0)).toInt = (e.1 : Int) ∧ (I121 (a0 + 1372 + ((k : Nat) : Int).toNat) (Int.toNat 1)).toInt = e.2.1 ∧ (I121 (a0 + 1372 + ((k : Nat) : Int).toNat) (Int.toNat 2)).toInt = (e.2.2.1 : Int) ∧ (I121 (a0 + 1372 + ((k : Nat) : Int).toNat) (Int.toNat 3)).toInt = (e.2.2.2.1 : Int) ∧ (I121 (a0 + 1372 + ((k : Nat) : Int).toNat) (Int.toNat 4)).toInt = (e.2.2.2.2 : Int) := hP121.2.1 k e he
                refine ⟨by omega, ?_⟩
                refine ⟨fun hq18 => ?_, fun hq18 => ?_⟩
                · refine ⟨_, r_M_60 hM, _, ⟨s_M_1371 hM, by decide⟩, by omega, _, rr_M_1371 hM (by omega), _, ⟨sr_M_1371 hM (by omega), by decide⟩, by omega, ?_⟩
                  have hx4 : (I121 (a0 + 1372 + ((k : Nat) : Int).toNat) (Int.toNat 4)).toInt = (e.2.2.2.2 : Int) := ((MP_k hP (hF121) (by decide)).2.1 k e he).2.2.2.2
                  exact ih2 _ (by omega) _ _ rfl (⟨e.2.2.2.2, g, _, hx4, by omega, by omega, by omega, hE2, by rw [hA, whl_n (fun z => by have := z.1; omega)]; exact hR121, hst.1, hF121⟩)
                · refine ⟨_, ⟨sr_M_1371 hM (by omega), by decide⟩, by omega, ?_⟩
                  refine ⟨by omega, _, cz_310 hV hM hD121 hW hR121 hP121 hp hc3.1 hv121.2.2.1 ht, ?_⟩
                  rintro _ I140 ⟨rfl, hA140⟩
                  refine ⟨_, rfl, ?_⟩
                  have hF140 : FK a0 YK I I140 := FK_trans hF121 (FK_fr hA140 (by omega))
                  have hD140 := FK_MD hD hF140 (by decide) hW
                  have hP140 := MP_k hP hF140 (by decide)
                  have hv140 : (I140 (a0 + 1372 + ((k : Nat) : Int).toNat) (Int.toNat 0)).toInt = (e.1 : Int) ∧ (I140 (a0 + 1372 + ((k : Nat) : Int).toNat) (Int.toNat 1)).toInt = e.2.1 ∧ (I140 (a0 + 1372 + ((k : Nat) : Int).toNat) (Int.toNat 2)).toInt = (e.2.2.1 : Int) ∧ (I140 (a0 + 1372 + ((k : Nat) : Int).toNat) (Int.toNat 3)).toInt = (e.2.2.2.1 : Int) ∧ (I140 (a0 + 1372 + ((k : Nat) : Int).toNat) (Int.toNat 4)).toInt = (e.2.2.2.2 : Int) := hP140.2.1 k e he
                  have hR140 := MR_fr hR121 hW hA140
                  refine ⟨by omega, ?_⟩
                  refine ⟨fun hq19 => ?_, fun hq19 => ?_⟩
                  · have ct3 := bi_f hq19
                    refine ⟨_, r_M_60 hM, _, ⟨s_M_1371 hM, by decide⟩, by omega, _, rr_M_1371 hM (by omega), _, ⟨sr_M_1371 hM (by omega), by decide⟩, by omega, ?_⟩
                    have hx4 : (I140 (a0 + 1372 + ((k : Nat) : Int).toNat) (Int.toNat 4)).toInt = (e.2.2.2.2 : Int) := ((MP_k hP (hF140) (by decide)).2.1 k e he).2.2.2.2
                    exact ih2 _ (by omega) _ _ rfl (⟨e.2.2.2.2, g, _, hx4, by omega, by omega, by omega, hE2, by rw [hA, whl_n (fun z => ct3 z.2)]; exact hR140, hst.1, hF140⟩)
                  · have ct3 := bi_t hq19
                    refine ⟨by omega, ?_⟩
                    refine ⟨_, by omega, _, G315_e (ih g (by omega)) (d := d - 1) (a := k + 1) (b := e.2.2.2.1) (by omega) (by omega) hD140 hP140 hR140 hc3.1 (by omega) (by omega) (by omega), ?_⟩
                    rintro _ I158 ⟨rfl, hR158, hA158⟩
                    refine ⟨rfl, ?_⟩
                    have hcw3b : yWo (cts s3) = 0 := by omega
                    have hc31 := hc3.2.2.2 hcw3b
                    have hk3 := KR_rns hW hp g (k + 1) e.2.2.2.1 (cts s3) hc3.1
                    have h158 := hR158.1.2.2.2.1
                    have hd158 := hk3.1.2.2.2.1
                    exact ih31 _ (by omega) _ _ _ rfl (⟨n, rns l P g (k + 1) e.2.2.2.1 (cts s3), rfl, rfl, by omega, by rw [hA, whl_y hcw3b ct3], hR158, hk3.1, FK_trans hF140 hA158⟩)
              exact L31 _ _ _ _ rfl (⟨300, rns l P g (k + 1) e.2.2.2.1 (cts s2), rfl, rfl, by omega, hA0, hR115, hk1.1, hF115⟩)
  exact L2 _ _ _ rfl (⟨a, f, s, rfl, hb1, hf, by omega, rfl, hR, hr, FK_refl⟩)
