/-! ===== the reference reads a clause ===== -/
/-- GrievingCamelsModel.clause -/
theorem cz_222 {V : jx_V} (hV : V.1.stackTraces = false) {X : jx_X} {R : jx_R} {I : jx_I} {a0 : Nat} {T : List Int} {s cnt : Nat} {L : LB}
    (hM : MX X R a0) (hs0 : ROK I a0 T s) (hR : RLB I a0 L) (hW : WB L) (h7 : (I a0 7).toInt = (cnt : Int)) (hcnt : cnt ≤ 60) (h25 : (I a0 25).toInt = 0) (h600 : T.length ≤ 600)
    {QE : String → jx_I → Prop} : jc V 201 222 (0, 0) [.ref a0] X I R (fun rv I' => rv = none ∧ RCF I' a0 T cnt ((cClause T cnt L s).bind (cSem T)) ∧ FLb a0 I I') QE := by
  obtain ⟨p, hp, hs, hT⟩ := id hs0
  have hsl := (ROK_s hs0).1
  have h6 := hT.2.1
  obtain ⟨k0, hke⟩ : ∃ k, k = kcl (wrd T s) := ⟨_, rfl⟩
  have hkr := kcl_r (wrd T s)
  rw [← hke] at hkr
  obtain ⟨rf, hrf⟩ : ∃ r, r = krf k0 := ⟨_, rfl⟩
  have hrf2 : (k0 = 1 → rf = 2) ∧ (k0 = 2 → rf = 1) ∧ (k0 ≠ 1 → k0 ≠ 2 → rf = k0) := by
    rw [hrf]; unfold krf
    exact ⟨fun h => by rw [if_pos h], fun h => by rw [if_neg (by omega), if_pos h], fun h h2 => by rw [if_neg h, if_neg h2]⟩
  have hwl := wrd_le hsl
  obtain ⟨w, hw⟩ : ∃ w, w = s + (wrd T s).length := ⟨_, rfl⟩
  rw [← hw] at hwl
  obtain ⟨q, hq⟩ : ∃ q, q = skB T w := ⟨_, rfl⟩
  refine wm_222 hV   (fun J71 J168 J413 hJJ => ?_)
  obtain ⟨hJ71, hJ168, hJ413⟩ := hJJ
  have L413 : ∀ (n413 : Nat)  (K : jx_I), n413 = 0 → (∃ y, RCB I K a0 T cnt y ∧ cClause T cnt L s = y) → J413  K := by
    intro n413
    induction n413 using Nat.strongRecOn with
    | ind n413 ih413 =>
    intro  K hn413 hI413
    obtain ⟨y, hB, hYy⟩ := hI413
    refine hJ413 _ ?_
    unfold wz_222_413
    refine ⟨s_M_0 hM, ?_⟩
    refine ⟨_, cz_217g hV hM hB.2.1 (by omega), ?_⟩
    rintro _ I609 ⟨rfl, hS609, hF609⟩
    refine ⟨rfl, ?_⟩
    obtain ⟨g1, g2⟩ := RCB_end hB hF609 hS609
    rw [hYy]
    exact ⟨rfl, g1, g2⟩
  unfold wz_222
  refine ⟨s_M_0 hM, ?_⟩
  refine ⟨_, cz_220 hV hM hT hp hs, ?_⟩
  rintro _ I4 ⟨rfl, hT4, hF4⟩
  refine ⟨_, rfl, ?_⟩
  rw [← hke, ← hrf]
  have h44 := hT4.1.2.1
  have h47 : (I4 a0 7).toInt = (cnt : Int) := by rw [hF4.2 7 (by decide)]; exact h7
  have hR4 := RLB_o hR hF4 (by decide)
  have h430 : (I4 (a0 + 3) (0 : Int).toNat).toInt = (Ln L.1 : Int) := hR4.1.1
  have h431 : (I4 (a0 + 3) (1 : Int).toNat).toInt = (Lm L.1 : Int) := hR4.1.2
  simp only [-eq_self, h44]
  refine ⟨by omega, ?_⟩
  refine ⟨fun hq1 => ?_, fun hq1 => ?_⟩
  · have hk1 : k0 ≠ -1 := by omega
    refine ⟨fun hq2 => ?_, fun hq2 => ?_⟩
    · have hc60 : cnt = 60 := by omega
      refine ⟨_, cz_208 hV hM hT4 (by omega) (by omega), ?_⟩
      rintro _ I9 ⟨rfl, hT9, hF9⟩
      refine ⟨rfl, ?_⟩
      refine hJ71 _ _ ?_
      unfold wz_222_71
      refine ⟨s_M_0 hM, ?_⟩
      refine ⟨fun hq3 => ?_, fun hq3 => ?_⟩
      · exfalso
        rw [if_pos rfl] at hT9
        have := hT9.1.2.2.1
        omega
      · rw [if_pos rfl, if_pos rfl] at hT9
        rw [show cClause T cnt L s = .error (3, s) from cc_60 hke (by omega) (by omega)]
        exact ⟨rfl, ⟨show (1 : Int) ≤ 3 by decide, show (3 : Int) ≤ 3 by decide, s, hT9⟩, FLb_trans (FLb_o hF4 (by decide)) (FLb_o hF9 (by decide))⟩
    · refine ⟨fun hq4 => ?_, fun hq4 => ?_⟩
      · refine ⟨fun hq5 => ?_, fun hq5 => ?_⟩
        · refine ⟨fun hq6 => ?_, fun hq6 => ?_⟩
          · refine ⟨_, cz_215 hV hM hT4 hsl, ?_⟩
            rintro _ I13 ⟨rfl, hT13, hF13⟩
            refine ⟨rfl, ?_⟩
            rw [← hw] at hT13
            have h137 : (I13 a0 7).toInt = (cnt : Int) := by rw [hF13.2 7 (by decide), hF4.2 7 (by decide)]; exact h7
            simp only [-eq_self, h137]
            intro I15 e_I15; subst e_I15
            obtain ⟨J, hJ⟩ : ∃ J, J = jx_u I13 a0 7 (Int32.ofInt ((cnt : Int) + 1)) := ⟨_, rfl⟩
            rw [← hJ]
            have h0 : RC0 I J a0 T cnt L q := by rw [hJ, hq]; exact RC0_mk hR h25 hF4 hF13 hT13 hwl rfl hcnt
            clear hJ
            have hJq := h0.1
            have hRJ := h0.2.1
            have hql := (ROK_s hJq).1
            have hn10 := hW.1
            have hJ30 : (J (a0 + 3) (0 : Int).toNat).toInt = (Ln L.1 : Int) := hRJ.1.1
            have hJ31 : (J (a0 + 3) (1 : Int).toNat).toInt = (Lm L.1 : Int) := hRJ.1.2
            refine ⟨fun hq7 => ?_, fun hq7 => ?_, fun hq7 => ?_, fun hq7 => ?_, fun hq7 => ?_, fun hq7 => ?_, fun hq7 => ?_⟩
            · intro I16 e_I16; subst e_I16
              refine ⟨_, by omega, _, G2_all hV hM h600 6 (by omega) 200 (.ok q) [] _ _ (RST_k (x := Int32.ofInt 0) (k := 24) (e := .ok q) hJq (by decide)) (fun s2 h2 => by cases h2; exact ⟨⟨by rw [jx_u_s]; rfl, fun k c h => by cases h⟩, Nat.zero_le _, by rw [jx_u_k _ _ _ _ (by decide)]; exact h0.2.2.2.1⟩) (by omega), ?_⟩
              rintro _ I21 ⟨rfl, hE21, hF21⟩
              refine ⟨rfl, ?_⟩
              have hk6 : k0 = 6 := by omega
              have hYl : cClause T cnt L s = cLaw T L q := by
                rw [cc_n hke (by omega) (by omega) (by omega), ← hw, ← hq]
                unfold cBody
                rw [if_neg (by omega), if_neg (by omega), if_neg (by omega), if_neg (by omega), if_neg (by omega), if_neg (by omega)]
              have hFl : FLa a0 J I21 := FLa_trans (FLa_f FLa_refl (by decide)) hF21
              replace hE21 : REL I21 a0 T (6 - 6) [] (lS T 6 q) := hE21
              have hB : RCB I I21 a0 T cnt (cLaw T L q) := by
                unfold cLaw
                cases hl : lS T 6 q with
                | error e => rw [hl] at hE21; exact RCB_e h0 (FLb_l hFl) hE21
                | ok r =>
                  rw [hl] at hE21
                  refine ⟨FLb_trans h0.2.2.2.2 (FLb_l hFl), hE21.1, fun w hw => ?_⟩
                  cases hw
                  exact ⟨RLB_law hRJ hW hFl (by have := hE21.2.1; rw [List.nil_append] at this; exact this), by rw [hFl.2 7 (by decide)]; exact h0.2.2.1, hE21.2.2⟩
              exact L413 _ _ rfl (⟨_, hB, hYl⟩)
            · exfalso
              omega
            · exfalso
              omega
            · refine ⟨_, r_M_10 hM, ?_⟩
              try simp only [-eq_self, hJ30]
              refine ⟨_, ⟨s_M_3 hM, by decide⟩, by omega, ?_⟩
              refine ⟨_, cz_210g (x := .ok q) hV hM hJq (by omega) (by have := hW.1; omega), ?_⟩
              rintro _ I50 ⟨⟨r51, rfl, hr51⟩, hS51, hF51⟩
              refine ⟨_, rfl, ?_⟩
              have hg51 := NUG_r (I' := I) (x := .ok q) hJq hr51 (by omega) (by have := hW.1; omega)
              have h5030 : (I50 (a0 + 3) (0 : Int).toNat).toInt = (Ln L.1 : Int) := by rw [hF51.1 _ (by omega)]; exact hJ30
              simp only [-eq_self, h5030]
              refine ⟨by omega, ?_⟩
              refine ⟨_, cz_211g hV hM hS51 (by have := hW.1; omega) (by omega), ?_⟩
              rintro _ I55 ⟨⟨r56, rfl, hr56⟩, hS56, hF56⟩
              refine ⟨_, rfl, ?_⟩
              refine ⟨_, cz_210g hV hM hS56 (by omega) (by omega), ?_⟩
              rintro _ I59 ⟨⟨r60, rfl, hr60⟩, hS59, hF59⟩
              refine ⟨_, rfl, ?_⟩
              have hg60 := NUG_r (I' := I) hS56 hr60 (by omega) (by omega)
              refine ⟨fun hq8 => ?_, fun hq8 => ?_⟩
              · obtain ⟨q4, hq4, hok4⟩ := RST_5 hS59 hq8
                replace hq4 := (W3_r (A := (pNum T 0 ((Ln L.1 : Int) - 1) q)) (B := (fun a => pOth T ((Ln L.1 : Int) - 1) a)) (D := (pNum T 1 24)) (fun v q h => hr51.1 v q h)).symm.trans hq4
                obtain ⟨w9, hw9, hw9e⟩ := px_ok hq4
                cases hw9e
                obtain ⟨qa, qb, hA, hB, hD⟩ := W3_ok hw9
                have e1 : r51 = w9.1 := hr51.1 _ _ hA
                subst e1
                have e2 : r56 = w9.2.1 := hr56.1 w9.2.1 qb (by rw [show ((Except.ok q : PX Nat).bind (pNum T 0 ((Ln L.1 : Int) - 1))) = _ from hA]; exact hB)
                have e3 : r60 = w9.2.2.1 := hr60.1 w9.2.2.1 w9.2.2.2 (by rw [show ((Except.ok q : PX Nat).bind (pNum T 0 ((Ln L.1 : Int) - 1))) = _ from hA]; show ((pOth T _ w9.1 qa).bind pos).bind (pNum T 1 24) = _; rw [hB]; exact hD)
                have o1 := pNum_ok hql hA
                have o2 := pOth_ok o1.2.1.1 hB
                have o3 := pNum_ok o2.2.1.1 hD
                have hn10 := hW.1
                have hFk := FO_trans hF51 (FO_trans hF56 hF59)
                have hRk := RLB_o hRJ hFk (by decide)
                have hYr : cRoad T L q = .ok (aRoad L w9.1.toNat w9.2.1.toNat w9.2.2.1, w9.2.2.2) := by rw [cRoad_W, hw9]; rfl
                refine ⟨_, r_M_20 hM, _, ⟨s_M_13 hM, by decide⟩, by omega, _, rr_M_13 hM (by omega), _, ⟨sr_M_13 hM (by omega), by decide⟩, by omega, ?_⟩
                intro I71 e_I71; subst e_I71
                refine ⟨by omega, _, rr_M_13 hM (by omega), _, ⟨sr_M_13 hM (by omega), by decide⟩, by omega, ?_⟩
                intro I78 e_I78; subst e_I78
                have hk1 : k0 = 1 := by omega
                have hYl : cClause T cnt L s = cRoad T L q := by
                  rw [cc_n hke (by omega) (by omega) (by omega), ← hw, ← hq]
                  unfold cBody
                  rw [if_neg (by omega), if_pos (by omega)]
                rw [hYr] at hYl
                subst e2; subst e3
                exact L413 _ _ rfl (⟨_, RCB_w h0 hFk (FLb_u (FLb_u FLb_refl (by omega) (by unfold RDo; omega)) (by omega) (by unfold RDo; omega)) (fun k => by rw [jx_u_r _ _ _ (by omega), jx_u_r _ _ _ (by omega)]) (ROK_w (ROK_w hok4 (by omega)) (by omega)) (RLB_road hRk hW (by omega) (by omega) o3.2.2), hYl⟩)
              · have hk1 : k0 = 1 := by omega
                have hYl : cClause T cnt L s = cRoad T L q := by
                  rw [cc_n hke (by omega) (by omega) (by omega), ← hw, ← hq]
                  unfold cBody
                  rw [if_neg (by omega), if_pos (by omega)]
                obtain ⟨e, he, her⟩ := RST_5n hS59 (hq8)
                have he2 := (W3_r (A := (pNum T 0 ((Ln L.1 : Int) - 1) q)) (B := (fun a => pOth T ((Ln L.1 : Int) - 1) a)) (D := (pNum T 1 24)) (fun v q h => hr51.1 v q h)).symm.trans he
                have hWe : (W3 (pNum T 0 ((Ln L.1 : Int) - 1) q) (fun a => pOth T ((Ln L.1 : Int) - 1) a) (pNum T 1 24)) = .error e := by
                  cases hw9 : (W3 (pNum T 0 ((Ln L.1 : Int) - 1) q) (fun a => pOth T ((Ln L.1 : Int) - 1) a) (pNum T 1 24)) with
                  | error e2 => rw [hw9] at he2; cases he2; rfl
                  | ok w => rw [hw9] at he2; cases he2
                have hYe : cRoad T L q = .error e := by rw [cRoad_W, hWe]; rfl
                rw [hYe] at hYl
                exact L413 _ _ rfl (⟨_, RCB_e h0 (FLb_o (FO_trans hF51 (FO_trans hF56 hF59)) (by decide)) her, hYl⟩)
            · refine ⟨_, cz_221 (x := .ok q) hV hM hJq hRJ.1.2 (by have := hW.1; omega), ?_⟩
              rintro _ I81 ⟨⟨r82, rfl, hr82⟩, hS82, hF82⟩
              refine ⟨_, rfl, ?_⟩
              have hg82 := NUG_r (I' := I) (x := .ok q) hJq hr82 (by omega) (by have := hW.1; omega)
              have h8130 : (I81 (a0 + 3) (0 : Int).toNat).toInt = (Ln L.1 : Int) := by rw [hF82.1 _ (by omega)]; exact hJ30
              refine ⟨_, r_M_10 hM, ?_⟩
              try simp only [-eq_self, h8130]
              refine ⟨_, ⟨s_M_3 hM, by decide⟩, by omega, ?_⟩
              refine ⟨_, cz_210g hV hM hS82 (by omega) (by have := hW.1; omega), ?_⟩
              rintro _ I90 ⟨⟨r91, rfl, hr91⟩, hS91, hF91⟩
              refine ⟨_, rfl, ?_⟩
              have hg91 := NUG_r (I' := I) hS82 hr91 (by omega) (by have := hW.1; omega)
              refine ⟨_, cz_210g hV hM hS91 (by omega) (by omega), ?_⟩
              rintro _ I94 ⟨⟨r95, rfl, hr95⟩, hS94, hF94⟩
              refine ⟨_, rfl, ?_⟩
              have hg95 := NUG_r (I' := I) hS91 hr95 (by omega) (by omega)
              refine ⟨fun hq9 => ?_, fun hq9 => ?_⟩
              · refine ⟨_, cz_217g hV hM hS94 (by omega), ?_⟩
                rintro _ I98 ⟨rfl, hS98, hF98⟩
                refine ⟨rfl, ?_⟩
                have hk3 : k0 = 3 := by omega
                have hYl : cClause T cnt L s = cHurt T L q := by
                  rw [cc_n hke (by omega) (by omega) (by omega), ← hw, ← hq]
                  unfold cBody
                  rw [if_neg (by omega), if_neg (by omega), if_neg (by omega), if_pos (by omega)]
                obtain ⟨e, he, her⟩ := RST_5n hS94 (hq9)
                have he2 := (W3_r (A := (pNum T 0 ((Lm L.1 : Int) - 1) q)) (B := (fun _ => pNum T 0 ((Ln L.1 : Int) - 1))) (D := (pNum T 1 20)) (fun v q h => hr82.1 v q h)).symm.trans he
                have hWe : (W3 (pNum T 0 ((Lm L.1 : Int) - 1) q) (fun _ => pNum T 0 ((Ln L.1 : Int) - 1)) (pNum T 1 20)) = .error e := by
                  cases hw9 : (W3 (pNum T 0 ((Lm L.1 : Int) - 1) q) (fun _ => pNum T 0 ((Ln L.1 : Int) - 1)) (pNum T 1 20)) with
                  | error e2 => rw [hw9] at he2; cases he2; rfl
                  | ok w => rw [hw9] at he2; cases he2
                have hYe : cHurt T L q = .error e := by rw [cHurt_W, hWe]; rfl
                rw [hYe] at hYl
                rw [hYl]
                have hBe := RCB_e h0 (FLb_o (FO_trans hF82 (FO_trans hF91 hF94)) (by decide)) her
                obtain ⟨g1, g2⟩ := RCB_end hBe hF98 (by rw [he] at hS98; exact hS98)
                exact ⟨rfl, g1, g2⟩
              · obtain ⟨q4, hq4, hok4⟩ := RST_5 hS94 (by omega)
                replace hq4 := (W3_r (A := (pNum T 0 ((Lm L.1 : Int) - 1) q)) (B := (fun _ => pNum T 0 ((Ln L.1 : Int) - 1))) (D := (pNum T 1 20)) (fun v q h => hr82.1 v q h)).symm.trans hq4
                obtain ⟨w9, hw9, hw9e⟩ := px_ok hq4
                cases hw9e
                obtain ⟨qa, qb, hA, hB, hD⟩ := W3_ok hw9
                have e1 : r82 = w9.1 := hr82.1 _ _ hA
                have e2 : r91 = w9.2.1 := hr91.1 w9.2.1 qb (by rw [show ((Except.ok q : PX Nat).bind (pNum T 0 ((Lm L.1 : Int) - 1))) = _ from hA]; exact hB)
                have e3 : r95 = w9.2.2.1 := hr95.1 w9.2.2.1 w9.2.2.2 (by rw [show ((Except.ok q : PX Nat).bind (pNum T 0 ((Lm L.1 : Int) - 1))) = _ from hA]; show ((pNum T _ _ qa).bind pos).bind (pNum T 1 20) = _; rw [hB]; exact hD)
                have o1 := pNum_ok hql hA
                have o2 := pNum_ok o1.2.1.1 hB
                have o3 := pNum_ok o2.2.1.1 hD
                have hn10 := hW.1
                have hFk := FO_trans hF82 (FO_trans hF91 hF94)
                have hRk := RLB_o hRJ hFk (by decide)
                have hg9 := (hW.2.2.2.2.2.2 w9.2.1.toNat w9.1.toNat).1
                have h94g : (I94 (a0 + 36 + r82.toNat) r91.toNat).toInt = L.2 w9.2.1.toNat w9.1.toNat := by rw [e1, e2]; exact hRk.2.2.2.2.1 _ _ (by omega) (by omega)
                have hYr : cHurt T L q = .ok (aHurt L w9.1.toNat w9.2.1.toNat w9.2.2.1, w9.2.2.2) := by rw [cHurt_W, hw9]; rfl
                refine ⟨_, r_M_22 hM, _, ⟨s_M_35 hM, by decide⟩, by omega, _, rr_M_35 hM (by omega), by omega, _, rr_M_35 hM (by omega), _, ⟨sr_M_35 hM (by omega), by decide⟩, by omega, ?_⟩
                refine ⟨_, cz_204 hV (by omega) (by omega), ?_⟩
                rintro _ I115 ⟨rfl, e9⟩; replace e9 := e9.symm; subst e9
                refine ⟨_, rfl, ?_⟩
                refine ⟨_, ⟨sr_M_35 hM (by omega), by decide⟩, by omega, ?_⟩
                intro I120 e_I120; subst e_I120
                have hk3 : k0 = 3 := by omega
                have hYl : cClause T cnt L s = cHurt T L q := by
                  rw [cc_n hke (by omega) (by omega) (by omega), ← hw, ← hq]
                  unfold cBody
                  rw [if_neg (by omega), if_neg (by omega), if_neg (by omega), if_pos (by omega)]
                rw [hYr] at hYl
                subst e1; subst e2; subst e3
                exact L413 _ _ rfl (⟨_, RCB_w h0 hFk (FLb_u FLb_refl (by omega) (by unfold RDo; omega)) (fun k => by rw [jx_u_r _ _ _ (by omega)]) (ROK_w hok4 (by omega)) (RLB_hurt (v := w9.2.2.1) hRk hW (by omega) (by omega) (by rw [h94g]) (by omega)), hYl⟩)
            · refine ⟨_, cz_221 (x := .ok q) hV hM hJq hRJ.1.2 (by have := hW.1; omega), ?_⟩
              rintro _ I123 ⟨⟨r124, rfl, hr124⟩, hS124, hF124⟩
              refine ⟨_, rfl, ?_⟩
              have hg124 := NUG_r (I' := I) (x := .ok q) hJq hr124 (by omega) (by have := hW.1; omega)
              have h12331 : (I123 (a0 + 3) (1 : Int).toNat).toInt = (Lm L.1 : Int) := by rw [hF124.1 _ (by omega)]; exact hJ31
              refine ⟨_, r_M_10 hM, ?_⟩
              try simp only [-eq_self, h12331]
              refine ⟨_, ⟨s_M_3 hM, by decide⟩, by omega, ?_⟩
              refine ⟨_, cz_211g hV hM hS124 (by have := hW.1; omega) (by omega), ?_⟩
              rintro _ I132 ⟨⟨r133, rfl, hr133⟩, hS132, hF132⟩
              refine ⟨_, rfl, ?_⟩
              refine ⟨fun hq10 => ?_, fun hq10 => ?_⟩
              · refine ⟨_, cz_217g hV hM hS132 (by omega), ?_⟩
                rintro _ I136 ⟨rfl, hS136, hF136⟩
                refine ⟨rfl, ?_⟩
                have hk4 : k0 = 4 := by omega
                have hYl : cClause T cnt L s = cCalf T L q := by
                  rw [cc_n hke (by omega) (by omega) (by omega), ← hw, ← hq]
                  unfold cBody
                  rw [if_neg (by omega), if_neg (by omega), if_neg (by omega), if_neg (by omega), if_pos (by omega)]
                obtain ⟨e, he, her⟩ := RST_5n hS132 (hq10)
                have he2 := (W2_r (A := (pNum T 0 ((Lm L.1 : Int) - 1) q)) (B := (fun a => pOth T ((Lm L.1 : Int) - 1) a)) (fun v q h => hr124.1 v q h)).symm.trans he
                have hWe : (W2 (pNum T 0 ((Lm L.1 : Int) - 1) q) (fun a => pOth T ((Lm L.1 : Int) - 1) a)) = .error e := by
                  cases hw9 : (W2 (pNum T 0 ((Lm L.1 : Int) - 1) q) (fun a => pOth T ((Lm L.1 : Int) - 1) a)) with
                  | error e2 => rw [hw9] at he2; cases he2; rfl
                  | ok w => rw [hw9] at he2; cases he2
                have hYe : cCalf T L q = .error e := by rw [cCalf_W, hWe]; rfl
                rw [hYe] at hYl
                rw [hYl]
                have hBe := RCB_e h0 (FLb_o (FO_trans hF124 hF132) (by decide)) her
                obtain ⟨g1, g2⟩ := RCB_end hBe hF136 (by rw [he] at hS136; exact hS136)
                exact ⟨rfl, g1, g2⟩
              · obtain ⟨q4, hq4, hok4⟩ := RST_5 hS132 (by omega)
                replace hq4 := (W2_r (A := (pNum T 0 ((Lm L.1 : Int) - 1) q)) (B := (fun a => pOth T ((Lm L.1 : Int) - 1) a)) (fun v q h => hr124.1 v q h)).symm.trans hq4
                obtain ⟨w9, hw9, hw9e⟩ := px_ok hq4
                cases hw9e
                obtain ⟨qa, hA, hB⟩ := W2_ok hw9
                have e1 : r124 = w9.1 := hr124.1 _ _ hA
                subst e1
                have e2 : r133 = w9.2.1 := hr133.1 w9.2.1 w9.2.2 (by rw [show ((Except.ok q : PX Nat).bind (pNum T 0 ((Lm L.1 : Int) - 1))) = _ from hA]; exact hB)
                have o1 := pNum_ok hql hA
                have o2 := pOth_ok o1.2.1.1 hB
                have hn10 := hW.1
                have hFk := FO_trans hF124 hF132
                have hRk := RLB_o hRJ hFk (by decide)
                have hYr : cCalf T L q = .ok (aCalf L w9.1.toNat w9.2.1, w9.2.2) := by rw [cCalf_W, hw9]; rfl
                refine ⟨_, r_M_16 hM, _, ⟨s_M_9 hM, by decide⟩, by omega, ?_⟩
                intro I143 e_I143; subst e_I143
                have hk4 : k0 = 4 := by omega
                have hYl : cClause T cnt L s = cCalf T L q := by
                  rw [cc_n hke (by omega) (by omega) (by omega), ← hw, ← hq]
                  unfold cBody
                  rw [if_neg (by omega), if_neg (by omega), if_neg (by omega), if_neg (by omega), if_pos (by omega)]
                rw [hYr] at hYl
                subst e2
                exact L413 _ _ rfl (⟨_, RCB_w h0 hFk (FLb_u FLb_refl (by omega) (by unfold RDo; omega)) (fun k => by rw [jx_u_r _ _ _ (by omega)]) (ROK_w hok4 (by omega)) (RLB_calf (v := w9.2.1) hRk hW (by omega)), hYl⟩)
            · refine ⟨_, cz_221 (x := .ok q) hV hM hJq hRJ.1.2 (by have := hW.1; omega), ?_⟩
              rintro _ I146 ⟨⟨r147, rfl, hr147⟩, hS147, hF147⟩
              refine ⟨_, rfl, ?_⟩
              have hg147 := NUG_r (I' := I) (x := .ok q) hJq hr147 (by omega) (by have := hW.1; omega)
              have h14631 : (I146 (a0 + 3) (1 : Int).toNat).toInt = (Lm L.1 : Int) := by rw [hF147.1 _ (by omega)]; exact hJ31
              refine ⟨_, r_M_10 hM, ?_⟩
              try simp only [-eq_self, h14631]
              refine ⟨_, ⟨s_M_3 hM, by decide⟩, by omega, ?_⟩
              refine ⟨_, cz_211g hV hM hS147 (by have := hW.1; omega) (by omega), ?_⟩
              rintro _ I155 ⟨⟨r156, rfl, hr156⟩, hS155, hF155⟩
              refine ⟨_, rfl, ?_⟩
              refine ⟨fun hq11 => ?_, fun hq11 => ?_⟩
              · obtain ⟨q4, hq4, hok4⟩ := RST_5 hS155 hq11
                replace hq4 := (W2_r (A := (pNum T 0 ((Lm L.1 : Int) - 1) q)) (B := (fun a => pOth T ((Lm L.1 : Int) - 1) a)) (fun v q h => hr147.1 v q h)).symm.trans hq4
                obtain ⟨w9, hw9, hw9e⟩ := px_ok hq4
                cases hw9e
                obtain ⟨qa, hA, hB⟩ := W2_ok hw9
                have e1 : r147 = w9.1 := hr147.1 _ _ hA
                subst e1
                have e2 : r156 = w9.2.1 := hr156.1 w9.2.1 w9.2.2 (by rw [show ((Except.ok q : PX Nat).bind (pNum T 0 ((Lm L.1 : Int) - 1))) = _ from hA]; exact hB)
                have o1 := pNum_ok hql hA
                have o2 := pOth_ok o1.2.1.1 hB
                have hn10 := hW.1
                have hFk := FO_trans hF147 hF155
                have hRk := RLB_o hRJ hFk (by decide)
                have hYr : cFoe T L q = .ok (aFoe L w9.1.toNat w9.2.1.toNat, w9.2.2) := by rw [cFoe_W, hw9]; rfl
                have hf1 := (hW.2.2.2.1 w9.1.toNat).2.2.1
                have hf2 := (hW.2.2.2.1 w9.2.1.toNat).2.2.1
                have hp8 := pow_le8 hn10.2
                have h5r : (I155 (a0 + 11) w9.1.toNat).toInt = (Lf L.1 w9.1.toNat : Int) := (hRk.2.2.2.1 _ (by omega)).2.2
                have h5s : (I155 (a0 + 11) w9.2.1.toNat).toInt = (Lf L.1 w9.2.1.toNat : Int) := (hRk.2.2.2.1 _ (by omega)).2.2
                have f1 : (Int32.ofInt 1 <<< (Int32.ofInt w9.2.1 &&& 31)).toInt = ((2 ^ w9.2.1.toNat : Nat) : Int) := by
                  have := jz_1sh (k := w9.2.1.toNat) (by omega)
                  rw [show ((w9.2.1.toNat : Nat) : Int) = w9.2.1 by omega] at this
                  exact this
                have f2 : (Int32.ofInt 1 <<< (Int32.ofInt w9.1 &&& 31)).toInt = ((2 ^ w9.1.toNat : Nat) : Int) := by
                  have := jz_1sh (k := w9.1.toNat) (by omega)
                  rw [show ((w9.1.toNat : Nat) : Int) = w9.1 by omega] at this
                  exact this
                have hpa := Nat.pow_le_pow_right (n := 2) (by omega) (show w9.2.1.toNat ≤ 8 by omega)
                have hpb := Nat.pow_le_pow_right (n := 2) (by omega) (show w9.1.toNat ≤ 8 by omega)
                have u1 : (Int32.ofInt (Lf L.1 w9.1.toNat : Int) ||| Int32.ofInt ((2 ^ w9.2.1.toNat : Nat) : Int)).toInt = ((Lf L.1 w9.1.toNat ||| 2 ^ w9.2.1.toNat : Nat) : Int) := jz_or (by omega) (by omega)
                have u2 : (Int32.ofInt (Lf L.1 w9.2.1.toNat : Int) ||| Int32.ofInt ((2 ^ w9.1.toNat : Nat) : Int)).toInt = ((Lf L.1 w9.2.1.toNat ||| 2 ^ w9.1.toNat : Nat) : Int) := jz_or (by omega) (by omega)
                have b1 : (Lf L.1 w9.1.toNat ||| 2 ^ w9.2.1.toNat) < 2 ^ 9 := Nat.or_lt_two_pow (by omega) (Nat.pow_lt_pow_right (by omega) (by omega))
                have b2 : (Lf L.1 w9.2.1.toNat ||| 2 ^ w9.1.toNat) < 2 ^ 9 := Nat.or_lt_two_pow (by omega) (Nat.pow_lt_pow_right (by omega) (by omega))
                subst e2
                have v1 : (Int32.ofInt (I155 (a0 + 11) w9.1.toNat).toInt ||| Int32.ofInt (Int32.ofInt 1 <<< (Int32.ofInt w9.2.1 &&& 31)).toInt).toInt = ((Lf L.1 w9.1.toNat ||| 2 ^ w9.2.1.toNat : Nat) : Int) := by rw [h5r, f1]; exact u1
                have v2 : (Int32.ofInt (jx_u I155 (a0 + 11) w9.1.toNat (Int32.ofInt (Int32.ofInt (I155 (a0 + 11) w9.1.toNat).toInt ||| Int32.ofInt (Int32.ofInt 1 <<< (Int32.ofInt w9.2.1 &&& 31)).toInt).toInt) (a0 + 11) w9.2.1.toNat).toInt ||| Int32.ofInt (Int32.ofInt 1 <<< (Int32.ofInt w9.1 &&& 31)).toInt).toInt = ((Lf L.1 w9.2.1.toNat ||| 2 ^ w9.1.toNat : Nat) : Int) := by
                  rw [jx_u_k _ _ _ _ (by have := o2.2.2.2.2; omega), h5s, f2]; exact u2
                refine ⟨_, r_M_18 hM, _, ⟨s_M_11 hM, by decide⟩, by omega, by omega, ?_⟩
                intro I163 e_I163; subst e_I163
                refine ⟨by omega, by omega, ?_⟩
                intro I166 e_I166; subst e_I166
                have hk5 : k0 = 5 := by omega
                have hYl : cClause T cnt L s = cFoe T L q := by
                  rw [cc_n hke (by omega) (by omega) (by omega), ← hw, ← hq]
                  unfold cBody
                  rw [if_neg (by omega), if_neg (by omega), if_neg (by omega), if_neg (by omega), if_neg (by omega), if_pos (by omega)]
                rw [hYr] at hYl
                exact L413 _ _ rfl (⟨_, RCB_w h0 hFk (FLb_u (FLb_u FLb_refl (by omega) (by unfold RDo; omega)) (by omega) (by unfold RDo; omega)) (fun k => by rw [jx_u_r _ _ _ (by omega), jx_u_r _ _ _ (by omega)]) (ROK_w (ROK_w hok4 (by omega)) (by omega)) (RLB_foe hRk hW (by have := o2.2.2.2.2; omega) v1 v2 (by rw [v1]; omega) (by rw [v2]; omega)), hYl⟩)
              · have hk5 : k0 = 5 := by omega
                have hYl : cClause T cnt L s = cFoe T L q := by
                  rw [cc_n hke (by omega) (by omega) (by omega), ← hw, ← hq]
                  unfold cBody
                  rw [if_neg (by omega), if_neg (by omega), if_neg (by omega), if_neg (by omega), if_neg (by omega), if_pos (by omega)]
                obtain ⟨e, he, her⟩ := RST_5n hS155 (hq11)
                have he2 := (W2_r (A := (pNum T 0 ((Lm L.1 : Int) - 1) q)) (B := (fun a => pOth T ((Lm L.1 : Int) - 1) a)) (fun v q h => hr147.1 v q h)).symm.trans he
                have hWe : (W2 (pNum T 0 ((Lm L.1 : Int) - 1) q) (fun a => pOth T ((Lm L.1 : Int) - 1) a)) = .error e := by
                  cases hw9 : (W2 (pNum T 0 ((Lm L.1 : Int) - 1) q) (fun a => pOth T ((Lm L.1 : Int) - 1) a)) with
                  | error e2 => rw [hw9] at he2; cases he2; rfl
                  | ok w => rw [hw9] at he2; cases he2
                have hYe : cFoe T L q = .error e := by rw [cFoe_W, hWe]; rfl
                rw [hYe] at hYl
                exact L413 _ _ rfl (⟨_, RCB_e h0 (FLb_o (FO_trans hF147 hF155) (by decide)) her, hYl⟩)
          · exact absurd hT4.1.2.2.1 hq6
        · refine ⟨_, r_M_10 hM, _, ⟨s_M_3 hM, by decide⟩, by omega, ?_⟩
          refine ⟨fun hq12 => ?_, fun hq12 => ?_⟩
          · refine ⟨fun hq13 => ?_, fun hq13 => ?_⟩
            · refine ⟨_, cz_215 hV hM hT4 hsl, ?_⟩
              rintro _ I174 ⟨rfl, hT174, hF174⟩
              refine ⟨rfl, ?_⟩
              rw [← hw] at hT174
              have h1747 : (I174 a0 7).toInt = (cnt : Int) := by rw [hF174.2 7 (by decide), hF4.2 7 (by decide)]; exact h7
              simp only [-eq_self, h1747]
              intro I176 e_I176; subst e_I176
              obtain ⟨J, hJ⟩ : ∃ J, J = jx_u I174 a0 7 (Int32.ofInt ((cnt : Int) + 1)) := ⟨_, rfl⟩
              rw [← hJ]
              have h0 : RC0 I J a0 T cnt L q := by rw [hJ, hq]; exact RC0_mk hR h25 hF4 hF174 hT174 hwl rfl hcnt
              clear hJ
              have hJq := h0.1
              have hRJ := h0.2.1
              have hql := (ROK_s hJq).1
              have hn10 := hW.1
              have hJ30 : (J (a0 + 3) (0 : Int).toNat).toInt = (Ln L.1 : Int) := hRJ.1.1
              have hJ31 : (J (a0 + 3) (1 : Int).toNat).toInt = (Lm L.1 : Int) := hRJ.1.2
              refine ⟨fun hq14 => ?_, fun hq14 => ?_, fun hq14 => ?_, fun hq14 => ?_, fun hq14 => ?_, fun hq14 => ?_, fun hq14 => ?_⟩
              · exfalso
                omega
              · exfalso
                omega
              · refine ⟨_, cz_223 hV hM hJq hRJ hW (by omega), ?_⟩
                rintro _ I198 ⟨rfl, hS198, hL198, hF198, hk198⟩
                refine ⟨rfl, ?_⟩
                have hk2 : k0 = 2 := by omega
                have hYl : cClause T cnt L s = cCamel T L q := by rw [cc_2 hke hk2 (by omega), ← hw, ← hq, if_neg (by omega)]
                exact L413 _ _ rfl (⟨_, ⟨FLb_trans h0.2.2.2.2 hF198, hS198, fun w hw => ⟨hL198 w hw, by rw [hk198 7 (by decide) (by decide) (by decide)]; exact h0.2.2.1, by rw [hk198 25 (by decide) (by decide) (by decide)]; exact h0.2.2.2.1⟩⟩, hYl⟩)
              · exfalso
                omega
              · exfalso
                omega
              · exfalso
                omega
              · exfalso
                omega
            · exact absurd hT4.1.2.2.1 hq13
          · refine ⟨_, cz_208 hV hM hT4 (by omega) (by omega), ?_⟩
            rintro _ I310 ⟨rfl, hT310, hF310⟩
            refine ⟨rfl, ?_⟩
            refine hJ71 _ _ ?_
            unfold wz_222_71
            refine ⟨s_M_0 hM, ?_⟩
            refine ⟨fun hq15 => ?_, fun hq15 => ?_⟩
            · exfalso
              rw [if_pos rfl] at hT310
              have := hT310.1.2.2.1
              omega
            · rw [if_pos rfl, if_pos rfl] at hT310
              rw [show cClause T cnt L s = .error (3, s) from by rw [cc_2 hke (by omega) (by omega), if_pos (by omega)]]
              exact ⟨rfl, ⟨show (1 : Int) ≤ 3 by decide, show (3 : Int) ≤ 3 by decide, s, hT310⟩, FLb_trans (FLb_o hF4 (by decide)) (FLb_o hF310 (by decide))⟩
      · refine ⟨_, r_M_10 hM, _, ⟨s_M_3 hM, by decide⟩, by omega, ?_⟩
        refine ⟨fun hq16 => ?_, fun hq16 => ?_⟩
        · refine ⟨_, cz_208 hV hM hT4 (by omega) (by omega), ?_⟩
          rintro _ I319 ⟨rfl, hT319, hF319⟩
          refine ⟨rfl, ?_⟩
          refine hJ71 _ _ ?_
          unfold wz_222_71
          refine ⟨s_M_0 hM, ?_⟩
          refine ⟨fun hq17 => ?_, fun hq17 => ?_⟩
          · exfalso
            rw [if_pos rfl] at hT319
            have := hT319.1.2.2.1
            omega
          · rw [if_pos rfl, if_pos rfl] at hT319
            rw [show cClause T cnt L s = .error (3, s) from by rw [cc_0 hke (by omega) (by omega), if_pos (by omega)]]
            exact ⟨rfl, ⟨show (1 : Int) ≤ 3 by decide, show (3 : Int) ≤ 3 by decide, s, hT319⟩, FLb_trans (FLb_o hF4 (by decide)) (FLb_o hF319 (by decide))⟩
        · refine ⟨fun hq18 => ?_, fun hq18 => ?_⟩
          · refine ⟨fun hq19 => ?_, fun hq19 => ?_⟩
            · refine ⟨_, cz_215 hV hM hT4 hsl, ?_⟩
              rintro _ I323 ⟨rfl, hT323, hF323⟩
              refine ⟨rfl, ?_⟩
              rw [← hw] at hT323
              have h3237 : (I323 a0 7).toInt = (cnt : Int) := by rw [hF323.2 7 (by decide), hF4.2 7 (by decide)]; exact h7
              simp only [-eq_self, h3237]
              intro I325 e_I325; subst e_I325
              obtain ⟨J, hJ⟩ : ∃ J, J = jx_u I323 a0 7 (Int32.ofInt ((cnt : Int) + 1)) := ⟨_, rfl⟩
              rw [← hJ]
              have h0 : RC0 I J a0 T cnt L q := by rw [hJ, hq]; exact RC0_mk hR h25 hF4 hF323 hT323 hwl rfl hcnt
              clear hJ
              have hJq := h0.1
              have hRJ := h0.2.1
              have hql := (ROK_s hJq).1
              have hn10 := hW.1
              have hJ30 : (J (a0 + 3) (0 : Int).toNat).toInt = (Ln L.1 : Int) := hRJ.1.1
              have hJ31 : (J (a0 + 3) (1 : Int).toNat).toInt = (Lm L.1 : Int) := hRJ.1.2
              refine ⟨fun hq20 => ?_, fun hq20 => ?_, fun hq20 => ?_, fun hq20 => ?_, fun hq20 => ?_, fun hq20 => ?_, fun hq20 => ?_⟩
              · exfalso
                omega
              · refine ⟨_, r_M_12 hM, by omega, ?_⟩
                refine ⟨_, cz_210g (x := .ok q) hV hM hJq (by omega) (by omega), ?_⟩
                rintro _ I338 ⟨⟨r339, rfl, hr339⟩, hS338, hF338⟩
                refine ⟨_, rfl, ?_⟩
                have hg339 := NUG_r (I' := I) (x := .ok q) hJq hr339 (by omega) (by omega)
                refine ⟨_, ⟨s_M_5 hM, by decide⟩, by omega, ?_⟩
                intro I343 e_I343; subst e_I343
                refine ⟨by omega, ?_⟩
                refine ⟨fun hq21 => ?_, fun hq21 => ?_⟩
                · refine hJ168 _ _ _ _ _ ?_
                  unfold wz_222_168
                  refine ⟨_, ⟨s_M_3 hM, by decide⟩, by omega, ?_⟩
                  intro I605 e_I605; subst e_I605
                  have hk00 : k0 = 0 := by omega
                  have hYl : cClause T cnt L s = cPlace T L q := by rw [cc_0 hke hk00 (by omega), ← hw, ← hq, if_neg (by omega)]
                  obtain ⟨e, he, her⟩ : ∃ e, pNum T 0 3 q = .error e ∧ RER I338 a0 T e := by
                    obtain ⟨e, he, her⟩ := RST_5n hS338 (by rw [jx_u_r _ _ _ (by omega)] at hq21; exact hq21)
                    cases hp9 : pNum T 0 3 q with
                    | error e2 => rw [show ((Except.ok q : PX Nat).bind (pNum T 0 3)) = _ from hp9] at he; cases he; exact ⟨_, rfl, her⟩
                    | ok r => rw [show ((Except.ok q : PX Nat).bind (pNum T 0 3)) = _ from hp9] at he; cases he
                  have hYe : cPlace T L q = .error e := by unfold cPlace; rw [he]; rfl
                  rw [hYe] at hYl
                  exact L413 _ _ rfl (⟨_, RCB_e h0 (FLb_u (FLb_u (FLb_o hF338 (by decide)) (by omega) (by unfold RDo; omega)) (by omega) (by unfold RDo; omega)) (RER_w (RER_w her (by omega)) (by omega)), hYl⟩)
                · refine hJ168 _ _ _ _ _ ?_
                  unfold wz_222_168
                  refine ⟨_, ⟨s_M_3 hM, by decide⟩, by omega, ?_⟩
                  intro I605 e_I605; subst e_I605
                  have hk00 : k0 = 0 := by omega
                  have hYl : cClause T cnt L s = cPlace T L q := by rw [cc_0 hke hk00 (by omega), ← hw, ← hq, if_neg (by omega)]
                  obtain ⟨q4, hq4, hok4⟩ := RST_5 hS338 (by rw [jx_u_r _ _ _ (by omega)] at hq21; exact hq21)
                  obtain ⟨r9, hr9, hr9e⟩ := px_ok hq4
                  replace hr9 : pNum T 0 3 q = .ok r9 := hr9
                  cases hr9e
                  have e1 : r339 = r9.1 := hr339.1 r9.1 r9.2 hr9
                  have o1 := pNum_ok hql hr9
                  have hYe : cPlace T L q = .ok (aPlace L r9.1, r9.2) := by unfold cPlace; rw [hr9]; rfl
                  rw [hYe] at hYl
                  have hRk := RLB_o hRJ hF338 (by decide)
                  have hL9 : (J (a0 + 3) (0 : Int).toNat).toInt.toNat = Ln L.1 := by rw [hJ30]; rfl
                  subst e1
                  exact L413 _ _ rfl (⟨_, RCB_w h0 hF338 (FLb_u (FLb_u FLb_refl (by omega) (by unfold RDo; omega)) (by omega) (by unfold RDo; omega)) (fun k => by rw [jx_u_r _ _ _ (by omega), jx_u_r _ _ _ (by omega)]) (ROK_w (ROK_w hok4 (by omega)) (by omega)) (by rw [hL9]; exact RLB_place hRk hW o1.2.2 (by omega) (by rw [jx_u_a _ _ _ _ (by omega)]; show (I338 (a0 + 3) 0).toInt + 1 = _; rw [hRk.1.1])), hYl⟩)
              · exfalso
                omega
              · exfalso
                omega
              · exfalso
                omega
              · exfalso
                omega
              · exfalso
                omega
            · exact absurd hT4.1.2.2.1 hq19
          · exfalso
            omega
  · refine ⟨_, cz_208 hV hM hT4 (by omega) (by omega), ?_⟩
    rintro _ I600 ⟨rfl, hT600, hF600⟩
    refine ⟨rfl, ?_⟩
    refine hJ71 _ _ ?_
    unfold wz_222_71
    refine ⟨s_M_0 hM, ?_⟩
    refine ⟨fun hq22 => ?_, fun hq22 => ?_⟩
    · exfalso
      rw [if_pos rfl] at hT600
      have := hT600.1.2.2.1
      omega
    · rw [if_pos rfl, if_pos rfl] at hT600
      rw [show cClause T cnt L s = .error (1, s) from cc_e (by omega)]
      exact ⟨rfl, ⟨show (1 : Int) ≤ 1 by decide, show (1 : Int) ≤ 3 by decide, s, hT600⟩, FLb_trans (FLb_o hF4 (by decide)) (FLb_o hF600 (by decide))⟩
