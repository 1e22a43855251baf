/-! ===== the class reads clauses ===== -/
theorem NB_y {T : List Int} {p : Nat} {lo hi r q fk fa : Int} (hp : p ≤ T.length) (h : NB T p lo hi r q fk fa) (hr : 0 ≤ r) : ∃ q2 : Nat, pNum T lo hi p = .ok (r, q2) ∧ q = (q2 : Int) ∧ fk = 0 ∧ fa = -1 ∧ AT T q2 ∧ lo ≤ r ∧ r ≤ hi := by
  rcases h with ⟨h1, h2, h3, h4, h5, h6, h7⟩ | ⟨_, h, _⟩ | ⟨_, _, h, _⟩
  · exact ⟨_, by rw [h4]; exact pNum_y h1 ⟨h2, h3⟩, h5, h6, h7, (AT_s (dig_le hp)).1, by omega, by omega⟩
  · omega
  · omega
theorem NB_n {I : jx_I} {tp : Nat} {T : List Int} {p : Nat} {lo hi r q fk fa fd wf we nf : Int} (hp : p ≤ T.length) (hlo : 0 ≤ lo) (h : NB T p lo hi r q fk fa) (hT : TX I tp T fd q wf we nf fk fa) (hr : r < 0) : ∃ e, pNum T lo hi p = .error e ∧ CST I tp T fd (.error e) := by
  rcases NB_p hp h hT with ⟨q2, _, _, h3, _⟩ | ⟨e, h1, _, h3⟩
  · omega
  · exact ⟨e, h1, h3⟩
theorem NB_r {T : List Int} {p : Nat} {lo hi r q fk fa : Int} (h : NB T p lo hi r q fk fa) (hlo : -1 ≤ lo) (hhi : hi ≤ 999) : -1 ≤ r ∧ r ≤ 999 := by
  rcases h with ⟨_, h2, h3, h4, _⟩ | ⟨_, h, _⟩ | ⟨_, _, h, _⟩ <;> omega
theorem CDA_e {ld tp : Nat} {T : List Int} {fd : Int} {I I' : jx_I} {Y : PB} {e : Int × Nat} (h1 : Y = .error e) (h2 : CST I' tp T fd (.error e)) (h3 : FLd ld tp I I') : CDA ld tp T fd I Y (some (jy 0)) I' := ⟨⟨0, rfl, Or.inr ⟨rfl, e, h1, h2⟩⟩, h3⟩
theorem CDA_y {ld tp : Nat} {T : List Int} {fd : Int} {I I' : jx_I} {Y : PB} {w : LB × Nat} (h1 : Y = .ok w) (h2 : CST I' tp T fd (.ok w.2)) (h4 : CLB I' ld w.1) (h3 : FLd ld tp I I') : CDA ld tp T fd I Y (some (jy 1)) I' := ⟨⟨1, rfl, Or.inl ⟨rfl, w, h1, h2, h4⟩⟩, h3⟩
/-- GrievingCamels$Land.readPlace -/
theorem cz_27 {V : jx_V} (hV : V.1.stackTraces = false) {X : jx_X} {R : jx_R} {I : jx_I} {a0 : Nat} {a1 : Nat} {T : List Int} {fd we nf : Int} {s wp : Nat} {L : LB}
    (hl : BX X R a0 TLand) (ht : BX X R a1 TTape) (hT : TX I a1 T fd (s : Int) (wp : Int) we nf 0 (-1)) (hAT : AT T s) (hC : CLB I a0 L) (hW : WB L) (hdy : a1 + 2 ≤ a0 ∨ a0 + 11 ≤ a1)
    {QE : String → jx_I → Prop} : jc V 3 27 (0, 0) [.ref a0, .ref a1] X I R (CDA a0 a1 T fd I (if Ln L.1 = 10 then .error (3, wp) else cPlace T L s)) QE := by
  have hsl := hAT.1
  have h7 := hC.1.1
  have h8 := hC.1.2
  have hWn := hW.1
  have h6 := hT.2.1
  refine wm_27 hV   ?_
  unfold wz_27
  refine ⟨s_Land_0 hl, ?_⟩
  refine ⟨fun hq1 => ?_, fun hq1 => ?_⟩
  · refine ⟨s_Tape_0 ht, ?_⟩
    refine ⟨_, cz_118 hV ht hT hsl (by omega) (by omega), ?_⟩
    rintro _ I5 ⟨⟨r6, q6, k6, f6, rfl, hn6, hT6⟩, hF6⟩
    refine ⟨_, rfl, ?_⟩
    have hr6 := NB_r hn6 (by omega) (by omega)
    have h5f : (I5 a0 7).toInt = (Ln L.1 : Int) := by rw [hF6 a0 (by omega)]; exact h7
    refine ⟨by omega, ?_⟩
    refine ⟨fun hq2 => ?_, fun hq2 => ?_⟩
    · refine ⟨_, r_Land_0_0 hl, ?_⟩
      try simp only [-eq_self, h5f, Int.toNat_natCast]
      refine ⟨_, ⟨s_Land_1 hl, by decide⟩, by omega, ?_⟩
      intro I13 e_I13; subst e_I13
      have h13f : (jx_u I5 (a0 + 1) (Ln L.1) (Int32.ofInt r6) a0 7).toInt = (Ln L.1 : Int) := by rw [jx_u_r _ _ _ (by omega)]; exact h5f
      simp only [-eq_self, h13f]
      intro I14 e_I14; subst e_I14
      obtain ⟨q2, g1, rfl, rfl, rfl, g5, g6, g7⟩ := NB_y hsl hn6 hq2
      have hCk : CLB I5 a0 L := CLB_of hC (fun q a b => hF6 q (by omega))
      exact CDA_y (by rw [if_neg (by omega)]; unfold cPlace; rw [g1]; rfl) (CST_w (CST_w ⟨g5, _, _, _, hT6⟩ (by omega)) (by omega)) (CLB_place (k := r6) hCk (by omega) (by omega) rfl) (FLd_u (FLd_u (FLd_t hF6) (by omega)) (by omega))
    · obtain ⟨e, g1, g2⟩ := NB_n hsl (by omega) hn6 hT6 (by omega)
      exact CDA_e (by rw [if_neg (by omega)]; unfold cPlace; rw [g1]; rfl) g2 (FLd_t hF6)
  · refine ⟨s_Tape_0 ht, ?_⟩
    refine ⟨_, cz_108 hV ht hT (by omega), ?_⟩
    rintro _ I18 ⟨rfl, hT18, hF18⟩
    refine ⟨_, rfl, ?_⟩
    refine ⟨by omega, ?_⟩
    exact CDA_e (e := (3, wp)) (by rw [if_pos (by omega)]) ⟨⟨show (1 : Int) ≤ 3 by decide, show (3 : Int) ≤ 3 by decide⟩, _, _, _, _, hT18⟩ (FLd_t hF18)
/-- GrievingCamels$Land.readCamel -/
theorem cz_28 {V : jx_V} (hV : V.1.stackTraces = false) {X : jx_X} {R : jx_R} {I : jx_I} {a0 : Nat} {a1 : Nat} {T : List Int} {fd we nf : Int} {s wp : Nat} {L : LB}
    (hl : BX X R a0 TLand) (ht : BX X R a1 TTape) (hT : TX I a1 T fd (s : Int) (wp : Int) we nf 0 (-1)) (hAT : AT T s) (hC : CLB I a0 L) (hW : WB L) (hdy : a1 + 2 ≤ a0 ∨ a0 + 11 ≤ a1)
    {QE : String → jx_I → Prop} : jc V 3 28 (0, 0) [.ref a0, .ref a1] X I R (CDA a0 a1 T fd I (if Lm L.1 = 8 then .error (3, wp) else cCamel T L s)) QE := by
  have hsl := hAT.1
  have h7 := hC.1.1
  have h8 := hC.1.2
  have hWn := hW.1
  have h6 := hT.2.1
  refine wm_28 hV   ?_
  unfold wz_28
  refine ⟨s_Land_0 hl, ?_⟩
  refine ⟨fun hq1 => ?_, fun hq1 => ?_⟩
  · refine ⟨s_Tape_0 ht, ?_⟩
    refine ⟨_, cz_118 hV ht hT hsl (by omega) (by omega), ?_⟩
    rintro _ I5 ⟨⟨r6, q6, k6, f6, rfl, hn6, hT6⟩, hF6⟩
    refine ⟨_, rfl, ?_⟩
    have hr6 := NB_r hn6 (by omega) (by omega)
    have h5f : (I5 a0 8).toInt = (Lm L.1 : Int) := by rw [hF6 a0 (by omega)]; exact h8
    refine ⟨by omega, ?_⟩
    refine ⟨fun hq2 => ?_, fun hq2 => ?_⟩
    · refine ⟨_, r_Land_0_2 hl, ?_⟩
      try simp only [-eq_self, h5f, Int.toNat_natCast]
      refine ⟨_, ⟨s_Land_3 hl, by decide⟩, by omega, ?_⟩
      intro I13 e_I13; subst e_I13
      have h13f : (jx_u I5 (a0 + 3) (Lm L.1) (Int32.ofInt r6) a0 8).toInt = (Lm L.1 : Int) := by rw [jx_u_r _ _ _ (by omega)]; exact h5f
      simp only [-eq_self, h13f]
      intro I14 e_I14; subst e_I14
      obtain ⟨q2, g1, rfl, rfl, rfl, g5, g6, g7⟩ := NB_y hsl hn6 hq2
      have hCk : CLB I5 a0 L := CLB_of hC (fun q a b => hF6 q (by omega))
      exact CDA_y (by rw [if_neg (by omega)]; unfold cCamel; rw [g1]; rfl) (CST_w (CST_w ⟨g5, _, _, _, hT6⟩ (by omega)) (by omega)) (CLB_camel (k := r6) hCk (by omega) (by omega) rfl) (FLd_u (FLd_u (FLd_t hF6) (by omega)) (by omega))
    · obtain ⟨e, g1, g2⟩ := NB_n hsl (by omega) hn6 hT6 (by omega)
      exact CDA_e (by rw [if_neg (by omega)]; unfold cCamel; rw [g1]; rfl) g2 (FLd_t hF6)
  · refine ⟨s_Tape_0 ht, ?_⟩
    refine ⟨_, cz_108 hV ht hT (by omega), ?_⟩
    rintro _ I18 ⟨rfl, hT18, hF18⟩
    refine ⟨_, rfl, ?_⟩
    refine ⟨by omega, ?_⟩
    exact CDA_e (e := (3, wp)) (by rw [if_pos (by omega)]) ⟨⟨show (1 : Int) ≤ 3 by decide, show (3 : Int) ≤ 3 by decide⟩, _, _, _, _, hT18⟩ (FLd_t hF18)
/-- GrievingCamels$Land.readRoad -/
theorem cz_29 {V : jx_V} (hV : V.1.stackTraces = false) {X : jx_X} {R : jx_R} {I : jx_I} {a0 : Nat} {a1 : Nat} {T : List Int} {fd we nf : Int} {s wp : Nat} {L : LB}
    (hl : BX X R a0 TLand) (ht : BX X R a1 TTape) (hT : TX I a1 T fd (s : Int) (wp : Int) we nf 0 (-1)) (hAT : AT T s) (hC : CLB I a0 L) (hW : WB L) (hdy : a1 + 2 ≤ a0 ∨ a0 + 11 ≤ a1)
    {QE : String → jx_I → Prop} : jc V 4 29 (0, 0) [.ref a0, .ref a1] X I R (CDA a0 a1 T fd I (cRoad T L s)) QE := by
  have hsl := hAT.1
  have h7 := hC.1.1
  have h8 := hC.1.2
  have hWn := hW.1
  have h6 := hT.2.1
  refine wm_29 hV   ?_
  unfold wz_29
  refine ⟨s_Land_0 hl, ?_⟩
  refine ⟨_, cz_34 hV hl ht hT hsl h7 (by omega), ?_⟩
  rintro _ I4 ⟨⟨r5, q5, k5, f5, rfl, hn5, hT5⟩, hF5⟩
  refine ⟨_, rfl, ?_⟩
  have hr5 := NB_r hn5 (by omega) (by omega)
  refine ⟨by omega, ?_⟩
  refine ⟨fun hq1 => ?_, fun hq1 => ?_⟩
  · obtain ⟨p2, g1, rfl, rfl, rfl, g5, g6, g7⟩ := NB_y hsl hn5 hq1
    have g51 := g5.1
    have h47 : (I4 a0 7).toInt = (Ln L.1 : Int) := by rw [hF5 a0 (by omega)]; exact h7
    refine ⟨_, cz_34 hV hl ht hT5 g51 h47 (by omega), ?_⟩
    rintro _ I9 ⟨⟨r10, q10, k10, f10, rfl, hn10, hT10⟩, hF10⟩
    refine ⟨_, rfl, ?_⟩
    have hr10 := NB_r hn10 (by omega) (by omega)
    refine ⟨by omega, ?_⟩
    refine ⟨fun hq2 => ?_, fun hq2 => ?_⟩
    · obtain ⟨p3, k1, rfl, rfl, rfl, k5, k6, k7⟩ := NB_y g51 hn10 hq2
      have k51 := k5.1
      refine ⟨fun hq3 => ?_, fun hq3 => ?_⟩
      · refine ⟨s_Tape_0 ht, ?_⟩
        refine ⟨_, cz_118 hV ht hT10 k51 (by omega) (by omega), ?_⟩
        rintro _ I15 ⟨⟨r16, q16, k16, f16, rfl, hn16, hT16⟩, hF16⟩
        refine ⟨_, rfl, ?_⟩
        have hr16 := NB_r hn16 (by omega) (by omega)
        refine ⟨by omega, ?_⟩
        refine ⟨fun hq4 => ?_, fun hq4 => ?_⟩
        · obtain ⟨p4, j1, rfl, rfl, rfl, j5, j6, j7⟩ := NB_y k51 hn16 hq4
          refine ⟨_, r_Land_0_1 hl, _, ⟨s_Land_2 hl, by decide⟩, by omega, ?_⟩
          intro I23 e_I23; subst e_I23
          refine ⟨by omega, ?_⟩
          intro I25 e_I25; subst e_I25
          have hO : pOth T ((Ln L.1 : Int) - 1) r5 p2 = .ok (r10, p3) := by unfold pOth; rw [k1]; show (if r10 = r5 then _ else _) = _; rw [if_neg (fun h => hq3 h.symm)]
          have hCk : CLB I15 a0 L := CLB_of hC (fun q a b => by rw [hF16 q (by omega), hF10 q (by omega), hF5 q (by omega)])
          exact CDA_y (by unfold cRoad; rw [g1]; show (pOth T _ r5 p2).bind _ = _; rw [hO]; show (pNum T 1 24 p3).bind _ = _; rw [j1]; rfl) (CST_w (CST_w ⟨j5, _, _, _, hT16⟩ (by omega)) (by omega)) (CLB_road (v := r16) (a := r5.toNat) (b := r10.toNat) (i := (r5 * 10 + r10).toNat) (j := (r10 * 10 + r5).toNat) hCk (by omega) (by omega) (by omega) (by omega) (by omega)) (FLd_u (FLd_u (FLd_trans (FLd_t hF5) (FLd_trans (FLd_t hF10) (FLd_t hF16))) (by omega)) (by omega))
        · have hO : pOth T ((Ln L.1 : Int) - 1) r5 p2 = .ok (r10, p3) := by unfold pOth; rw [k1]; show (if r10 = r5 then _ else _) = _; rw [if_neg (fun h => hq3 h.symm)]
          obtain ⟨e, j1, j2⟩ := NB_n k51 (by omega) hn16 hT16 (by omega)
          exact CDA_e (by unfold cRoad; rw [g1]; show (pOth T _ r5 p2).bind _ = _; rw [hO]; show (pNum T 1 24 p3).bind _ = _; rw [j1]; rfl) j2 (FLd_trans (FLd_t hF5) (FLd_trans (FLd_t hF10) (FLd_t hF16)))
      · refine ⟨s_Tape_0 ht, ?_⟩
        refine ⟨_, cz_109 hV ht hT10 (by omega), ?_⟩
        rintro _ I29 ⟨rfl, hT29, hF29⟩
        refine ⟨_, rfl, ?_⟩
        refine ⟨by omega, ?_⟩
        have hO : pOth T ((Ln L.1 : Int) - 1) r5 p2 = .error (2, p2) := by unfold pOth; rw [k1]; show (if r10 = r5 then _ else _) = _; rw [if_pos (by omega)]
        exact CDA_e (by unfold cRoad; rw [g1]; show (pOth T _ r5 p2).bind _ = _; rw [hO]; rfl) ⟨⟨show (1 : Int) ≤ 2 by decide, show (2 : Int) ≤ 3 by decide⟩, _, _, _, _, hT29⟩ (FLd_trans (FLd_t hF5) (FLd_trans (FLd_t hF10) (FLd_t hF29)))
    · obtain ⟨e, j1, j2⟩ := NB_n g51 (by omega) hn10 hT10 (by omega)
      have hO : pOth T ((Ln L.1 : Int) - 1) r5 p2 = .error e := by unfold pOth; rw [j1]; rfl
      exact CDA_e (by unfold cRoad; rw [g1]; show (pOth T _ r5 p2).bind _ = _; rw [hO]; rfl) j2 (FLd_trans (FLd_t hF5) (FLd_t hF10))
  · obtain ⟨e, j1, j2⟩ := NB_n hsl (by omega) hn5 hT5 (by omega)
    exact CDA_e (by unfold cRoad; rw [j1]; rfl) j2 (FLd_t hF5)
/-- GrievingCamels$Land.readHurt -/
theorem cz_30 {V : jx_V} (hV : V.1.stackTraces = false) {X : jx_X} {R : jx_R} {I : jx_I} {a0 : Nat} {a1 : Nat} {T : List Int} {fd we nf : Int} {s wp : Nat} {L : LB}
    (hl : BX X R a0 TLand) (ht : BX X R a1 TTape) (hT : TX I a1 T fd (s : Int) (wp : Int) we nf 0 (-1)) (hAT : AT T s) (hC : CLB I a0 L) (hW : WB L) (hdy : a1 + 2 ≤ a0 ∨ a0 + 11 ≤ a1)
    {QE : String → jx_I → Prop} : jc V 4 30 (0, 0) [.ref a0, .ref a1] X I R (CDA a0 a1 T fd I (cHurt T L s)) QE := by
  have hsl := hAT.1
  have h7 := hC.1.1
  have h8 := hC.1.2
  have hWn := hW.1
  have h6 := hT.2.1
  refine wm_30 hV   ?_
  unfold wz_30
  refine ⟨s_Land_0 hl, ?_⟩
  refine ⟨_, cz_35 hV hl ht hT hsl h8 (by omega), ?_⟩
  rintro _ I4 ⟨⟨r5, q5, k5, f5, rfl, hn5, hT5⟩, hF5⟩
  refine ⟨_, rfl, ?_⟩
  have hr5 := NB_r hn5 (by omega) (by omega)
  refine ⟨by omega, ?_⟩
  refine ⟨fun hq1 => ?_, fun hq1 => ?_⟩
  · obtain ⟨p2, g1, rfl, rfl, rfl, g5, g6, g7⟩ := NB_y hsl hn5 hq1
    have g51 := g5.1
    have h47 : (I4 a0 7).toInt = (Ln L.1 : Int) := by rw [hF5 a0 (by omega)]; exact h7
    refine ⟨_, cz_34 hV hl ht hT5 g51 h47 (by omega), ?_⟩
    rintro _ I9 ⟨⟨r10, q10, k10, f10, rfl, hn10, hT10⟩, hF10⟩
    refine ⟨_, rfl, ?_⟩
    have hr10 := NB_r hn10 (by omega) (by omega)
    refine ⟨by omega, ?_⟩
    refine ⟨fun hq2 => ?_, fun hq2 => ?_⟩
    · obtain ⟨p3, k1, rfl, rfl, rfl, k5, k6, k7⟩ := NB_y g51 hn10 hq2
      have k51 := k5.1
      refine ⟨s_Tape_0 ht, ?_⟩
      refine ⟨_, cz_118 hV ht hT10 k51 (by omega) (by omega), ?_⟩
      rintro _ I15 ⟨⟨r16, q16, k16, f16, rfl, hn16, hT16⟩, hF16⟩
      refine ⟨_, rfl, ?_⟩
      have hr16 := NB_r hn16 (by omega) (by omega)
      refine ⟨by omega, ?_⟩
      refine ⟨fun hq3 => ?_, fun hq3 => ?_⟩
      · obtain ⟨p4, j1, rfl, rfl, rfl, j5, j6, j7⟩ := NB_y k51 hn16 hq3
        have hg9 := (hW.2.2.2.2.2.2 r10.toNat r5.toNat).1
        have h156 : (I15 (a0 + 6) (r10 * 8 + r5).toNat).toInt = L.2 r10.toNat r5.toNat := by
          rw [hF16 _ (by omega), hF10 _ (by omega), hF5 _ (by omega), show (r10 * 8 + r5).toNat = r10.toNat * 8 + r5.toNat by omega]
          exact hC.2.2.2.2.2.1 _ _ (by omega) (by omega)
        refine ⟨_, r_Land_0_5 hl, ?_⟩
        try simp only [-eq_self, h156]
        refine ⟨_, ⟨s_Land_6 hl, by decide⟩, by omega, ?_⟩
        refine ⟨_, cz_329 hV (by omega) (by omega), ?_⟩
        rintro _ I25 ⟨rfl, e9⟩; replace e9 := e9.symm; subst e9
        refine ⟨_, rfl, ?_⟩
        refine ⟨by omega, ?_⟩
        intro I28 e_I28; subst e_I28
        have hCk : CLB I15 a0 L := CLB_of hC (fun q a b => by rw [hF16 q (by omega), hF10 q (by omega), hF5 q (by omega)])
        exact CDA_y (by unfold cHurt; rw [g1]; show (pNum T _ _ p2).bind _ = _; rw [k1]; show (pNum T 1 20 p3).bind _ = _; rw [j1]; rfl) (CST_w ⟨j5, _, _, _, hT16⟩ (by omega)) (CLB_hurt (c := r5.toNat) (p := r10.toNat) (v := r16) (i := (r10 * 8 + r5).toNat) hCk (by omega) (by omega) (by omega) rfl (by omega)) (FLd_u (FLd_trans (FLd_t hF5) (FLd_trans (FLd_t hF10) (FLd_t hF16))) (by omega))
      · obtain ⟨e, j1, j2⟩ := NB_n k51 (by omega) hn16 hT16 (by omega)
        exact CDA_e (by unfold cHurt; rw [g1]; show (pNum T _ _ p2).bind _ = _; rw [k1]; show (pNum T 1 20 p3).bind _ = _; rw [j1]; rfl) j2 (FLd_trans (FLd_t hF5) (FLd_trans (FLd_t hF10) (FLd_t hF16)))
    · obtain ⟨e, j1, j2⟩ := NB_n g51 (by omega) hn10 hT10 (by omega)
      exact CDA_e (by unfold cHurt; rw [g1]; show (pNum T _ _ p2).bind _ = _; rw [j1]; rfl) j2 (FLd_trans (FLd_t hF5) (FLd_t hF10))
  · obtain ⟨e, j1, j2⟩ := NB_n hsl (by omega) hn5 hT5 (by omega)
    exact CDA_e (by unfold cHurt; rw [j1]; rfl) j2 (FLd_t hF5)
/-- GrievingCamels$Land.readCalf -/
theorem cz_31 {V : jx_V} (hV : V.1.stackTraces = false) {X : jx_X} {R : jx_R} {I : jx_I} {a0 : Nat} {a1 : Nat} {T : List Int} {fd we nf : Int} {s wp : Nat} {L : LB}
    (hl : BX X R a0 TLand) (ht : BX X R a1 TTape) (hT : TX I a1 T fd (s : Int) (wp : Int) we nf 0 (-1)) (hAT : AT T s) (hC : CLB I a0 L) (hW : WB L) (hdy : a1 + 2 ≤ a0 ∨ a0 + 11 ≤ a1)
    {QE : String → jx_I → Prop} : jc V 4 31 (0, 0) [.ref a0, .ref a1] X I R (CDA a0 a1 T fd I (cCalf T L s)) QE := by
  have hsl := hAT.1
  have h7 := hC.1.1
  have h8 := hC.1.2
  have hWn := hW.1
  have h6 := hT.2.1
  refine wm_31 hV   (fun J20 hJJ => ?_)
  have hJ20 := hJJ
  unfold wz_31
  refine ⟨s_Land_0 hl, ?_⟩
  refine ⟨_, cz_35 hV hl ht hT hsl h8 (by omega), ?_⟩
  rintro _ I4 ⟨⟨r5, q5, k5, f5, rfl, hn5, hT5⟩, hF5⟩
  refine ⟨_, rfl, ?_⟩
  have hr5 := NB_r hn5 (by omega) (by omega)
  refine ⟨by omega, ?_⟩
  refine ⟨fun hq1 => ?_, fun hq1 => ?_⟩
  · obtain ⟨p2, g1, rfl, rfl, rfl, g5, g6, g7⟩ := NB_y hsl hn5 hq1
    have g51 := g5.1
    have h48 : (I4 a0 8).toInt = (Lm L.1 : Int) := by rw [hF5 a0 (by omega)]; exact h8
    refine ⟨_, cz_33 hV hl ht hT5 g51 h48 (by omega) (by omega), ?_⟩
    rintro _ I9 ⟨⟨r99, rfl, ho9⟩, hF9⟩
    refine ⟨_, rfl, ?_⟩
    have hr99 : -1 ≤ r99 ∧ r99 ≤ 99 := by rcases ho9 with ⟨_, _, _, h, h2⟩ | ⟨_, _, h, _⟩ <;> omega
    refine hJ20 _ _ _ ?_
    unfold wz_31_20
    refine ⟨by omega, ?_⟩
    refine ⟨fun hq2 => ?_, fun hq2 => ?_⟩
    · obtain ⟨p3, h1, h2, h3, h4⟩ := ho9.resolve_right (fun ⟨e, _, h, _⟩ => by omega)
      have hoo := pOth_ok g51 h1
      refine ⟨s_Land_0 hl, _, r_Land_0_3 hl, _, ⟨s_Land_4 hl, by decide⟩, by omega, ?_⟩
      intro I18 e_I18; subst e_I18
      have hCk : CLB I9 a0 L := CLB_of hC (fun q a b => by rw [hF9 q (by omega), hF5 q (by omega)])
      exact CDA_y (by unfold cCalf; rw [g1]; show (pOth T _ r5 p2).bind _ = _; rw [h1]; rfl) (CST_w h2 (by omega)) (CLB_calf (m := r99) (c := r5.toNat) hCk (by omega)) (FLd_u (FLd_trans (FLd_t hF5) (FLd_t hF9)) (by omega))
    · obtain ⟨e, h1, h2, h3⟩ := ho9.resolve_left (fun ⟨q, _, _, h, _⟩ => by omega)
      exact CDA_e (by unfold cCalf; rw [g1]; show (pOth T _ r5 p2).bind _ = _; rw [h1]; rfl) h3 (FLd_trans (FLd_t hF5) (FLd_t hF9))
  · refine hJ20 _ _ _ ?_
    unfold wz_31_20
    refine ⟨by omega, ?_⟩
    refine ⟨fun hq3 => ?_, fun hq3 => ?_⟩
    · exact absurd hq3 (by decide)
    · obtain ⟨e, j1, j2⟩ := NB_n hsl (by omega) hn5 hT5 (by omega)
      exact CDA_e (by unfold cCalf; rw [j1]; rfl) j2 (FLd_t hF5)
/-- GrievingCamels$Land.readQuarrel -/
theorem cz_32 {V : jx_V} (hV : V.1.stackTraces = false) {X : jx_X} {R : jx_R} {I : jx_I} {a0 : Nat} {a1 : Nat} {T : List Int} {fd we nf : Int} {s wp : Nat} {L : LB}
    (hl : BX X R a0 TLand) (ht : BX X R a1 TTape) (hT : TX I a1 T fd (s : Int) (wp : Int) we nf 0 (-1)) (hAT : AT T s) (hC : CLB I a0 L) (hW : WB L) (hdy : a1 + 2 ≤ a0 ∨ a0 + 11 ≤ a1)
    {QE : String → jx_I → Prop} : jc V 4 32 (0, 0) [.ref a0, .ref a1] X I R (CDA a0 a1 T fd I (cFoe T L s)) QE := by
  have hsl := hAT.1
  have h7 := hC.1.1
  have h8 := hC.1.2
  have hWn := hW.1
  have h6 := hT.2.1
  refine wm_32 hV   (fun J20 hJJ => ?_)
  have hJ20 := hJJ
  unfold wz_32
  refine ⟨s_Land_0 hl, ?_⟩
  refine ⟨_, cz_35 hV hl ht hT hsl h8 (by omega), ?_⟩
  rintro _ I4 ⟨⟨r5, q5, k5, f5, rfl, hn5, hT5⟩, hF5⟩
  refine ⟨_, rfl, ?_⟩
  have hr5 := NB_r hn5 (by omega) (by omega)
  refine ⟨by omega, ?_⟩
  refine ⟨fun hq1 => ?_, fun hq1 => ?_⟩
  · obtain ⟨p2, g1, rfl, rfl, rfl, g5, g6, g7⟩ := NB_y hsl hn5 hq1
    have g51 := g5.1
    have h48 : (I4 a0 8).toInt = (Lm L.1 : Int) := by rw [hF5 a0 (by omega)]; exact h8
    refine ⟨_, cz_33 hV hl ht hT5 g51 h48 (by omega) (by omega), ?_⟩
    rintro _ I9 ⟨⟨r99, rfl, ho9⟩, hF9⟩
    refine ⟨_, rfl, ?_⟩
    have hr99 : -1 ≤ r99 ∧ r99 ≤ 99 := by rcases ho9 with ⟨_, _, _, h, h2⟩ | ⟨_, _, h, _⟩ <;> omega
    refine hJ20 _ _ _ ?_
    unfold wz_32_20
    refine ⟨by omega, ?_⟩
    refine ⟨fun hq2 => ?_, fun hq2 => ?_⟩
    · obtain ⟨p3, h1, h2, h3, h4⟩ := ho9.resolve_right (fun ⟨e, _, h, _⟩ => by omega)
      have hoo := pOth_ok g51 h1
      have hone := hoo.2.2.2.2
      have hf1 := (hW.2.2.2.1 r5.toNat).2.2.1
      have hf2 := (hW.2.2.2.1 r99.toNat).2.2.1
      have hp8 := pow_le8 hWn.2
      have h5r : (I9 (a0 + 5) r5.toNat).toInt = (Lf L.1 r5.toNat : Int) := by rw [hF9 _ (by omega), hF5 _ (by omega)]; exact (hC.2.2.2.2.1 _ (by omega)).2
      have h5s : (I9 (a0 + 5) r99.toNat).toInt = (Lf L.1 r99.toNat : Int) := by rw [hF9 _ (by omega), hF5 _ (by omega)]; exact (hC.2.2.2.2.1 _ (by omega)).2
      have e1 : (Int32.ofInt 1 <<< (Int32.ofInt r99 &&& 31)).toInt = ((2 ^ r99.toNat : Nat) : Int) := by
        have := jz_1sh (k := r99.toNat) (by omega)
        rw [show ((r99.toNat : Nat) : Int) = r99 by omega] at this
        exact this
      have e2 : (Int32.ofInt 1 <<< (Int32.ofInt r5 &&& 31)).toInt = ((2 ^ r5.toNat : Nat) : Int) := by
        have := jz_1sh (k := r5.toNat) (by omega)
        rw [show ((r5.toNat : Nat) : Int) = r5 by omega] at this
        exact this
      have hpa := Nat.pow_le_pow_right (n := 2) (by omega) (show r99.toNat ≤ 8 by omega)
      have hpb := Nat.pow_le_pow_right (n := 2) (by omega) (show r5.toNat ≤ 8 by omega)
      have hne : r5.toNat ≠ r99.toNat := by omega
      have o1 : (Int32.ofInt (Lf L.1 r5.toNat : Int) ||| Int32.ofInt ((2 ^ r99.toNat : Nat) : Int)).toInt = ((Lf L.1 r5.toNat ||| 2 ^ r99.toNat : Nat) : Int) := jz_or (by omega) (by omega)
      have o2 : (Int32.ofInt (Lf L.1 r99.toNat : Int) ||| Int32.ofInt ((2 ^ r5.toNat : Nat) : Int)).toInt = ((Lf L.1 r99.toNat ||| 2 ^ r5.toNat : Nat) : Int) := jz_or (by omega) (by omega)
      have b1 : (Lf L.1 r5.toNat ||| 2 ^ r99.toNat) < 2 ^ 9 := Nat.or_lt_two_pow (by omega) (Nat.pow_lt_pow_right (by omega) (by omega))
      have b2 : (Lf L.1 r99.toNat ||| 2 ^ r5.toNat) < 2 ^ 9 := Nat.or_lt_two_pow (by omega) (Nat.pow_lt_pow_right (by omega) (by omega))
      refine ⟨s_Land_0 hl, _, r_Land_0_4 hl, ?_⟩
      try simp only [-eq_self, h5r, e1, o1]
      refine ⟨_, ⟨s_Land_5 hl, by decide⟩, by omega, by omega, ?_⟩
      intro I19 e_I19; subst e_I19
      have h19s : (jx_u I9 (a0 + 5) r5.toNat (Int32.ofInt ((Lf L.1 r5.toNat ||| 2 ^ r99.toNat : Nat) : Int)) (a0 + 5) r99.toNat).toInt = (Lf L.1 r99.toNat : Int) := by rw [jx_u_k _ _ _ _ (by omega)]; exact h5s
      simp only [-eq_self, h19s, e2, o2]
      refine ⟨by omega, by omega, ?_⟩
      intro I22 e_I22; subst e_I22
      have hCk : CLB I9 a0 L := CLB_of hC (fun q a b => by rw [hF9 q (by omega), hF5 q (by omega)])
      exact CDA_y (by unfold cFoe; rw [g1]; show (pOth T _ r5 p2).bind _ = _; rw [h1]; rfl) (CST_w (CST_w h2 (by omega)) (by omega)) (CLB_foe hCk hne rfl rfl (by omega) (by omega)) (FLd_u (FLd_u (FLd_trans (FLd_t hF5) (FLd_t hF9)) (by omega)) (by omega))
    · obtain ⟨e, h1, h2, h3⟩ := ho9.resolve_left (fun ⟨q, _, _, h, _⟩ => by omega)
      exact CDA_e (by unfold cFoe; rw [g1]; show (pOth T _ r5 p2).bind _ = _; rw [h1]; rfl) h3 (FLd_trans (FLd_t hF5) (FLd_t hF9))
  · refine hJ20 _ _ _ ?_
    unfold wz_32_20
    refine ⟨by omega, ?_⟩
    refine ⟨fun hq3 => ?_, fun hq3 => ?_⟩
    · exact absurd hq3 (by decide)
    · obtain ⟨e, j1, j2⟩ := NB_n hsl (by omega) hn5 hT5 (by omega)
      exact CDA_e (by unfold cFoe; rw [j1]; rfl) j2 (FLd_t hF5)
