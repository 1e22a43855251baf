/-! ===== the class reads a land, 3 ===== -/
theorem cc_k {T : List Int} {cnt : Nat} {L : LB} {p : Nat} {k : Int} (hk : k = kcl (wrd T p)) (h1 : k ≠ -1) : cClause T cnt L p = if cBad cnt L k then .error (3, p) else cBody T L k (skB T (p + (wrd T p).length)) := by
  unfold cClause
  rw [← hk, if_neg h1]
theorem cc_0 {T : List Int} {cnt : Nat} {L : LB} {p : Nat} {k : Int} (hk : k = kcl (wrd T p)) (h : k = 0) (hc : cnt ≠ 60) : cClause T cnt L p = if Ln L.1 = 10 then .error (3, p) else cPlace T L (skB T (p + (wrd T p).length)) := by
  rw [cc_k hk (by omega)]
  by_cases c : Ln L.1 = 10
  · rw [if_pos c, if_pos (Or.inr (Or.inl ⟨h, c⟩))]
  · rw [if_neg c, if_neg (by rintro (h1 | h1 | h1); exact hc h1; exact c h1.2; omega)]
    unfold cBody; rw [if_pos h]
theorem cc_2 {T : List Int} {cnt : Nat} {L : LB} {p : Nat} {k : Int} (hk : k = kcl (wrd T p)) (h : k = 2) (hc : cnt ≠ 60) : cClause T cnt L p = if Lm L.1 = 8 then .error (3, p) else cCamel T L (skB T (p + (wrd T p).length)) := by
  rw [cc_k hk (by omega)]
  by_cases c : Lm L.1 = 8
  · rw [if_pos c, if_pos (Or.inr (Or.inr ⟨h, c⟩))]
  · rw [if_neg c, if_neg (by rintro (h1 | h1 | h1); exact hc h1; omega; exact c h1.2)]
    unfold cBody; rw [if_neg (by omega), if_neg (by omega), if_pos h]
theorem cc_n {T : List Int} {cnt : Nat} {L : LB} {p : Nat} {k : Int} (hk : k = kcl (wrd T p)) (h1 : k ≠ -1) (h : k ≠ 0 ∧ k ≠ 2) (hc : cnt ≠ 60) : cClause T cnt L p = cBody T L k (skB T (p + (wrd T p).length)) := by
  rw [cc_k hk h1, if_neg (by rintro (h2 | h2 | h2); exact hc h2; exact h.1 h2.1; exact h.2 h2.1)]
theorem cc_60 {T : List Int} {cnt : Nat} {L : LB} {p : Nat} {k : Int} (hk : k = kcl (wrd T p)) (h1 : k ≠ -1) (hc : cnt = 60) : cClause T cnt L p = .error (3, p) := by
  rw [cc_k hk h1, if_pos (Or.inl hc)]
theorem cc_e {T : List Int} {cnt : Nat} {L : LB} {p : Nat} (hk : kcl (wrd T p) = -1) : cClause T cnt L p = .error (1, p) := by
  unfold cClause; rw [if_pos hk]
theorem FR_FLd {ld tp : Nat} {I I1 I2 : jx_I} (h1 : ∀ q, q ≠ ld + 7 → I1 q = I q) (h2 : FLw (ld + 7) tp I1 I2) : FLd ld tp I I2 := fun q a b => by rw [h2 q a (by omega), h1 q (by omega)]
/-- GrievingCamels$Land.kindOfWord -/
theorem cz_26 {V : jx_V} (hV : V.1.stackTraces = false) {X : jx_X} {R : jx_R} {I : jx_I} {a0 : Nat} {a1 : Nat} {T : List Int} {fd p nf fk fa : Int} {w : Nat}
    (ht : BX X R a1 TTape) (hT : TX I a1 T fd p (w : Int) (w + (wrd T w).length : Nat) nf fk fa) (hw : w ≤ T.length)
    {QE : String → jx_I → Prop} : jc V 6 26 (0, 0) [.ref a0, .ref a1] X I R (fun rv I' => rv = some (jy (kcl (wrd T w))) ∧ I' = I) QE := by
  refine wm_26 hV   ?_
  unfold wz_26
  refine ⟨s_Tape_0 ht, ?_⟩
  refine ⟨_, cz_117 hV ht hT hw (by omega), ?_⟩
  rintro _ I4 ⟨rfl, e9⟩; replace e9 := e9.symm; subst e9
  refine ⟨_, rfl, ?_⟩
  refine ⟨by omega, ?_⟩
  refine ⟨fun hq1 => ?_, fun hq1 => ?_⟩
  · have c1 := bi_f hq1
    refine ⟨_, cz_117 hV ht hT hw (by omega), ?_⟩
    rintro _ I9 ⟨rfl, e9⟩; replace e9 := e9.symm; subst e9
    refine ⟨_, rfl, ?_⟩
    refine ⟨by omega, ?_⟩
    refine ⟨fun hq2 => ?_, fun hq2 => ?_⟩
    · have c2 := bi_f hq2
      refine ⟨_, cz_117 hV ht hT hw (by omega), ?_⟩
      rintro _ I14 ⟨rfl, e9⟩; replace e9 := e9.symm; subst e9
      refine ⟨_, rfl, ?_⟩
      refine ⟨by omega, ?_⟩
      refine ⟨fun hq3 => ?_, fun hq3 => ?_⟩
      · have c3 := bi_f hq3
        refine ⟨_, cz_117 hV ht hT hw (by omega), ?_⟩
        rintro _ I19 ⟨rfl, e9⟩; replace e9 := e9.symm; subst e9
        refine ⟨_, rfl, ?_⟩
        refine ⟨by omega, ?_⟩
        refine ⟨fun hq4 => ?_, fun hq4 => ?_⟩
        · have c4 := bi_f hq4
          refine ⟨_, cz_117 hV ht hT hw (by omega), ?_⟩
          rintro _ I24 ⟨rfl, e9⟩; replace e9 := e9.symm; subst e9
          refine ⟨_, rfl, ?_⟩
          refine ⟨by omega, ?_⟩
          refine ⟨fun hq5 => ?_, fun hq5 => ?_⟩
          · have c5 := bi_f hq5
            refine ⟨_, cz_117 hV ht hT hw (by omega), ?_⟩
            rintro _ I29 ⟨rfl, e9⟩; replace e9 := e9.symm; subst e9
            refine ⟨_, rfl, ?_⟩
            refine ⟨by omega, ?_⟩
            refine ⟨fun hq6 => ?_, fun hq6 => ?_⟩
            · have c6 := bi_f hq6
              refine ⟨_, cz_117 hV ht hT hw (by omega), ?_⟩
              rintro _ I34 ⟨rfl, e9⟩; replace e9 := e9.symm; subst e9
              refine ⟨_, rfl, ?_⟩
              refine ⟨by omega, ?_⟩
              refine ⟨fun hq7 => ?_, fun hq7 => ?_⟩
              · have c7 := bi_f hq7
                exact ⟨by unfold kcl; rw [if_neg c1, if_neg c2, if_neg c3, if_neg c4, if_neg c5, if_neg c6, if_neg c7], rfl⟩
              · have c7 := bi_t hq7
                exact ⟨by unfold kcl; rw [if_neg c1, if_neg c2, if_neg c3, if_neg c4, if_neg c5, if_neg c6, if_pos c7], rfl⟩
            · have c6 := bi_t hq6
              exact ⟨by unfold kcl; rw [if_neg c1, if_neg c2, if_neg c3, if_neg c4, if_neg c5, if_pos c6], rfl⟩
          · have c5 := bi_t hq5
            exact ⟨by unfold kcl; rw [if_neg c1, if_neg c2, if_neg c3, if_neg c4, if_pos c5], rfl⟩
        · have c4 := bi_t hq4
          exact ⟨by unfold kcl; rw [if_neg c1, if_neg c2, if_neg c3, if_pos c4], rfl⟩
      · have c3 := bi_t hq3
        exact ⟨by unfold kcl; rw [if_neg c1, if_neg c2, if_pos c3], rfl⟩
    · have c2 := bi_t hq2
      exact ⟨by unfold kcl; rw [if_neg c1, if_pos c2], rfl⟩
  · have c1 := bi_t hq1
    exact ⟨by unfold kcl; rw [if_pos c1], rfl⟩
/-- GrievingCamels$Land.readClause -/
theorem cz_25 {V : jx_V} (hV : V.1.stackTraces = false) {X : jx_X} {R : jx_R} {I : jx_I} {a0 : Nat} {a1 : Nat} {a2 : Int} {T : List Int} {fd : Int} {p cnt : Nat} {L : LB}
    (hl : BX X R a0 TLand) (ht : BX X R a1 TTape) (hc : CST I a1 T fd (.ok p)) (hC : CLB I a0 L) (hW : WB L) (hdy : a1 + 2 ≤ a0 ∨ a0 + 11 ≤ a1) (h600 : T.length ≤ 600) (h2 : a2 = (cnt : Int)) (hcnt : cnt ≤ 60)
    {QE : String → jx_I → Prop} : jc V 201 25 (0, 0) [.ref a0, .ref a1, jy a2] X I R (CDA a0 a1 T fd I (cClause T cnt L p)) QE := by
  obtain ⟨hAT, wf, we, nf, hT⟩ := id hc
  have hsl := hAT.1
  have hwl := wrd_le hsl
  obtain ⟨k, hke⟩ : ∃ k, k = kcl (wrd T p) := ⟨_, rfl⟩
  have hkr := kcl_r (wrd T p)
  rw [← hke] at hkr
  have hAs := (AT_s hwl).1
  refine wm_25 hV (by omega)  ?_
  unfold wz_25
  refine ⟨s_Tape_0 ht, ?_⟩
  refine ⟨_, cz_116 hV ht hT hsl, ?_⟩
  rintro _ I4 ⟨rfl, hT4, hF4⟩
  refine ⟨rfl, ?_⟩
  have hC4 : CLB I4 a0 L := CLB_of hC (fun q a b => hF4 q (by omega))
  refine ⟨s_Land_0 hl, ?_⟩
  refine ⟨_, cz_26 hV ht hT4 hsl, ?_⟩
  rintro _ I9 ⟨rfl, e9⟩; replace e9 := e9.symm; subst e9
  refine ⟨_, rfl, ?_⟩
  rw [← hke]
  refine ⟨by omega, ?_⟩
  refine ⟨fun hq1 => ?_, fun hq1 => ?_⟩
  · refine ⟨fun hq2 => ?_, fun hq2 => ?_⟩
    · refine ⟨fun hq3 => ?_, fun hq3 => ?_, fun hq3 => ?_, fun hq3 => ?_, fun hq3 => ?_, fun hq3 => ?_, fun hq3 => ?_⟩
      · refine ⟨_, r_Land_0_6 hl, s_Law_0 (b_Land_7 hl), ?_⟩
        refine ⟨_, cz_45 hV (b_Land_7 hl), ?_⟩
        rintro _ I17 ⟨rfl, hL17, hq17⟩
        refine ⟨rfl, ?_⟩
        refine ⟨_, by omega, _, G4_all hV (b_Land_7 hl) ht (by omega) 6 (by omega) 200 (skB T (p + (wrd T p).length)) [] 0 _ _ ⟨hAs, _, _, _, TX_of hT4 (hq17 _ (by omega)) (hq17 _ (by omega))⟩ hL17 (Nat.zero_le _) rfl (by omega), ?_⟩
        rintro _ I23 ⟨⟨r239, rfl, ho23⟩, hF23⟩
        refine ⟨_, rfl, ?_⟩
        refine ⟨by omega, ?_⟩
        have hk6 : k = 6 := by omega
        have hY : cClause T cnt L p = cLaw T L (skB T (p + (wrd T p).length)) := by
          rw [cc_n hke (by omega) (by omega) (by omega)]
          unfold cBody
          rw [if_neg (by omega), if_neg (by omega), if_neg (by omega), if_neg (by omega), if_neg (by omega), if_neg (by omega)]
        have hFF : FLd a0 a1 I I23 := FLd_trans (FLd_t hF4) (FR_FLd hq17 hF23)
        rcases ho23 with ⟨rfl, w, h1, h3, h4⟩ | ⟨rfl, e, h1, h3⟩
        · have hq : ∀ q, a0 ≤ q → q < a0 + 7 → I23 q = I4 q := fun q a b => by rw [hF23 q (by omega) (by omega), hq17 q (by omega)]
          obtain ⟨g1, g2, g3, g4, g5, g6, g7⟩ := hC4
          refine CDA_y (w := (aLaw L w.1, w.2)) (by rw [hY]; unfold cLaw; rw [h1]; rfl) h3 ⟨?_, ?_, ?_, ?_, ?_, ?_, ?_⟩ hFF
          · rw [hq a0 (by omega) (by omega)]; exact g1
          · rw [hq (a0 + 1) (by omega) (by omega)]; exact g2
          · rw [hq (a0 + 2) (by omega) (by omega)]; exact g3
          · rw [hq (a0 + 3) (by omega) (by omega)]; exact g4
          · rw [hq (a0 + 4) (by omega) (by omega), hq (a0 + 5) (by omega) (by omega)]; exact g5
          · rw [hq (a0 + 6) (by omega) (by omega)]; exact g6
          · rw [List.nil_append] at h4; exact h4
        · exact CDA_e (by rw [hY]; unfold cLaw; rw [h1]; rfl) h3 hFF
      · refine ⟨_, cz_27 hV hl ht hT4 hAs hC4 hW hdy, ?_⟩
        rintro _ I28 ⟨⟨r289, rfl, ho28⟩, hF28⟩
        refine ⟨_, rfl, ?_⟩
        refine ⟨by omega, ?_⟩
        exact ⟨⟨_, rfl, by rw [cc_0 hke (by omega) (by omega)]; exact ho28⟩, FLd_trans (FLd_t hF4) hF28⟩
      · refine ⟨_, cz_29 hV hl ht hT4 hAs hC4 hW hdy, ?_⟩
        rintro _ I33 ⟨⟨r339, rfl, ho33⟩, hF33⟩
        refine ⟨_, rfl, ?_⟩
        refine ⟨by omega, ?_⟩
        exact ⟨⟨_, rfl, by rw [cc_n hke (by omega) (by omega) (by omega), show cBody T L k (skB T (p + (wrd T p).length)) = _ from by unfold cBody; rw [if_neg (by omega), if_pos (by omega)]]; exact ho33⟩, FLd_trans (FLd_t hF4) hF33⟩
      · refine ⟨_, cz_28 hV hl ht hT4 hAs hC4 hW hdy, ?_⟩
        rintro _ I38 ⟨⟨r389, rfl, ho38⟩, hF38⟩
        refine ⟨_, rfl, ?_⟩
        refine ⟨by omega, ?_⟩
        exact ⟨⟨_, rfl, by rw [cc_2 hke (by omega) (by omega)]; exact ho38⟩, FLd_trans (FLd_t hF4) hF38⟩
      · refine ⟨_, cz_30 hV hl ht hT4 hAs hC4 hW hdy, ?_⟩
        rintro _ I43 ⟨⟨r439, rfl, ho43⟩, hF43⟩
        refine ⟨_, rfl, ?_⟩
        refine ⟨by omega, ?_⟩
        exact ⟨⟨_, rfl, by rw [cc_n hke (by omega) (by omega) (by omega), show cBody T L k (skB T (p + (wrd T p).length)) = _ from by unfold cBody; rw [if_neg (by omega), if_neg (by omega), if_neg (by omega), if_pos (by omega)]]; exact ho43⟩, FLd_trans (FLd_t hF4) hF43⟩
      · refine ⟨_, cz_31 hV hl ht hT4 hAs hC4 hW hdy, ?_⟩
        rintro _ I48 ⟨⟨r489, rfl, ho48⟩, hF48⟩
        refine ⟨_, rfl, ?_⟩
        refine ⟨by omega, ?_⟩
        exact ⟨⟨_, rfl, by rw [cc_n hke (by omega) (by omega) (by omega), show cBody T L k (skB T (p + (wrd T p).length)) = _ from by unfold cBody; rw [if_neg (by omega), if_neg (by omega), if_neg (by omega), if_neg (by omega), if_pos (by omega)]]; exact ho48⟩, FLd_trans (FLd_t hF4) hF48⟩
      · refine ⟨_, cz_32 hV hl ht hT4 hAs hC4 hW hdy, ?_⟩
        rintro _ I53 ⟨⟨r539, rfl, ho53⟩, hF53⟩
        refine ⟨_, rfl, ?_⟩
        refine ⟨by omega, ?_⟩
        exact ⟨⟨_, rfl, by rw [cc_n hke (by omega) (by omega) (by omega), show cBody T L k (skB T (p + (wrd T p).length)) = _ from by unfold cBody; rw [if_neg (by omega), if_neg (by omega), if_neg (by omega), if_neg (by omega), if_neg (by omega), if_pos (by omega)]]; exact ho53⟩, FLd_trans (FLd_t hF4) hF53⟩
    · refine ⟨_, cz_108 hV ht hT4 (by omega), ?_⟩
      rintro _ I58 ⟨rfl, hT58, hF58⟩
      refine ⟨_, rfl, ?_⟩
      refine ⟨by omega, ?_⟩
      exact CDA_e (cc_60 hke (by omega) (by omega)) ⟨⟨show (1 : Int) ≤ 3 by decide, show (3 : Int) ≤ 3 by decide⟩, _, _, _, _, hT58⟩ (FLd_trans (FLd_t hF4) (FLd_t hF58))
  · refine ⟨_, cz_108 hV ht hT4 (by omega), ?_⟩
    rintro _ I63 ⟨rfl, hT63, hF63⟩
    refine ⟨_, rfl, ?_⟩
    refine ⟨by omega, ?_⟩
    exact CDA_e (cc_e (by omega)) ⟨⟨show (1 : Int) ≤ 1 by decide, show (1 : Int) ≤ 3 by decide⟩, _, _, _, _, hT63⟩ (FLd_trans (FLd_t hF4) (FLd_t hF63))
