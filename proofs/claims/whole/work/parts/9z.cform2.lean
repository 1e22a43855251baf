/-! ===== the class reads a law, 2 ===== -/
/-- codes are being read, R0 in all -/
def CLp (I K : jx_I) (lw tp : Nat) (T : List Int) (fd : Int) (L : List Int) (rest : Nat → Nat → PF) (R0 : PF) (l3 : Int) : Prop := FLw lw tp I K ∧ ∃ (A : List Int) (p g : Nat), R0 = (rest g p).bind (fun z => .ok (A ++ z.1, z.2)) ∧ T.length < g + p ∧ CST K tp T fd (.ok p) ∧ LW K lw (L ++ A) ∧ (L ++ A).length ≤ p ∧ (0 ≤ l3 ∧ 2 * l3 ≤ A.length)
theorem CLp_0 {I K : jx_I} {lw tp : Nat} {T : List Int} {fd : Int} {L : List Int} {rest : Nat → Nat → PF} {y : PF} {r : List Int × Nat} (hF : FLw lw tp I K) (hy : y = .ok r) (hC : CST K tp T fd (.ok r.2)) (hL : LW K lw (L ++ r.1)) {s : Nat} (hs : L.length ≤ s) (hl : s + r.1.length ≤ r.2) : CLp I K lw tp T fd L rest (y.bind (fun r => (rest (T.length + 1) r.2).bind (fun z => .ok (r.1 ++ z.1, z.2)))) 0 := by
  subst hy
  exact ⟨hF, r.1, r.2, T.length + 1, rfl, by omega, hC, hL, by rw [List.length_append]; omega, Int.le_refl 0, by omega⟩
theorem CLp_s {I K2 K3 : jx_I} {lw tp : Nat} {T : List Int} {fd : Int} {L A : List Int} {rest : Nat → Nat → PF} {R0 y : PF} {c l3 : Int} {p g q : Nat} {r : List Int × Nat} (hF : FLw lw tp I K3) (hE : R0 = (rest (g + 1) p).bind (fun z => .ok (A ++ z.1, z.2))) (hr : rest (g + 1) p = y.bind (fun r => (rest g r.2).bind (fun z => .ok (r.1 ++ (c :: z.1), z.2)))) (hg : T.length < g + 1 + p) (hq : p < q) (hA : (L ++ A).length ≤ p) (hy : y = .ok r) (hl : q + r.1.length ≤ r.2) (h1 : 1 ≤ r.1.length) (hC : CST K2 tp T fd (.ok r.2)) (hL : LW K3 lw (L ++ A ++ r.1 ++ [c])) (hF3 : FR lw (lw + 2) K2 K3) (hd : tp + 2 ≤ lw ∨ lw + 4 ≤ tp) (hl3 : 0 ≤ l3 ∧ 2 * l3 ≤ A.length) : CLp I K3 lw tp T fd L rest R0 (l3 + 1) := by
  subst hy
  rw [hr] at hE
  rw [List.length_append] at hA
  refine ⟨hF, A ++ (r.1 ++ [c]), r.2, g, ?_, by omega, CST_l hC hF3 hd, ?_, ?_, by omega, ?_⟩
  · rw [hE]
    show ((rest g r.2).bind _).bind _ = _
    cases rest g r.2 with
    | error e => rfl
    | ok z => show Except.ok (A ++ (r.1 ++ (c :: z.1)), z.2) = Except.ok (A ++ (r.1 ++ [c]) ++ z.1, z.2); rw [List.append_assoc, List.append_assoc]; rfl
  · rw [← List.append_assoc, ← List.append_assoc]; exact hL
  · rw [List.length_append, List.length_append, List.length_append]; show L.length + (A.length + (r.1.length + 1)) ≤ _; omega
  · rw [List.length_append, List.length_append]; show 2 * (l3 + 1) ≤ ((A.length + (r.1.length + 1) : Nat) : Int); omega
theorem LG_1 {T : List Int} {U p : Nat} {r : List Int × Nat} (h : LG T U p r) (hU : U ≤ 32) : 1 ≤ r.1.length := by
  have h4 := h.2.2.2 0 (by omega)
  rcases Nat.eq_zero_or_pos r.1.length with e | e
  · rw [List.length_eq_zero_iff.mp e] at h4; cases h4
  · exact e
/-- GrievingCamels$Law.readProduct -/
theorem cz_47s {V : jx_V} (hV : V.1.stackTraces = false) {d : Nat} {X : jx_X} {R : jx_R} {I : jx_I} {a0 : Nat} {a1 : Nat} {a2 : Int} {T : List Int} {fd : Int} {s y : Nat} {L : List Int}
    (hw : BX X R a0 TLaw) (ht : BX X R a1 TTape) (hc : CST I a1 T fd (.ok s)) (hL : LW I a0 L) (hl : L.length ≤ s) (h2 : a2 = ((6 - y : Nat) : Int)) (hy : y ≤ 6) (hdy : a1 + 2 ≤ a0 ∨ a0 + 4 ≤ a1) (hd : 8 + 3 * y ≤ d) (ih : G48 V X R a0 a1 T fd y)
    {QE : String → jx_I → Prop} : jc V d 47 (0, 0) [.ref a0, .ref a1, jy a2] X I R (CLA a0 a1 T fd L I (lPro T (lRec T y) s)) QE := by
  obtain ⟨hAT, wf, we, nf, hT⟩ := id hc
  have hsl := hAT.1
  have h6 := hT.2.1
  refine wm_47 hV (by omega)  (fun J13 hJJ => ?_)
  have hJ13 := hJJ
  unfold wz_47
  refine ⟨s_Law_0 hw, ?_⟩
  refine ⟨_, by omega, _, ih (d - 1) s L _ _ _ hc hL hl h2 (by omega), ?_⟩
  rintro _ I6 ⟨⟨r69, rfl, ho6⟩, hF6⟩
  refine ⟨_, rfl, ?_⟩
  refine ⟨by omega, ?_⟩
  refine ⟨fun hq1 => ?_, fun hq1 => ?_⟩
  · have L13 : ∀ (n13 : Nat) (l3 : Int) (K : jx_I), n13 = (600 - l3).toNat → (CLp I K a0 a1 T fd L (lPr T (lRec T y)) (lPro T (lRec T y) s) l3) → J13 l3 K := by
      intro n13
      induction n13 using Nat.strongRecOn with
      | ind n13 ih13 =>
      intro l3 K hn13 hI13
      obtain ⟨hFK, A, p, g, hE, hg, hcK, hLK, hlK, hl3⟩ := hI13
      obtain ⟨hATK, wfK, weK, nfK, hTK⟩ := id hcK
      have hpl := hATK.1
      have hAl : (L ++ A).length = L.length + A.length := List.length_append
      obtain ⟨g, rfl⟩ : ∃ h, g = h + 1 := ⟨g - 1, by omega⟩
      refine hJ13 _ _ ?_
      unfold wz_47_13
      refine ⟨by omega, ?_⟩
      refine ⟨fun hq2 => ?_, fun hq2 => ?_⟩
      · exfalso
        omega
      · refine ⟨s_Tape_0 ht, ?_⟩
        refine ⟨by omega, _, cz_112 hV ht hTK hpl (by omega), ?_⟩
        rintro _ I14 ⟨⟨r149, rfl, ho14⟩, hF14⟩
        refine ⟨_, rfl, ?_⟩
        refine ⟨by omega, ?_⟩
        refine ⟨fun hq3 => ?_, fun hq3 => ?_⟩
        · obtain ⟨_, h42, hI14⟩ := ho14.resolve_left (fun k => by omega)
          exact ⟨⟨_, rfl, Or.inl ⟨rfl, (A, p), by rw [hE, lPr_0 h42]; show Except.ok (A ++ [], p) = _; rw [List.append_nil], by rw [hI14]; exact hcK, by rw [hI14]; exact hLK⟩⟩, by rw [hI14]; exact hFK⟩
        · obtain ⟨_, h42, hT14⟩ := ho14.resolve_right (fun k => hq3 k.1)
          have hl42 := tat_in h42 (by decide)
          have hs1 := AT_s (T := T) (p := p + 1) (by omega)
          have hs12 := hs1.2
          refine ⟨s_Law_0 hw, ?_⟩
          refine ⟨_, by omega, _, ih (d - 1) (skB T (p + 1)) (L ++ A) _ _ _ ⟨hs1.1, _, _, _, hT14⟩ (LW_t hLK hF14 hdy) (by omega) h2 (by omega), ?_⟩
          rintro _ I22 ⟨⟨r229, rfl, ho22⟩, hF22⟩
          refine ⟨_, rfl, ?_⟩
          refine ⟨by omega, ?_⟩
          refine ⟨fun hq4 => ?_, fun hq4 => ?_⟩
          · obtain ⟨_, w, hw1, hcw, hLw⟩ := ho22.resolve_right (fun k => hq4 k.1)
            have hlg := lUnit_ok (U := 2 * y + 1) (by omega) (lRec_h y) hs1.1.1 hw1
            have hlg1 := LG_1 hlg (by omega)
            have hlg2 := hlg.2.2.1
            have hlg3 := hlg.2.1.1
            have hLwl : (L ++ A ++ w.1).length = L.length + A.length + w.1.length := by rw [List.length_append, List.length_append]
            refine ⟨by omega, _, cz_50 hV hw hLw (by omega) (by omega), ?_⟩
            rintro _ I28 ⟨rfl, hL28, hF28⟩
            refine ⟨rfl, ?_⟩
            exact ih13 _ (by omega) _ _ rfl (CLp_s (FLw_trans hFK (FLw_trans (FLw_t hF14) (FLw_trans hF22 (FLw_l hF28)))) hE (lPr_1 h42) hg (by omega) hlK hw1 hlg2 hlg1 hcw hL28 hF28 hdy hl3)
          · obtain ⟨_, e, h1, h2⟩ := ho22.resolve_left (fun k => by omega)
            exact ⟨⟨_, rfl, Or.inr ⟨rfl, e, by rw [hE, lPr_1 h42, h1]; rfl, h2⟩⟩, FLw_trans hFK (FLw_trans (FLw_t hF14) hF22)⟩
    obtain ⟨_, w, hw1, hcw, hLw⟩ := ho6.resolve_right (fun k => hq1 k.1)
    have hlg := lUnit_ok (U := 2 * y + 1) (by omega) (lRec_h y) hsl hw1
    exact L13 _ _ _ rfl (CLp_0 hF6 hw1 hcw hLw hl hlg.2.2.1)
  · obtain ⟨_, e, h1, h2⟩ := ho6.resolve_left (fun k => by omega)
    exact ⟨⟨_, rfl, Or.inr ⟨rfl, e, by unfold lPro; rw [h1]; rfl, h2⟩⟩, hF6⟩
/-- GrievingCamels$Law.readSum -/
theorem cz_46s {V : jx_V} (hV : V.1.stackTraces = false) {d : Nat} {X : jx_X} {R : jx_R} {I : jx_I} {a0 : Nat} {a1 : Nat} {a2 : Int} {T : List Int} {fd : Int} {s y : Nat} {L : List Int}
    (hw : BX X R a0 TLaw) (ht : BX X R a1 TTape) (hc : CST I a1 T fd (.ok s)) (hL : LW I a0 L) (hl : L.length ≤ s) (h2 : a2 = ((6 - y : Nat) : Int)) (hy : y ≤ 6) (hdy : a1 + 2 ≤ a0 ∨ a0 + 4 ≤ a1) (hd : 9 + 3 * y ≤ d) (ih : G47 V X R a0 a1 T fd y)
    {QE : String → jx_I → Prop} : jc V d 46 (0, 0) [.ref a0, .ref a1, jy a2] X I R (CLA a0 a1 T fd L I (lS T y s)) QE := by
  obtain ⟨hAT, wf, we, nf, hT⟩ := id hc
  have hsl := hAT.1
  have h6 := hT.2.1
  refine wm_46 hV (by omega)  (fun J13 J49 hJJ => ?_)
  obtain ⟨hJ13, hJ49⟩ := hJJ
  unfold wz_46
  refine ⟨s_Law_0 hw, ?_⟩
  refine ⟨_, by omega, _, ih (d - 1) s L _ _ _ hc hL hl h2 (by omega), ?_⟩
  rintro _ I6 ⟨⟨r69, rfl, ho6⟩, hF6⟩
  refine ⟨_, rfl, ?_⟩
  refine ⟨by omega, ?_⟩
  refine ⟨fun hq1 => ?_, fun hq1 => ?_⟩
  · have L13 : ∀ (n13 : Nat) (l3 : Int) (K : jx_I), n13 = (600 - l3).toNat → (CLp I K a0 a1 T fd L (lSr T (lRec T y)) (lSu T (lRec T y) s) l3) → J13 l3 K := by
      intro n13
      induction n13 using Nat.strongRecOn with
      | ind n13 ih13 =>
      intro l3 K hn13 hI13
      obtain ⟨hFK, A, p, g, hE, hg, hcK, hLK, hlK, hl3⟩ := hI13
      obtain ⟨hATK, wfK, weK, nfK, hTK⟩ := id hcK
      have hpl := hATK.1
      have hAl : (L ++ A).length = L.length + A.length := List.length_append
      obtain ⟨g, rfl⟩ : ∃ h, g = h + 1 := ⟨g - 1, by omega⟩
      refine hJ13 _ _ ?_
      unfold wz_46_13
      refine ⟨by omega, ?_⟩
      refine ⟨fun hq2 => ?_, fun hq2 => ?_⟩
      · exfalso
        omega
      · refine ⟨s_Tape_0 ht, ?_⟩
        refine ⟨by omega, _, cz_112 hV ht hTK hpl (by omega), ?_⟩
        rintro _ I14 ⟨⟨r149, rfl, ho14⟩, hF14⟩
        refine ⟨_, rfl, ?_⟩
        refine ⟨by omega, ?_⟩
        refine ⟨fun hq3 => ?_, fun hq3 => ?_⟩
        · obtain ⟨_, h43, hI14⟩ := ho14.resolve_left (fun k => by omega)
          replace hI14 := hI14.symm
          subst hI14
          refine ⟨by omega, _, cz_112 hV ht hTK hpl (by omega), ?_⟩
          rintro _ I20 ⟨⟨r209, rfl, ho20⟩, hF20⟩
          refine ⟨_, rfl, ?_⟩
          refine ⟨by omega, ?_⟩
          refine ⟨fun hq4 => ?_, fun hq4 => ?_⟩
          · obtain ⟨_, h45, hI20⟩ := ho20.resolve_left (fun k => by omega)
            replace hI20 := hI20.symm
            subst hI20
            refine hJ49 _ _ _ ?_
            unfold wz_46_49
            refine ⟨by omega, ?_⟩
            refine ⟨fun hq5 => ?_, fun hq5 => ?_⟩
            · exact absurd hq5 (by decide)
            · have hsg : lSg (tat T p) = -1 := by unfold lSg; rw [if_neg h43, if_neg h45]
              exact ⟨⟨_, rfl, Or.inl ⟨rfl, (A, p), by rw [lS_s, hE, lSr_0 hsg]; show Except.ok (A ++ [], p) = _; rw [List.append_nil], hcK, hLK⟩⟩, hFK⟩
          · obtain ⟨_, h4x, hTx⟩ := ho20.resolve_right (fun k => hq4 k.1)
            have hlx := tat_in h4x (by decide)
            have hs1 := AT_s (T := T) (p := p + 1) (by omega)
            have hs12 := hs1.2
            have hsg : lSg (tat T p) = 106 := by unfold lSg; rw [if_neg (by omega), if_pos h4x]
            have hFt := hF20
            refine hJ49 _ _ _ ?_
            unfold wz_46_49
            refine ⟨by omega, ?_⟩
            refine ⟨fun hq6 => ?_, fun hq6 => ?_⟩
            · refine ⟨s_Law_0 hw, ?_⟩
              refine ⟨_, by omega, _, ih (d - 1) (skB T (p + 1)) (L ++ A) _ _ _ ⟨hs1.1, _, _, _, hTx⟩ (LW_t hLK hFt hdy) (by omega) h2 (by omega), ?_⟩
              rintro _ I29 ⟨⟨r299, rfl, ho29⟩, hF29⟩
              refine ⟨_, rfl, ?_⟩
              refine ⟨by omega, ?_⟩
              refine ⟨fun hq7 => ?_, fun hq7 => ?_⟩
              · obtain ⟨_, w, hw1, hcw, hLw⟩ := ho29.resolve_right (fun k => hq7 k.1)
                have hlg := lPro_ok (U := 2 * y + 1) (by omega) (lRec_h y) hs1.1.1 hw1
                have hlg1 := LG_1 hlg (by omega)
                have hlg2 := hlg.2.2.1
                have hlg3 := hlg.2.1.1
                have hLwl : (L ++ A ++ w.1).length = L.length + A.length + w.1.length := by rw [List.length_append, List.length_append]
                refine ⟨by omega, _, cz_50 hV hw hLw (by omega) (by omega), ?_⟩
                rintro _ I35 ⟨rfl, hL35, hF35⟩
                refine ⟨rfl, ?_⟩
                exact ih13 _ (by omega) _ _ rfl (CLp_s (FLw_trans hFK (FLw_trans (FLw_t hFt) (FLw_trans hF29 (FLw_l hF35)))) hE (lSr_1 hsg (by decide)) hg (by omega) hlK hw1 hlg2 hlg1 hcw hL35 hF35 hdy hl3)
              · obtain ⟨_, e, h1, h2⟩ := ho29.resolve_left (fun k => by omega)
                exact ⟨⟨_, rfl, Or.inr ⟨rfl, e, by rw [lS_s, hE, lSr_1 hsg (by decide), h1]; rfl, h2⟩⟩, FLw_trans hFK (FLw_trans (FLw_t hFt) hF29)⟩
            · exact absurd hq6 (by decide)
        · obtain ⟨_, h4x, hTx⟩ := ho14.resolve_right (fun k => hq3 k.1)
          have hlx := tat_in h4x (by decide)
          have hs1 := AT_s (T := T) (p := p + 1) (by omega)
          have hs12 := hs1.2
          have hsg : lSg (tat T p) = 105 := by unfold lSg; rw [if_pos h4x]
          have hFt := hF14
          refine hJ49 _ _ _ ?_
          unfold wz_46_49
          refine ⟨by omega, ?_⟩
          refine ⟨fun hq8 => ?_, fun hq8 => ?_⟩
          · refine ⟨s_Law_0 hw, ?_⟩
            refine ⟨_, by omega, _, ih (d - 1) (skB T (p + 1)) (L ++ A) _ _ _ ⟨hs1.1, _, _, _, hTx⟩ (LW_t hLK hFt hdy) (by omega) h2 (by omega), ?_⟩
            rintro _ I29 ⟨⟨r299, rfl, ho29⟩, hF29⟩
            refine ⟨_, rfl, ?_⟩
            refine ⟨by omega, ?_⟩
            refine ⟨fun hq9 => ?_, fun hq9 => ?_⟩
            · obtain ⟨_, w, hw1, hcw, hLw⟩ := ho29.resolve_right (fun k => hq9 k.1)
              have hlg := lPro_ok (U := 2 * y + 1) (by omega) (lRec_h y) hs1.1.1 hw1
              have hlg1 := LG_1 hlg (by omega)
              have hlg2 := hlg.2.2.1
              have hlg3 := hlg.2.1.1
              have hLwl : (L ++ A ++ w.1).length = L.length + A.length + w.1.length := by rw [List.length_append, List.length_append]
              refine ⟨by omega, _, cz_50 hV hw hLw (by omega) (by omega), ?_⟩
              rintro _ I35 ⟨rfl, hL35, hF35⟩
              refine ⟨rfl, ?_⟩
              exact ih13 _ (by omega) _ _ rfl (CLp_s (FLw_trans hFK (FLw_trans (FLw_t hFt) (FLw_trans hF29 (FLw_l hF35)))) hE (lSr_1 hsg (by decide)) hg (by omega) hlK hw1 hlg2 hlg1 hcw hL35 hF35 hdy hl3)
            · obtain ⟨_, e, h1, h2⟩ := ho29.resolve_left (fun k => by omega)
              exact ⟨⟨_, rfl, Or.inr ⟨rfl, e, by rw [lS_s, hE, lSr_1 hsg (by decide), h1]; rfl, h2⟩⟩, FLw_trans hFK (FLw_trans (FLw_t hFt) hF29)⟩
          · exact absurd hq8 (by decide)
    obtain ⟨_, w, hw1, hcw, hLw⟩ := ho6.resolve_right (fun k => hq1 k.1)
    have hlg := lPro_ok (U := 2 * y + 1) (by omega) (lRec_h y) hsl hw1
    exact L13 _ _ _ rfl (CLp_0 hF6 hw1 hcw hLw hl hlg.2.2.1)
  · obtain ⟨_, e, h1, h2⟩ := ho6.resolve_left (fun k => by omega)
    exact ⟨⟨_, rfl, Or.inr ⟨rfl, e, by rw [lS_s]; unfold lSu; rw [h1]; rfl, h2⟩⟩, hF6⟩
theorem G4_all {V : jx_V} (hV : V.1.stackTraces = false) {X : jx_X} {R : jx_R} {lw tp : Nat} {T : List Int} {fd : Int} (hw : BX X R lw TLaw) (ht : BX X R tp TTape) (hdy : tp + 2 ≤ lw ∨ lw + 4 ≤ tp) : ∀ y, y ≤ 6 → G46 V X R lw tp T fd y := by
  intro y
  induction y with
  | zero =>
    intro hy
    have h8 : G48 V X R lw tp T fd 0 := fun d s L a2 I QE h1 h2 h3 h4 h5 => cz_48s hV hw ht h1 h2 h3 h4 hy hdy h5 (fun z hz => by omega)
    have h7 : G47 V X R lw tp T fd 0 := fun d s L a2 I QE h1 h2 h3 h4 h5 => cz_47s hV hw ht h1 h2 h3 h4 hy hdy h5 h8
    exact fun d s L a2 I QE h1 h2 h3 h4 h5 => cz_46s hV hw ht h1 h2 h3 h4 hy hdy h5 h7
  | succ y ih =>
    intro hy
    have h8 : G48 V X R lw tp T fd (y + 1) := fun d s L a2 I QE h1 h2 h3 h4 h5 => cz_48s hV hw ht h1 h2 h3 h4 hy hdy h5 (fun z hz => by
      have : z = y := by omega
      subst this
      exact ih (by omega))
    have h7 : G47 V X R lw tp T fd (y + 1) := fun d s L a2 I QE h1 h2 h3 h4 h5 => cz_47s hV hw ht h1 h2 h3 h4 hy hdy h5 h8
    exact fun d s L a2 I QE h1 h2 h3 h4 h5 => cz_46s hV hw ht h1 h2 h3 h4 hy hdy h5 h7
