/-! ===== the reference reads a law, 3 ===== -/
/-- GrievingCamelsModel.sum -/
theorem cz_225s {V : jx_V} (hV : V.1.stackTraces = false) {d : Nat} {X : jx_X} {R : jx_R} {I : jx_I} {a0 : Nat} {T : List Int} {x : PX Nat} {L : List Int} {y : Nat}
    (hM : MX X R a0) (hx : RST I a0 T x) (hc : ∀ s, x = .ok s → RLW I a0 L ∧ L.length ≤ s ∧ (I a0 25).toInt = ((6 - y : Nat) : Int)) (h600 : T.length ≤ 600) (hy : y ≤ 6) (hd : 8 + 3 * y ≤ d) (ih : G226 V X R a0 T y)
    {QE : String → jx_I → Prop} : jc V d 225 (0, 0) [.ref a0] X I R (fun rv I' => rv = none ∧ REL I' a0 T (6 - y) L (x.bind (lS T y)) ∧ FLa a0 I I') QE := by
  refine wm_225 hV   (fun J4 J38 hJJ => ?_)
  obtain ⟨hJ4, hJ38⟩ := hJJ
  unfold wz_225
  refine ⟨s_M_0 hM, ?_⟩
  refine ⟨_, by omega, _, ih (d - 1) x L I _ hx hc (by omega), ?_⟩
  rintro _ I6 ⟨rfl, hE6, hF6⟩
  refine ⟨rfl, ?_⟩
  have L4 : ∀ (n4 : Nat)  (K : jx_I), n4 = (if (K a0 5).toInt ≠ 0 then 0 else 1 + (1300 - (K a0 24).toInt).toNat) → (FLp I K a0 T (6 - y) L (lSr T (lRec T y)) (x.bind (lS T y))) → J4  K := by
    intro n4
    induction n4 using Nat.strongRecOn with
    | ind n4 ih4 =>
    intro  K hn4 hI4
    obtain ⟨xk, A, g, hxk, hgo, hge⟩ := FLp_x hI4
    obtain ⟨hFK, _⟩ := id hI4
    refine hJ4 _ ?_
    unfold wz_225_4
    refine ⟨s_M_0 hM, ?_⟩
    refine ⟨fun hq1 => ?_, fun hq1 => ?_⟩
    · obtain ⟨e, he, her⟩ := RST_5n hxk hq1
      exact ⟨rfl, by rw [hge e he]; exact her, hFK⟩
    · refine ⟨by omega, _, cz_218g hV hM hxk (by omega), ?_⟩
      rintro _ I12 ⟨⟨r129, rfl, ho12⟩, hF12⟩
      refine ⟨_, rfl, ?_⟩
      refine ⟨by omega, ?_⟩
      refine ⟨fun hq2 => ?_, fun hq2 => ?_⟩
      · obtain ⟨_, hn12, hx12⟩ := ho12.resolve_left (fun k => by omega)
        refine ⟨by omega, _, cz_218g hV hM hx12 (by omega), ?_⟩
        rintro _ I18 ⟨⟨r189, rfl, ho18⟩, hF18⟩
        refine ⟨_, rfl, ?_⟩
        refine ⟨by omega, ?_⟩
        refine ⟨fun hq3 => ?_, fun hq3 => ?_⟩
        · obtain ⟨_, hn18, hx18⟩ := ho18.resolve_left (fun k => by omega)
          refine hJ38 _ _ ?_
          unfold wz_225_38
          refine ⟨by omega, ?_⟩
          refine ⟨fun hq4 => ?_, fun hq4 => ?_⟩
          · exact absurd rfl hq4
          · refine ⟨rfl, ?_, FLa_trans hFK (FLa_o (FO_trans hF12 hF18) (by decide))⟩
            cases xk with
            | error e => rw [hge e rfl]; exact hx18
            | ok s =>
              obtain ⟨hg1, hg2, hg3, hg4, hg5⟩ := hgo s rfl
              have hsl := (ROK_s (show ROK K a0 T s from hxk)).1
              obtain ⟨g, rfl⟩ : ∃ h, g = h + 1 := ⟨g - 1, by omega⟩
              refine FLp_end (A := A) (p := s) ?_ hx18 hg3 hg5 (FO_trans hF12 hF18)
              have hsg : lSg (tat T s) = -1 := by unfold lSg; rw [if_neg (hn12 s rfl).1, if_neg (hn18 s rfl).1]
              rw [hg1, lSr_0 hsg]
              show Except.ok (A ++ [], s) = _
              rw [List.append_nil]
        · obtain ⟨_, s, hxs, h4x, hok12⟩ := ho18.resolve_right (fun k => hq3 k.1)
          subst hxs
          obtain ⟨hg1, hg2, hg3, hg4, hg5⟩ := hgo s rfl
          have hsl := (ROK_s (show ROK K a0 T s from hxk)).1
          have hl42 := tat_in h4x (by decide)
          have hs1 := AT_s (T := T) (p := s + 1) (by omega)
          have hs12 := hs1.2
          obtain ⟨g, rfl⟩ : ∃ h, g = h + 1 := ⟨g - 1, by omega⟩
          have hgl : ∀ r, (lPro T (lRec T y) (skB T (s + 1))) = .ok r → skB T (s + 1) + r.1.length ≤ r.2 ∧ r.2 ≤ T.length := fun r hr => by
            have h9 := lPro_ok (U := 2 * y + 1) (by omega) (lRec_h y) hs1.1.1 hr
            exact ⟨h9.2.2.1, h9.2.1.1⟩
          have hsg : lSg (tat T s) = 106 := by unfold lSg; rw [if_neg (by omega), if_pos h4x]
          have hFt := FO_trans hF12 hF18
          refine hJ38 _ _ ?_
          unfold wz_225_38
          refine ⟨by omega, ?_⟩
          refine ⟨fun hq5 => ?_, fun hq5 => ?_⟩
          · refine ⟨s_M_0 hM, ?_⟩
            refine ⟨_, by omega, _, ih (d - 1) (.ok (skB T (s + 1))) (L ++ A) _ _ hok12 (fun s2 h2 => by cases h2; exact ⟨RLW_o hg3 hFt (by decide), by omega, by rw [hFt.2 25 (by decide)]; exact hg5⟩) (by omega), ?_⟩
            rintro _ I27 ⟨rfl, hE19, hF19⟩
            refine ⟨rfl, ?_⟩
            replace hE19 : REL I27 a0 T (6 - y) (L ++ A) (lPro T (lRec T y) (skB T (s + 1))) := hE19
            have hRL19 : ∀ s2, (lPro T (lRec T y) (skB T (s + 1))).bind (fun r => .ok r.2) = .ok s2 → RLW I27 a0 (match (lPro T (lRec T y) (skB T (s + 1))) with | .ok r => L ++ A ++ r.1 | .error _ => []) ∧ (match (lPro T (lRec T y) (skB T (s + 1))) with | .ok r => L ++ A ++ r.1 | .error _ => []).length < 620 := by
              intro s2 h2
              cases hu : (lPro T (lRec T y) (skB T (s + 1))) with
              | error e => rw [hu] at h2; cases h2
              | ok r =>
                rw [hu] at hE19
                have := hgl r hu
                exact ⟨hE19.2.1, by show (L ++ A ++ r.1).length < 620; rw [List.length_append]; omega⟩
            refine ⟨by omega, _, cz_224 (x := (lPro T (lRec T y) (skB T (s + 1))).bind (fun r => .ok r.2)) (L := match (lPro T (lRec T y) (skB T (s + 1))) with | .ok r => L ++ A ++ r.1 | .error _ => []) (c := 106) hV hM (REL_r hE19) (fun s2 h2 => hRL19 s2 h2) ⟨fun h => by omega, fun _ h => by omega, fun _ => by omega⟩ (by omega) (by omega), ?_⟩
            rintro _ I32 ⟨rfl, hx24, hL24r, hF24⟩
            refine ⟨rfl, ?_⟩
            have hL24 : ∀ r, (lPro T (lRec T y) (skB T (s + 1))) = .ok r → RLW I32 a0 (L ++ A ++ r.1 ++ [106]) ∧ I32 a0 25 = I27 a0 25 := by
              intro r hr
              have h9 := hL24r r.2 (by rw [hr]; rfl)
              rw [hr] at h9
              exact h9
            have hm9 : (if (I32 a0 5).toInt ≠ 0 then 0 else 1 + (1300 - (I32 a0 24).toInt).toNat) < n4 := by
              have hn9 : n4 = 1 + (1300 - ((L ++ A).length : Int)).toNat := by rw [hn4, if_neg (fun k => k (by obtain ⟨_, _, _, h⟩ := hxk; exact h.1.2.2.1)), hg3.1]
              by_cases c9 : (I32 a0 5).toInt ≠ 0
              · rw [if_pos c9]; omega
              · rw [if_neg c9]
                obtain ⟨s9, hs9, _⟩ := RST_5 hx24 (by omega)
                obtain ⟨r9, hr9, _⟩ := px_ok hs9
                obtain ⟨g9, _⟩ := hL24 r9 hr9
                rw [g9.1]
                have := hgl r9 hr9
                simp only [List.length_append, List.length_singleton] at *
                omega
            exact ih4 _ (by omega) _ rfl (FLp_s (FLa_trans hFK (FLa_trans (FLa_o hFt (by decide)) (FLa_trans hF19 hF24))) hg1 (lSr_1 hsg (by decide)) hg2 (by omega) hg4 hE19 (fun r hr => (hgl r hr).1) hx24 hL24)
          · exact absurd hq5 (by decide)
      · obtain ⟨_, s, hxs, h4x, hok12⟩ := ho12.resolve_right (fun k => hq2 k.1)
        subst hxs
        obtain ⟨hg1, hg2, hg3, hg4, hg5⟩ := hgo s rfl
        have hsl := (ROK_s (show ROK K a0 T s from hxk)).1
        have hl42 := tat_in h4x (by decide)
        have hs1 := AT_s (T := T) (p := s + 1) (by omega)
        have hs12 := hs1.2
        obtain ⟨g, rfl⟩ : ∃ h, g = h + 1 := ⟨g - 1, by omega⟩
        have hgl : ∀ r, (lPro T (lRec T y) (skB T (s + 1))) = .ok r → skB T (s + 1) + r.1.length ≤ r.2 ∧ r.2 ≤ T.length := fun r hr => by
          have h9 := lPro_ok (U := 2 * y + 1) (by omega) (lRec_h y) hs1.1.1 hr
          exact ⟨h9.2.2.1, h9.2.1.1⟩
        have hsg : lSg (tat T s) = 105 := by unfold lSg; rw [if_pos h4x]
        have hFt := hF12
        refine hJ38 _ _ ?_
        unfold wz_225_38
        refine ⟨by omega, ?_⟩
        refine ⟨fun hq6 => ?_, fun hq6 => ?_⟩
        · refine ⟨s_M_0 hM, ?_⟩
          refine ⟨_, by omega, _, ih (d - 1) (.ok (skB T (s + 1))) (L ++ A) _ _ hok12 (fun s2 h2 => by cases h2; exact ⟨RLW_o hg3 hFt (by decide), by omega, by rw [hFt.2 25 (by decide)]; exact hg5⟩) (by omega), ?_⟩
          rintro _ I27 ⟨rfl, hE19, hF19⟩
          refine ⟨rfl, ?_⟩
          replace hE19 : REL I27 a0 T (6 - y) (L ++ A) (lPro T (lRec T y) (skB T (s + 1))) := hE19
          have hRL19 : ∀ s2, (lPro T (lRec T y) (skB T (s + 1))).bind (fun r => .ok r.2) = .ok s2 → RLW I27 a0 (match (lPro T (lRec T y) (skB T (s + 1))) with | .ok r => L ++ A ++ r.1 | .error _ => []) ∧ (match (lPro T (lRec T y) (skB T (s + 1))) with | .ok r => L ++ A ++ r.1 | .error _ => []).length < 620 := by
            intro s2 h2
            cases hu : (lPro T (lRec T y) (skB T (s + 1))) with
            | error e => rw [hu] at h2; cases h2
            | ok r =>
              rw [hu] at hE19
              have := hgl r hu
              exact ⟨hE19.2.1, by show (L ++ A ++ r.1).length < 620; rw [List.length_append]; omega⟩
          refine ⟨by omega, _, cz_224 (x := (lPro T (lRec T y) (skB T (s + 1))).bind (fun r => .ok r.2)) (L := match (lPro T (lRec T y) (skB T (s + 1))) with | .ok r => L ++ A ++ r.1 | .error _ => []) (c := 105) hV hM (REL_r hE19) (fun s2 h2 => hRL19 s2 h2) ⟨fun h => by omega, fun _ h => by omega, fun _ => by omega⟩ (by omega) (by omega), ?_⟩
          rintro _ I32 ⟨rfl, hx24, hL24r, hF24⟩
          refine ⟨rfl, ?_⟩
          have hL24 : ∀ r, (lPro T (lRec T y) (skB T (s + 1))) = .ok r → RLW I32 a0 (L ++ A ++ r.1 ++ [105]) ∧ I32 a0 25 = I27 a0 25 := by
            intro r hr
            have h9 := hL24r r.2 (by rw [hr]; rfl)
            rw [hr] at h9
            exact h9
          have hm9 : (if (I32 a0 5).toInt ≠ 0 then 0 else 1 + (1300 - (I32 a0 24).toInt).toNat) < n4 := by
            have hn9 : n4 = 1 + (1300 - ((L ++ A).length : Int)).toNat := by rw [hn4, if_neg (fun k => k (by obtain ⟨_, _, _, h⟩ := hxk; exact h.1.2.2.1)), hg3.1]
            by_cases c9 : (I32 a0 5).toInt ≠ 0
            · rw [if_pos c9]; omega
            · rw [if_neg c9]
              obtain ⟨s9, hs9, _⟩ := RST_5 hx24 (by omega)
              obtain ⟨r9, hr9, _⟩ := px_ok hs9
              obtain ⟨g9, _⟩ := hL24 r9 hr9
              rw [g9.1]
              have := hgl r9 hr9
              simp only [List.length_append, List.length_singleton] at *
              omega
          exact ih4 _ (by omega) _ rfl (FLp_s (FLa_trans hFK (FLa_trans (FLa_o hFt (by decide)) (FLa_trans hF19 hF24))) hg1 (lSr_1 hsg (by decide)) hg2 (by omega) hg4 hE19 (fun r hr => (hgl r hr).1) hx24 hL24)
        · exact absurd hq6 (by decide)
  have hI60 : FLp I I6 a0 T (6 - y) L (lSr T (lRec T y)) (x.bind (lS T y)) := by
    cases x with
    | error e => exact ⟨hF6, Or.inl ⟨e, rfl, hE6⟩⟩
    | ok s =>
      rw [show (Except.ok s : PX Nat).bind (lS T y) = lSu T (lRec T y) s from lS_s]
      exact FLp_0 hF6 hE6 (hc s rfl).2.1 (fun r hr => (lPro_ok (U := 2 * y + 1) (by omega) (lRec_h y) (ROK_s (show ROK I a0 T s from hx)).1 hr).2.2.1)
  exact L4 _ _ rfl (hI60)
theorem G2_all {V : jx_V} (hV : V.1.stackTraces = false) {X : jx_X} {R : jx_R} {m : Nat} {T : List Int} (hM : MX X R m) (h600 : T.length ≤ 600) : ∀ y, y ≤ 6 → G225 V X R m T y := by
  intro y
  induction y with
  | zero =>
    intro hy
    have h7 : G227 V X R m T 0 := fun d x L I QE h1 h2 h3 => cz_227s hV hM h1 h2 h600 hy h3 (fun z hz => by omega)
    have h6 : G226 V X R m T 0 := fun d x L I QE h1 h2 h3 => cz_226s hV hM h1 h2 h600 hy h3 h7
    exact fun d x L I QE h1 h2 h3 => cz_225s hV hM h1 h2 h600 hy h3 h6
  | succ y ih =>
    intro hy
    have h7 : G227 V X R m T (y + 1) := fun d x L I QE h1 h2 h3 => cz_227s hV hM h1 h2 h600 hy h3 (fun z hz => by
      have : z = y := by omega
      subst this
      exact ih (by omega))
    have h6 : G226 V X R m T (y + 1) := fun d x L I QE h1 h2 h3 => cz_226s hV hM h1 h2 h600 hy h3 h7
    exact fun d x L I QE h1 h2 h3 => cz_225s hV hM h1 h2 h600 hy h3 h6
