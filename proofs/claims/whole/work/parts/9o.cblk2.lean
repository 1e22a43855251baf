/-! ===== the class reads blocks ===== -/
/-- GrievingCamels$Plan.readBlock -/
theorem cz_60s {V : jx_V} (hV : V.1.stackTraces = false) {d : Nat} {X : jx_X} {R : jx_R} {I : jx_I} {a0 : Nat} {a1 : Nat} {a2 : Nat} {a3 : Int} {T : List Int} {fd : Int} {s t v n ln lm o f : Nat}
    (hy : BX X R a0 TPlan) (ht : BX X R a1 TTape) (hl : BX X R a2 TLand) (hln : ln ≤ 10) (hlm : lm ≤ 8) (hdy : a1 + 2 ≤ a0 ∨ a0 + 12 ≤ a1) (hla : a2 ≠ a1 ∧ (a2 < a0 ∨ a0 + 12 ≤ a2)) (h200 : T.length ≤ 200) (ho : o ≤ 6) (h3 : a3 = (o : Int)) (hpre : CPre I a0 a1 a2 T fd ln lm n v s) (hb : 4 * n ≤ s + 1 ∧ t ≤ n ∧ 2 * v ≤ s) (hf : T.length ≤ f + s) (hd : 8 + 4 * (6 - o) ≤ d) (ih : o < 6 → G56 V X R a0 a1 a2 T fd ln lm (o + 1))
    {QE : String → jx_I → Prop} : jc V d 60 (0, 0) [.ref a0, .ref a1, .ref a2, jy a3] X I R (CAns a0 a1 T fd n t v I (pBlk T (pSteps T ln lm f) o s n t v) (fun I2 z => NBB I2 a0 n (o + 1) z)) QE := by
  obtain ⟨hc, h11, h12, hL⟩ := id hpre
  obtain ⟨hAT, wf, we, nf, hT⟩ := id hc
  have hsl := hAT.1
  have h6 := hT.2.1
  refine wm_60 hV (by omega)  ?_
  unfold wz_60
  refine ⟨fun hq1 => ?_, fun hq1 => ?_⟩
  · refine ⟨s_Tape_0 ht, ?_⟩
    refine ⟨by omega, _, cz_113 hV ht hT hsl (by omega), ?_⟩
    rintro _ I5 ⟨⟨r59, rfl, ho5⟩, hF5⟩
    refine ⟨_, rfl, ?_⟩
    refine ⟨by omega, ?_⟩
    refine ⟨fun hq2 => ?_, fun hq2 => ?_⟩
    · obtain ⟨_, h91n, hT5e⟩ := ho5.resolve_left (fun k => by omega)
      exact ⟨⟨_, rfl, Or.inr ⟨rfl, _, pBlk_1 h91n, ⟨show (1 : Int) ≤ 1 by decide, show (1 : Int) ≤ 3 by decide⟩, _, _, _, _, hT5e⟩⟩, FPz_t hF5 (by omega)⟩
    · obtain ⟨_, h91, hT5⟩ := ho5.resolve_right (fun k => hq2 k.1)
      have ho6 : o ≠ 6 := by omega
      have hl91 := tat_in h91 (by decide)
      have hs1 := AT_s (T := T) (p := s + 1) (by omega)
      have hs12 := hs1.2
      have hpre5 : CPre I5 a0 a1 a2 T fd ln lm n v (skB T (s + 1)) := ⟨⟨hs1.1, _, _, _, hT5⟩, by rw [hF5 a0 (by omega)]; exact h11, by rw [hF5 a0 (by omega)]; exact h12, LLM_r hL (hF5 a2 (by omega))⟩
      refine ⟨s_Plan_0 hy, ?_⟩
      refine ⟨_, by omega, _, G56_e (ih (by omega)) (d := d - 1) (f := f) (t := t) (by omega) hpre5 (by omega) (by omega) (by omega), ?_⟩
      rintro _ I13 ⟨⟨r139, rfl, ho13⟩, hF13⟩
      refine ⟨_, rfl, ?_⟩
      refine ⟨by omega, ?_⟩
      refine ⟨fun hq3 => ?_, fun hq3 => ?_⟩
      · obtain ⟨_, e, h1, h2⟩ := ho13.resolve_left (fun k => by omega)
        exact ⟨⟨_, rfl, Or.inr ⟨rfl, e, by rw [pBlk_y h91 ho6]; exact h1, h2⟩⟩, FPz_trans (FPz_t hF5 (by omega)) hF13⟩
      · obtain ⟨_, z, h1, h2⟩ := ho13.resolve_right (fun k => hq3 k.1)
        exact ⟨⟨_, rfl, Or.inl ⟨rfl, z, by rw [pBlk_y h91 ho6]; exact h1, h2⟩⟩, FPz_trans (FPz_t hF5 (by omega)) hF13⟩
  · refine ⟨s_Tape_0 ht, ?_⟩
    refine ⟨by omega, _, cz_111 hV ht hT hsl (by omega), ?_⟩
    rintro _ I20 ⟨rfl, e9⟩; replace e9 := e9.symm; subst e9
    refine ⟨_, rfl, ?_⟩
    refine ⟨by omega, ?_⟩
    refine ⟨fun hq4 => ?_, fun hq4 => ?_⟩
    · have c91 := bi_f hq4
      refine ⟨by omega, _, cz_113 hV ht hT hsl (by omega), ?_⟩
      rintro _ I26 ⟨⟨r269, rfl, ho26⟩, hF26⟩
      refine ⟨_, rfl, ?_⟩
      refine ⟨by omega, ?_⟩
      refine ⟨fun hq5 => ?_, fun hq5 => ?_⟩
      · obtain ⟨_, h91n, hTe⟩ := ho26.resolve_left (fun k => by omega)
        exact ⟨⟨_, rfl, Or.inr ⟨rfl, _, pBlk_1 h91n, ⟨show (1 : Int) ≤ 1 by decide, show (1 : Int) ≤ 3 by decide⟩, _, _, _, _, hTe⟩⟩, FPz_t hF26 (by omega)⟩
      · exact absurd (ho26.resolve_right (fun k => hq5 k.1)).2.1 c91
    · have c91 := bi_t hq4
      refine ⟨by omega, _, cz_107 hV ht hT (by omega), ?_⟩
      rintro _ I40 ⟨rfl, hT40, hF40⟩
      refine ⟨_, rfl, ?_⟩
      refine ⟨by omega, ?_⟩
      have ho6 : o = 6 := by omega
      subst ho6
      exact ⟨⟨_, rfl, Or.inr ⟨rfl, _, pBlk_3 c91, ⟨show (1 : Int) ≤ 3 by decide, show (3 : Int) ≤ 3 by decide⟩, _, _, _, _, hT40⟩⟩, FPz_t hF40 (by omega)⟩
/-- GrievingCamels$Plan.readSteps -/
theorem cz_56s {V : jx_V} (hV : V.1.stackTraces = false) {d : Nat} {X : jx_X} {R : jx_R} {I : jx_I} {a0 : Nat} {a1 : Nat} {a2 : Nat} {a3 : Int} {T : List Int} {fd : Int} {s t v n ln lm o f : Nat}
    (hy : BX X R a0 TPlan) (ht : BX X R a1 TTape) (hl : BX X R a2 TLand) (hln : ln ≤ 10) (hlm : lm ≤ 8) (hdy : a1 + 2 ≤ a0 ∨ a0 + 12 ≤ a1) (hla : a2 ≠ a1 ∧ (a2 < a0 ∨ a0 + 12 ≤ a2)) (h200 : T.length ≤ 200) (ho : o ≤ 6) (h3 : a3 = (o : Int)) (hpre : CPre I a0 a1 a2 T fd ln lm n v s) (hb : 4 * n ≤ s ∧ t ≤ n ∧ 2 * v ≤ s) (hf : T.length < f + s) (hd : 11 + 4 * (6 - o) ≤ d) (ih : G57 V X R a0 a1 a2 T fd ln lm o)
    {QE : String → jx_I → Prop} : jc V d 56 (0, 0) [.ref a0, .ref a1, .ref a2, jy a3] X I R (CAns a0 a1 T fd n t v I (pSteps T ln lm f o s n t v) (fun I2 z => NBB I2 a0 n o z)) QE := by
  obtain ⟨hc, h11, h12, hL⟩ := id hpre
  obtain ⟨hAT, wf, we, nf, hT⟩ := id hc
  have hsl := hAT.1
  have h6 := hT.2.1
  refine wm_56 hV (by omega)  (fun J6 J79 hJJ => ?_)
  obtain ⟨hJ6, hJ79⟩ := hJJ
  unfold wz_56
  have hE0 : (pSteps T ln lm f o s n t v) = (pSteps T ln lm f o s (n + ([] : List SP).length) (t + ([] : List TE).length) (v + ([] : List VA).length)).bind (fun b => .ok ([] ++ b.1, [] ++ b.2.1, [] ++ b.2.2.1, b.2.2.2)) := by
    show _ = (pSteps T ln lm f o s n t v).bind _
    cases pSteps T ln lm f o s n t v with
    | error e => rfl
    | ok b => rfl
  have L6 : ∀ (n6 : Nat) (l4 : Int) (l5 : Int) (K : jx_I), n6 = (200 - l5).toNat → (CBL I K a0 a1 a2 T fd ln lm o n t v (pSteps T ln lm f o s n t v) l4 l5) → J6 l4 l5 K := by
    intro n6
    induction n6 using Nat.strongRecOn with
    | ind n6 ih6 =>
    intro l4 l5 K hn6 hI6
    obtain ⟨hFK, A1, A2, A3, p, f1, hE, hf1, hPK, hRK, hWK, hbK, hl5, hCK⟩ := hI6
    obtain ⟨hcK, h11K, h12K, hLK⟩ := id hPK
    obtain ⟨hATK, wfK, weK, nfK, hTK⟩ := id hcK
    have hpl := hATK.1
    have hl4r : -1 ≤ l4 ∧ l4 < 100 := by
      rcases hCK with ⟨h, _⟩ | ⟨b0, h, _, h2, _⟩ <;> omega
    try simp only [-eq_self, h11K]
    obtain ⟨f1, rfl⟩ : ∃ g, f1 = g + 1 := ⟨f1 - 1, by omega⟩
    refine hJ6 _ _ _ ?_
    unfold wz_56_6
    refine ⟨by omega, ?_⟩
    refine ⟨fun hq1 => ?_, fun hq1 => ?_⟩
    · exfalso
      omega
    · refine ⟨fun hq2 => ?_, fun hq2 => ?_⟩
      · have hon : o ≠ 0 := by omega
        refine ⟨s_Tape_0 ht, ?_⟩
        refine ⟨by omega, _, cz_112 hV ht hTK hpl (by omega), ?_⟩
        rintro _ I13 ⟨⟨r139, rfl, ho13⟩, hF13⟩
        refine ⟨_, rfl, ?_⟩
        refine ⟨by omega, ?_⟩
        refine ⟨fun hq3 => ?_, fun hq3 => ?_⟩
        · obtain ⟨_, h93, hI13⟩ := ho13.resolve_left (fun k => by omega)
          replace hI13 := hI13.symm
          subst hI13
          have he : ¬ pEnd T o p := by show ¬ (if o = 0 then _ else _); rw [if_neg hon]; exact h93
          try simp only [-eq_self, h11K]
          refine ⟨s_Plan_0 hy, ?_⟩
          refine ⟨_, by omega, _, G57_e ih (d := d - 1) (f := f1) (t := t + A2.length) (by omega) hPK hbK (by omega) (by omega), ?_⟩
          rintro _ I21 ⟨⟨r219, rfl, ho21⟩, hF21⟩
          refine ⟨_, rfl, ?_⟩
          refine ⟨by omega, ?_⟩
          refine ⟨fun hq4 => ?_, fun hq4 => ?_⟩
          · obtain ⟨_, e, h1, h2⟩ := ho21.resolve_left (fun k => by omega)
            exact ⟨⟨_, rfl, Or.inr ⟨rfl, e, by rw [hE, pSteps_5 he h1]; rfl, h2⟩⟩, FPz_trans hFK (FPz_mono hF21 (by omega) (by omega))⟩
          · obtain ⟨_, z, hz, hO, hN⟩ := ho21.resolve_right (fun k => hq4 k.1)
            obtain ⟨hATz, wfz, wez, nfz, hTz⟩ := id hO.1
            refine ⟨by omega, _, cz_113 hV ht hTz hATz.1 (by omega), ?_⟩
            rintro _ I27 ⟨⟨r279, rfl, ho27⟩, hF27⟩
            refine ⟨_, rfl, ?_⟩
            refine ⟨by omega, ?_⟩
            refine ⟨fun hq5 => ?_, fun hq5 => ?_⟩
            · obtain ⟨_, h59, hT59⟩ := ho27.resolve_right (fun k => hq5 k.1)
              have hl59 := tat_in h59 (by decide)
              refine ⟨by omega, ?_⟩
              refine ⟨fun hq6 => ?_, fun hq6 => ?_⟩
              · exact ih6 _ (by omega) _ _ _ rfl (CBL_step hln hlm ho h200 hdy hla hFK hE hf1 hPK hRK hWK hbK hl5 hCK he hz hO hN hF21 h59 hF27 ⟨(AT_s (by omega)).1, _, _, _, hT59⟩ rfl (Or.inl ⟨hq6, rfl⟩))
              · have hn4 : 0 ≤ l4 ∧ l4 < 100 := by
                  rcases hCK with ⟨h, _⟩ | ⟨b0, h, _⟩ <;> omega
                refine ⟨_, r_Plan_0_2 hy, _, ⟨s_Plan_3 hy, by decide⟩, by omega, ?_⟩
                intro I36 e_I36; subst e_I36
                refine hJ79 _ _ _ ?_
                unfold wz_56_79
                exact ih6 _ (by omega) _ _ _ rfl (CBL_step hln hlm ho h200 hdy hla hFK hE hf1 hPK hRK hWK hbK hl5 hCK he hz hO hN hF21 h59 hF27 ⟨(AT_s (by omega)).1, _, _, _, hT59⟩ rfl (Or.inr ⟨hn4.1, rfl⟩))
            · obtain ⟨_, h59n, hTe⟩ := ho27.resolve_left (fun k => by omega)
              exact ⟨⟨_, rfl, Or.inr ⟨rfl, _, by rw [hE, pSteps_4 he hz h59n]; rfl, ⟨show (1 : Int) ≤ 1 by decide, show (1 : Int) ≤ 3 by decide⟩, _, _, _, _, hTe⟩⟩, FPz_trans hFK (FPz_trans (FPz_mono hF21 (by omega) (by omega)) (FPz_t hF27 (by omega)))⟩
        · obtain ⟨_, h93, hT13⟩ := ho13.resolve_right (fun k => hq3 k.1)
          have he : pEnd T o p := by show (if o = 0 then _ else _); rw [if_neg hon]; exact h93
          have hl93 := tat_in h93 (by decide)
          have hY : (pSteps T ln lm f o s n t v) = .ok (A1, A2, A3, skB T (p + 1)) := by
            rw [hE, pSteps_e he]
            show Except.ok (A1 ++ [], A2 ++ [], A3 ++ [], _) = _
            rw [List.append_nil, List.append_nil, List.append_nil, if_neg hon]
          exact ⟨⟨_, rfl, Or.inl ⟨rfl, _, hY, ⟨⟨(AT_s (by omega)).1, _, _, _, hT13⟩, CPR_f hRK (n2 := n + A1.length) (v2 := v + A3.length) (FPz_t hF13 (by omega)) (Nat.le_refl _) (Nat.le_refl _), by rw [hF13 a0 (by omega)]; exact h11K, by rw [hF13 a0 (by omega)]; exact h12K⟩, fun F hF => NBf_c _ _ _ _ (CHN_end hCK F hF) (fun k _ _ => ⟨by unfold nxt; rw [hF13 (a0 + 3) (by omega)], rfl⟩)⟩⟩, FPz_trans hFK (FPz_t hF13 (by omega))⟩
      · have ho0 : o = 0 := by omega
        refine ⟨s_Tape_0 ht, ?_⟩
        refine ⟨by omega, _, cz_110 hV ht hTK hpl, ?_⟩
        rintro _ I41 ⟨rfl, e9⟩; replace e9 := e9.symm; subst e9
        refine ⟨_, rfl, ?_⟩
        refine ⟨by omega, ?_⟩
        refine ⟨fun hq7 => ?_, fun hq7 => ?_⟩
        · have cend : p < T.length := by
            rcases Nat.lt_or_ge p T.length with h | h
            · exact h
            · rw [if_neg (by omega)] at hq7; exact absurd hq7 (by decide)
          have he : ¬ pEnd T o p := by show ¬ (if o = 0 then _ else _); rw [if_pos ho0]; omega
          try simp only [-eq_self, h11K]
          refine ⟨s_Plan_0 hy, ?_⟩
          refine ⟨_, by omega, _, G57_e ih (d := d - 1) (f := f1) (t := t + A2.length) (by omega) hPK hbK (by omega) (by omega), ?_⟩
          rintro _ I49 ⟨⟨r499, rfl, ho49⟩, hF49⟩
          refine ⟨_, rfl, ?_⟩
          refine ⟨by omega, ?_⟩
          refine ⟨fun hq8 => ?_, fun hq8 => ?_⟩
          · obtain ⟨_, e, h1, h2⟩ := ho49.resolve_left (fun k => by omega)
            exact ⟨⟨_, rfl, Or.inr ⟨rfl, e, by rw [hE, pSteps_5 he h1]; rfl, h2⟩⟩, FPz_trans hFK (FPz_mono hF49 (by omega) (by omega))⟩
          · obtain ⟨_, z, hz, hO, hN⟩ := ho49.resolve_right (fun k => hq8 k.1)
            obtain ⟨hATz, wfz, wez, nfz, hTz⟩ := id hO.1
            refine ⟨by omega, _, cz_113 hV ht hTz hATz.1 (by omega), ?_⟩
            rintro _ I55 ⟨⟨r559, rfl, ho55⟩, hF55⟩
            refine ⟨_, rfl, ?_⟩
            refine ⟨by omega, ?_⟩
            refine ⟨fun hq9 => ?_, fun hq9 => ?_⟩
            · obtain ⟨_, h59, hT59⟩ := ho55.resolve_right (fun k => hq9 k.1)
              have hl59 := tat_in h59 (by decide)
              refine ⟨by omega, ?_⟩
              refine ⟨fun hq10 => ?_, fun hq10 => ?_⟩
              · exact ih6 _ (by omega) _ _ _ rfl (CBL_step hln hlm ho h200 hdy hla hFK hE hf1 hPK hRK hWK hbK hl5 hCK he hz hO hN hF49 h59 hF55 ⟨(AT_s (by omega)).1, _, _, _, hT59⟩ rfl (Or.inl ⟨hq10, rfl⟩))
              · have hn4 : 0 ≤ l4 ∧ l4 < 100 := by
                  rcases hCK with ⟨h, _⟩ | ⟨b0, h, _⟩ <;> omega
                refine ⟨_, r_Plan_0_2 hy, _, ⟨s_Plan_3 hy, by decide⟩, by omega, ?_⟩
                intro I64 e_I64; subst e_I64
                refine hJ79 _ _ _ ?_
                unfold wz_56_79
                exact ih6 _ (by omega) _ _ _ rfl (CBL_step hln hlm ho h200 hdy hla hFK hE hf1 hPK hRK hWK hbK hl5 hCK he hz hO hN hF49 h59 hF55 ⟨(AT_s (by omega)).1, _, _, _, hT59⟩ rfl (Or.inr ⟨hn4.1, rfl⟩))
            · obtain ⟨_, h59n, hTe⟩ := ho55.resolve_left (fun k => by omega)
              exact ⟨⟨_, rfl, Or.inr ⟨rfl, _, by rw [hE, pSteps_4 he hz h59n]; rfl, ⟨show (1 : Int) ≤ 1 by decide, show (1 : Int) ≤ 3 by decide⟩, _, _, _, _, hTe⟩⟩, FPz_trans hFK (FPz_trans (FPz_mono hF49 (by omega) (by omega)) (FPz_t hF55 (by omega)))⟩
        · have cend : T.length ≤ p := by
            rcases Nat.lt_or_ge p T.length with h | h
            · rw [if_pos h] at hq7; exact absurd rfl hq7
            · exact h
          have he : pEnd T o p := by show (if o = 0 then _ else _); rw [if_pos ho0]; omega
          have hY : (pSteps T ln lm f o s n t v) = .ok (A1, A2, A3, p) := by
            rw [hE, pSteps_e he]
            show Except.ok (A1 ++ [], A2 ++ [], A3 ++ [], _) = _
            rw [List.append_nil, List.append_nil, List.append_nil, if_pos ho0]
          exact ⟨⟨_, rfl, Or.inl ⟨rfl, _, hY, ⟨hcK, hRK, h11K, h12K⟩, fun F hF => CHN_end hCK F hF⟩⟩, hFK⟩
  exact L6 _ _ _ _ rfl (⟨FPz_refl, [], [], [], s, f, hE0, hf, hpre, CPR_nil, WQ_nil, hb, ⟨Int.le_refl 0, Int.le_refl 0⟩, Or.inl ⟨rfl, rfl⟩⟩)
