/-! ===== the class reads a test, 2 ===== -/
/-- GrievingCamels$Plan.readTest -/
theorem cz_61 {V : jx_V} (hV : V.1.stackTraces = false) {X : jx_X} {R : jx_R} {I : jx_I} {a0 : Nat} {a1 : Nat} {a2 : Nat} {a3 : Int} {T : List Int} {fd : Int} {s v n ln lm : Nat}
    (hy : BX X R a0 TPlan) (ht : BX X R a1 TTape) (hl : BX X R a2 TLand) (hL : LLM I a2 ln lm) (hln : ln ≤ 10) (hlm : lm ≤ 8) (hd : a1 + 2 ≤ a0 ∨ a0 + 12 ≤ a1) (hla : a2 ≠ a1 ∧ (a2 < a0 ∨ a0 + 12 ≤ a2)) (h200 : T.length ≤ 200) (hc : CST I a1 T fd (.ok s)) (h12 : (I a0 12).toInt = (v : Int)) (hv : 2 * v ≤ s) (h3 : a3 = (n : Int)) (hn : n < 100)
    {QE : String → jx_I → Prop} : jc V 8 61 (0, 0) [.ref a0, .ref a1, .ref a2, jy a3] X I R (fun rv I' => (∃ r : Int, rv = some (jy r) ∧ ((r = 1 ∧ ∃ z, pTest T lm s v = .ok z ∧ CST I' a1 T fd (.ok z.2.2) ∧ CT1 I' a0 n v z.1 z.2.1 ∧ CVW I' a0 v z.2.1 ∧ (I' a0 12).toInt = ((v + z.2.1.length : Nat) : Int)) ∨ (r = 0 ∧ ∃ e, pTest T lm s v = .error e ∧ CST I' a1 T fd (.error e)))) ∧ FTS a0 a1 n v I I') QE := by
  subst h3
  obtain ⟨hAT, wf, we, nf, hT⟩ := id hc
  have hsl := hAT.1
  have h6 := hT.2.1
  refine wm_61 hV (by omega)  (fun J26 J77 J142 hJJ => ?_)
  obtain ⟨hJ26, hJ77, hJ142⟩ := hJJ
  unfold wz_61
  simp only [-eq_self, h12]
  refine ⟨s_Plan_0 hy, _, r_Plan_0_5 hy, ?_⟩
  try simp only [-eq_self, Int.toNat_natCast]
  refine ⟨_, ⟨s_Plan_6 hy, by decide⟩, by omega, ?_⟩
  intro I7 e_I7; subst e_I7
  refine ⟨_, r_Plan_0_7 hy, ?_⟩
  try simp only [-eq_self, Int.toNat_natCast]
  refine ⟨_, ⟨s_Plan_8 hy, by decide⟩, by omega, ?_⟩
  intro I13 e_I13; subst e_I13
  have hE0 : pVals T lm (T.length + 1) s 1 = (pVals T lm (T.length + 1) s 1).bind (fun z => .ok ([] ++ z.1, z.2)) := by
    cases pVals T lm (T.length + 1) s 1 with
    | error e => rfl
    | ok b => rfl
  have L26 : ∀ (n26 : Nat) (l4 : Int) (l5 : Int) (l6 : Int) (K : jx_I), n26 = (200 - l6).toNat → (TST I K a0 a1 T fd lm n v s l4 l5 ∧ l5 ≠ 0 ∧ l6 = (K a0 12).toInt - v) → J26 l4 l5 l6 K := by
    intro n26
    induction n26 using Nat.strongRecOn with
    | ind n26 ih26 =>
    intro l4 l5 l6 K hn26 hI26
    obtain ⟨hS, h50, rfl⟩ := hI26
    obtain ⟨s1, v1, hc1, h121, hv1, hvv, hl4, hl5, hne, hnx⟩ := TST_x hlm hS h50 hn hd
    have hs1l := hc1.1.1
    have hLK := LLM_r hL (hS.1.1.1 a2 hla.1 (by omega) (by omega))
    simp only [-eq_self, h121]
    refine hJ26 _ _ _ _ ?_
    unfold wz_61_26
    refine ⟨by omega, ?_⟩
    refine ⟨fun hq1 => ?_, fun hq1 => ?_⟩
    · exfalso
      omega
    · refine ⟨s_Plan_0 hy, ?_⟩
      have hmul : l4 * l5 = 1 ∨ l4 * l5 = -1 := by
        rcases hl4 with h | h <;> rcases hl5 with h2 | h2 <;> rw [h, h2] <;> decide
      refine ⟨_, cz_63 (v := v1) (n := 100) hV hy ht hl hLK hlm hc1 h121 (by omega) hmul hd hla.1, ?_⟩
      rintro _ I24 ⟨⟨r249, rfl, ho24⟩, hF24, h1124⟩
      refine ⟨_, rfl, ?_⟩
      refine ⟨by omega, ?_⟩
      refine ⟨fun hq2 => ?_, fun hq2 => ?_⟩
      · obtain ⟨_, k, x, q, hpv, hcq, hC1, h12q⟩ := ho24.resolve_right (fun k => hq2 k.1)
        obtain ⟨hAT24, wf2, we2, nf2, hT24⟩ := id hcq
        have hpo := pVal_ok hlm hs1l hpv
        have hnx1 := fun K2 s2 => hnx I24 K2 k q x s2 hpv hF24 h1124 hC1 h12q
        refine ⟨s_Tape_0 ht, ?_⟩
        refine ⟨_, cz_112 hV ht hT24 hAT24.1 (by omega), ?_⟩
        rintro _ I30 ⟨⟨r309, rfl, ho30⟩, hF30⟩
        refine ⟨_, rfl, ?_⟩
        refine ⟨by omega, ?_⟩
        refine ⟨fun hq3 => ?_, fun hq3 => ?_⟩
        · obtain ⟨_, hn43, hI30⟩ := ho30.resolve_left (fun k => by omega)
          replace hI30 := hI30.symm
          subst hI30
          refine ⟨_, cz_112 hV ht hT24 hAT24.1 (by omega), ?_⟩
          rintro _ I35 ⟨⟨r359, rfl, ho35⟩, hF35⟩
          refine ⟨_, rfl, ?_⟩
          refine ⟨by omega, ?_⟩
          refine ⟨fun hq4 => ?_, fun hq4 => ?_⟩
          · obtain ⟨_, hn45, hI35⟩ := ho35.resolve_left (fun k => by omega)
            replace hI35 := hI35.symm
            subst hI35
            have hS0 := hnx1 I24 0 (fun _ _ => rfl) (Or.inl ⟨rfl, hn43, hn45, hcq⟩)
            refine hJ77 _ _ _ _ ?_
            unfold wz_61_77
            refine ⟨by omega, ?_⟩
            refine ⟨fun hq5 => ?_, fun hq5 => ?_⟩
            · exact absurd rfl hq5
            · refine ⟨s_Plan_0 hy, _, r_Plan_0_7 hy, ?_⟩
              try simp only [-eq_self, Int.toNat_natCast]
              refine ⟨_, ⟨s_Plan_8 hy, by decide⟩, by omega, ?_⟩
              refine ⟨fun hq6 => ?_, fun hq6 => ?_⟩
              · have h41 : l4 = 1 := by
                  rcases hS0.2.2 with ⟨h, _⟩ | ⟨_, a, _, _, h, _⟩
                  · exact h
                  · omega
                obtain ⟨a, ha, hsta⟩ : ∃ a, pVals T lm (T.length + 1) s 1 = .ok a ∧ CST I24 a1 T fd (.ok a.2) := by
                  rcases hS0.2.2 with ⟨_, _, hc⟩ | ⟨h, _⟩
                  · obtain ⟨_, a, ha, hst, _⟩ := hc.resolve_right (fun k => by rcases k.1 with h | h <;> exact absurd h (by decide))
                    exact ⟨a, ha, hst⟩
                  · omega
                have h1224 := h12q
                refine ⟨fun hq7 => ?_, fun hq7 => ?_⟩
                · exact absurd rfl hq7
                · refine ⟨_, cz_62 hV ht hsta, ?_⟩
                  rintro _ I65 ⟨⟨r449, rfl, ho44⟩, hF44⟩
                  refine ⟨_, rfl, ?_⟩
                  have hr449 : -2147483648 ≤ r449 ∧ r449 < 2147483648 := by
                    have := (prl_r (tat T a.2)).1
                    rcases ho44 with ⟨h, _⟩ | ⟨h, _⟩ <;> omega
                  refine ⟨by omega, ?_⟩
                  intro I68 e_I68; subst e_I68
                  refine ⟨by omega, ?_⟩
                  refine ⟨fun hq8 => ?_, fun hq8 => ?_⟩
                  · obtain ⟨hrv, hr3, hc44⟩ := ho44.resolve_right (fun k => by
                      have h9 : (jx_u I65 (a0 + 8) n (Int32.ofInt r449) (a0 + 8) n).toInt = r449 := by rw [jx_u_s]; exact jy_toInt hr449
                      omega)
                    have hS49 := TST_rel hS0 h41 hlm hsl hv ha hr3 hrv hF44 hc44 hd
                    have h1249 : (jx_u I65 (a0 + 8) n (Int32.ofInt r449) a0 12).toInt = (v1 : Int) + 1 := by rw [jx_u_r _ _ _ (by omega), hF44 a0 (by omega)]; exact h12q
                    refine hJ142 _ _ _ _ ?_
                    unfold wz_61_142
                    exact ih26 _ (by omega) _ _ _ _ rfl (⟨hS49, by decide, by rw [h1249]; omega⟩)
                  · obtain ⟨hrv, hr3, hI65⟩ := ho44.resolve_left (fun k => by
                      have h9 : (jx_u I65 (a0 + 8) n (Int32.ofInt r449) (a0 + 8) n).toInt = r449 := by rw [jx_u_s]; exact jy_toInt hr449
                      omega)
                    replace hI65 := hI65.symm
                    subst hI65
                    obtain ⟨hATa, wfa, wea, nfa, hTa⟩ := CST_w (q := a0 + 8) (k := n) (x := Int32.ofInt r449) hsta (by omega)
                    refine ⟨s_Tape_0 ht, ?_⟩
                    refine ⟨_, cz_107 hV ht hTa (by omega), ?_⟩
                    rintro _ I73 ⟨rfl, hT54, hF54⟩
                    refine ⟨_, rfl, ?_⟩
                    refine ⟨by omega, ?_⟩
                    have h8a : prl (tat T a.2) = 3 := hr3
                    exact ⟨⟨_, rfl, Or.inr ⟨rfl, _, pTest_3 ha h8a, ⟨show (1 : Int) ≤ 1 by decide, show (1 : Int) ≤ 3 by decide⟩, _, _, _, _, hT54⟩⟩, FTS_trans (FTS_r hS0.1 (by omega)) (FTS_t hF54 hd)⟩
              · have h41 : l4 = -1 := by
                  rcases hS0.2.2 with ⟨_, h, _⟩ | ⟨h, _⟩
                  · omega
                  · exact h
                subst h41
                refine ⟨_, r_Plan_0_6 hy, ?_⟩
                try simp only [-eq_self, Int.toNat_natCast]
                refine ⟨_, ⟨s_Plan_7 hy, by decide⟩, by omega, ?_⟩
                intro I81 e_I81; subst e_I81
                obtain ⟨z, e1, e2, e3, e4, e5⟩ := TST_end hS0 rfl hd
                exact ⟨⟨_, rfl, Or.inl ⟨rfl, z, e1, e2, e3, e4, e5⟩⟩, FTS_r hS0.1 (by omega)⟩
          · obtain ⟨_, hc45, hT35⟩ := ho35.resolve_right (fun k => hq4 k.1)
            have hl45 := tat_in hc45 (by decide)
            have hS35 := hnx1 I35 (-1) hF35 (Or.inr ⟨Or.inr ⟨hc45, rfl⟩, (AT_s (by omega)).1, _, _, _, hT35⟩)
            have h1235 : (I35 a0 12).toInt = (v1 : Int) + 1 := by rw [hF35 a0 (by omega)]; exact h12q
            refine hJ77 _ _ _ _ ?_
            unfold wz_61_77
            refine ⟨by omega, ?_⟩
            refine ⟨fun hq9 => ?_, fun hq9 => ?_⟩
            · refine ⟨fun hq10 => ?_, fun hq10 => ?_⟩
              · exact ih26 _ (by omega) _ _ _ _ rfl (⟨hS35, by decide, by rw [h1235]; omega⟩)
              · exact absurd hq10 (by decide)
            · exact absurd hq9 (by decide)
        · obtain ⟨_, hc43, hT30⟩ := ho30.resolve_right (fun k => hq3 k.1)
          have hl43 := tat_in hc43 (by decide)
          have hS30 := hnx1 I30 1 hF30 (Or.inr ⟨Or.inl ⟨hc43, rfl⟩, (AT_s (by omega)).1, _, _, _, hT30⟩)
          have h1230 : (I30 a0 12).toInt = (v1 : Int) + 1 := by rw [hF30 a0 (by omega)]; exact h12q
          refine hJ77 _ _ _ _ ?_
          unfold wz_61_77
          refine ⟨by omega, ?_⟩
          refine ⟨fun hq11 => ?_, fun hq11 => ?_⟩
          · refine ⟨fun hq12 => ?_, fun hq12 => ?_⟩
            · exact ih26 _ (by omega) _ _ _ _ rfl (⟨hS30, by decide, by rw [h1230]; omega⟩)
            · exact absurd hq12 (by decide)
          · exact absurd hq11 (by decide)
      · obtain ⟨_, e, he, hce⟩ := ho24.resolve_left (fun k => by omega)
        exact ⟨⟨_, rfl, Or.inr ⟨rfl, e, hne e he, hce⟩⟩, FTS_trans hS.1 (FTS_z hF24 h1124 (by omega) hvv)⟩
  exact L26 _ _ _ _ _ rfl (⟨⟨FTS_r (FTS_r ⟨FPz_refl, fun _ _ _ _ _ => rfl, rfl⟩ (by omega)) (by omega), by rw [jx_u_r _ _ _ (by omega), jx_u_s]; exact jy_toInt (by omega), Or.inl ⟨rfl, by rw [jx_u_s]; rfl, Or.inr ⟨Or.inl rfl, T.length + 1, [], s, hE0, by omega, CST_w (CST_w hc (by omega)) (by omega), by rw [jx_u_r _ _ _ (by omega), jx_u_r _ _ _ (by omega)]; exact h12, by show 2 * (v + 0) ≤ s; omega, fun i e h => by cases h⟩⟩⟩, by decide, by rw [jx_u_r _ _ _ (by omega), jx_u_r _ _ _ (by omega), h12]; omega⟩)
