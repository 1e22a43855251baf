/-! ===== the reference reads a block ===== -/
/-- readsStep with o blocks open -/
def G302 (V : jx_V) (X : jx_X) (R : jx_R) (m : Nat) (T : List Int) (ln lm o : Nat) : Prop := ∀ (d f n t v s : Nat) (I : jx_I) (QE : String → jx_I → Prop), ROK I m T s → RPC I m o n t v → (4 * n ≤ s ∧ t ≤ n ∧ 2 * v ≤ s) → T.length ≤ f + s → RLM I m ln lm → 11 + 2 * (6 - o) ≤ d → jc V d 302 (0, 0) [.ref m] X I R (fun rv I' => rv = none ∧ RPS I' m T o n t v (pStpS T ln lm (pSteps T ln lm f) o s n t v) ∧ FP m KS n t v I I') QE
/-- block with o blocks open -/
def G303 (V : jx_V) (X : jx_X) (R : jx_R) (m : Nat) (T : List Int) (ln lm o : Nat) : Prop := ∀ (d f n t v : Nat) (x : PX Nat) (I : jx_I) (QE : String → jx_I → Prop), RST I m T x → (∀ q, x = .ok q → RPC I m o n t v ∧ (4 * n ≤ q + 1 ∧ t ≤ n ∧ 2 * v ≤ q) ∧ T.length ≤ f + q) → RLM I m ln lm → 10 + 2 * (6 - o) ≤ d → jc V d 303 (0, 0) [.ref m] X I R (fun rv I' => rv = none ∧ RPS I' m T o n t v (x.bind (fun q => pBlk T (pSteps T ln lm f) o q n t v)) ∧ FP m KS n t v I I') QE
theorem pBlk_1 {T : List Int} {rec : PRC} {o q n t v : Nat} (h : tat T q ≠ 91) : pBlk T rec o q n t v = .error (1, q) := if_pos h
theorem pBlk_3 {T : List Int} {rec : PRC} {q n t v : Nat} (h : tat T q = 91) : pBlk T rec 6 q n t v = .error (3, q) := by unfold pBlk; rw [if_neg (by omega), if_pos rfl]
theorem pBlk_y {T : List Int} {rec : PRC} {o q n t v : Nat} (h : tat T q = 91) (ho : o ≠ 6) : pBlk T rec o q n t v = rec (o + 1) (skB T (q + 1)) n t v := by unfold pBlk; rw [if_neg (by omega), if_neg ho]
theorem pSteps_e {T : List Int} {ln lm f o p n t v : Nat} (h : pEnd T o p) : pSteps T ln lm (f + 1) o p n t v = .ok ([], [], [], if o = 0 then p else skB T (p + 1)) := by rw [pSteps_s, if_pos h]
theorem RPS_r {I : jx_I} {m : Nat} {T : List Int} {o n t v : Nat} {y : PX PS} (h : RPS I m T o n t v y) : RST I m T (y.bind (fun a => .ok a.2.2.2)) := by
  cases y with
  | error e => exact h
  | ok r => exact h.1
/-- GrievingCamelsModel.block -/
theorem cz_303s {V : jx_V} (hV : V.1.stackTraces = false) {d : Nat} {X : jx_X} {R : jx_R} {I : jx_I} {a0 : Nat} {T : List Int} {x : PX Nat} {ln lm o n t v f : Nat}
    (hM : MX X R a0) (hx : RST I a0 T x) (hc : ∀ q, x = .ok q → RPC I a0 o n t v ∧ (4 * n ≤ q + 1 ∧ t ≤ n ∧ 2 * v ≤ q) ∧ T.length ≤ f + q) (hL : RLM I a0 ln lm) (h200 : T.length ≤ 200) (hln : ln ≤ 10) (hlm : lm ≤ 8) (ho : o ≤ 6) (hd : 10 + 2 * (6 - o) ≤ d) (ih : o < 6 → G302 V X R a0 T ln lm (o + 1))
    {QE : String → jx_I → Prop} : jc V d 303 (0, 0) [.ref a0] X I R (fun rv I' => rv = none ∧ RPS I' a0 T o n t v (x.bind (fun q => pBlk T (pSteps T ln lm f) o q n t v)) ∧ FP a0 KS n t v I I') QE := by
  refine wm_303 hV   (fun J55 J87 hJJ => ?_)
  obtain ⟨hJ55, hJ87⟩ := hJJ
  unfold wz_303
  refine ⟨s_M_0 hM, ?_⟩
  refine ⟨fun hq1 => ?_, fun hq1 => ?_⟩
  · obtain ⟨q, rfl, p, hp, hs, hT⟩ := RST_5 hx hq1
    obtain ⟨hcp, hcb, hcf⟩ := hc q rfl
    have hql : q ≤ T.length := by rw [← hs]; exact (skB_le hp).2
    have hrg := RTX_r hT q
    refine ⟨by omega, _, cz_207 hV hM hT hp, ?_⟩
    rintro _ I5 ⟨rfl, hT5, hF5⟩
    refine ⟨rfl, ?_⟩
    rw [hs] at hT5
    have h54 := hT5.1.2.1
    have h55 := hT5.1.2.2.1
    have hP5 := RPC_o hcp hF5 (by decide)
    have h525 := hP5.2.2.2
    try simp only [-eq_self, h54, h525]
    refine ⟨by omega, _, cz_206 (i := q) hV hM hT5 rfl (by omega), ?_⟩
    rintro _ I10 ⟨rfl, e9⟩; replace e9 := e9.symm; subst e9
    refine ⟨_, rfl, ?_⟩
    refine ⟨by omega, ?_⟩
    refine ⟨fun hq2 => ?_, fun hq2 => ?_⟩
    · have h91 := hq2
      simp only [-eq_self, h54, h525]
      refine ⟨fun hq3 => ?_, fun hq3 => ?_⟩
      · have ho6 : o ≠ 6 := by omega
        have hB0 : (Except.ok q : PX Nat).bind (fun q => pBlk T (pSteps T ln lm f) o q n t v) = (pSteps T ln lm f (o + 1) (skB T (q + 1)) n t v) := pBlk_y h91 ho6
        have hl91 := tat_in h91 (by decide)
        have hs1 := AT_s (T := T) (p := q + 1) (by omega)
        have hs12 := hs1.2
        refine ⟨fun hq4 => ?_, fun hq4 => ?_⟩
        · intro I13 e_I13; subst e_I13
          have h134 : (jx_u I5 a0 25 (Int32.ofInt ((o : Int) + 1)) a0 4).toInt = (q : Int) := by rw [jx_u_k _ _ _ _ (by decide)]; exact h54
          simp only [-eq_self, h134]
          intro I14 e_I14; subst e_I14
          have hT14 : RTX (jx_u (jx_u I5 a0 25 (Int32.ofInt ((o : Int) + 1))) a0 4 (Int32.ofInt ((q : Int) + 1))) a0 T ((q + 1 : Nat) : Int) 0 (-1) := RTX_4 (v := ((q + 1 : Nat) : Int)) (RTX_k hT5 (by decide)) (by omega)
          refine ⟨by omega, _, cz_207 hV hM hT14 (by omega), ?_⟩
          rintro _ I18 ⟨rfl, hT18, hF18⟩
          refine ⟨rfl, ?_⟩
          have hP18 : RPC I18 a0 (o + 1) (n + ([] : List SP).length) (t + ([] : List TE).length) (v + ([] : List VA).length) := by
            refine ⟨?_, ?_, ?_, ?_⟩
            · rw [hF18.2 57 (by decide), jx_u_k _ _ _ _ (by decide), jx_u_k _ _ _ _ (by decide)]; exact hP5.1
            · rw [hF18.2 58 (by decide), jx_u_k _ _ _ _ (by decide), jx_u_k _ _ _ _ (by decide)]; exact hP5.2.1
            · rw [hF18.2 59 (by decide), jx_u_k _ _ _ _ (by decide), jx_u_k _ _ _ _ (by decide)]; exact hP5.2.2.1
            · rw [hF18.2 25 (by decide), jx_u_k _ _ _ _ (by decide), jx_u_s]; exact jy_toInt (by omega)
          have hE0 : (pSteps T ln lm f (o + 1) (skB T (q + 1)) n t v) = (pSteps T ln lm f (o + 1) (skB T (q + 1)) (n + ([] : List SP).length) (t + ([] : List TE).length) (v + ([] : List VA).length)).bind (fun b => .ok ([] ++ b.1, [] ++ b.2.1, [] ++ b.2.2.1, b.2.2.2)) := by
            show _ = (pSteps T ln lm f (o + 1) (skB T (q + 1)) n t v).bind _
            cases pSteps T ln lm f (o + 1) (skB T (q + 1)) n t v with
            | error e => rfl
            | ok b => rfl
          have L87 : ∀ (n87 : Nat)  (K : jx_I), n87 = (if (K a0 5).toInt ≠ 0 then 0 else 1 + ((T.length : Int) - (K a0 4).toInt).toNat) → (BLS I K a0 T ln lm (o + 1) n t v (pSteps T ln lm f (o + 1) (skB T (q + 1)) n t v)) → J87  K := by
            intro n87
            induction n87 using Nat.strongRecOn with
            | ind n87 ih87 =>
            intro  K hn87 hI87
            obtain ⟨hFK, hBK⟩ := hI87
            have hLK := RLM_f hL hFK
            refine hJ87 _ ?_
            unfold wz_303_87
            refine ⟨s_M_0 hM, ?_⟩
            refine ⟨fun hq5 => ?_, fun hq5 => ?_⟩
            · refine ⟨by omega, _, cz_217f hV hM hq5 (by omega), ?_⟩
              rintro _ I42 ⟨rfl, e9⟩; replace e9 := e9.symm; subst e9
              refine ⟨rfl, ?_⟩
              intro I44 e_I44; subst e_I44
              have hBe : ∃ e, (pSteps T ln lm f (o + 1) (skB T (q + 1)) n t v) = .error e ∧ RER K a0 T e := by
                rcases hBK with h | ⟨A1, A2, A3, p1, f1, _, _, hT1, _⟩
                · exact h
                · exact absurd hT1.1.2.2.1 hq5
              obtain ⟨e, he1, he2⟩ := hBe
              rw [hB0, he1]
              exact ⟨rfl, RER_k he2 (by decide), FP_f hFK (by decide)⟩
            · obtain ⟨A1, A2, A3, p1, f1, hE, hf1, hT1, hp1, hP1, hR1, hb1⟩ : ∃ (A1 : List SP) (A2 : List TE) (A3 : List VA) (p f2 : Nat), (pSteps T ln lm f (o + 1) (skB T (q + 1)) n t v) = (pSteps T ln lm f2 (o + 1) p (n + A1.length) (t + A2.length) (v + A3.length)).bind (fun b => .ok (A1 ++ b.1, A2 ++ b.2.1, A3 ++ b.2.2.1, b.2.2.2)) ∧ T.length < f2 + p ∧ RTX K a0 T (p : Int) 0 (-1) ∧ AT T p ∧ RPC K a0 (o + 1) (n + A1.length) (t + A2.length) (v + A3.length) ∧ RPR K a0 n t v (A1, A2, A3, 0) ∧ 4 * (n + A1.length) ≤ p ∧ t + A2.length ≤ n + A1.length ∧ 2 * (v + A3.length) ≤ p := by
                rcases hBK with ⟨e, _, g1, _, g, g2⟩ | h
                · have := g2.1.2.2.1; omega
                · exact h
              have hp1l := hp1.1
              have hrg1 := RTX_r hT1 p1
              have h41 := hT1.1.2.1
              simp only [-eq_self, h41]
              obtain ⟨f2, rfl⟩ : ∃ g, f1 = g + 1 := ⟨f1 - 1, by omega⟩
              refine ⟨by omega, _, cz_206 (i := p1) hV hM hT1 rfl (by omega), ?_⟩
              rintro _ I48 ⟨rfl, e9⟩; replace e9 := e9.symm; subst e9
              refine ⟨_, rfl, ?_⟩
              refine ⟨by omega, ?_⟩
              refine ⟨fun hq6 => ?_, fun hq6 => ?_⟩
              · have he : pEnd T (o + 1) p1 := by show (if o + 1 = 0 then _ else _); rw [if_neg (by omega)]; exact hq6
                refine ⟨by omega, _, cz_217g (x := .ok p1) hV hM ⟨p1, hp1l, hp1.2, hT1⟩ (by omega), ?_⟩
                rintro _ I54 ⟨rfl, hS54, hF54⟩
                refine ⟨rfl, ?_⟩
                intro I56 e_I56; subst e_I56
                rw [hB0, hE, pSteps_e he, if_neg (by omega)]
                have hst : ROK I54 a0 T (skB T (p1 + 1)) := by
                  have h9 : RST I54 a0 T (pSgn T 93 p1) := hS54
                  unfold pSgn at h9
                  rw [if_pos hq6] at h9
                  exact h9
                have hFx : FP a0 KS n t v I (jx_u I54 a0 25 (Int32.ofInt ((I54 a0 25).toInt - 1))) := FP_f (FP_trans hFK (FP_o hF54 (by decide))) (by decide)
                have hP54 := RPC_o hP1 hF54 (by decide)
                have h25 := hP54.2.2.2
                refine ⟨rfl, ⟨ROK_k hst (by decide), ⟨?_, ?_, ?_, ?_⟩, ?_⟩, hFx⟩
                · rw [jx_u_k _ _ _ _ (by decide)]; simp only [List.append_nil]; exact hP54.1
                · rw [jx_u_k _ _ _ _ (by decide)]; simp only [List.append_nil]; exact hP54.2.1
                · rw [jx_u_k _ _ _ _ (by decide)]; simp only [List.append_nil]; exact hP54.2.2.1
                · rw [jx_u_s, h25, jy_toInt (by omega)]; omega
                · simp only [List.append_nil]
                  exact ⟨fun i e h => RS1_e (hR1.1 i e h) (by rw [jx_u_r _ _ _ (by omega), hF54.1 _ (by omega)]), fun i e h => RT1_e (hR1.2.1 i e h) (by rw [jx_u_r _ _ _ (by omega), hF54.1 _ (by omega)]), fun i e h => RV1_e (hR1.2.2 i e h) (by rw [jx_u_r _ _ _ (by omega), hF54.1 _ (by omega)])⟩
              · have he : ¬ pEnd T (o + 1) p1 := by show ¬ (if o + 1 = 0 then _ else _); rw [if_neg (by omega)]; exact hq6
                have hn87b : n87 = 1 + ((T.length : Int) - (p1 : Int)).toNat := by rw [hn87, if_neg (fun k => k hq5), h41]
                refine ⟨_, by omega, _, ih (by omega) (d - 1) f2 (n + A1.length) (t + A2.length) (v + A3.length) p1 _ _ ⟨p1, hp1l, hp1.2, hT1⟩ hP1 hb1 (by omega) hLK (by omega), ?_⟩
                rintro _ I61 ⟨rfl, hS61, hF61⟩
                refine ⟨rfl, ?_⟩
                obtain ⟨p6, fk6, fa6, hT66, hX66, hY66⟩ : ∃ (p : Nat) (fk fa : Int), RTX I61 a0 T (p : Int) fk fa ∧ (∀ I2, RTX I2 a0 T (skB T p : Nat) fk fa → RST I2 a0 T ((pStpS T ln lm (pSteps T ln lm f2) (o + 1) p1 (n + A1.length) (t + A2.length) (v + A3.length)).bind (fun a => .ok a.2.2.2))) ∧ ∀ s, (pStpS T ln lm (pSteps T ln lm f2) (o + 1) p1 (n + A1.length) (t + A2.length) (v + A3.length)).bind (fun a => .ok a.2.2.2) = .ok s → skB T p = s ∧ fk = 0 ∧ fa = -1 := RST_x (RPS_r hS61)
                refine ⟨by omega, _, cz_207h hV hM hT66, ?_⟩
                rintro _ I66 ⟨rfl, hT67, hF66⟩
                refine ⟨rfl, ?_⟩
                obtain ⟨hB66, hm66⟩ := BLS_step h200 hln hlm hFK hE hf1 hp1 hR1 hb1 he hS61 hF61 hF66 (fun r hr => by
                  have h9 := hY66 r.2.2.2 (by rw [hr]; rfl)
                  rw [h9.1, h9.2.1, h9.2.2] at hT67
                  exact hT67) (fun e he2 => by
                  have h9 := hX66 _ hT67
                  rw [he2] at h9
                  exact h9)
                have hm9 : (if (I66 a0 5).toInt ≠ 0 then 0 else 1 + ((T.length : Int) - (I66 a0 4).toInt).toNat) < n87 := by
                  rcases hm66 with h | ⟨h, h1, h2⟩
                  · rw [if_pos h]; omega
                  · rw [if_neg (fun k => k h)]; omega
                exact ih87 _ (by omega) _ rfl (hB66)
          exact L87 _ _ rfl (⟨FP_trans (FP_o hF5 (by decide)) (FP_trans (FP_f (FP_f FP_refl (by decide)) (by decide)) (FP_o hF18 (by decide))), Or.inr ⟨[], [], [], skB T (q + 1), f, hE0, by omega, hT18, hs1.1, hP18, RPR_nil, by show 4 * n ≤ _; omega, hcb.2.1, by show 2 * v ≤ _; omega⟩⟩)
        · exact absurd h55 hq4
      · refine ⟨by omega, _, cz_208 hV hM hT5 (by omega) (by omega), ?_⟩
        rintro _ I23 ⟨rfl, hT23, hF23⟩
        refine ⟨rfl, ?_⟩
        refine hJ55 _ ?_
        unfold wz_303_55
        refine ⟨s_M_0 hM, ?_⟩
        refine ⟨fun hq7 => ?_, fun hq7 => ?_⟩
        · exfalso
          rw [if_pos rfl] at hT23
          have := hT23.1.2.2.1
          omega
        · rw [if_pos rfl, if_pos rfl] at hT23
          have ho6 : o = 6 := by omega
          subst ho6
          rw [show (Except.ok q : PX Nat).bind (fun q => pBlk T (pSteps T ln lm f) 6 q n t v) = .error (3, q) from pBlk_3 h91]
          exact ⟨rfl, ⟨show (1 : Int) ≤ 3 by decide, show (3 : Int) ≤ 3 by decide, q, hT23⟩, FP_trans (FP_o hF5 (by decide)) (FP_o hF23 (by decide))⟩
    · simp only [-eq_self, h54]
      refine ⟨by omega, _, cz_208 hV hM hT5 (by omega) (by omega), ?_⟩
      rintro _ I28 ⟨rfl, hT28, hF28⟩
      refine ⟨rfl, ?_⟩
      refine hJ55 _ ?_
      unfold wz_303_55
      refine ⟨s_M_0 hM, ?_⟩
      refine ⟨fun hq8 => ?_, fun hq8 => ?_⟩
      · exfalso
        rw [if_pos rfl] at hT28
        have := hT28.1.2.2.1
        omega
      · rw [if_pos rfl, if_pos rfl] at hT28
        rw [show (Except.ok q : PX Nat).bind (fun q => pBlk T (pSteps T ln lm f) o q n t v) = .error (1, q) from pBlk_1 hq2]
        exact ⟨rfl, ⟨show (1 : Int) ≤ 1 by decide, show (1 : Int) ≤ 3 by decide, q, hT28⟩, FP_trans (FP_o hF5 (by decide)) (FP_o hF28 (by decide))⟩
  · obtain ⟨e, rfl, he⟩ := RST_5n hx hq1
    exact ⟨rfl, he, FP_refl⟩
