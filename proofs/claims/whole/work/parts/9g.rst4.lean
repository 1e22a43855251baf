/-! ===== the reference reads steps ===== -/
/-- GrievingCamelsModel.readsStep -/
theorem cz_302s {V : jx_V} (hV : V.1.stackTraces = false) {d : Nat} {X : jx_X} {R : jx_R} {I : jx_I} {a0 : Nat} {T : List Int} {ln lm o n t v s f : Nat}
    (hM : MX X R a0) (hs0 : ROK I a0 T s) (hP : RPC I a0 o n t v) (hb : 4 * n ≤ s ∧ t ≤ n ∧ 2 * v ≤ s) (hf : T.length ≤ f + s) (hL : RLM I a0 ln lm) (h200 : T.length ≤ 200) (hln : ln ≤ 10) (hlm : lm ≤ 8) (ho : o ≤ 6) (hd : 11 + 2 * (6 - o) ≤ d) (ih : G303 V X R a0 T ln lm o)
    {QE : String → jx_I → Prop} : jc V d 302 (0, 0) [.ref a0] X I R (fun rv I' => rv = none ∧ RPS I' a0 T o n t v (pStpS T ln lm (pSteps T ln lm f) o s n t v) ∧ FP a0 KS n t v I I') QE := by
  obtain ⟨p, hp, hs, hT⟩ := id hs0
  have hsl := (ROK_s hs0).1
  have h6 := hT.2.1
  obtain ⟨k, hke⟩ : ∃ k, k = kst (wrd T s) := ⟨_, rfl⟩
  have hkr := kst_r (wrd T s)
  rw [← hke] at hkr
  have hwl := wrd_le hsl
  obtain ⟨w, hw⟩ : ∃ w, w = s + (wrd T s).length := ⟨_, rfl⟩
  rw [← hw] at hwl
  obtain ⟨q, hq⟩ : ∃ q, q = skB T w := ⟨_, rfl⟩
  have hAq : AT T q ∧ w ≤ q := by rw [hq]; exact AT_s hwl
  have hAq1 := hAq.1.1
  have hAq2 := hAq.2
  have hXX0 : k ≠ -1 → k < 7 → (pStpS T ln lm (pSteps T ln lm f) o s n t v) = ((pArgs T ln lm k q v).bind (fun a => .ok (pS0 n t k a))).bind (pSem T) := fun h h7 => by rw [pY_0 hke h h7, ← hw, ← hq]
  have hXX6 : ¬ k < 7 → (k ≠ 9 ∨ ∀ q2, (pY6 T (pSteps T ln lm f) o n t v k (pArgs T ln lm k q v)).bind (fun a => .ok a.2.2.2) = .ok q2 → wrd T q2 ≠ sbi 33) → (pStpS T ln lm (pSteps T ln lm f) o s n t v) = (pY6 T (pSteps T ln lm f) o n t v k (pArgs T ln lm k q v)).bind (pSem T) := fun h7 h9 => by rw [pY_7 hke (by omega) h7, ← hw, ← hq]; exact pY6_n h9
  have hza : ∀ a, (pArgs T ln lm k q v) = .ok a → 0 ≤ k → t + a.2.1.length ≤ 120 ∧ v + a.2.2.1.length ≤ 160 ∧ (7 ≤ k → s + 3 ≤ a.2.2.2) ∧ a.2.1.length ≤ 1 ∧ 2 * (v + a.2.2.1.length) ≤ a.2.2.2 ∧ a.2.2.2 ≤ T.length := by
    intro a ha hk
    obtain ⟨b1, b2, b3, b4, b5, b6, b7, b8, b9, _⟩ := pArgs_ok hln hlm (by omega) hAq.1 ha
    have b31 := b3.1
    have hb10 : a.2.1.length ≤ 1 := by
      rcases Int.lt_or_le k 8 with c | c
      · rw [(b7 c).1]; exact Nat.zero_le _
      · rw [b8 c]; exact Nat.le_refl _
    exact ⟨by omega, by omega, fun h => (by have := b2 (by omega); omega), hb10, (by omega), b31⟩
  obtain ⟨z0, hz0⟩ := PA_d (pArgs T ln lm k q v)
  refine wm_302 hV   (fun J19 J166 J176 J209 hJJ => ?_)
  obtain ⟨hJ19, hJ166, hJ176, hJ209⟩ := hJJ
  have L209 : ∀ (n209 : Nat) (l2 : Nat) (K : jx_I), n209 = 0 → (l2 = (a0 + 1493 + n) ∧ ∃ y, RPX I K a0 T o n t v y ∧ (pStpS T ln lm (pSteps T ln lm f) o s n t v) = y.bind (pSem T)) → J209 l2 K := by
    intro n209
    induction n209 using Nat.strongRecOn with
    | ind n209 ih209 =>
    intro l2 K hn209 hI209
    obtain ⟨rfl, y, hX, hY⟩ := hI209
    refine hJ209 _ _ ?_
    unfold wz_302_209
    refine ⟨s_M_0 hM, _, ⟨sr_M_1492 hM (by omega), by decide⟩, by omega, ?_⟩
    intro I378 e_I378; subst e_I378
    refine ⟨by omega, _, cz_217g hV hM (RST_w (q := (a0 + 1493 + n)) (k := (4 : Int).toNat) hX.2.1 (by omega)) (by omega), ?_⟩
    rintro _ I382 ⟨rfl, hS382, hF382⟩
    refine ⟨rfl, ?_⟩
    obtain ⟨hE1, hE2⟩ := RPX_end hX (by omega) rfl hF382 hS382
    rw [hY]
    exact ⟨rfl, hE1, hE2⟩
  have L176 : ∀ (n176 : Nat) (l1 : Int) (l2 : Nat) (K : jx_I), n176 = 0 → (l1 = k ∧ l2 = (a0 + 1493 + n) ∧ 7 ≤ k ∧ RP6 I K a0 T o n t v k (pArgs T ln lm k q v) (pSteps T ln lm f)) → J176 l1 l2 K := by
    intro n176
    induction n176 using Nat.strongRecOn with
    | ind n176 ih176 =>
    intro l1 l2 K hn176 hI176
    obtain ⟨hl1, rfl, hk7, h6K⟩ := hI176
    replace hl1 := hl1.symm
    subst hl1
    have hX6 := RP6_X h6K (by omega) (by omega) rfl
    replace hX6 : RPX I (rw4 K a0 n 3 (K a0 57).toInt) a0 T o n t v (pY6 T (pSteps T ln lm f) o n t v k (pArgs T ln lm k q v)) := hX6
    refine hJ176 _ _ _ ?_
    unfold wz_302_176
    refine ⟨s_M_0 hM, _, ⟨sr_M_1492 hM (by omega), by decide⟩, by omega, ?_⟩
    intro I346 e_I346; subst e_I346
    refine ⟨by omega, ?_⟩
    refine ⟨fun hq1 => ?_, fun hq1 => ?_⟩
    · have hk9 : k ≠ 9 := hq1
      refine ⟨by omega, ?_⟩
      intro I349 e_I349; subst e_I349
      refine ⟨by omega, _, cz_217g hV hM (RST_w (q := (a0 + 1493 + n)) (k := (4 : Int).toNat) hX6.2.1 (by omega)) (by omega), ?_⟩
      rintro _ I353 ⟨rfl, hS353, hF353⟩
      refine ⟨rfl, ?_⟩
      obtain ⟨hE1, hE2⟩ := RPX_end hX6 (by omega) rfl hF353 hS353
      rw [hXX6 (by omega) (Or.inl hk9)]
      exact ⟨rfl, hE1, hE2⟩
    · have hk9 : k = 9 := hq1
      refine ⟨by omega, _, cz_216g (ws := sbi 33) hV hM hX6.2.1 (by decide +kernel), ?_⟩
      rintro _ I358 ⟨⟨r9, rfl, ho9⟩, hF358⟩
      refine ⟨_, rfl, ?_⟩
      refine ⟨by omega, ?_⟩
      refine ⟨fun hq2 => ?_, fun hq2 => ?_⟩
      · obtain ⟨_, hn33, hS58⟩ := ho9.resolve_left (fun k => by omega)
        have hX58 := RPX_o hX6 hF358 hS58
        refine ⟨by omega, ?_⟩
        intro I362 e_I362; subst e_I362
        refine ⟨by omega, _, cz_217g hV hM (RST_w (q := (a0 + 1493 + n)) (k := (4 : Int).toNat) hX58.2.1 (by omega)) (by omega), ?_⟩
        rintro _ I366 ⟨rfl, hS366, hF366⟩
        refine ⟨rfl, ?_⟩
        obtain ⟨hE1, hE2⟩ := RPX_end hX58 (by omega) rfl hF366 hS366
        rw [hXX6 (by omega) (Or.inr hn33)]
        exact ⟨rfl, hE1, hE2⟩
      · obtain ⟨_, q9, hq9, hw33, hok9⟩ := ho9.resolve_right (fun k => hq2 k.1)
        obtain ⟨r6, hr6, hr6q⟩ := px_ok hq9
        cases hr6q
        obtain ⟨a, ha, hr6b⟩ := px_ok (show (pArgs T ln lm k q v).bind _ = .ok r6 from hr6)
        obtain ⟨b, hbb, hr6c⟩ := px_ok hr6b
        cases hr6c
        have hza9 := hza a ha (by omega)
        obtain ⟨⟨c1, c2, c3, c4, _⟩, _⟩ := pBlk_ok (RH_s hln hlm f) hza9.2.2.2.2.2 hbb
        have hza91 := hza9.2.2.1 (by omega)
        have hza92 := hza9.2.2.2
        have c41 := c4.1
        obtain ⟨n3, hn3⟩ : ∃ x, x = n + (pS1 n t k a b).1.length := ⟨_, rfl⟩
        obtain ⟨t3, ht3⟩ : ∃ x, x = t + (pS1 n t k a b).2.1.length := ⟨_, rfl⟩
        obtain ⟨v3, hv3⟩ : ∃ x, x = v + (pS1 n t k a b).2.2.1.length := ⟨_, rfl⟩
        obtain ⟨q3, hq3⟩ : ∃ x, x = skB T ((pS1 n t k a b).2.2.2 + (sbi 33).length) := ⟨_, rfl⟩
        rw [← hq3] at hok9
        have hn3e : n3 = n + (b.1.length + 1) := hn3
        have ht3e : t3 = t + (a.2.1.length + b.2.1.length) := by rw [ht3]; show t + (a.2.1 ++ b.2.1).length = _; rw [List.length_append]
        have hv3e : v3 = v + (a.2.2.1.length + b.2.2.1.length) := by rw [hv3]; show v + (a.2.2.1 ++ b.2.2.1).length = _; rw [List.length_append]
        have hw33l : b.2.2.2 + (sbi 33).length ≤ T.length := by
          have h8 := wrd_le c41
          have h7 : wrd T b.2.2.2 = sbi 33 := hw33
          rw [h7] at h8
          exact h8
        have hq3e : b.2.2.2 ≤ q3 := by
          have h8 := (skB_le hw33l).1
          rw [hq3]
          show b.2.2.2 ≤ skB T (b.2.2.2 + (sbi 33).length)
          omega
        have hX6y := hX6
        rw [hr6] at hX6y
        have hPc := (hX6y.2.2 _ rfl)
        obtain ⟨e6, B6, _, _, _, hP6, _⟩ := hPc
        have hc9 : RPC I358 a0 o n3 t3 v3 ∧ (4 * n3 ≤ q3 + 1 ∧ t3 ≤ n3 ∧ 2 * v3 ≤ q3) ∧ T.length ≤ f + q3 := ⟨by rw [hn3, ht3, hv3]; exact RPC_o hP6 hF358 (by decide), by omega, by omega⟩
        have hL58 := RLM_f hL (FP_trans hX6.1 (FP_o hF358 (by decide)))
        refine ⟨_, by omega, _, ih (d - 1) f n3 t3 v3 (.ok q3) _ _ hok9 (fun q2 h2 => by cases h2; exact hc9) hL58 (by omega), ?_⟩
        rintro _ I372 ⟨rfl, hS372, hF372⟩
        refine ⟨rfl, ?_⟩
        have hX99 := RPX_c (hr6 ▸ hX6 : RPX I _ a0 T o n t v (.ok (pS1 n t k a b))) rfl (by omega) ⟨hn3, ht3, hv3⟩ ⟨by omega, by omega, by omega⟩ hF358 hS372 hF372
        subst hk9
        have hYc := pY6_e (T := T) (rec := (pSteps T ln lm f)) (o := o) (n := n) (t := t) (v := v) ha hbb hw33 ⟨hn3, ht3, hv3, hq3⟩
        rw [hq, hw, ← pY_7 hke (by decide) (by decide)] at hYc
        exact L209 _ _ _ rfl (⟨rfl, _, hX99, hYc⟩)
  have L166 : ∀ (n166 : Nat) (l1 : Int) (l2 : Nat) (K : jx_I), n166 = 0 → (l1 = k ∧ l2 = (a0 + 1493 + n) ∧ 0 ≤ k ∧ RP5 I K a0 T o n t v k (pArgs T ln lm k q v)) → J166 l1 l2 K := by
    intro n166
    induction n166 using Nat.strongRecOn with
    | ind n166 ih166 =>
    intro l1 l2 K hn166 hI166
    obtain ⟨hl1, rfl, hk0, hR5⟩ := hI166
    replace hl1 := hl1.symm
    subst hl1
    refine hJ166 _ _ _ ?_
    unfold wz_302_166
    refine ⟨by omega, ?_⟩
    refine ⟨fun hq3 => ?_, fun hq3 => ?_⟩
    · refine ⟨s_M_0 hM, _, ⟨sr_M_1492 hM (by omega), by decide⟩, by omega, ?_⟩
      intro I308 e_I308; subst e_I308
      have hX5 := RP5_X hR5 hk0 (by omega) (fun a ha => (hza a ha hk0).1) (fun a ha => (hza a ha hk0).2.1) rfl
      refine ⟨fun hq4 => ?_, fun hq4 => ?_⟩
      · refine ⟨by omega, ?_⟩
        intro I310 e_I310; subst e_I310
        refine ⟨by omega, _, cz_217g hV hM (RST_w (q := (a0 + 1493 + n)) (k := (4 : Int).toNat) hX5.2.1 (by omega)) (by omega), ?_⟩
        rintro _ I314 ⟨rfl, hS314, hF314⟩
        refine ⟨rfl, ?_⟩
        obtain ⟨hE1, hE2⟩ := RPX_end hX5 (by omega) rfl hF314 hS314
        rw [hXX0 (by omega) (by omega)]
        exact ⟨rfl, hE1, hE2⟩
      · exfalso
        omega
    · have hc5 : ∀ q2, (pArgs T ln lm k q v).bind (fun a => .ok a.2.2.2) = .ok q2 → RPC K a0 o (n + 1) (t + z0.2.1.length) (v + z0.2.2.1.length) ∧ (4 * (n + 1) ≤ q2 + 1 ∧ t + z0.2.1.length ≤ n + 1 ∧ 2 * (v + z0.2.2.1.length) ≤ q2) ∧ T.length ≤ f + q2 := by
        intro q2 hq2
        obtain ⟨a, ha, hq2⟩ := px_ok hq2
        cases hq2
        have h9 := hza a ha hk0
        have h91 := h9.2.2.1 (by omega)
        have h92 := h9.2.2.2
        obtain ⟨_, g2⟩ := hR5.2.2 a ha
        have h8 := hz0 a ha
        subst h8
        exact ⟨g2, by omega, by omega⟩
      have hLK5 := RLM_f hL hR5.1
      refine ⟨s_M_0 hM, ?_⟩
      refine ⟨_, by omega, _, ih (d - 1) f (n + 1) (t + z0.2.1.length) (v + z0.2.2.1.length) ((pArgs T ln lm k q v).bind (fun a => .ok a.2.2.2)) _ _ hR5.2.1 hc5 hLK5 (by omega), ?_⟩
      rintro _ I340 ⟨rfl, hS340, hF340⟩
      refine ⟨rfl, ?_⟩
      exact L176 _ _ _ _ rfl (⟨rfl, rfl, by omega, RP5_b hR5 hz0 ⟨by omega, fun a ha => by have := hza a ha hk0; exact ⟨this.1, this.2.1⟩⟩ hS340 hF340⟩)
  unfold wz_302
  refine ⟨s_M_0 hM, ?_⟩
  refine ⟨by omega, _, cz_301 hV hM hT hp hs, ?_⟩
  rintro _ I5 ⟨rfl, hT5, hF5⟩
  refine ⟨_, rfl, ?_⟩
  rw [← hke]
  have h54 := hT5.1.2.1
  have hP5 := RPC_o hP hF5 (by decide)
  simp only [-eq_self, h54]
  refine ⟨by omega, ?_⟩
  refine ⟨fun hq5 => ?_, fun hq5 => ?_⟩
  · refine ⟨fun hq6 => ?_, fun hq6 => ?_⟩
    · refine ⟨by omega, _, cz_215 hV hM hT5 hsl, ?_⟩
      rintro _ I11 ⟨rfl, hT11, hF11⟩
      refine ⟨rfl, ?_⟩
      rw [← hw] at hT11
      have hP11 := RPC_o hP5 hF11 (by decide)
      have h1157 := hP11.1
      simp only [-eq_self, h1157]
      refine ⟨_, r_M_61 hM, _, ⟨s_M_1492 hM, by decide⟩, by omega, _, rr_M_1492 hM (by omega), ?_⟩
      try simp only [-eq_self, Int.toNat_natCast]
      intro I20 e_I20; subst e_I20
      refine ⟨_, ⟨sr_M_1492 hM (by omega), by decide⟩, by omega, ?_⟩
      intro I24 e_I24; subst e_I24
      refine ⟨by omega, ?_⟩
      intro I26 e_I26; subst e_I26
      have h26 : (jx_u (jx_u (jx_u I11 a0 57 (Int32.ofInt ((n : Int) + 1))) (a0 + 1493 + n) (0 : Int).toNat (Int32.ofInt k)) (a0 + 1493 + n) (1 : Int).toNat (Int32.ofInt 0) a0 58).toInt = (t : Int) := by rw [jx_u_r _ _ _ (by omega), jx_u_r _ _ _ (by omega), jx_u_k _ _ _ _ (by decide)]; exact hP11.2.1
      simp only [-eq_self, h26]
      refine ⟨by omega, ?_⟩
      intro I28 e_I28; subst e_I28
      have hF28 : FP a0 KS n t v I (jx_u (jx_u (jx_u (jx_u I11 a0 57 (Int32.ofInt ((n : Int) + 1))) (a0 + 1493 + n) (0 : Int).toNat (Int32.ofInt k)) (a0 + 1493 + n) (1 : Int).toNat (Int32.ofInt 0)) (a0 + 1493 + n) (2 : Int).toNat (Int32.ofInt (t : Int))) := FP_s (FP_s (FP_s (FP_f (FP_trans (FP_o hF5 (by decide)) (FP_o hF11 (by decide))) (by decide)) (by omega)) (by omega)) (by omega)
      have hR28 : (jx_u (jx_u (jx_u (jx_u I11 a0 57 (Int32.ofInt ((n : Int) + 1))) (a0 + 1493 + n) (0 : Int).toNat (Int32.ofInt k)) (a0 + 1493 + n) (1 : Int).toNat (Int32.ofInt 0)) (a0 + 1493 + n) (2 : Int).toNat (Int32.ofInt (t : Int)) (a0 + 1493 + n) 0).toInt = k ∧ (jx_u (jx_u (jx_u (jx_u I11 a0 57 (Int32.ofInt ((n : Int) + 1))) (a0 + 1493 + n) (0 : Int).toNat (Int32.ofInt k)) (a0 + 1493 + n) (1 : Int).toNat (Int32.ofInt 0)) (a0 + 1493 + n) (2 : Int).toNat (Int32.ofInt (t : Int)) (a0 + 1493 + n) 1).toInt = 0 ∧ (jx_u (jx_u (jx_u (jx_u I11 a0 57 (Int32.ofInt ((n : Int) + 1))) (a0 + 1493 + n) (0 : Int).toNat (Int32.ofInt k)) (a0 + 1493 + n) (1 : Int).toNat (Int32.ofInt 0)) (a0 + 1493 + n) (2 : Int).toNat (Int32.ofInt (t : Int)) (a0 + 1493 + n) 2).toInt = (t : Int) := ⟨by rw [jx_u_k _ _ _ _ (by decide), jx_u_k _ _ _ _ (by decide), jx_us (by decide)]; exact jy_toInt (by omega), by rw [jx_u_k _ _ _ _ (by decide), jx_us (by decide)]; rfl, by rw [jx_us (by decide)]; exact jy_toInt (by omega)⟩
      have hP28 : RPC (jx_u (jx_u (jx_u (jx_u I11 a0 57 (Int32.ofInt ((n : Int) + 1))) (a0 + 1493 + n) (0 : Int).toNat (Int32.ofInt k)) (a0 + 1493 + n) (1 : Int).toNat (Int32.ofInt 0)) (a0 + 1493 + n) (2 : Int).toNat (Int32.ofInt (t : Int))) a0 o (n + 1) t v := by
        refine RPC_w (RPC_w (RPC_w ⟨?_, ?_, ?_, ?_⟩ (by omega)) (by omega)) (by omega)
        · rw [jx_u_s]; exact jy_toInt (by omega)
        · rw [jx_u_k _ _ _ _ (by decide)]; exact hP11.2.1
        · rw [jx_u_k _ _ _ _ (by decide)]; exact hP11.2.2.1
        · rw [jx_u_k _ _ _ _ (by decide)]; exact hP11.2.2.2
      have hT28 : RTX (jx_u (jx_u (jx_u (jx_u I11 a0 57 (Int32.ofInt ((n : Int) + 1))) (a0 + 1493 + n) (0 : Int).toNat (Int32.ofInt k)) (a0 + 1493 + n) (1 : Int).toNat (Int32.ofInt 0)) (a0 + 1493 + n) (2 : Int).toNat (Int32.ofInt (t : Int))) a0 T (w : Nat) 0 (-1) := RTX_w (RTX_w (RTX_w (RTX_k hT11 (by decide)) (by omega)) (by omega)) (by omega)
      generalize jx_u (jx_u (jx_u (jx_u I11 a0 57 (Int32.ofInt ((n : Int) + 1))) (a0 + 1493 + n) (0 : Int).toNat (Int32.ofInt k)) (a0 + 1493 + n) (1 : Int).toNat (Int32.ofInt 0)) (a0 + 1493 + n) (2 : Int).toNat (Int32.ofInt (t : Int)) = I28 at *
      have hL28 := RLM_f hL hF28
      have hL281 : (I28 (a0 + 4) (0 : Int).toNat).toInt = (ln : Int) := hL28.1
      have hL282 : (I28 (a0 + 4) (1 : Int).toNat).toInt = (lm : Int) := hL28.2
      have hk28 : ROK I28 a0 T q := ⟨w, hwl, hq.symm, hT28⟩
      refine ⟨fun hq7 => ?_, fun hq7 => ?_⟩
      · refine ⟨fun hq8 => ?_, fun hq8 => ?_⟩
        · refine ⟨fun hq9 => ?_, fun hq9 => ?_⟩
          · refine ⟨fun hq10 => ?_, fun hq10 => ?_⟩
            · refine ⟨fun hq11 => ?_, fun hq11 => ?_⟩
              · refine ⟨fun hq12 => ?_, fun hq12 => ?_⟩
                · refine ⟨by omega, ?_⟩
                  intro I30 e_I30; subst e_I30
                  have hR5 : RP5 I I28 a0 T o n t v k (pArgs T ln lm k q v) := ⟨hF28, by rw [pArgs_2 (by omega)]; exact hk28, fun a ha => by
                    rw [pArgs_2 (by omega)] at ha
                    cases ha
                    exact ⟨⟨hR28, fun i e h => (by cases h), fun i e h => (by cases h)⟩, hP28⟩⟩
                  have hX0 := RP5_X hR5 (by omega) (by omega) (fun a ha => (hza a ha (by omega)).1) (fun a ha => (hza a ha (by omega)).2.1) rfl
                  refine ⟨fun hq13 => ?_, fun hq13 => ?_⟩
                  · refine ⟨by omega, ?_⟩
                    intro I32 e_I32; subst e_I32
                    refine ⟨by omega, _, cz_217g hV hM (RST_w (q := (a0 + 1493 + n)) (k := (4 : Int).toNat) hX0.2.1 (by omega)) (by omega), ?_⟩
                    rintro _ I36 ⟨rfl, hS36, hF36⟩
                    refine ⟨rfl, ?_⟩
                    obtain ⟨hE1, hE2⟩ := RPX_end hX0 (by omega) rfl hF36 hS36
                    rw [hXX0 (by omega) (by omega)]
                    exact ⟨rfl, hE1, hE2⟩
                  · exfalso
                    omega
                · exfalso
                  omega
              · exfalso
                omega
            · exfalso
              omega
          · refine ⟨fun hq14 => ?_, fun hq14 => ?_⟩
            · refine ⟨fun hq15 => ?_, fun hq15 => ?_⟩
              · refine ⟨fun hq16 => ?_, fun hq16 => ?_⟩
                · exfalso
                  omega
                · refine ⟨by omega, _, cz_304 hV hM hk28 hP28.2.1 (by omega) hP28.2.2.1 (by omega) h200 hL282 hlm, ?_⟩
                  rintro _ I112 ⟨rfl, hT66, hF66⟩
                  refine ⟨rfl, ?_⟩
                  have hk8 : 8 ≤ k := by omega
                  have hR9 := RP5_t hF28 hR28 hP28 (by omega) hT66 hF66
                  rw [← pArgs_8 (ln := ln) hk8] at hR9
                  exact L166 _ _ _ _ rfl (⟨rfl, rfl, by omega, hR9⟩)
              · refine ⟨by omega, _, cz_210 hV hM hT28 hwl rfl (by omega) (by omega), ?_⟩
                rintro _ I117 ⟨⟨r9, rfl, hR71⟩, hA71⟩
                refine ⟨_, rfl, ?_⟩
                rw [← hq] at hR71
                refine ⟨by omega, ?_⟩
                intro I120 e_I120; subst e_I120
                have hk7 : k = 7 := by omega
                have hR9 := RP5_n hF28 ⟨hR28.1, hR28.2.2⟩ hP28 (by omega) hAq1 rfl (by omega) hR71 hA71
                rw [← pArgs_7 (ln := ln) (lm := lm) (v := v) hk7] at hR9
                exact L166 _ _ _ _ rfl (⟨rfl, rfl, by omega, hR9⟩)
            · refine ⟨_, r_M_11 hM, ?_⟩
              try simp only [-eq_self, hL282]
              refine ⟨_, ⟨s_M_4 hM, by decide⟩, by omega, ?_⟩
              refine ⟨by omega, _, cz_210 hV hM hT28 hwl rfl (by omega) (by omega), ?_⟩
              rintro _ I129 ⟨⟨r9, rfl, hR129⟩, hA129⟩
              refine ⟨_, rfl, ?_⟩
              rw [← hq] at hR129
              refine ⟨by omega, ?_⟩
              intro I132 e_I132; subst e_I132
              have hk4 : 4 ≤ k ∧ k < 7 := by omega
              have hR9 := RP5_n hF28 ⟨hR28.1, hR28.2.2⟩ hP28 (by omega) hAq1 rfl (by omega) hR129 hA129
              rw [← pArgs_4 (ln := ln) (v := v) hk4] at hR9
              exact L166 _ _ _ _ rfl (⟨rfl, rfl, by omega, hR9⟩)
        · refine ⟨by omega, _, cz_210 hV hM hT28 hwl rfl (by omega) (by omega), ?_⟩
          rintro _ I136 ⟨⟨r9, rfl, hR136⟩, hA136⟩
          refine ⟨_, rfl, ?_⟩
          rw [← hq] at hR136
          refine ⟨by omega, ?_⟩
          intro I139 e_I139; subst e_I139
          have hk1 : k = 1 := by omega
          have hR9 := RP5_n hF28 ⟨hR28.1, hR28.2.2⟩ hP28 (by omega) hAq1 rfl (by omega) hR136 hA136
          rw [← pArgs_1 (ln := ln) (lm := lm) (v := v) hk1] at hR9
          exact L166 _ _ _ _ rfl (⟨rfl, rfl, by omega, hR9⟩)
      · refine ⟨_, r_M_11 hM, ?_⟩
        try simp only [-eq_self, hL281]
        refine ⟨_, ⟨s_M_4 hM, by decide⟩, by omega, ?_⟩
        refine ⟨by omega, _, cz_210 hV hM hT28 hwl rfl (by omega) (by omega), ?_⟩
        rintro _ I148 ⟨⟨r9, rfl, hR148⟩, hA148⟩
        refine ⟨_, rfl, ?_⟩
        rw [← hq] at hR148
        refine ⟨by omega, ?_⟩
        intro I151 e_I151; subst e_I151
        have hk0 : k = 0 := by omega
        have hR9 := RP5_n hF28 ⟨hR28.1, hR28.2.2⟩ hP28 (by omega) hAq1 rfl (by omega) hR148 hA148
        rw [← pArgs_0 (lm := lm) (v := v) hk0] at hR9
        exact L166 _ _ _ _ rfl (⟨rfl, rfl, by omega, hR9⟩)
    · exact absurd hT5.1.2.2.1 hq6
  · refine ⟨by omega, _, cz_208 hV hM hT5 (by omega) (by omega), ?_⟩
    rintro _ I155 ⟨rfl, hT155, hF155⟩
    refine ⟨rfl, ?_⟩
    refine hJ19 _ _ ?_
    unfold wz_302_19
    refine ⟨s_M_0 hM, ?_⟩
    refine ⟨fun hq17 => ?_, fun hq17 => ?_⟩
    · exfalso
      rw [if_pos rfl] at hT155
      have := hT155.1.2.2.1
      omega
    · rw [if_pos rfl, if_pos rfl] at hT155
      rw [pY_n (by omega)]
      exact ⟨rfl, ⟨show (1 : Int) ≤ 1 by decide, show (1 : Int) ≤ 3 by decide, s, hT155⟩, FP_trans (FP_o hF5 (by decide)) (FP_o hF155 (by decide))⟩
