/-! ===== the reference's plan ===== -/
theorem G3_all {V : jx_V} (hV : V.1.stackTraces = false) {X : jx_X} {R : jx_R} {m : Nat} {T : List Int} {ln lm : Nat} (hM : MX X R m) (h200 : T.length ≤ 200) (hln : ln ≤ 10) (hlm : lm ≤ 8) : ∀ (x o : Nat), o ≤ 6 → 6 - o = x → G303 V X R m T ln lm o ∧ G302 V X R m T ln lm o := by
  intro x
  induction x with
  | zero =>
    intro o ho hx
    have h3 : G303 V X R m T ln lm o := fun d f n t v x I QE h1 h2 h4 h5 => cz_303s hV hM h1 h2 h4 h200 hln hlm ho h5 (fun h => absurd h (by omega))
    exact ⟨h3, fun d f n t v s I QE h1 h2 h4 h5 h6 h7 => cz_302s hV hM h1 h2 h4 h5 h6 h200 hln hlm ho h7 h3⟩
  | succ x ih =>
    intro o ho hx
    have h2 := (ih (o + 1) (by omega) (by omega)).2
    have h3 : G303 V X R m T ln lm o := fun d f n t v x I QE h1 h2' h4 h5 => cz_303s hV hM h1 h2' h4 h200 hln hlm ho h5 (fun _ => h2)
    exact ⟨h3, fun d f n t v s I QE h1 h2 h4 h5 h6 h7 => cz_302s hV hM h1 h2 h4 h5 h6 h200 hln hlm ho h7 h3⟩
abbrev KT : List Nat := [0, 1, 2, 3, 4, 5, 6, 7, 25, 57, 58, 59]
theorem KS_T : ∀ k ∈ KS, k ∈ KT := by decide
/-- of the reference only what speaks of texts and plans changes -/
def FPL (m : Nat) (I I' : jx_I) : Prop := (∀ q, q ≠ m → (q < m + 1371 ∨ m + 2177 ≤ q) → I' q = I q) ∧ ∀ k, k ∉ KT → k ≠ 56 → I' m k = I m k
/-- what a text of n bytes tells as a plan -/
def plo (B : List Int) (n : Nat) (ln lm : Nat) : PX PS := pSteps (B.take n) ln lm ((B.take n).length + 1) 0 (skB (B.take n) 0) 0 0 0
def plA (y : PX PS) : Int := match y with
  | .ok r => (r.1.length : Int)
  | .error e => e.1 - 10
def plF (y : PX PS) : Int := match y with
  | .ok _ => -1
  | .error e => (e.2 : Int)
def PLR (I I' : jx_I) (m : Nat) : PX PS → Prop
  | .ok r => MP I' m (r.1, r.2.1, r.2.2.1) ∧ FPL m I I'
  | .error _ => FP m KT 0 0 0 I I'
theorem FPL_f {m : Nat} {I I' : jx_I} (h : FP m KT 0 0 0 I I') : FPL m I I' := ⟨fun q h1 h2 => h.1 q h1 (by omega) (by omega) (by omega), fun k h1 _ => h.2 k h1⟩
/-- GrievingCamelsModel.plan -/
theorem cz_307 {V : jx_V} (hV : V.1.stackTraces = false) {X : jx_X} {R : jx_R} {I : jx_I} {a0 : Nat} {a1 : Int} {l : LT} {B : List Int}
    (hM : MX X R a0) (hD : MD I a0 l) (hW : WT l) (hB : (I a0 1).toInt = (B.length : Int)) (h600 : B.length ≤ 600) (hb : ∀ (k : Nat) (x : Int), B[k]? = some x → (I (a0 + 1) k).toInt = x) (r_a1 : -2147483648 ≤ a1 ∧ a1 < 2147483648)
    {QE : String → jx_I → Prop} : jc V 201 307 (0, 0) [.ref a0, jy a1] X I R (fun rv I' => (nzw (0 ≤ a1 ∧ a1 ≤ (B.length : Int) ∧ a1 ≤ 200) 2 1 none = none ∧ rv = some (jy (plA (plo B a1.toNat (Ln l) (Lm l)))) ∧ (I' a0 3).toInt = plF (plo B a1.toNat (Ln l) (Lm l)) ∧ (I' a0 0).toInt = 0 ∧ (I' a0 1).toInt = 0 ∧ PLR I I' a0 (plo B a1.toNat (Ln l) (Lm l))) ∨ (∃ k w, nzw (0 ≤ a1 ∧ a1 ≤ (B.length : Int) ∧ a1 ≤ 200) 2 1 none = some (k, w) ∧ I' = RM (jx_u I a0 0 (Int32.ofInt 0)) a0 k w ∧ ∃ x : Int, rv = some (jy x))) QE := by
  have hW0 := hW.1
  have hW0 := hW.1
  obtain ⟨T, hTd⟩ : ∃ T, T = B.take a1.toNat := ⟨_, rfl⟩
  unfold plo
  rw [← hTd]
  refine wm_307 hV (by omega)  (fun J30 J60 J122 J132 J167 J177 J212 J222 hJJ => ?_)
  obtain ⟨hJ30, hJ60, hJ122, hJ132, hJ167, hJ177, hJ212, hJ222⟩ := hJJ
  unfold wz_307
  refine ⟨s_M_0 hM, ?_⟩
  intro I2 e_I2; subst e_I2
  have h00 : (jx_u I a0 0 (Int32.ofInt 0) a0 0).toInt = 0 := by rw [jx_u_s]; rfl
  have h01 : (jx_u I a0 0 (Int32.ofInt 0) a0 1).toInt = (B.length : Int) := by rw [jx_u_k _ _ _ _ (by decide)]; exact hB
  simp only [-eq_self, h01]
  refine ⟨_, cz_203 hV (by omega) (by omega) (by omega), ?_⟩
  rintro _ I5 ⟨rfl, e9⟩; replace e9 := e9.symm; subst e9
  refine ⟨_, rfl, ?_⟩
  refine ⟨by omega, ?_⟩
  refine ⟨fun hq1 => ?_, fun hq1 => ?_⟩
  · have cin := bi_f hq1
    refine hJ30 _ _ _ ?_
    unfold wz_307_30
    refine ⟨s_M_0 hM, ?_⟩
    refine ⟨_, cz_202b hV hM h00 (by omega) (by omega), ?_⟩
    rintro _ I11 ⟨rfl, e9⟩; replace e9 := e9.symm; subst e9
    refine ⟨_, rfl, ?_⟩
    refine ⟨by omega, ?_⟩
    refine ⟨fun hq2 => ?_, fun hq2 => ?_⟩
    · exact absurd hq2 (by decide)
    · exact Or.inr ⟨_, _, nzw_f (fun k => cin ⟨k.1, k.2.1⟩), rfl, _, rfl⟩
  · have cin := bi_t hq1
    refine ⟨fun hq3 => ?_, fun hq3 => ?_⟩
    · refine hJ30 _ _ _ ?_
      unfold wz_307_30
      refine ⟨s_M_0 hM, ?_⟩
      refine ⟨_, cz_202o hV hM h00 (by omega) (by omega), ?_⟩
      rintro _ I11 ⟨rfl, e9⟩; replace e9 := e9.symm; subst e9
      refine ⟨_, rfl, ?_⟩
      refine ⟨by omega, ?_⟩
      refine ⟨fun hq4 => ?_, fun hq4 => ?_⟩
      · have hTl : (T.length : Int) = a1 := by rw [hTd, List.length_take]; omega
        have hT200 : T.length ≤ 200 := by omega
        have hbT : ∀ (k : Nat) (x : Int), T[k]? = some x → (jx_u I a0 0 (Int32.ofInt 0) (a0 + 1) k).toInt = x := by
          intro k x h
          rw [jx_u_r _ _ _ (by omega)]
          rw [hTd, List.getElem?_take] at h
          split at h
          · exact hb k x h
          · cases h
        refine ⟨s_M_0 hM, ?_⟩
        refine ⟨_, cz_219 hV hM hTl.symm (by omega) hbT, ?_⟩
        rintro _ I17 ⟨rfl, hT17, hF17, h171, h177, h1725⟩
        refine ⟨rfl, ?_⟩
        intro I19 e_I19; subst e_I19
        intro I20 e_I20; subst e_I20
        intro I21 e_I21; subst e_I21
        have h21q : ∀ q, q ≠ a0 → jx_u (jx_u (jx_u I17 a0 57 (Int32.ofInt 0)) a0 58 (Int32.ofInt 0)) a0 59 (Int32.ofInt 0) q = I q := fun q hq => by rw [jx_u_r _ _ _ hq, jx_u_r _ _ _ hq, jx_u_r _ _ _ hq, hF17.1 q hq, jx_u_r _ _ _ hq]
        have h21k : ∀ k, k ∉ KT → jx_u (jx_u (jx_u I17 a0 57 (Int32.ofInt 0)) a0 58 (Int32.ofInt 0)) a0 59 (Int32.ofInt 0) a0 k = I a0 k := fun k hk => by
          simp only [KT, List.mem_cons, not_or] at hk
          rw [jx_u_k _ _ _ _ (by omega), jx_u_k _ _ _ _ (by omega), jx_u_k _ _ _ _ (by omega), hF17.2 k (by simp; omega), jx_u_k _ _ _ _ (by omega)]
        have h21j : ∀ k, k ≠ 57 → k ≠ 58 → k ≠ 59 → jx_u (jx_u (jx_u I17 a0 57 (Int32.ofInt 0)) a0 58 (Int32.ofInt 0)) a0 59 (Int32.ofInt 0) a0 k = I17 a0 k := fun k g1 g2 g3 => by rw [jx_u_k _ _ _ _ g3, jx_u_k _ _ _ _ g2, jx_u_k _ _ _ _ g1]
        have h210 : jx_u (jx_u (jx_u I17 a0 57 (Int32.ofInt 0)) a0 58 (Int32.ofInt 0)) a0 59 (Int32.ofInt 0) a0 0 = Int32.ofInt 0 := by rw [h21j 0 (by decide) (by decide) (by decide), hF17.2 0 (by decide), jx_u_s]
        have h211 : (jx_u (jx_u (jx_u I17 a0 57 (Int32.ofInt 0)) a0 58 (Int32.ofInt 0)) a0 59 (Int32.ofInt 0) a0 1).toInt = 0 := by rw [h21j 1 (by decide) (by decide) (by decide)]; exact h171
        have hP21 : RPC (jx_u (jx_u (jx_u I17 a0 57 (Int32.ofInt 0)) a0 58 (Int32.ofInt 0)) a0 59 (Int32.ofInt 0)) a0 0 (0 + ([] : List SP).length) (0 + ([] : List TE).length) (0 + ([] : List VA).length) := ⟨by rw [jx_u_k _ _ _ _ (by decide), jx_u_k _ _ _ _ (by decide), jx_u_s]; rfl, by rw [jx_u_k _ _ _ _ (by decide), jx_u_s]; rfl, by rw [jx_u_s]; rfl, by rw [h21j 25 (by decide) (by decide) (by decide)]; exact h1725⟩
        have hT21 : RTX (jx_u (jx_u (jx_u I17 a0 57 (Int32.ofInt 0)) a0 58 (Int32.ofInt 0)) a0 59 (Int32.ofInt 0)) a0 T (skB T 0 : Nat) 0 (-1) := RTX_k (RTX_k (RTX_k hT17 (by decide)) (by decide)) (by decide)
        generalize jx_u (jx_u (jx_u I17 a0 57 (Int32.ofInt 0)) a0 58 (Int32.ofInt 0)) a0 59 (Int32.ofInt 0) = I21 at *
        have hL21 : RLM I21 a0 (Ln l) (Lm l) := by
          unfold RLM
          rw [h21q _ (by omega)]
          exact hD.1
        have hE0 : (pSteps T (Ln l) (Lm l) (T.length + 1) 0 (skB T 0) 0 0 0) = (pSteps T (Ln l) (Lm l) (T.length + 1) 0 (skB T 0) (0 + ([] : List SP).length) (0 + ([] : List TE).length) (0 + ([] : List VA).length)).bind (fun b => .ok ([] ++ b.1, [] ++ b.2.1, [] ++ b.2.2.1, b.2.2.2)) := by
          show _ = (pSteps T (Ln l) (Lm l) (T.length + 1) 0 (skB T 0) 0 0 0).bind _
          cases pSteps T (Ln l) (Lm l) (T.length + 1) 0 (skB T 0) 0 0 0 with
          | error e => rfl
          | ok b => rfl
        have hAT0 := AT_s (T := T) (p := 0) (Nat.zero_le _)
        have L60 : ∀ (n60 : Nat)  (K : jx_I), n60 = (if (K a0 5).toInt ≠ 0 then 0 else 1 + ((T.length : Int) - (K a0 4).toInt).toNat) → (BLS I21 K a0 T (Ln l) (Lm l) 0 0 0 0 (pSteps T (Ln l) (Lm l) (T.length + 1) 0 (skB T 0) 0 0 0)) → J60  K := by
          intro n60
          induction n60 using Nat.strongRecOn with
          | ind n60 ih60 =>
          intro  K hn60 hI60
          obtain ⟨hFK, hBK⟩ := hI60
          have hLK := RLM_f hL21 hFK
          refine hJ60 _ ?_
          unfold wz_307_60
          refine ⟨s_M_0 hM, ?_⟩
          refine ⟨fun hq5 => ?_, fun hq5 => ?_⟩
          · intro I23 e_I23; subst e_I23
            have h235 : (jx_u K a0 3 (Int32.ofInt (K a0 6).toInt) a0 5).toInt = (K a0 5).toInt := by rw [jx_u_k _ _ _ _ (by decide)]
            refine ⟨fun hq6 => ?_, fun hq6 => ?_⟩
            · exfalso
              omega
            · have hBe : ∃ e, (pSteps T (Ln l) (Lm l) (T.length + 1) 0 (skB T 0) 0 0 0) = .error e ∧ RER K a0 T e := by
                rcases hBK with h | ⟨A1, A2, A3, p1, f1, _, _, hT1, _⟩
                · exact h
                · exact absurd hT1.1.2.2.1 hq5
              obtain ⟨e, he1, g1, g2, p1, g3⟩ := hBe
              rw [he1]
              have hFx : FP a0 KT 0 0 0 I (jx_u K a0 3 (Int32.ofInt (K a0 6).toInt)) := FP_f (FP_trans (⟨fun q h _ _ _ => h21q q h, h21k⟩ : FP a0 KT 0 0 0 I I21) (FP_mono hFK (by decide) (Nat.le_refl _) (Nat.le_refl _) (Nat.le_refl _))) (by decide)
              exact Or.inl ⟨nzw_t ⟨by omega, by omega, by omega⟩, by rw [h235, g3.1.2.2.1]; rfl, by rw [jx_u_s, jy_toInt (jy_rng _)]; exact g3.1.2.2.2, by rw [jx_u_k _ _ _ _ (by decide), hFK.2 0 (by decide), h210]; rfl, by rw [jx_u_k _ _ _ _ (by decide), hFK.2 1 (by decide)]; exact h211, hFx⟩
          · obtain ⟨A1, A2, A3, p1, f1, hE, hf1, hT1, hp1, hP1, hR1, hb1⟩ : ∃ (A1 : List SP) (A2 : List TE) (A3 : List VA) (p f : Nat), (pSteps T (Ln l) (Lm l) (T.length + 1) 0 (skB T 0) 0 0 0) = (pSteps T (Ln l) (Lm l) f 0 p (0 + A1.length) (0 + A2.length) (0 + A3.length)).bind (fun b => .ok (A1 ++ b.1, A2 ++ b.2.1, A3 ++ b.2.2.1, b.2.2.2)) ∧ T.length < f + p ∧ RTX K a0 T (p : Int) 0 (-1) ∧ AT T p ∧ RPC K a0 0 (0 + A1.length) (0 + A2.length) (0 + A3.length) ∧ RPR K a0 0 0 0 (A1, A2, A3, 0) ∧ 4 * (0 + A1.length) ≤ p ∧ 0 + A2.length ≤ 0 + A1.length ∧ 2 * (0 + A3.length) ≤ p := by
              rcases hBK with ⟨e, _, g1, _, g, g2⟩ | h
              · have := g2.1.2.2.1; omega
              · exact h
            have hp1l := hp1.1
            have h41 := hT1.1.2.1
            have h42 := hT1.1.1
            simp only [-eq_self, h41, h42]
            obtain ⟨f2, rfl⟩ : ∃ g, f1 = g + 1 := ⟨f1 - 1, by omega⟩
            have hA120 : A1.length ≤ 50 ∧ A2.length ≤ 50 ∧ A3.length ≤ 100 := by omega
            refine ⟨fun hq7 => ?_, fun hq7 => ?_⟩
            · have he : pEnd T 0 p1 := by show (if 0 = 0 then _ else _); rw [if_pos rfl]; omega
              intro I25 e_I25; subst e_I25
              have h255 : (jx_u K a0 3 (Int32.ofInt (K a0 6).toInt) a0 5).toInt = 0 := by rw [jx_u_k _ _ _ _ (by decide)]; exact hT1.1.2.2.1
              refine ⟨fun hq8 => ?_, fun hq8 => ?_⟩
              · intro I26 e_I26; subst e_I26
                have h26 : ∀ k, k ≠ 56 → k ≠ 3 → jx_u (jx_u K a0 3 (Int32.ofInt (K a0 6).toInt)) a0 56 (Int32.ofInt (jx_u K a0 3 (Int32.ofInt (K a0 6).toInt) a0 57).toInt) a0 k = K a0 k := fun k h1 h2 => by rw [jx_u_k _ _ _ _ h1, jx_u_k _ _ _ _ h2]
                have h26q : ∀ q, q ≠ a0 → jx_u (jx_u K a0 3 (Int32.ofInt (K a0 6).toInt)) a0 56 (Int32.ofInt (jx_u K a0 3 (Int32.ofInt (K a0 6).toInt) a0 57).toInt) q = K q := fun q h1 => by rw [jx_u_r _ _ _ h1, jx_u_r _ _ _ h1]
                have h263 : (jx_u (jx_u K a0 3 (Int32.ofInt (K a0 6).toInt)) a0 56 (Int32.ofInt (jx_u K a0 3 (Int32.ofInt (K a0 6).toInt) a0 57).toInt) a0 3).toInt = -1 := by rw [jx_u_k _ _ _ _ (by decide), jx_u_s, jy_toInt (jy_rng _)]; exact hT1.1.2.2.2
                have h2656 : (jx_u (jx_u K a0 3 (Int32.ofInt (K a0 6).toInt)) a0 56 (Int32.ofInt (jx_u K a0 3 (Int32.ofInt (K a0 6).toInt) a0 57).toInt) a0 56).toInt = (A1.length : Int) := by rw [jx_u_s, jy_toInt (jy_rng _), jx_u_k _ _ _ _ (by decide), hP1.1]; omega
                generalize jx_u (jx_u K a0 3 (Int32.ofInt (K a0 6).toInt)) a0 56 (Int32.ofInt (jx_u K a0 3 (Int32.ofInt (K a0 6).toInt) a0 57).toInt) = I26 at *
                have hn57 : (I26 a0 57).toInt = (A1.length : Int) := by rw [h26 57 (by decide) (by decide), hP1.1]; omega
                have hn58x : (I26 a0 58).toInt = (A2.length : Int) := by rw [h26 58 (by decide) (by decide), hP1.2.1]; omega
                have hn59x : (I26 a0 59).toInt = (A3.length : Int) := by rw [h26 59 (by decide) (by decide), hP1.2.2.1]; omega
                have L122 : ∀ (n122 : Nat) (l2 : Int) (K2 : jx_I), n122 = ((A1.length : Int) - l2).toNat → (∃ i : Nat, l2 = (i : Int) ∧ i ≤ A1.length ∧ (∀ q, (q < a0 + 1372 ∨ a0 + 1492 ≤ q) → K2 q = I26 q) ∧ (∀ k j, k < i → j < 5 → K2 (a0 + 1372 + k) j = I26 (a0 + 1493 + k) j)) → J122 l2 K2 := by
                  intro n122
                  induction n122 using Nat.strongRecOn with
                  | ind n122 ih122 =>
                  intro l2 K2 hn122 hI122
                  obtain ⟨i, rfl, hi, hfrK2, hrwK2⟩ := hI122
                  have hcK2 : (K2 a0 57).toInt = (A1.length : Int) := by rw [hfrK2 a0 (by omega)]; exact hn57
                  refine hJ122 _ _ ?_
                  unfold wz_307_122
                  refine ⟨s_M_0 hM, by omega, ?_⟩
                  refine ⟨fun hq9 => ?_, fun hq9 => ?_⟩
                  · have hn58 : (K2 a0 58).toInt = (A2.length : Int) := by rw [hfrK2 a0 (by omega)]; exact hn58x
                    have L167 : ∀ (n167 : Nat) (l2 : Int) (K4 : jx_I), n167 = ((A2.length : Int) - l2).toNat → (∃ i : Nat, l2 = (i : Int) ∧ i ≤ A2.length ∧ (∀ q, (q < a0 + 1614 ∨ a0 + 1734 ≤ q) → K4 q = K2 q) ∧ (∀ k j, k < i → j < 4 → K4 (a0 + 1614 + k) j = K2 (a0 + 1735 + k) j)) → J167 l2 K4 := by
                      intro n167
                      induction n167 using Nat.strongRecOn with
                      | ind n167 ih167 =>
                      intro l2 K4 hn167 hI167
                      obtain ⟨i, rfl, hi, hfrK4, hrwK4⟩ := hI167
                      have hcK4 : (K4 a0 58).toInt = (A2.length : Int) := by rw [hfrK4 a0 (by omega)]; exact hn58
                      refine hJ167 _ _ ?_
                      unfold wz_307_167
                      refine ⟨s_M_0 hM, by omega, ?_⟩
                      refine ⟨fun hq10 => ?_, fun hq10 => ?_⟩
                      · have hn59 : (K4 a0 59).toInt = (A3.length : Int) := by rw [hfrK4 a0 (by omega), hfrK2 a0 (by omega)]; exact hn59x
                        have L212 : ∀ (n212 : Nat) (l2 : Int) (K6 : jx_I), n212 = ((A3.length : Int) - l2).toNat → (∃ i : Nat, l2 = (i : Int) ∧ i ≤ A3.length ∧ (∀ q, (q < a0 + 1856 ∨ a0 + 2016 ≤ q) → K6 q = K4 q) ∧ (∀ k j, k < i → j < 3 → K6 (a0 + 1856 + k) j = K4 (a0 + 2017 + k) j)) → J212 l2 K6 := by
                          intro n212
                          induction n212 using Nat.strongRecOn with
                          | ind n212 ih212 =>
                          intro l2 K6 hn212 hI212
                          obtain ⟨i, rfl, hi, hfrK6, hrwK6⟩ := hI212
                          have hcK6 : (K6 a0 59).toInt = (A3.length : Int) := by rw [hfrK6 a0 (by omega)]; exact hn59
                          refine hJ212 _ _ ?_
                          unfold wz_307_212
                          refine ⟨s_M_0 hM, by omega, ?_⟩
                          refine ⟨fun hq11 => ?_, fun hq11 => ?_⟩
                          · rw [hE, pSteps_e he]
                            have hq6 : ∀ q, (q < a0 + 1372 ∨ (a0 + 1492 ≤ q ∧ q < a0 + 1614) ∨ (a0 + 1734 ≤ q ∧ q < a0 + 1856) ∨ a0 + 2016 ≤ q) → K6 q = I26 q := fun q h => by rw [hfrK6 q (by omega), hfrK4 q (by omega), hfrK2 q (by omega)]
                            have h266 : ∀ k, k ≠ 3 → k ≠ 56 → I26 a0 k = K a0 k := fun k h1 h2 => by rw [h26 k h2 h1]
                            have hs1 : ∀ k j, k < A1.length → j < 5 → K6 (a0 + 1372 + k) j = K (a0 + 1493 + k) j := fun k j h h2 => by rw [hfrK6 _ (by omega), hfrK4 _ (by omega), hrwK2 k j (by omega) h2, h26q _ (by omega)]
                            have hs2 : ∀ k j, k < A2.length → j < 4 → K6 (a0 + 1614 + k) j = K (a0 + 1735 + k) j := fun k j h h2 => by rw [hfrK6 _ (by omega), hrwK4 k j (by omega) h2, hfrK2 _ (by omega), h26q _ (by omega)]
                            have hs3 : ∀ k j, k < A3.length → j < 3 → K6 (a0 + 1856 + k) j = K (a0 + 2017 + k) j := fun k j h h2 => by rw [hrwK6 k j (by omega) h2, hfrK4 _ (by omega), hfrK2 _ (by omega), h26q _ (by omega)]
                            have h60 := hq6 a0 (by omega)
                            have h567 : (K6 a0 56).toInt = (A1.length : Int) := by rw [h60]; exact h2656
                            refine Or.inl ⟨nzw_t ⟨by omega, by omega, by omega⟩, by rw [h567]; show some (jy _) = some (jy (((A1 ++ [] : List SP).length : Nat) : Int)); rw [List.append_nil], by rw [h60]; exact h263, by rw [h60, h266 0 (by decide) (by decide), hFK.2 0 (by decide), h210]; rfl, by rw [h60, h266 1 (by decide) (by decide), hFK.2 1 (by decide)]; exact h211, ?_, ?_⟩
                            · simp only [List.append_nil]
                              refine ⟨h567, fun k e h => ?_, fun k e h => ?_, fun k e h => ?_⟩
                              · have h9 := hR1.1 k e h
                                have hk := gi_lt h
                                unfold RS1 at h9
                                rw [Nat.zero_add] at h9
                                rw [hs1 k 0 hk (by omega), hs1 k 1 hk (by omega), hs1 k 2 hk (by omega), hs1 k 3 hk (by omega), hs1 k 4 hk (by omega)]
                                exact h9
                              · have h9 := hR1.2.1 k e h
                                have hk := gi_lt h
                                unfold RT1 at h9
                                rw [Nat.zero_add] at h9
                                rw [hs2 k 0 hk (by omega), hs2 k 1 hk (by omega), hs2 k 2 hk (by omega), hs2 k 3 hk (by omega)]
                                exact h9
                              · have h9 := hR1.2.2 k e h
                                have hk := gi_lt h
                                unfold RV1 at h9
                                rw [Nat.zero_add] at h9
                                rw [hs3 k 0 hk (by omega), hs3 k 1 hk (by omega), hs3 k 2 hk (by omega)]
                                exact h9
                            · refine ⟨fun q h1 h2 => ?_, fun k h1 h2 => ?_⟩
                              · rw [hq6 q (by omega), h26q q h1, hFK.1 q h1 (by omega) (by omega) (by omega)]; exact h21q q h1
                              · rw [h60, h266 k (by intro e; subst e; exact h1 (by decide)) h2, hFK.2 k (fun h => h1 (KS_T k h))]
                                exact h21k k h1
                          · have L222 : ∀ (n222 : Nat) (l2 : Int) (l3 : Int) (K7 : jx_I), n222 = ((3 : Int) - l3).toNat → (∃ j : Nat, l2 = (i : Int) ∧ l3 = (j : Int) ∧ j ≤ 3 ∧ (∀ q, (q < a0 + 1856 ∨ a0 + 2016 ≤ q) → K7 q = K4 q) ∧ (∀ k j, k < i → j < 3 → K7 (a0 + 1856 + k) j = K4 (a0 + 2017 + k) j) ∧ ∀ j2, j2 < j → K7 (a0 + 1856 + i) j2 = K4 (a0 + 2017 + i) j2) → J222 l2 l3 K7 := by
                              intro n222
                              induction n222 using Nat.strongRecOn with
                              | ind n222 ih222 =>
                              intro l2 l3 K7 hn222 hI222
                              obtain ⟨j, rfl, rfl, hj, hfrK7, hrwK7, hinK7⟩ := hI222
                              refine hJ222 _ _ _ ?_
                              unfold wz_307_222
                              refine ⟨by omega, ?_⟩
                              refine ⟨fun hq12 => ?_, fun hq12 => ?_⟩
                              · exact ih212 _ (by omega) _ _ rfl (⟨i + 1, by omega, by omega, hfrK7, fun k j2 h h2 => by
                                  rcases Nat.lt_or_ge k i with c | c
                                  · exact hrwK7 k j2 c h2
                                  · have : k = i := by omega
                                    subst this
                                    exact hinK7 j2 (by omega)⟩)
                              · refine ⟨s_M_0 hM, _, r_M_64 hM, _, ⟨s_M_1855 hM, by decide⟩, by omega, _, rr_M_1855 hM (by omega), ?_⟩
                                try simp only [-eq_self, Int.toNat_natCast]
                                refine ⟨_, r_M_65 hM, _, ⟨s_M_2016 hM, by decide⟩, by omega, _, rr_M_2016 hM (by omega), ?_⟩
                                try simp only [-eq_self, Int.toNat_natCast]
                                refine ⟨_, ⟨sr_M_2016 hM (by omega), by decide⟩, by omega, _, ⟨sr_M_1855 hM (by omega), by decide⟩, by omega, ?_⟩
                                intro I111 e_I111; subst e_I111
                                exact ih222 _ (by omega) _ _ _ rfl (⟨j + 1, rfl, by omega, by omega, fun q hq => by rw [jx_u_r _ _ _ (by omega)]; exact hfrK7 q hq, fun k j2 h h2 => by rw [jx_u_r _ _ _ (by omega)]; exact hrwK7 k j2 h h2, fun j2 h => by
                                  have hsrc : Int32.ofInt (K7 (a0 + 2017 + i) j).toInt = K4 (a0 + 2017 + i) j := by rw [hfrK7 _ (by omega)]; exact Int32.ofInt_toInt _
                                  rcases Nat.lt_or_ge j2 j with c | c
                                  · rw [jx_u_k _ _ _ _ (by omega)]; exact hinK7 j2 c
                                  · have : j2 = j := by omega
                                    subst this
                                    rw [jx_us (by omega)]
                                    exact hsrc⟩)
                            exact L222 _ _ _ _ rfl (⟨0, rfl, rfl, by omega, hfrK6, hrwK6, fun j2 h => absurd h (by omega)⟩)
                        exact L212 _ _ _ rfl (⟨0, rfl, by omega, fun _ _ => rfl, fun k j h => absurd h (by omega)⟩)
                      · have L177 : ∀ (n177 : Nat) (l2 : Int) (l3 : Int) (K5 : jx_I), n177 = ((4 : Int) - l3).toNat → (∃ j : Nat, l2 = (i : Int) ∧ l3 = (j : Int) ∧ j ≤ 4 ∧ (∀ q, (q < a0 + 1614 ∨ a0 + 1734 ≤ q) → K5 q = K2 q) ∧ (∀ k j, k < i → j < 4 → K5 (a0 + 1614 + k) j = K2 (a0 + 1735 + k) j) ∧ ∀ j2, j2 < j → K5 (a0 + 1614 + i) j2 = K2 (a0 + 1735 + i) j2) → J177 l2 l3 K5 := by
                          intro n177
                          induction n177 using Nat.strongRecOn with
                          | ind n177 ih177 =>
                          intro l2 l3 K5 hn177 hI177
                          obtain ⟨j, rfl, rfl, hj, hfrK5, hrwK5, hinK5⟩ := hI177
                          refine hJ177 _ _ _ ?_
                          unfold wz_307_177
                          refine ⟨by omega, ?_⟩
                          refine ⟨fun hq13 => ?_, fun hq13 => ?_⟩
                          · exact ih167 _ (by omega) _ _ rfl (⟨i + 1, by omega, by omega, hfrK5, fun k j2 h h2 => by
                              rcases Nat.lt_or_ge k i with c | c
                              · exact hrwK5 k j2 c h2
                              · have : k = i := by omega
                                subst this
                                exact hinK5 j2 (by omega)⟩)
                          · refine ⟨s_M_0 hM, _, r_M_62 hM, _, ⟨s_M_1613 hM, by decide⟩, by omega, _, rr_M_1613 hM (by omega), ?_⟩
                            try simp only [-eq_self, Int.toNat_natCast]
                            refine ⟨_, r_M_63 hM, _, ⟨s_M_1734 hM, by decide⟩, by omega, _, rr_M_1734 hM (by omega), ?_⟩
                            try simp only [-eq_self, Int.toNat_natCast]
                            refine ⟨_, ⟨sr_M_1734 hM (by omega), by decide⟩, by omega, _, ⟨sr_M_1613 hM (by omega), by decide⟩, by omega, ?_⟩
                            intro I86 e_I86; subst e_I86
                            exact ih177 _ (by omega) _ _ _ rfl (⟨j + 1, rfl, by omega, by omega, fun q hq => by rw [jx_u_r _ _ _ (by omega)]; exact hfrK5 q hq, fun k j2 h h2 => by rw [jx_u_r _ _ _ (by omega)]; exact hrwK5 k j2 h h2, fun j2 h => by
                              have hsrc : Int32.ofInt (K5 (a0 + 1735 + i) j).toInt = K2 (a0 + 1735 + i) j := by rw [hfrK5 _ (by omega)]; exact Int32.ofInt_toInt _
                              rcases Nat.lt_or_ge j2 j with c | c
                              · rw [jx_u_k _ _ _ _ (by omega)]; exact hinK5 j2 c
                              · have : j2 = j := by omega
                                subst this
                                rw [jx_us (by omega)]
                                exact hsrc⟩)
                        exact L177 _ _ _ _ rfl (⟨0, rfl, rfl, by omega, hfrK4, hrwK4, fun j2 h => absurd h (by omega)⟩)
                    exact L167 _ _ _ rfl (⟨0, rfl, by omega, fun _ _ => rfl, fun k j h => absurd h (by omega)⟩)
                  · have L132 : ∀ (n132 : Nat) (l2 : Int) (l3 : Int) (K3 : jx_I), n132 = ((5 : Int) - l3).toNat → (∃ j : Nat, l2 = (i : Int) ∧ l3 = (j : Int) ∧ j ≤ 5 ∧ (∀ q, (q < a0 + 1372 ∨ a0 + 1492 ≤ q) → K3 q = I26 q) ∧ (∀ k j, k < i → j < 5 → K3 (a0 + 1372 + k) j = I26 (a0 + 1493 + k) j) ∧ ∀ j2, j2 < j → K3 (a0 + 1372 + i) j2 = I26 (a0 + 1493 + i) j2) → J132 l2 l3 K3 := by
                      intro n132
                      induction n132 using Nat.strongRecOn with
                      | ind n132 ih132 =>
                      intro l2 l3 K3 hn132 hI132
                      obtain ⟨j, rfl, rfl, hj, hfrK3, hrwK3, hinK3⟩ := hI132
                      refine hJ132 _ _ _ ?_
                      unfold wz_307_132
                      refine ⟨by omega, ?_⟩
                      refine ⟨fun hq14 => ?_, fun hq14 => ?_⟩
                      · exact ih122 _ (by omega) _ _ rfl (⟨i + 1, by omega, by omega, hfrK3, fun k j2 h h2 => by
                          rcases Nat.lt_or_ge k i with c | c
                          · exact hrwK3 k j2 c h2
                          · have : k = i := by omega
                            subst this
                            exact hinK3 j2 (by omega)⟩)
                      · refine ⟨s_M_0 hM, _, r_M_60 hM, _, ⟨s_M_1371 hM, by decide⟩, by omega, _, rr_M_1371 hM (by omega), ?_⟩
                        try simp only [-eq_self, Int.toNat_natCast]
                        refine ⟨_, r_M_61 hM, _, ⟨s_M_1492 hM, by decide⟩, by omega, _, rr_M_1492 hM (by omega), ?_⟩
                        try simp only [-eq_self, Int.toNat_natCast]
                        refine ⟨_, ⟨sr_M_1492 hM (by omega), by decide⟩, by omega, _, ⟨sr_M_1371 hM (by omega), by decide⟩, by omega, ?_⟩
                        intro I61 e_I61; subst e_I61
                        exact ih132 _ (by omega) _ _ _ rfl (⟨j + 1, rfl, by omega, by omega, fun q hq => by rw [jx_u_r _ _ _ (by omega)]; exact hfrK3 q hq, fun k j2 h h2 => by rw [jx_u_r _ _ _ (by omega)]; exact hrwK3 k j2 h h2, fun j2 h => by
                          have hsrc : Int32.ofInt (K3 (a0 + 1493 + i) j).toInt = I26 (a0 + 1493 + i) j := by rw [hfrK3 _ (by omega)]; exact Int32.ofInt_toInt _
                          rcases Nat.lt_or_ge j2 j with c | c
                          · rw [jx_u_k _ _ _ _ (by omega)]; exact hinK3 j2 c
                          · have : j2 = j := by omega
                            subst this
                            rw [jx_us (by omega)]
                            exact hsrc⟩)
                    exact L132 _ _ _ _ rfl (⟨0, rfl, rfl, by omega, hfrK2, hrwK2, fun j2 h => absurd h (by omega)⟩)
                exact L122 _ _ _ rfl (⟨0, rfl, by omega, fun _ _ => rfl, fun k j h => absurd h (by omega)⟩)
              · exact absurd h255 hq8
            · have he : ¬ pEnd T 0 p1 := by show ¬ (if 0 = 0 then _ else _); rw [if_pos rfl]; omega
              have hn60b : n60 = 1 + ((T.length : Int) - (p1 : Int)).toNat := by rw [hn60, if_neg (fun k => k hq5), h41]
              refine ⟨_, by omega, _, (G3_all hV hM hT200 hW0.1 hW0.2 6 0 (by omega) rfl).2 200 f2 (0 + A1.length) (0 + A2.length) (0 + A3.length) p1 _ _ ⟨p1, hp1l, hp1.2, hT1⟩ hP1 hb1 (by omega) hLK (by omega), ?_⟩
              rintro _ I31 ⟨rfl, hS31, hF31⟩
              refine ⟨rfl, ?_⟩
              obtain ⟨p6, fk6, fa6, hT66, hX66, hY66⟩ : ∃ (p : Nat) (fk fa : Int), RTX I31 a0 T (p : Int) fk fa ∧ (∀ I2, RTX I2 a0 T (skB T p : Nat) fk fa → RST I2 a0 T ((pStpS T (Ln l) (Lm l) (pSteps T (Ln l) (Lm l) f2) 0 p1 (0 + A1.length) (0 + A2.length) (0 + A3.length)).bind (fun a => .ok a.2.2.2))) ∧ ∀ s, (pStpS T (Ln l) (Lm l) (pSteps T (Ln l) (Lm l) f2) 0 p1 (0 + A1.length) (0 + A2.length) (0 + A3.length)).bind (fun a => .ok a.2.2.2) = .ok s → skB T p = s ∧ fk = 0 ∧ fa = -1 := RST_x (RPS_r hS31)
              refine ⟨_, cz_207h hV hM hT66, ?_⟩
              rintro _ I35 ⟨rfl, hT67, hF66⟩
              refine ⟨rfl, ?_⟩
              obtain ⟨hB66, hm66⟩ := BLS_step hT200 hW0.1 hW0.2 hFK hE hf1 hp1 hR1 hb1 he hS31 hF31 hF66 (fun r hr => by
                have h9 := hY66 r.2.2.2 (by rw [hr]; rfl)
                rw [h9.1, h9.2.1, h9.2.2] at hT67
                exact hT67) (fun e he2 => by
                have h9 := hX66 _ hT67
                rw [he2] at h9
                exact h9)
              have hm9 : (if (I35 a0 5).toInt ≠ 0 then 0 else 1 + ((T.length : Int) - (I35 a0 4).toInt).toNat) < n60 := by
                rcases hm66 with h | ⟨h, h1, h2⟩
                · rw [if_pos h]; omega
                · rw [if_neg (fun k => k h)]; omega
              exact ih60 _ (by omega) _ rfl (hB66)
        exact L60 _ _ rfl (⟨FP_refl, Or.inr ⟨[], [], [], skB T 0, T.length + 1, hE0, by omega, hT21, hAT0.1, hP21, RPR_nil, Nat.zero_le _, Nat.le_refl _, Nat.zero_le _⟩⟩)
      · exact absurd hq4 (by decide)
    · refine hJ30 _ _ _ ?_
      unfold wz_307_30
      refine ⟨s_M_0 hM, ?_⟩
      refine ⟨_, cz_202b hV hM h00 (by omega) (by omega), ?_⟩
      rintro _ I11 ⟨rfl, e9⟩; replace e9 := e9.symm; subst e9
      refine ⟨_, rfl, ?_⟩
      refine ⟨by omega, ?_⟩
      refine ⟨fun hq15 => ?_, fun hq15 => ?_⟩
      · exact absurd hq15 (by decide)
      · exact Or.inr ⟨_, _, nzw_f (fun k => by omega), rfl, _, rfl⟩
