/-! ===== the reference's land ===== -/
/-- the reference reads clauses -/
def LLS (I K : jx_I) (m : Nat) (T : List Int) (R0 : PX LB) : Prop := FLb m I K ∧ ((∃ e, R0 = .error e ∧ RER K m T e) ∨ ∃ (L : LB) (p f cnt : Nat), R0 = cCl T f cnt L p ∧ f + cnt = 61 ∧ cnt ≤ 60 ∧ RTX K m T (p : Int) 0 (-1) ∧ AT T p ∧ RLB K m L ∧ WB L ∧ (K m 7).toInt = (cnt : Int) ∧ (K m 25).toInt = 0)
theorem cCl_y {T : List Int} {f cnt p : Nat} {L : LB} (h : p < T.length) : cCl T (f + 1) cnt L p = ((cClause T cnt L p).bind (cSem T)).bind (fun w => cCl T f (cnt + 1) w.1 w.2) := by
  rw [cCl_s, if_neg (by omega)]
  cases cClause T cnt L p with
  | error e => rfl
  | ok r =>
    show (pSgn T 59 r.2).bind _ = ((pSgn T 59 r.2).bind _).bind _
    cases pSgn T 59 r.2 with
    | error e => rfl
    | ok q => rfl
theorem RCF_r {I : jx_I} {m cnt : Nat} {T : List Int} {y : PB} (h : RCF I m T cnt y) : RST I m T (y.bind (fun w => .ok w.2)) := by
  cases y with
  | error e => exact h
  | ok w => exact h.1
theorem LLS_step {I K K1 K2 : jx_I} {m : Nat} {T : List Int} {R0 : PX LB} {L : LB} {p f cnt : Nat} (h600 : T.length ≤ 600) (hF : FLb m I K) (hE : R0 = cCl T (f + 1) cnt L p) (hf : f + 1 + cnt = 61) (hp : AT T p) (hlt : p < T.length) (hW : WB L) (hS : RCF K1 m T cnt ((cClause T cnt L p).bind (cSem T))) (hF1 : FLb m K K1) (hF2 : FO m [4] K1 K2) (hR : RST K2 m T (((cClause T cnt L p).bind (cSem T)).bind (fun w => .ok w.2))) (hR2 : ∀ q, ((cClause T cnt L p).bind (cSem T)).bind (fun w => .ok w.2) = .ok q → RTX K2 m T (q : Int) 0 (-1)) : LLS I K2 m T R0 ∧ ((K2 m 5).toInt = 0 → ∃ q, p < q ∧ (K2 m 4).toInt = (q : Int)) := by
  rw [cCl_y hlt] at hE
  have hFF := FLb_trans hF (FLb_trans hF1 (FLb_o hF2 (by decide)))
  cases hy : (cClause T cnt L p).bind (cSem T) with
  | error e =>
    rw [hy] at hE hR
    refine ⟨⟨hFF, Or.inl ⟨e, hE, hR⟩⟩, fun h => ?_⟩
    obtain ⟨s, hs, _⟩ := RST_5 hR h
    cases hs
  | ok w =>
    rw [hy] at hE hS
    have hT2 := hR2 w.2 (by rw [hy]; rfl)
    obtain ⟨r, hr, hq⟩ := px_ok hy
    obtain ⟨w1, q⟩ := w
    have hw1 : w1 = r.1 := by
      replace hq : (pSgn T 59 r.2).bind (fun q => .ok (r.1, q)) = .ok (w1, q) := hq
      obtain ⟨q1, _, hq2⟩ := px_ok hq
      cases hq2; rfl
    subst hw1
    obtain ⟨o1, o2, o3, o4⟩ := cClause_ok h600 hp.1 hW hr
    have hAq : r.2 ≤ q := by
      replace hq : (pSgn T 59 r.2).bind (fun q => .ok (r.1, q)) = .ok (r.1, q) := hq
      obtain ⟨q1, hq1, hq2⟩ := px_ok hq
      cases hq2
      unfold pSgn at hq1
      split at hq1
      · rename_i h59
        cases hq1
        have hl := tat_in h59 (by decide)
        exact Nat.le_trans (Nat.le_succ _) (AT_s (T := T) (p := r.2 + 1) (by omega)).2
      · cases hq1
    obtain ⟨g1, g2, g3, g4⟩ := hS
    have hw2 := ROK_s g1
    exact ⟨⟨hFF, Or.inr ⟨r.1, q, f, cnt + 1, hE, by omega, by omega, hT2, hw2, RLB_o g2 hF2 (by decide), o3, by rw [hF2.2 7 (by decide)]; exact g3, by rw [hF2.2 25 (by decide)]; exact g4⟩⟩, fun _ => ⟨q, by omega, hT2.1.2.1⟩⟩
/-- the reference's land is told, or not -/
def RLN (I I' : jx_I) (m : Nat) : PX LB → Prop
  | .ok L => MSX I' m L.1 (CT0 L) ∧ (I' m 40).toInt = 0 ∧ (I' m 56).toInt = 0 ∧ (∀ q, q ≠ m → ¬ RDo m q → ¬ SDo m q → I' q = I q) ∧ ∀ k, k ∉ [0, 1, 2, 3, 4, 5, 6, 7, 24, 25] → k ∉ KSD → I' m k = I m k
  | .error _ => (∀ q, q ≠ m → ¬ RDo m q → I' q = I q) ∧ ∀ k, k ∉ [0, 1, 2, 3, 4, 5, 6, 7, 24, 25] → I' m k = I m k
/-- GrievingCamelsModel.land -/
theorem cz_228 {V : jx_V} (hV : V.1.stackTraces = false) {X : jx_X} {R : jx_R} {I : jx_I} {a0 : Nat} {a1 : Int} {B : List Int}
    (hM : MX X R a0) (hB : (I a0 1).toInt = (B.length : Int)) (h600 : B.length ≤ 600) (hb : ∀ (k : Nat) (x : Int), B[k]? = some x → (I (a0 + 1) k).toInt = x) (r_a1 : -2147483648 ≤ a1 ∧ a1 < 2147483648)
    {QE : String → jx_I → Prop} : jc V 202 228 (0, 0) [.ref a0, jy a1] X I R (fun rv I' => (nzw (0 ≤ a1 ∧ a1 ≤ (B.length : Int)) 2 1 none = none ∧ rv = some (jy (lnA (lno B a1.toNat))) ∧ (I' a0 3).toInt = lnF (lno B a1.toNat) ∧ (I' a0 0).toInt = 0 ∧ (I' a0 1).toInt = 0 ∧ RLN I I' a0 (lno B a1.toNat)) ∨ (∃ k w, nzw (0 ≤ a1 ∧ a1 ≤ (B.length : Int)) 2 1 none = some (k, w) ∧ I' = RM (jx_u I a0 0 (Int32.ofInt 0)) a0 k w ∧ ∃ x : Int, rv = some (jy x))) QE := by
  obtain ⟨T, hTd⟩ : ∃ T, T = B.take a1.toNat := ⟨_, rfl⟩
  unfold lno
  rw [← hTd]
  refine wm_228 hV (by omega)  (fun J23 J42 hJJ => ?_)
  obtain ⟨hJ23, hJ42⟩ := hJJ
  unfold wz_228
  refine ⟨s_M_0 hM, ?_⟩
  intro I2 e_I2; subst e_I2
  have h00 : (jx_u I a0 0 (Int32.ofInt 0) a0 0).toInt = 0 := by rw [jx_u_s]; rfl
  have h01 : (jx_u I a0 0 (Int32.ofInt 0) a0 1).toInt = (B.length : Int) := by rw [jx_u_k _ _ _ _ (by decide)]; exact hB
  simp only [-eq_self, h01]
  refine ⟨_, cz_203 hV (by omega) (by omega) (by omega), ?_⟩
  rintro _ I5 ⟨rfl, e9⟩; replace e9 := e9.symm; subst e9
  refine ⟨_, rfl, ?_⟩
  refine ⟨by omega, ?_⟩
  refine ⟨fun hq1 => ?_, fun hq1 => ?_⟩
  · have cin := bi_t hq1
    refine hJ23 _ _ _ ?_
    unfold wz_228_23
    refine ⟨s_M_0 hM, ?_⟩
    refine ⟨_, cz_202o hV hM h00 (by omega) (by omega), ?_⟩
    rintro _ I11 ⟨rfl, e9⟩; replace e9 := e9.symm; subst e9
    refine ⟨_, rfl, ?_⟩
    refine ⟨by omega, ?_⟩
    refine ⟨fun hq2 => ?_, fun hq2 => ?_⟩
    · have hTl : (T.length : Int) = a1 := by rw [hTd, List.length_take]; omega
      have hbT : ∀ (k : Nat) (x : Int), T[k]? = some x → (jx_u I a0 0 (Int32.ofInt 0) (a0 + 1) k).toInt = x := by
        intro k x h
        rw [jx_u_r _ _ _ (by omega)]
        rw [hTd, List.getElem?_take] at h
        split at h
        · exact hb k x h
        · cases h
      refine ⟨s_M_0 hM, ?_⟩
      refine ⟨_, cz_219 hV hM hTl.symm (by omega) hbT, ?_⟩
      rintro _ I17 ⟨rfl, hT17, hF17, h171, h177, h1725⟩
      refine ⟨rfl, ?_⟩
      refine ⟨_, cz_200 hV hM, ?_⟩
      rintro _ I21 ⟨rfl, hR21, hF21, hk21⟩
      refine ⟨rfl, ?_⟩
      have hT21 : RTX I21 a0 T (skB T 0 : Nat) 0 (-1) := by
        unfold RTX at hT17 ⊢
        rw [hk21 2 (by decide), hk21 4 (by decide), hk21 5 (by decide), hk21 6 (by decide), hF21.1 (a0 + 1) (by omega) (by unfold RDo; omega)]
        exact hT17
      have L42 : ∀ (n42 : Nat)  (K : jx_I), n42 = (if (K a0 5).toInt ≠ 0 then 0 else 1 + ((T.length : Int) - (K a0 4).toInt).toNat) → (LLS I21 K a0 T (cCl T 61 0 L00 (skB T 0))) → J42  K := by
        intro n42
        induction n42 using Nat.strongRecOn with
        | ind n42 ih42 =>
        intro  K hn42 hI42
        obtain ⟨hFK, hBK⟩ := id hI42
        refine hJ42 _ ?_
        unfold wz_228_42
        refine ⟨s_M_0 hM, ?_⟩
        refine ⟨fun hq3 => ?_, fun hq3 => ?_⟩
        · intro I24 e_I24; subst e_I24
          refine ⟨fun hq4 => ?_, fun hq4 => ?_⟩
          · rw [jx_u_k _ _ _ _ (by decide)] at hq4
            exact absurd hq4 hq3
          · obtain ⟨e, he1, g1, g2, p1, g3⟩ : ∃ e, (cCl T 61 0 L00 (skB T 0)) = .error e ∧ RER K a0 T e := by
              rcases hBK with h | ⟨L, p1, f1, cnt, _, _, _, hT1, _⟩
              · exact h
              · exact absurd hT1.1.2.2.1 hq3
            have hkK : ∀ k, k ∉ [0, 1, 2, 3, 4, 5, 6, 7, 24, 25] → K a0 k = I a0 k := fun k hk => by
              simp only [List.mem_cons, not_or] at hk
              rw [hFK.2 k (by simp [KL]; omega), hk21 k (by omega), hF17.2 k (by simp; omega), jx_u_k _ _ _ _ (by omega)]
            have hqK : ∀ q, q ≠ a0 → ¬ RDo a0 q → K q = I q := fun q h1 h2 => by rw [hFK.1 q h1 h2, hF21.1 q h1 h2, hF17.1 q h1, jx_u_r _ _ _ h1]
            rw [he1]
            exact Or.inl ⟨nzw_t ⟨by omega, by omega⟩, by rw [jx_u_k _ _ _ _ (by decide), g3.1.2.2.1]; rfl, by rw [jx_u_s, jy_toInt (jy_rng _)]; exact g3.1.2.2.2, by rw [jx_u_k _ _ _ _ (by decide), hFK.2 0 (by decide), hk21 0 (by decide), hF17.2 0 (by decide)]; exact h00, by rw [jx_u_k _ _ _ _ (by decide), hFK.2 1 (by decide), hk21 1 (by decide)]; exact h171, fun q h1 h2 => by rw [jx_u_r _ _ _ h1]; exact hqK q h1 h2, fun k hk => by rw [jx_u_k _ _ _ _ (by intro e; subst e; exact hk (by decide))]; exact hkK k hk⟩
        · obtain ⟨L, p1, f1, cnt, hE, hf1, hc1, hT1, hp1, hR1, hW1, h71, h251⟩ : ∃ (L : LB) (p f cnt : Nat), (cCl T 61 0 L00 (skB T 0)) = cCl T f cnt L p ∧ f + cnt = 61 ∧ cnt ≤ 60 ∧ RTX K a0 T (p : Int) 0 (-1) ∧ AT T p ∧ RLB K a0 L ∧ WB L ∧ (K a0 7).toInt = (cnt : Int) ∧ (K a0 25).toInt = 0 := by
            rcases hBK with ⟨e, _, g1, _, g, g2⟩ | h
            · have := g2.1.2.2.1; omega
            · exact h
          have hp1l := hp1.1
          have h41 := hT1.1.2.1
          have h42 := hT1.1.1
          simp only [-eq_self, h41, h42]
          obtain ⟨f2, rfl⟩ : ∃ g, f1 = g + 1 := ⟨f1 - 1, by omega⟩
          refine ⟨fun hq5 => ?_, fun hq5 => ?_⟩
          · intro I34 e_I34; subst e_I34
            refine ⟨fun hq6 => ?_, fun hq6 => ?_⟩
            · refine ⟨_, cz_229 hV hM (RLB_k hR1 (by decide)) hW1, ?_⟩
              rintro _ I37 ⟨rfl, hX37, h3740, h3756, hF37⟩
              refine ⟨rfl, ?_⟩
              refine ⟨_, r_M_11 hM, _, ⟨s_M_4 hM, by decide⟩, by omega, ?_⟩
              have hlast : cCl T 61 0 L00 (skB T 0) = .ok L := by rw [hE, cCl_s, if_pos (by omega)]
              rw [hlast]
              have h3k : ∀ k, k ∉ KSD → k ≠ 3 → I37 a0 k = K a0 k := fun k h1 h2 => by rw [hF37.2 k h1, jx_u_k _ _ _ _ h2]
              refine Or.inl ⟨nzw_t ⟨by omega, by omega⟩, ?_, ?_, ?_, ?_, hX37, h3740, h3756, fun q h1 h2 h3 => ?_, fun k h1 h2 => ?_⟩
              · show some (jy (I37 (a0 + 4) 1).toInt) = some (jy (Lm L.1 : Int)); rw [hX37.1.1.2]
              · rw [hF37.2 3 (by decide), jx_u_s, jy_toInt (jy_rng _)]; exact hT1.1.2.2.2
              · rw [h3k 0 (by decide) (by decide), hFK.2 0 (by decide), hk21 0 (by decide), hF17.2 0 (by decide)]; exact h00
              · rw [h3k 1 (by decide) (by decide), hFK.2 1 (by decide), hk21 1 (by decide)]; exact h171
              · rw [hF37.1 q h1 h3, jx_u_r _ _ _ h1, hFK.1 q h1 h2, hF21.1 q h1 h2, hF17.1 q h1, jx_u_r _ _ _ h1]
              · simp only [List.mem_cons, not_or] at h1
                rw [h3k k h2 (by omega), hFK.2 k (by simp [KL]; omega), hk21 k (by omega), hF17.2 k (by simp; omega), jx_u_k _ _ _ _ (by omega)]
            · rw [jx_u_k _ _ _ _ (by decide)] at hq6
              exact absurd hT1.1.2.2.1 hq6
          · refine ⟨_, cz_222 hV hM ⟨p1, hp1l, hp1.2, hT1⟩ hR1 hW1 h71 hc1 h251 (by omega), ?_⟩
            rintro _ I46 ⟨rfl, hS46, hF46⟩
            refine ⟨rfl, ?_⟩
            obtain ⟨p6, fk6, fa6, hT66, hX66, hY66⟩ := RST_x (RCF_r hS46)
            refine ⟨_, cz_207h hV hM hT66, ?_⟩
            rintro _ I50 ⟨rfl, hT50, hF50⟩
            refine ⟨rfl, ?_⟩
            have hn42b : n42 = 1 + ((T.length : Int) - (p1 : Int)).toNat := by rw [hn42, if_neg (fun k => k hq3), h41]
            obtain ⟨hB66, hm66⟩ := LLS_step (f := f2) (by omega) hFK hE hf1 hp1 (by omega) hW1 hS46 hF46 hF50 (hX66 _ hT50) (fun q hq => by
              have h9 := hY66 q hq
              rw [h9.1, h9.2.1, h9.2.2] at hT50
              exact hT50)
            clear hBK
            have hm9 : (if (I50 a0 5).toInt ≠ 0 then 0 else 1 + ((T.length : Int) - (I50 a0 4).toInt).toNat) < n42 := by
              by_cases c5 : (I50 a0 5).toInt = 0
              · obtain ⟨q, h1, h2⟩ := hm66 c5
                clear hm66
                rw [if_neg (fun k => k c5), h2]; omega
              · clear hm66
                rw [if_pos c5]; omega
            exact ih42 _ (by omega) _ rfl (hB66)
      exact L42 _ _ rfl (⟨FLb_refl, Or.inr ⟨L00, skB T 0, 61, 0, rfl, rfl, by omega, hT21, (AT_s (T := T) (p := 0) (Nat.zero_le _)).1, hR21, WB_0, by rw [hk21 7 (by decide)]; exact h177, by rw [hk21 25 (by decide)]; exact h1725⟩⟩)
    · exact absurd hq2 (by decide)
  · have cin := bi_f hq1
    refine hJ23 _ _ _ ?_
    unfold wz_228_23
    refine ⟨s_M_0 hM, ?_⟩
    refine ⟨_, cz_202b hV hM h00 (by omega) (by omega), ?_⟩
    rintro _ I11 ⟨rfl, e9⟩; replace e9 := e9.symm; subst e9
    refine ⟨_, rfl, ?_⟩
    refine ⟨by omega, ?_⟩
    refine ⟨fun hq7 => ?_, fun hq7 => ?_⟩
    · exact absurd hq7 (by decide)
    · exact Or.inr ⟨_, _, nzw_f (fun k => cin ⟨k.1, k.2⟩), rfl, _, rfl⟩
