/-! ===== the reference: joins, leads, walks ===== -/
theorem pls_no {l : LT} {s : RN} {q : Nat} (h : Lr l (yHe s) q = 0) : pls l s 0 (q : Int) = ((yHe s, yHo s, yLo s + 1), s.2) := by
  unfold pls
  rw [if_pos rfl, Int.toNat_natCast, if_pos h]
theorem pls_go {l : LT} {s : RN} {q : Nat} (h : Lr l (yHe s) q ≠ 0) : pls l s 0 (q : Int) = ((q, yHo s + (Lr l (yHe s) q + hlt (Lc l) ((yL s).map (yG s q)) (nd (Lk l q))), yLo s), s.2.1, yL s, cmg (Lk l q) (Lo l) (yL s) q (yG s) (yD s), cmd (Lo l) (yL s) q (yG s) (yD s)) := by
  unfold pls
  rw [if_pos rfl, Int.toNat_natCast, if_neg h]
/-- GrievingCamelsModel.joins -/
theorem cz_312 {V : jx_V} (hV : V.1.stackTraces = false) {X : jx_X} {R : jx_R} {I : jx_I} {a0 : Nat} {a1 : Int} {x : Nat} {L : List Nat}
    (hM : MX X R a0) (hL : ML I a0 46 (a0 + 1364) L) (h1 : a1 = (x : Int)) (hx : x < 2147483648) (hL8 : L.length ≤ 8) (h8 : x ∉ L → L.length < 8)
    {QE : String → jx_I → Prop} : jc V 2 312 (0, 0) [.ref a0, jy a1] X I R (fun rv I' => rv = none ∧ ML I' a0 46 (a0 + 1364) (if x ∈ L then L else L ++ [x]) ∧ FL a0 I I') QE := by
  refine wm_312 hV (by omega)  ?_
  have hm := hL.1
  unfold wz_312
  refine ⟨s_M_0 hM, ?_⟩
  refine ⟨_, cz_252 hV hM hL hL8 h1 hx, ?_⟩
  rintro _ I4 ⟨rfl, e9⟩; replace e9 := e9.symm; subst e9
  refine ⟨_, rfl, ?_⟩
  refine ⟨by omega, ?_⟩
  refine ⟨fun hq1 => ?_, fun hq1 => ?_⟩
  · have cx := bi_f hq1
    have h9 := h8 cx
    refine ⟨_, r_M_44 hM, _, ⟨s_M_1364 hM, by decide⟩, by omega, ?_⟩
    intro I12 e_I12; subst e_I12
    intro I13 e_I13; subst e_I13
    rw [if_neg cx]
    refine ⟨rfl, ⟨by rw [jx_u_s, jx_u_a _ _ _ _ (by omega), hm, jy_toInt (by omega), List.length_append, List.length_singleton]; omega, fun k y hk => ?_⟩, fun q h5 h6 => by rw [jx_u_r _ _ _ h5, jx_u_r _ _ _ h6], fun k hk => by rw [jx_u_k _ _ _ _ hk, jx_u_a _ _ _ _ (by omega)]⟩
    rw [jx_u_r _ _ _ (by omega), hm, Int.toNat_natCast]
    rcases Nat.lt_or_ge k L.length with e | e
    · rw [List.getElem?_append_left e] at hk
      rw [jx_u_k _ _ _ _ (by omega)]
      exact hL.2 k y hk
    · have e2 := gi_lt hk
      rw [List.length_append, List.length_singleton] at e2
      have e3 : k = L.length := by omega
      subst e3
      rw [List.getElem?_append_right (Nat.le_refl _), Nat.sub_self] at hk
      rw [jx_u_s, h1, Option.some.inj hk]
      exact jy_toInt (by have := Option.some.inj hk; omega)
  · have cx := bi_t hq1
    rw [if_pos cx]
    exact ⟨rfl, hL, fun _ _ _ => rfl, fun _ _ => rfl⟩
/-- GrievingCamelsModel.leads -/
theorem cz_313 {V : jx_V} (hV : V.1.stackTraces = false) {X : jx_X} {R : jx_R} {I : jx_I} {a0 : Nat} {a1 : Int} {x : Nat} {L : List Nat}
    (hM : MX X R a0) (hL : ML I a0 46 (a0 + 1364) L) (h1 : a1 = (x : Int)) (hx : x < 2147483648) (hL8 : L.length ≤ 8) (h8 : (L.filter (fun c => c != x)).length < 8)
    {QE : String → jx_I → Prop} : jc V 2 313 (0, 0) [.ref a0, jy a1] X I R (fun rv I' => rv = none ∧ ML I' a0 46 (a0 + 1364) (x :: L.filter (fun c => c != x)) ∧ FL a0 I I') QE := by
  obtain ⟨M, hMM⟩ : ∃ M, M = L.filter (fun c => c != x) := ⟨_, rfl⟩
  rw [← hMM] at h8 ⊢
  refine wm_313 hV (by omega)  (fun J10 hJJ => ?_)
  have hJ10 := hJJ
  unfold wz_313
  refine ⟨s_M_0 hM, ?_⟩
  refine ⟨_, cz_311 hV hM hL hL8 h1 hx, ?_⟩
  rintro _ I4 ⟨rfl, hL4, hF4⟩
  refine ⟨rfl, ?_⟩
  rw [← hMM] at hL4
  have hm := hL4.1
  have L10 : ∀ (n10 : Nat) (l2 : Int) (K : jx_I), n10 = l2.toNat → (∃ i : Nat, l2 = i ∧ i ≤ M.length ∧ (∀ k, k ≤ i → K (a0 + 1364) k = I4 (a0 + 1364) k) ∧ (∀ k, i < k → k ≤ M.length → K (a0 + 1364) k = I4 (a0 + 1364) (k - 1)) ∧ ∀ q, q ≠ a0 + 1364 → K q = I4 q) → J10 l2 K := by
    intro n10
    induction n10 using Nat.strongRecOn with
    | ind n10 ih10 =>
    intro l2 K hn10 hI10
    obtain ⟨i, rfl, hi, h2, h3, hF⟩ := hI10
    refine hJ10 _ _ ?_
    unfold wz_313_10
    refine ⟨by omega, ?_⟩
    refine ⟨fun hq1 => ?_, fun hq1 => ?_⟩
    · refine ⟨s_M_0 hM, _, r_M_44 hM, _, ⟨s_M_1364 hM, by decide⟩, by omega, ?_⟩
      intro I13 e_I13; subst e_I13
      intro I14 e_I14; subst e_I14
      have hi0 : i = 0 := by omega
      subst hi0
      have hK : (K a0 46).toInt = M.length := by rw [hF a0 (by omega)]; exact hm
      refine ⟨rfl, ⟨by rw [jx_u_s, jx_u_a _ _ _ _ (by omega), hK, jy_toInt (by omega), List.length_cons]; omega, fun k y hk => ?_⟩, fun q h5 h6 => by rw [jx_u_r _ _ _ h5, jx_u_r _ _ _ h6, hF q h6, hF4.1 q h5 h6], fun k hk => by rw [jx_u_k _ _ _ _ hk, jx_u_a _ _ _ _ (by omega), hF a0 (by omega), hF4.2 k hk]⟩
      rw [jx_u_r _ _ _ (by omega)]
      cases k with
      | zero => simp at hk; rw [show (0 : Int).toNat = 0 from rfl, jx_u_s, h1, hk]; exact jy_toInt (by omega)
      | succ k =>
        simp at hk
        have h9 : k < M.length := gi_lt hk
        rw [show (0 : Int).toNat = 0 from rfl, jx_u_k _ _ _ _ (by omega), h3 _ (by omega) (by omega)]
        exact hL4.2 k y hk
    · refine ⟨s_M_0 hM, _, r_M_44 hM, _, ⟨s_M_1364 hM, by decide⟩, by omega, by omega, ?_⟩
      intro I22 e_I22; subst e_I22
      exact ih10 _ (by omega) _ _ rfl (⟨i - 1, by omega, by omega, fun k hk => by rw [jx_u_k _ _ _ _ (by omega)]; exact h2 k (by omega), fun k hk hk2 => by
        rcases Nat.lt_or_ge i k with h | h
        · rw [jx_u_k _ _ _ _ (by omega)]; exact h3 k h hk2
        · have e : k = i := by omega
          subst e
          rw [Int.toNat_natCast, jx_u_s, Int32.ofInt_toInt, show ((k : Int) - 1).toNat = k - 1 by omega, h2 _ (by omega)], fun q hq => by rw [jx_u_r _ _ _ hq]; exact hF q hq⟩)
  exact L10 _ _ _ rfl (⟨M.length, by omega, by omega, fun k _ => rfl, fun k h1 h2 => by omega, fun _ _ => rfl⟩)
/-- GrievingCamelsModel.walks -/
theorem cz_314 {V : jx_V} (hV : V.1.stackTraces = false) {X : jx_X} {R : jx_R} {I : jx_I} {a0 : Nat} {a1 : Int} {l : LT} {s : RN} {q : Nat}
    (hM : MX X R a0) (hD : MD I a0 l) (hW : WT l) (hR : MR I a0 l s) (hr : WR 1 l s) (h1 : a1 = (q : Int)) (hq : q < Ln l)
    {QE : String → jx_I → Prop} : jc V 5 314 (0, 0) [.ref a0, jy a1] X I R (fun rv I' => rv = none ∧ MR I' a0 l (pls l s 0 (q : Int)) ∧ FK a0 YK I I') QE := by
  have hW0 := hW.1
  have hW0 := hW.1
  have hr1 := hr.1
  have hr2 := hr.2.1
  have hr3 := hr.2.2.1
  have hr4 := hr.2.2.2.1
  have h66 := hR.1.1
  have h67 := hR.1.2.1
  have h68 := hR.1.2.2.1
  have hrd := hD.2.2.1 (yHe s) q hr1 hq
  have hrw := (hW.2.2.1 (yHe s) q hr1 hq).1
  have hht := hlt_rng (Lc l) ((yL s).map (yG s q)) (nd (Lk l q))
  have h18 : ∀ v, MN (jx_u I a0 67 v) a0 l (yL s) (yG s) (yD s) := fun v => MN_c hR.2 hW (jx_u_k _ _ _ _ (by omega)) (fun z h5 h6 => jx_u_r _ _ _ (by omega))
  have hD18 : ∀ v, MD (jx_u I a0 67 v) a0 l := fun v => FK_MD hD (FK_f (ks := [67]) FK_refl (by decide)) (by decide) hW
  subst h1
  refine wm_314 hV (by omega)  ?_
  unfold wz_314
  refine ⟨s_M_0 hM, _, r_M_21 hM, _, ⟨s_M_24 hM, by decide⟩, by omega, _, rr_M_24 hM (by omega), _, ⟨sr_M_24 hM (by omega), by decide⟩, ?_⟩
  try simp only [-eq_self, h66, Int.toNat_natCast, hrd, h67, h68]
  refine ⟨by omega, ?_⟩
  refine ⟨fun hq1 => ?_, fun hq1 => ?_⟩
  · refine ⟨by omega, _, rr_M_24 hM (by omega), _, ⟨sr_M_24 hM (by omega), by decide⟩, ?_⟩
    try simp only [-eq_self, h66, Int.toNat_natCast, hrd, h67]
    refine ⟨by omega, ?_⟩
    intro I18 e_I18; subst e_I18
    refine ⟨_, cz_255 hV hM (hD18 _) hW (h18 _) (WR_g hr hW) hr.2.2.2.2.2.2.2 (WR_8 hr hW) hr.2.2.2.2.2.2.1 rfl hq, ?_⟩
    rintro _ I21 ⟨rfl, hN, hF⟩
    refine ⟨_, rfl, ?_⟩
    intro I23 e_I23; subst e_I23
    intro I24 e_I24; subst e_I24
    rw [pls_go hq1]
    have e67 : (jx_u I a0 67 (Int32.ofInt (yHo s + Lr l (yHe s) q)) a0 67).toInt = yHo s + Lr l (yHe s) q := by rw [jx_u_s]; exact jy_toInt (by omega)
    simp only [-eq_self, e67]
    have k21 : ∀ j, j ≠ 67 → I21 a0 j = I a0 j := fun j hj => by rw [hF a0 (by omega) (by omega), jx_u_k _ _ _ _ hj]
    refine ⟨rfl, ⟨⟨?_, ?_, ?_, ?_, ?_⟩, MN_c hN hW (by rw [jx_u_k _ _ _ _ (by omega), jx_u_k _ _ _ _ (by omega)]) (fun z h5 h6 => by rw [jx_u_r _ _ _ (by omega), jx_u_r _ _ _ (by omega)])⟩, FK_f (FK_f (FK_trans (FK_f FK_refl (by decide)) (FK_c hF)) (by decide)) (by decide)⟩
    · rw [jx_u_s]; exact jy_toInt (by omega)
    · rw [jx_u_k _ _ _ _ (by omega), jx_u_s, jy_toInt (by omega)]
      show _ = yHo s + (Lr l (yHe s) q + hlt (Lc l) ((yL s).map (yG s q)) (nd (Lk l q)))
      omega
    · rw [jx_u_k _ _ _ _ (by omega), jx_u_k _ _ _ _ (by omega), k21 68 (by decide)]; exact h68
    · rw [jx_u_k _ _ _ _ (by omega), jx_u_k _ _ _ _ (by omega), k21 69 (by decide)]; exact hR.1.2.2.2.1
    · rw [jx_u_k _ _ _ _ (by omega), jx_u_k _ _ _ _ (by omega), k21 70 (by decide)]; exact hR.1.2.2.2.2
  · intro I25 e_I25; subst e_I25
    rw [pls_no hq1]
    exact ⟨rfl, ⟨⟨by rw [jx_u_k _ _ _ _ (by omega)]; exact h66, by rw [jx_u_k _ _ _ _ (by omega)]; exact h67, by rw [jx_u_s]; exact jy_toInt (by omega), by rw [jx_u_k _ _ _ _ (by omega)]; exact hR.1.2.2.2.1, by rw [jx_u_k _ _ _ _ (by omega)]; exact hR.1.2.2.2.2⟩, MN_c hR.2 hW (jx_u_k _ _ _ _ (by omega)) (fun z h5 h6 => jx_u_r _ _ _ (by omega))⟩, FK_f FK_refl (by decide)⟩
