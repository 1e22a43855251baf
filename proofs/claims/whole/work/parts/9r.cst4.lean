/-! ===== the class reads a step ===== -/
theorem pStep_b {T : List Int} {ln lm : Nat} {rec : PRC} {o s n t v q : Nat} {k : Int} (hk : k = kst (wrd T s)) (h : k ≠ -1) (hq : q = skB T (s + (wrd T s).length)) : pStep T ln lm rec o s n t v = pBody T ln lm rec o n t v k q := by
  subst hq
  unfold pStep
  rw [← hk, if_neg h]
theorem pBody_0 {T : List Int} {ln lm : Nat} {rec : PRC} {o n t v q : Nat} {k : Int} {a : PA} (hk : k < 7) (ha : pArgs T ln lm k q v = .ok a) : pBody T ln lm rec o n t v k q = .ok (pS0 n t k a) := by
  unfold pBody
  rw [px_o ha, if_pos hk]
  rfl
theorem pArgs_h {T : List Int} {ln lm q v : Nat} {k : Int} (h : k < 7) (h2 : ¬ (k = 2 ∨ k = 3)) : pArgs T ln lm k q v = (pNum T 0 (hiN ln lm k) q).bind (fun r => .ok (r.1, [], [], r.2)) := by
  unfold pArgs pArg
  rw [if_pos h, if_neg h2]
  rfl
theorem SB0 {I K : jx_I} {y tp ld : Nat} {T : List Int} {fd : Int} {ln lm o n t v : Nat} {k : Int} {a : PA} (h : CA I K y tp ld T fd ln lm n v k a) (hk : 0 ≤ k ∧ k < 7) (h1 : a.2.1 = [] ∧ a.2.2.1 = []) : CPO K y tp T fd n t v (pS0 n t k a) ∧ NBH K y n o (pS0 n t k a) := by
  obtain ⟨_, g2, g3, _, g5, g6, _⟩ := h
  refine ⟨⟨g2, ⟨fun i e he => ?_, g5⟩, ?_, ?_⟩, ⟨g3.2.2.1, _, [], rfl, ?_, Nat.le_refl _, rfl, fun F _ => ⟨fun h => ?_, fun h => ?_⟩⟩⟩
  · cases i with
    | zero =>
      cases he
      refine ⟨⟨?_, g3.2.1, fun h => ?_, fun h => ?_⟩, fun h => ?_⟩
      · rw [show n + 0 = n from rfl, g3.1]; show k = ((k.toNat : Nat) : Int); omega
      · have : 7 ≤ k.toNat := h; omega
      · have : k.toNat = 9 := h; omega
      · have : 8 ≤ k.toNat := h; omega
    | succ i => cases he
  · exact g6.1
  · exact g6.2
  · show n < n + 1; omega
  · have : 7 ≤ k.toNat := h; omega
  · have : k.toNat = 9 := h; omega
/-- GrievingCamels$Plan.readStep -/
theorem cz_57s {V : jx_V} (hV : V.1.stackTraces = false) {d : Nat} {X : jx_X} {R : jx_R} {I : jx_I} {a0 : Nat} {a1 : Nat} {a2 : Nat} {a3 : Int} {T : List Int} {fd : Int} {s t v n ln lm o f : Nat}
    (hy : BX X R a0 TPlan) (ht : BX X R a1 TTape) (hl : BX X R a2 TLand) (hln : ln ≤ 10) (hlm : lm ≤ 8) (hdy : a1 + 2 ≤ a0 ∨ a0 + 12 ≤ a1) (hla : a2 ≠ a1 ∧ (a2 < a0 ∨ a0 + 12 ≤ a2)) (h200 : T.length ≤ 200) (ho : o ≤ 6) (h3 : a3 = (o : Int)) (hpre : CPre I a0 a1 a2 T fd ln lm n v s) (hb : 4 * n ≤ s ∧ t ≤ n ∧ 2 * v ≤ s) (hf : T.length ≤ f + s) (hd : 10 + 4 * (6 - o) ≤ d) (ih : G60 V X R a0 a1 a2 T fd ln lm o)
    {QE : String → jx_I → Prop} : jc V d 57 (0, 0) [.ref a0, .ref a1, .ref a2, jy a3] X I R (CAns a0 a1 T fd n t v I (pStep T ln lm (pSteps T ln lm f) o s n t v) (fun I2 z => NBH I2 a0 n o z)) QE := by
  obtain ⟨hc, h11, h12, hL⟩ := id hpre
  obtain ⟨hAT, wf, we, nf, hT⟩ := id hc
  have hsl := hAT.1
  have h6 := hT.2.1
  obtain ⟨k, hke⟩ : ∃ k, k = kst (wrd T s) := ⟨_, rfl⟩
  have hkr := kst_r (wrd T s)
  rw [← hke] at hkr
  have hwl := wrd_le hsl
  obtain ⟨q, hq⟩ : ∃ q, q = skB T (s + (wrd T s).length) := ⟨_, rfl⟩
  have hAq := AT_s hwl
  rw [← hq] at hAq
  have hAq2 := hAq.2
  have hAq1 := hAq.1.1
  refine wm_57 hV (by omega)  (fun J138 hJJ => ?_)
  have hJ138 := hJJ
  unfold wz_57
  refine ⟨s_Tape_0 ht, ?_⟩
  refine ⟨by omega, _, cz_116 hV ht hT hsl, ?_⟩
  rintro _ I5 ⟨rfl, hT5, hF5⟩
  refine ⟨rfl, ?_⟩
  rw [← hq] at hT5
  have h511 : (I5 a0 11).toInt = (n : Int) := by rw [hF5 a0 (by omega)]; exact h11
  have h512 : (I5 a0 12).toInt = (v : Int) := by rw [hF5 a0 (by omega)]; exact h12
  refine ⟨s_Plan_0 hy, ?_⟩
  refine ⟨by omega, _, cz_65 hV hy ht hT5 hsl, ?_⟩
  rintro _ I11 ⟨rfl, e9⟩; replace e9 := e9.symm; subst e9
  refine ⟨_, rfl, ?_⟩
  rw [← hke]
  simp only [-eq_self, h511, Int.toNat_natCast]
  refine ⟨by omega, ?_⟩
  refine ⟨fun hq1 => ?_, fun hq1 => ?_⟩
  · refine ⟨fun hq2 => ?_, fun hq2 => ?_⟩
    · intro I14 e_I14
      refine ⟨_, r_Plan_0_0 hy, _, ⟨s_Plan_1 hy, by decide⟩, by omega, ?_⟩
      intro I20 e_I20
      refine ⟨_, r_Plan_0_1 hy, _, ⟨s_Plan_2 hy, by decide⟩, by omega, ?_⟩
      intro I26 e_I26
      refine ⟨_, r_Plan_0_2 hy, _, ⟨s_Plan_3 hy, by decide⟩, by omega, ?_⟩
      intro I32 e_I32
      refine ⟨_, r_Plan_0_3 hy, _, ⟨s_Plan_4 hy, by decide⟩, by omega, ?_⟩
      intro I38 e_I38
      refine ⟨_, r_Plan_0_4 hy, _, ⟨s_Plan_5 hy, by decide⟩, by omega, ?_⟩
      intro I44 e_I44
      have hr0 : ∀ j, (j = 1 ∨ j = 2 ∨ j = 3 ∨ j = 4 ∨ j = 5) → I44 (a0 + j) n = (if j = 1 then Int32.ofInt k else if j = 2 then Int32.ofInt 0 else Int32.ofInt (-1)) := by
        intro j hj
        rcases hj with rfl | rfl | rfl | rfl | rfl
        · rw [e_I44, jx_u_r _ _ _ (by omega), e_I38, jx_u_r _ _ _ (by omega), e_I32, jx_u_r _ _ _ (by omega), e_I26, jx_u_r _ _ _ (by omega), e_I20, jx_u_s]; rfl
        · rw [e_I44, jx_u_r _ _ _ (by omega), e_I38, jx_u_r _ _ _ (by omega), e_I32, jx_u_r _ _ _ (by omega), e_I26, jx_u_s]; rfl
        · rw [e_I44, jx_u_r _ _ _ (by omega), e_I38, jx_u_r _ _ _ (by omega), e_I32, jx_u_s]; rfl
        · rw [e_I44, jx_u_r _ _ _ (by omega), e_I38, jx_u_s]; rfl
        · rw [e_I44, jx_u_s]; rfl
      have hrow : (I44 (a0 + 1) n).toInt = k ∧ (I44 (a0 + 2) n).toInt = 0 ∧ nxt I44 a0 n = -1 ∧ (I44 (a0 + 4) n).toInt = -1 ∧ (I44 (a0 + 5) n).toInt = -1 := by
        refine ⟨?_, ?_, ?_, ?_, ?_⟩
        · rw [hr0 1 (by omega)]; exact jy_toInt (by omega)
        · rw [hr0 2 (by omega)]; rfl
        · unfold nxt; rw [hr0 3 (by omega)]; rfl
        · rw [hr0 4 (by omega)]; rfl
        · rw [hr0 5 (by omega)]; rfl
      have hF44 : FPz a0 a1 n v I I44 := by
        rw [e_I44, e_I38, e_I32, e_I26, e_I20, e_I14]
        exact FPz_s (FPz_s (FPz_s (FPz_s (FPz_s (FPz_y (FPz_t hF5 (by omega))) (by omega) (Nat.le_refl _)) (by omega) (Nat.le_refl _)) (by omega) (Nat.le_refl _)) (by omega) (Nat.le_refl _)) (by omega) (Nat.le_refl _)
      have h44a : ∀ j, j ≠ 11 → I44 a0 j = I5 a0 j := fun j hj => by rw [e_I44, jx_u_r _ _ _ (by omega), e_I38, jx_u_r _ _ _ (by omega), e_I32, jx_u_r _ _ _ (by omega), e_I26, jx_u_r _ _ _ (by omega), e_I20, jx_u_r _ _ _ (by omega), e_I14, jx_u_k _ _ _ _ hj]
      have h4411 : (I44 a0 11).toInt = ((n + 1 : Nat) : Int) := by rw [e_I44, jx_u_r _ _ _ (by omega), e_I38, jx_u_r _ _ _ (by omega), e_I32, jx_u_r _ _ _ (by omega), e_I26, jx_u_r _ _ _ (by omega), e_I20, jx_u_r _ _ _ (by omega), e_I14, jx_u_s]; exact jy_toInt (by omega)
      have hpre44 : CPre I44 a0 a1 a2 T fd ln lm (n + 1) v q := by
        refine ⟨?_, h4411, by rw [h44a 12 (by decide)]; exact h512, LLM_r hL (hF44.1 a2 hla.1 (by omega) (by omega))⟩
        rw [e_I44, e_I38, e_I32, e_I26, e_I20, e_I14]
        exact CST_w (CST_w (CST_w (CST_w (CST_w (CST_w ⟨hAq.1, _, _, _, hT5⟩ (by omega)) (by omega)) (by omega)) (by omega)) (by omega)) (by omega)
      have hr442 := hrow.2.1
      refine ⟨fun hq3 => ?_, fun hq3 => ?_⟩
      · refine ⟨fun hq4 => ?_, fun hq4 => ?_⟩
        · refine ⟨by omega, ?_⟩
          refine ⟨fun hq5 => ?_, fun hq5 => ?_⟩
          · exfalso
            omega
          · have ha : pArgs T ln lm k q v = .ok (0, [], [], q) := pArgs_2 (by omega)
            have hCA : CA I44 I44 a0 a1 a2 T fd ln lm n v k (0, [], [], q) := ⟨FPz_refl, hpre44.1, ⟨hrow.1, hrow.2.1, hrow.2.2.1, hrow.2.2.2.2⟩, fun te h => (by cases h), fun i w h => (by cases h), ⟨hpre44.2.1, hpre44.2.2.1⟩, hpre44.2.2.2⟩
            obtain ⟨g1, g2⟩ := SB0 (o := o) (t := t) hCA (by omega) ⟨rfl, rfl⟩
            exact ⟨⟨_, rfl, Or.inl ⟨rfl, _, by rw [pStep_b hke (by omega) hq, pBody_0 (by omega) ha], g1, g2⟩⟩, hF44⟩
        · refine ⟨fun hq6 => ?_, fun hq6 => ?_⟩
          · refine ⟨by omega, ?_⟩
            refine ⟨fun hq7 => ?_, fun hq7 => ?_⟩
            · exfalso
              omega
            · have ha : pArgs T ln lm k q v = .ok (0, [], [], q) := pArgs_2 (by omega)
              have hCA : CA I44 I44 a0 a1 a2 T fd ln lm n v k (0, [], [], q) := ⟨FPz_refl, hpre44.1, ⟨hrow.1, hrow.2.1, hrow.2.2.1, hrow.2.2.2.2⟩, fun te h => (by cases h), fun i w h => (by cases h), ⟨hpre44.2.1, hpre44.2.2.1⟩, hpre44.2.2.2⟩
              obtain ⟨g1, g2⟩ := SB0 (o := o) (t := t) hCA (by omega) ⟨rfl, rfl⟩
              exact ⟨⟨_, rfl, Or.inl ⟨rfl, _, by rw [pStep_b hke (by omega) hq, pBody_0 (by omega) ha], g1, g2⟩⟩, hF44⟩
          · refine ⟨by omega, _, cz_58 hV ht hl hpre44.2.2.2 hln hlm hpre44.1 rfl (by omega), ?_⟩
            rintro _ I50 ⟨⟨r51, rfl, ho50⟩, hF50⟩
            refine ⟨_, rfl, ?_⟩
            have hr51 : -1 ≤ r51 ∧ r51 ≤ 99 := by
              have hhi : hiN ln lm k ≤ 99 := by unfold hiN; split; omega; split <;> omega
              rcases ho50 with ⟨_, _, _, h, h2⟩ | ⟨_, _, h, _⟩ <;> omega
            refine ⟨by omega, ?_⟩
            intro I53 e_I53; subst e_I53
            have h53 : (jx_u I50 (a0 + 2) n (Int32.ofInt r51) (a0 + 2) n).toInt = r51 := by rw [jx_u_s]; exact jy_toInt (by omega)
            refine hJ138 _ _ ?_
            unfold wz_57_138
            refine ⟨s_Plan_0 hy, _, r_Plan_0_1 hy, ?_⟩
            try simp only [-eq_self, Int.toNat_natCast]
            refine ⟨_, ⟨s_Plan_2 hy, by decide⟩, by omega, ?_⟩
            refine ⟨fun hq8 => ?_, fun hq8 => ?_⟩
            · obtain ⟨e, h1, h2, h3⟩ := ho50.resolve_left (fun ⟨q, _, _, h, _⟩ => by omega)
              exact ⟨⟨_, rfl, Or.inr ⟨rfl, e, by rw [pStep_b hke (by omega) hq]; exact pBody_e (by rw [pArgs_h (by omega) (by omega), px_e h1]), CST_w h3 (by omega)⟩⟩, FPz_trans hF44 (FPz_s (FPz_t hF50 (by omega)) (by omega) (Nat.le_refl _))⟩
            · obtain ⟨q2, h1, h2, h3, h4⟩ := ho50.resolve_right (fun ⟨e, _, h, _⟩ => by omega)
              have ha : pArgs T ln lm k q v = .ok (r51, [], [], q2) := by rw [pArgs_h (by omega) (by omega), px_o h1]
              have hCA := CA_n (k := k) hpre44 hrow hF50 hdy hla (r := r51) (by omega) q2 h2
              obtain ⟨g1, g2⟩ := SB0 (o := o) (t := t) hCA (by omega) ⟨rfl, rfl⟩
              exact ⟨⟨_, rfl, Or.inl ⟨rfl, _, by rw [pStep_b hke (by omega) hq, pBody_0 (by omega) ha], g1, g2⟩⟩, FPz_trans hF44 hCA.1⟩
      · refine ⟨_, by omega, _, cz_59s (d := d - 1) (f := f) (t := t) (q := q) hV hy ht hl hln hlm hdy hla h200 ho rfl h3 hpre44 hrow (by omega) (by omega) (by omega) (by omega) ih, ?_⟩
        rintro _ I58 ⟨⟨r59, rfl, ho58⟩, hF58⟩
        refine ⟨_, rfl, ?_⟩
        refine ⟨by omega, ?_⟩
        exact ⟨⟨_, rfl, by rw [pStep_b hke (by omega) hq]; exact ho58⟩, FPz_trans hF44 hF58⟩
    · exfalso
      omega
  · refine ⟨by omega, _, cz_108 hV ht hT5 (by omega), ?_⟩
    rintro _ I70 ⟨rfl, hT70, hF70⟩
    refine ⟨_, rfl, ?_⟩
    refine ⟨by omega, ?_⟩
    exact ⟨⟨_, rfl, Or.inr ⟨rfl, _, by unfold pStep; rw [← hke, if_pos (by omega)], ⟨show (1 : Int) ≤ 1 by decide, show (1 : Int) ≤ 3 by decide⟩, _, _, _, _, hT70⟩⟩, FPz_trans (FPz_t hF5 (by omega)) (FPz_t hF70 (by omega))⟩
theorem G5_all {V : jx_V} (hV : V.1.stackTraces = false) {X : jx_X} {R : jx_R} {y tp ld : Nat} {T : List Int} {fd : Int} {ln lm : Nat} (hy : BX X R y TPlan) (ht : BX X R tp TTape) (hl : BX X R ld TLand) (hln : ln ≤ 10) (hlm : lm ≤ 8) (hdy : tp + 2 ≤ y ∨ y + 12 ≤ tp) (hla : ld ≠ tp ∧ (ld < y ∨ y + 12 ≤ ld)) (h200 : T.length ≤ 200) : ∀ (x o : Nat), o ≤ 6 → 6 - o = x → G56 V X R y tp ld T fd ln lm o := by
  intro x
  induction x with
  | zero =>
    intro o ho hx
    have h60 : G60 V X R y tp ld T fd ln lm o := fun d f n t v s I QE h1 h2 h4 h5 => cz_60s hV hy ht hl hln hlm hdy hla h200 ho rfl h1 h2 h4 h5 (fun h => absurd h (by omega))
    have h57 : G57 V X R y tp ld T fd ln lm o := fun d f n t v s I QE h1 h2 h4 h5 => cz_57s hV hy ht hl hln hlm hdy hla h200 ho rfl h1 h2 h4 h5 h60
    exact fun d f n t v s I QE h1 h2 h4 h5 => cz_56s hV hy ht hl hln hlm hdy hla h200 ho rfl h1 h2 h4 h5 h57
  | succ x ih =>
    intro o ho hx
    have h56 := ih (o + 1) (by omega) (by omega)
    have h60 : G60 V X R y tp ld T fd ln lm o := fun d f n t v s I QE h1 h2 h4 h5 => cz_60s hV hy ht hl hln hlm hdy hla h200 ho rfl h1 h2 h4 h5 (fun _ => h56)
    have h57 : G57 V X R y tp ld T fd ln lm o := fun d f n t v s I QE h1 h2 h4 h5 => cz_57s hV hy ht hl hln hlm hdy hla h200 ho rfl h1 h2 h4 h5 h60
    exact fun d f n t v s I QE h1 h2 h4 h5 => cz_56s hV hy ht hl hln hlm hdy hla h200 ho rfl h1 h2 h4 h5 h57
