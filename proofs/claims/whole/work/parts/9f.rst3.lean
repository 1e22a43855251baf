/-! ===== the reference reads a step ===== -/
theorem RPX_o {I K K2 : jx_I} {m : Nat} {T : List Int} {o n t v : Nat} {y : PX PS} (h : RPX I K m T o n t v y) (hF2 : FO m [4] K K2) (hS : RST K2 m T (y.bind (fun a => .ok a.2.2.2))) : RPX I K2 m T o n t v y := by
  obtain ⟨h1, _, h3⟩ := h
  refine ⟨FP_trans h1 (FP_o hF2 (by decide)), hS, ?_⟩
  intro r hr
  obtain ⟨e, B, g1, g2, g3, g4, g5⟩ := h3 r hr
  have hrow : ∀ q, q ≠ m → K2 q = K q := fun q hq => hF2.1 q hq
  refine ⟨e, B, g1, g2, by rw [hrow _ (by omega)]; exact g3, RPC_o g4 hF2 (by decide), fun i e he => RS1_e (g5.1 i e he) (hrow _ (by omega)), fun i e he => RT1_e (g5.2.1 i e he) (hrow _ (by omega)), fun i e he => RV1_e (g5.2.2 i e he) (hrow _ (by omega))⟩
theorem PA_d (z : PX PA) : ∃ a0, ∀ a, z = .ok a → a = a0 := by
  cases z with
  | error e => exact ⟨(0, [], [], 0), fun a h => by cases h⟩
  | ok a => exact ⟨a, fun b h => by cases h; rfl⟩
theorem pArgs_2 {T : List Int} {ln lm q v : Nat} {k : Int} (h : k = 2 ∨ k = 3) : pArgs T ln lm k q v = .ok (0, [], [], q) := by unfold pArgs pArg; rw [if_pos (by omega), if_pos h]; rfl
theorem pArgs_0 {T : List Int} {ln lm q v : Nat} {k : Int} (h : k = 0) : pArgs T ln lm k q v = (pNum T 0 ((ln : Int) - 1) q).bind (fun r => .ok (r.1, [], [], r.2)) := by unfold pArgs pArg; rw [if_pos (by omega), if_neg (by omega), if_pos h]
theorem pArgs_1 {T : List Int} {ln lm q v : Nat} {k : Int} (h : k = 1) : pArgs T ln lm k q v = (pNum T 0 99 q).bind (fun r => .ok (r.1, [], [], r.2)) := by unfold pArgs pArg; rw [if_pos (by omega), if_neg (by omega), if_neg (by omega), if_pos h]
theorem pArgs_4 {T : List Int} {ln lm q v : Nat} {k : Int} (h : 4 ≤ k ∧ k < 7) : pArgs T ln lm k q v = (pNum T 0 ((lm : Int) - 1) q).bind (fun r => .ok (r.1, [], [], r.2)) := by unfold pArgs pArg; rw [if_pos (by omega), if_neg (by omega), if_neg (by omega), if_neg (by omega)]
theorem pArgs_7 {T : List Int} {ln lm q v : Nat} {k : Int} (h : k = 7) : pArgs T ln lm k q v = (pNum T 0 20 q).bind (fun r => .ok (r.1, [], [], r.2)) := by unfold pArgs; rw [if_neg (by omega), if_pos h]
theorem pArgs_8 {T : List Int} {ln lm q v : Nat} {k : Int} (h : 8 ≤ k) : pArgs T ln lm k q v = (pTest T lm q v).bind (fun r => .ok (0, [r.1], r.2.1, r.2.2)) := by unfold pArgs; rw [if_neg (by omega), if_neg (by omega)]
theorem pY_n {T : List Int} {ln lm : Nat} {rec : PRC} {o s n t v : Nat} (h : kst (wrd T s) = -1) : pStpS T ln lm rec o s n t v = .error (1, s) := by unfold pStpS pStep; rw [if_pos h]; rfl
theorem pY_0 {T : List Int} {ln lm : Nat} {rec : PRC} {o s n t v : Nat} {k : Int} (hk : k = kst (wrd T s)) (h : k ≠ -1) (h7 : k < 7) : pStpS T ln lm rec o s n t v = ((pArgs T ln lm k (skB T (s + (wrd T s).length)) v).bind (fun a => .ok (pS0 n t k a))).bind (pSem T) := by
  unfold pStpS pStep
  rw [← hk, if_neg h]
  unfold pBody
  cases pArgs T ln lm k (skB T (s + (wrd T s).length)) v with
  | error e => rfl
  | ok a => show ((if k < 7 then _ else _ : PX PS)).bind _ = _; rw [if_pos h7]; rfl
theorem pY_7 {T : List Int} {ln lm : Nat} {rec : PRC} {o s n t v : Nat} {k : Int} (hk : k = kst (wrd T s)) (h : k ≠ -1) (h7 : ¬ k < 7) : pStpS T ln lm rec o s n t v = ((pArgs T ln lm k (skB T (s + (wrd T s).length)) v).bind (fun a => (pBlk T rec o a.2.2.2 (n + 1) (t + a.2.1.length) (v + a.2.2.1.length)).bind (fun b => pElse T rec o n t v k a b))).bind (pSem T) := by
  unfold pStpS pStep
  rw [← hk, if_neg h]
  unfold pBody
  cases pArgs T ln lm k (skB T (s + (wrd T s).length)) v with
  | error e => rfl
  | ok a => show ((if k < 7 then _ else _ : PX PS)).bind _ = _; rw [if_neg h7]; rfl
/-- .. up to its first block -/
def pY6 (T : List Int) (rec : PRC) (o n t v : Nat) (k : Int) (z : PX PA) : PX PS := z.bind (fun a => (pBlk T rec o a.2.2.2 (n + 1) (t + a.2.1.length) (v + a.2.2.1.length)).bind (fun b => .ok (pS1 n t k a b)))
theorem pElse_n {T : List Int} {rec : PRC} {o n t v : Nat} {k : Int} {a : PA} {b : PS} (h : k ≠ 9 ∨ wrd T b.2.2.2 ≠ sbi 33) : (pElse T rec o n t v k a b).bind (pSem T) = pSem T (pS1 n t k a b) := by
  unfold pElse
  by_cases c : k = 9 ∧ wrd T b.2.2.2 ≠ []
  · rw [if_pos c, if_neg (by rcases h with h | h; exact absurd c.1 h; exact h)]
    show Except.error (1, b.2.2.2) = pSem T (pS1 n t k a b)
    have hl : ¬ tat T b.2.2.2 = 59 := by
      intro h9
      exact c.2 (wrd_0 (by omega))
    show _ = (pSgn T 59 b.2.2.2).bind _
    unfold pSgn
    rw [if_neg hl]
    rfl
  · rw [if_neg c]
    rfl
theorem pY6_n {T : List Int} {rec : PRC} {o n t v : Nat} {k : Int} {z : PX PA} (h : k ≠ 9 ∨ ∀ q, (pY6 T rec o n t v k z).bind (fun a => .ok a.2.2.2) = .ok q → wrd T q ≠ sbi 33) : (z.bind (fun a => (pBlk T rec o a.2.2.2 (n + 1) (t + a.2.1.length) (v + a.2.2.1.length)).bind (fun b => pElse T rec o n t v k a b))).bind (pSem T) = (pY6 T rec o n t v k z).bind (pSem T) := by
  unfold pY6 at h ⊢
  cases z with
  | error e => rfl
  | ok a =>
    replace h : k ≠ 9 ∨ ∀ q, ((pBlk T rec o a.2.2.2 (n + 1) (t + a.2.1.length) (v + a.2.2.1.length)).bind (fun b => .ok (pS1 n t k a b))).bind (fun a => .ok a.2.2.2) = .ok q → wrd T q ≠ sbi 33 := h
    show ((pBlk T rec o a.2.2.2 (n + 1) (t + a.2.1.length) (v + a.2.2.1.length)).bind _).bind _ = ((pBlk T rec o a.2.2.2 (n + 1) (t + a.2.1.length) (v + a.2.2.1.length)).bind _).bind _
    cases hb : pBlk T rec o a.2.2.2 (n + 1) (t + a.2.1.length) (v + a.2.2.1.length) with
    | error e => rfl
    | ok b =>
      rw [hb] at h
      exact pElse_n (h.imp id (fun h => h b.2.2.2 rfl))
theorem pY6_e {T : List Int} {rec : PRC} {o n t v : Nat} {z : PX PA} {a : PA} {b : PS} (hz : z = .ok a) (hb : pBlk T rec o a.2.2.2 (n + 1) (t + a.2.1.length) (v + a.2.2.1.length) = .ok b) (hw : wrd T b.2.2.2 = sbi 33) {n3 t3 v3 q3 : Nat} (h3 : n3 = n + (pS1 n t 9 a b).1.length ∧ t3 = t + (pS1 n t 9 a b).2.1.length ∧ v3 = v + (pS1 n t 9 a b).2.2.1.length ∧ q3 = skB T (b.2.2.2 + (sbi 33).length)) : (z.bind (fun a => (pBlk T rec o a.2.2.2 (n + 1) (t + a.2.1.length) (v + a.2.2.1.length)).bind (fun b => pElse T rec o n t v 9 a b))).bind (pSem T) = ((pBlk T rec o q3 n3 t3 v3).bind (fun c => .ok (((9 : Int).toNat, a.1, t, n + 1 + b.1.length, n3 + c.1.length) :: (b.1 ++ c.1), (pS1 n t 9 a b).2.1 ++ c.2.1, (pS1 n t 9 a b).2.2.1 ++ c.2.2.1, c.2.2.2))).bind (pSem T) := by
  obtain ⟨e1, e2, e3, e4⟩ := h3
  subst hz
  show ((pBlk T rec o a.2.2.2 (n + 1) (t + a.2.1.length) (v + a.2.2.1.length)).bind _).bind _ = _
  rw [hb]
  show (pElse T rec o n t v 9 a b).bind _ = _
  unfold pElse
  rw [if_pos ⟨rfl, by rw [hw]; decide +kernel⟩, if_pos hw, hw, ← e4]
  have e1' : n + 1 + b.1.length = n3 := by rw [e1]; show _ = n + (b.1.length + 1); omega
  have e2' : t + a.2.1.length + b.2.1.length = t3 := by rw [e2]; show _ = t + (a.2.1 ++ b.2.1).length; rw [List.length_append]; omega
  have e3' : v + a.2.2.1.length + b.2.2.1.length = v3 := by rw [e3]; show _ = v + (a.2.2.1 ++ b.2.2.1).length; rw [List.length_append]; omega
  rw [e1', e2', e3']
  cases pBlk T rec o q3 n3 t3 v3 with
  | error e => rfl
  | ok c =>
    show pSem T _ = pSem T _
    simp only [pS1, List.append_assoc]
/-- GrievingCamelsModel.isWord -/
theorem cz_214g {V : jx_V} (hV : V.1.stackTraces = false) {X : jx_X} {R : jx_R} {I : jx_I} {a0 : Nat} {a1 : Int} {a2 : Int} {a3 : Int} {a4 : Int} {a5 : Int} {a6 : Int} {a7 : Int} {T : List Int} {x : PX Nat} {ws : List Int}
    (hM : MX X R a0) (hx : RST I a0 T x) (h7 : W7 a1 a2 [a3, a4, a5, a6, a7] ws)
    {QE : String → jx_I → Prop} : jc V 4 214 (0, 0) [.ref a0, jy a1, jy a2, jy a3, jy a4, jy a5, jy a6, jy a7] X I R (fun rv I' => (∃ r : Int, rv = some (jy r) ∧ ((r = 1 ∧ ∃ s, x = .ok s ∧ wrd T s = ws) ∨ (r = 0 ∧ ∀ s, x = .ok s → wrd T s ≠ ws))) ∧ RST I' a0 T x ∧ (∀ s, x = .ok s → RTX I' a0 T (s : Nat) 0 (-1)) ∧ FO a0 [4] I I') QE := by
  have g1 := h7.1
  have g2 := h7.2.1
  have g3 := h7.2.2.1 a3 (by simp)
  have g4 := h7.2.2.1 a4 (by simp)
  have g5 := h7.2.2.1 a5 (by simp)
  have g6 := h7.2.2.1 a6 (by simp)
  have g7 := h7.2.2.1 a7 (by simp)
  refine wm_214 hV (by omega) (by omega) (by omega) (by omega) (by omega) (by omega) (by omega)  ?_
  unfold wz_214
  refine ⟨s_M_0 hM, ?_⟩
  refine ⟨fun hq1 => ?_, fun hq1 => ?_⟩
  · obtain ⟨e, rfl, he⟩ := RST_5n hx hq1
    exact ⟨⟨_, rfl, Or.inr ⟨rfl, fun s h => by cases h⟩⟩, he, fun s h => (by cases h), FO_refl⟩
  · obtain ⟨s, rfl, p, hp, hs, hT⟩ := RST_5 hx hq1
    have hsl : s ≤ T.length := by rw [← hs]; exact (skB_le hp).2
    refine ⟨_, cz_212 hV hM hT hp, ?_⟩
    rintro _ I4 ⟨⟨r5, rfl, hx5⟩, hT4, hF4⟩
    refine ⟨_, rfl, ?_⟩
    rw [hs] at hT4 hx5
    have hk4 : ROK I4 a0 T s := ⟨s, hsl, by rw [← hs]; exact skB_idem T p, hT4⟩
    refine ⟨_, cz_213 hV g1 g2 g3 g4 g5 g6 g7, ?_⟩
    rintro _ I8 ⟨⟨r9, rfl, hx9⟩, rfl⟩
    refine ⟨_, rfl, ?_⟩
    refine ⟨fun hq2 => ?_, fun hq2 => ?_⟩
    · have hne := lgc_ne hq2
      refine ⟨⟨_, rfl, Or.inr ⟨rfl, fun s2 h2 => ?_⟩⟩, hk4, fun s2 h2 => (by cases h2; exact hT4), hF4⟩
      cases h2
      intro e
      apply hne
      apply Int64.toInt_inj.mp
      rw [hx5, hx9, e, if_pos h7.2.2.2.2.1, h7.2.2.2.1]
    · have heq := lgc_e (fun k => k hq2)
      refine ⟨⟨_, rfl, Or.inl ⟨rfl, s, rfl, ?_⟩⟩, hk4, fun s2 h2 => (by cases h2; exact hT4), hF4⟩
      rw [heq, hx9, h7.2.2.2.1] at hx5
      have hpos := w27_p ws 0 h7.2.2.2.2.2 (by omega)
      by_cases c7 : (wrd T s).length ≤ 7
      · rw [if_pos c7] at hx5
        exact (w27_inj _ _ _ rfl (h7.2.2.2.2.2) (wrd_l T _) hx5).symm
      · rw [if_neg c7] at hx5; omega
/-- GrievingCamelsModel.takes -/
theorem cz_216g {V : jx_V} (hV : V.1.stackTraces = false) {X : jx_X} {R : jx_R} {I : jx_I} {a0 : Nat} {a1 : Int} {a2 : Int} {a3 : Int} {a4 : Int} {a5 : Int} {a6 : Int} {a7 : Int} {T : List Int} {x : PX Nat} {ws : List Int}
    (hM : MX X R a0) (hx : RST I a0 T x) (h7 : W7 a1 a2 [a3, a4, a5, a6, a7] ws)
    {QE : String → jx_I → Prop} : jc V 5 216 (0, 0) [.ref a0, jy a1, jy a2, jy a3, jy a4, jy a5, jy a6, jy a7] X I R (fun rv I' => (∃ r : Int, rv = some (jy r) ∧ ((r = 1 ∧ ∃ s, x = .ok s ∧ wrd T s = ws ∧ ROK I' a0 T (skB T (s + ws.length))) ∨ (r = 0 ∧ (∀ s, x = .ok s → wrd T s ≠ ws) ∧ RST I' a0 T x))) ∧ FO a0 [4] I I') QE := by
  have g1 := h7.1
  have g2 := h7.2.1
  have g3 := h7.2.2.1 a3 (by simp)
  have g4 := h7.2.2.1 a4 (by simp)
  have g5 := h7.2.2.1 a5 (by simp)
  have g6 := h7.2.2.1 a6 (by simp)
  have g7 := h7.2.2.1 a7 (by simp)
  refine wm_216 hV (by omega) (by omega) (by omega) (by omega) (by omega) (by omega) (by omega)  ?_
  unfold wz_216
  refine ⟨s_M_0 hM, ?_⟩
  refine ⟨_, cz_214g hV hM hx h7, ?_⟩
  rintro _ I4 ⟨⟨r9, rfl, ho4⟩, hS4, hX4, hF4⟩
  refine ⟨_, rfl, ?_⟩
  refine ⟨by omega, ?_⟩
  refine ⟨fun hq1 => ?_, fun hq1 => ?_⟩
  · obtain ⟨_, hn⟩ := ho4.resolve_left (fun k => by omega)
    refine ⟨by omega, ?_⟩
    exact ⟨⟨_, rfl, Or.inr ⟨hq1, hn, hS4⟩⟩, hF4⟩
  · obtain ⟨e1, s, rfl, cw⟩ := ho4.resolve_right (fun k => hq1 k.1)
    have hT4 := hX4 s rfl
    have hsl := (ROK_s hS4).1
    have hwl := wrd_le hsl
    refine ⟨_, cz_215 hV hM hT4 hsl, ?_⟩
    rintro _ I10 ⟨rfl, hT10, hF10⟩
    refine ⟨rfl, ?_⟩
    refine ⟨by omega, ?_⟩
    rw [cw] at hT10 hwl
    exact ⟨⟨_, rfl, Or.inl ⟨e1, s, rfl, cw, _, hwl, rfl, hT10⟩⟩, FO_trans hF4 hF10⟩
