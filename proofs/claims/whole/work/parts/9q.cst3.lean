/-! ===== the class reads a nested step ===== -/
theorem pElse_0 {T : List Int} {rec : PRC} {o n t v : Nat} {k : Int} {a : PA} {b : PS} (h : k ≠ 9 ∨ wrd T b.2.2.2 = []) : pElse T rec o n t v k a b = .ok (pS1 n t k a b) := by
  unfold pElse
  rw [if_neg (by rintro ⟨h1, h2⟩; rcases h with h | h; exact h h1; exact h2 h)]
  rfl
theorem pElse_1 {T : List Int} {rec : PRC} {o n t v : Nat} {k : Int} {a : PA} {b : PS} (h : k = 9) (h1 : wrd T b.2.2.2 ≠ []) (h2 : wrd T b.2.2.2 ≠ sbi 33) : pElse T rec o n t v k a b = .error (1, b.2.2.2) := by
  unfold pElse
  rw [if_pos ⟨h, h1⟩, if_neg h2]
theorem pElse_2 {T : List Int} {rec : PRC} {o n t v : Nat} {k : Int} {a : PA} {b : PS} (h : k = 9) (h1 : wrd T b.2.2.2 ≠ []) (h2 : wrd T b.2.2.2 = sbi 33) : pElse T rec o n t v k a b = (pBlk T rec o (skB T (b.2.2.2 + (wrd T b.2.2.2).length)) (n + 1 + b.1.length) (t + a.2.1.length + b.2.1.length) (v + a.2.2.1.length + b.2.2.1.length)).bind (fun c => .ok (pS2 n t k a b c)) := by
  unfold pElse
  rw [if_pos ⟨h, h1⟩, if_pos h2]
  rfl
theorem pBody_7 {T : List Int} {ln lm : Nat} {rec : PRC} {o n t v q : Nat} {k : Int} {a : PA} (hk : ¬ k < 7) (ha : pArgs T ln lm k q v = .ok a) : pBody T ln lm rec o n t v k q = (pBlk T rec o a.2.2.2 (n + 1) (t + a.2.1.length) (v + a.2.2.1.length)).bind (fun b => pElse T rec o n t v k a b) := by
  unfold pBody
  rw [px_o ha, if_neg hk]
theorem pBody_e {T : List Int} {ln lm : Nat} {rec : PRC} {o n t v q : Nat} {k : Int} {e : Int × Nat} (ha : pArgs T ln lm k q v = .error e) : pBody T ln lm rec o n t v k q = .error e := by
  unfold pBody
  rw [px_e ha]
theorem CA_n {I K : jx_I} {y tp ld : Nat} {T : List Int} {fd : Int} {ln lm n v q : Nat} {k r : Int} (hP : CPre I y tp ld T fd ln lm (n + 1) v q) (h : (I (y + 1) n).toInt = k ∧ (I (y + 2) n).toInt = 0 ∧ nxt I y n = -1 ∧ (I (y + 4) n).toInt = -1 ∧ (I (y + 5) n).toInt = -1) (hF : FR tp (tp + 1) I K) (hd : tp + 2 ≤ y ∨ y + 12 ≤ tp) (hla : ld ≠ tp ∧ (ld < y ∨ y + 12 ≤ ld)) (hr : -2147483648 ≤ r ∧ r < 2147483648) (q2 : Nat) (hC : CST K tp T fd (.ok q2)) : CA I (jx_u K (y + 2) n (Int32.ofInt r)) y tp ld T fd ln lm n v k (r, [], [], q2) := by
  obtain ⟨_, h11, h12, hL⟩ := hP
  have hq : ∀ q, q ≠ y + 2 → q ≠ tp → jx_u K (y + 2) n (Int32.ofInt r) q = I q := fun q g1 g2 => by rw [jx_u_r _ _ _ g1]; exact hF q (by omega)
  refine ⟨FPz_s (FPz_t hF (by omega)) (by omega) (Nat.le_refl _), CST_w hC (by omega), ⟨?_, ?_, ?_, ?_⟩, fun te h => (by cases h), fun i w h => (by cases h), ⟨?_, ?_⟩, ?_⟩
  · rw [hq (y + 1) (by omega) (by omega)]; exact h.1
  · rw [jx_u_s]; exact jy_toInt hr
  · unfold nxt; rw [hq (y + 3) (by omega) (by omega)]; exact h.2.2.1
  · rw [hq (y + 5) (by omega) (by omega)]; exact h.2.2.2.2
  · rw [hq y (by omega) (by omega)]; exact h11
  · rw [hq y (by omega) (by omega)]; exact h12
  · exact LLM_r hL (hq ld (by omega) (by omega))
theorem CA_t {I K : jx_I} {y tp ld : Nat} {T : List Int} {fd : Int} {ln lm n v q : Nat} {k : Int} {z : TE × List VA × Nat} (hP : CPre I y tp ld T fd ln lm (n + 1) v q) (hn : n < 100) (h : (I (y + 1) n).toInt = k ∧ (I (y + 2) n).toInt = 0 ∧ nxt I y n = -1 ∧ (I (y + 4) n).toInt = -1 ∧ (I (y + 5) n).toInt = -1) (hF : FTS y tp n v I K) (hla : ld ≠ tp ∧ (ld < y ∨ y + 12 ≤ ld)) (hC : CST K tp T fd (.ok z.2.2)) (hT : CT1 K y n v z.1 z.2.1) (hW : CVW K y v z.2.1) (h12 : (K y 12).toInt = ((v + z.2.1.length : Nat) : Int)) : CA I K y tp ld T fd ln lm n v k (0, [z.1], z.2.1, z.2.2) := by
  obtain ⟨_, h11, _, hL⟩ := hP
  refine ⟨hF.1, hC, ⟨?_, ?_, ?_, ?_⟩, fun te h => (by cases h; exact hT), hW, ⟨?_, h12⟩, LLM_r hL (hF.1.1 ld hla.1 (by omega) (by omega))⟩
  · rw [hF.2.1 1 n (by omega) (by omega) hn]; exact h.1
  · rw [hF.2.1 2 n (by omega) (by omega) hn]; exact h.2.1
  · unfold nxt at h ⊢; rw [hF.2.1 3 n (by omega) (by omega) hn]; exact h.2.2.1
  · rw [hF.2.1 5 n (by omega) (by omega) hn]; exact h.2.2.2.2
  · rw [hF.2.2]; exact h11
/-- GrievingCamels$Plan.readNested -/
theorem cz_59s {V : jx_V} (hV : V.1.stackTraces = false) {d : Nat} {X : jx_X} {R : jx_R} {I : jx_I} {a0 : Nat} {a1 : Nat} {a2 : Nat} {a3 : Int} {a4 : Int} {T : List Int} {fd k : Int} {q t v n ln lm o f : Nat}
    (hy : BX X R a0 TPlan) (ht : BX X R a1 TTape) (hl : BX X R a2 TLand) (hln : ln ≤ 10) (hlm : lm ≤ 8) (hdy : a1 + 2 ≤ a0 ∨ a0 + 12 ≤ a1) (hla : a2 ≠ a1 ∧ (a2 < a0 ∨ a0 + 12 ≤ a2)) (h200 : T.length ≤ 200) (ho : o ≤ 6) (h3 : a3 = (n : Int)) (h4 : a4 = (o : Int)) (hpre : CPre I a0 a1 a2 T fd ln lm (n + 1) v q) (hrow : (I (a0 + 1) n).toInt = k ∧ (I (a0 + 2) n).toInt = 0 ∧ nxt I a0 n = -1 ∧ (I (a0 + 4) n).toInt = -1 ∧ (I (a0 + 5) n).toInt = -1) (hk : 7 ≤ k ∧ k ≤ 9) (hb : 4 * n + 2 ≤ q ∧ t ≤ n ∧ 2 * v + 2 ≤ q) (hf : T.length ≤ f + q) (hd : 9 + 4 * (6 - o) ≤ d) (ih : G60 V X R a0 a1 a2 T fd ln lm o)
    {QE : String → jx_I → Prop} : jc V d 59 (0, 0) [.ref a0, .ref a1, .ref a2, jy a3, jy a4] X I R (CAns a0 a1 T fd n t v I (pBody T ln lm (pSteps T ln lm f) o n t v k q) (fun I2 z => NBH I2 a0 n o z)) QE := by
  subst h3
  obtain ⟨hc, h11, h12, hL⟩ := id hpre
  obtain ⟨hAT, wf, we, nf, hT⟩ := id hc
  have hsl := hAT.1
  have h6 := hT.2.1
  have hr1 := hrow.1
  refine wm_59 hV (by omega) (by omega)  (fun J86 hJJ => ?_)
  have hJ86 := hJJ
  have L86 : ∀ (n86 : Nat) (s0 : Nat) (s1 : Int) (s2 : Int) (K : jx_I), n86 = 0 → (s0 = (a0 + 4) ∧ s1 = (n : Int) ∧ ∃ a b, pArgs T ln lm k q v = .ok a ∧ (pBlk T (pSteps T ln lm f) o a.2.2.2 (n + 1) (t + a.2.1.length) (v + a.2.2.1.length)) = .ok b ∧ SB I K a0 a1 a2 T fd ln lm o n t v k a b ∧ s2 = if n + 1 < n + 1 + b.1.length then ((n + 1 : Nat) : Int) else -1) → J86 s0 s1 s2 K := by
    intro n86
    induction n86 using Nat.strongRecOn with
    | ind n86 ih86 =>
    intro s0 s1 s2 K hn86 hI86
    obtain ⟨rfl, rfl, a, b, ha, hbk, hSB, rfl⟩ := hI86
    obtain ⟨b1, b2, b3, b4, b5, b6, b7, b8, b9, b10, b11⟩ := pArgs_ok hln hlm (by omega) hAT ha
    have hal1 : a.2.1.length ≤ 1 := by
      rcases Int.lt_or_le k 8 with c | c
      · rw [(b7 c).1]; exact Nat.zero_le _
      · rw [b8 c]; exact Nat.le_refl _
    have hb3 := b2 (by omega)
    have hb4 := b3.1
    obtain ⟨⟨c1, c2, c3, c4, hwq⟩, _⟩ := pBlk_ok (RH_s hln hlm f) b3.1 hbk
    have c41 := c4.1
    have hU : ∀ te, a.2.1[0]? = some te → te.2.2.2 ≤ v + a.2.2.1.length := fun te h => (b11 te (List.mem_of_getElem? h)).2.2.2.1
    refine hJ86 _ _ _ _ ?_
    unfold wz_59_86
    refine ⟨_, ⟨s_Plan_4 hy, by decide⟩, by omega, ?_⟩
    intro I47 e_I47
    have hu : Jus a0 4 n K I47 := by rw [e_I47]; exact Jus_u
    have h4r : (I47 (a0 + 4) n).toInt = if n + 1 < n + 1 + b.1.length then ((n + 1 : Nat) : Int) else -1 := by rw [e_I47, jx_us (by omega)]; exact jy_toInt (by split <;> omega)
    have hc47 : CST I47 a1 T fd (.ok b.2.2.2) := by rw [e_I47]; exact CST_w hSB.2.1 (by omega)
    have h471 : (I47 (a0 + 1) n).toInt = k := by rw [hu.1 (a0 + 1) (by omega)]; exact hSB.2.2.1.1
    obtain ⟨hAT47, wf4, we4, nf4, hT47⟩ := id hc47
    refine ⟨s_Plan_0 hy, _, r_Plan_0_0 hy, ?_⟩
    try simp only [-eq_self, Int.toNat_natCast]
    refine ⟨_, ⟨s_Plan_1 hy, by decide⟩, by omega, ?_⟩
    refine ⟨fun hq1 => ?_, fun hq1 => ?_⟩
    · have hk9 : k ≠ 9 := by omega
      obtain ⟨g1, g2, g3⟩ := SB_end hSB hu h4r hk b8 hU hwq hdy
      exact ⟨⟨_, rfl, Or.inl ⟨rfl, _, by rw [pBody_7 (by omega) ha, px_o hbk, pElse_0 (Or.inl hk9)], g1, g2⟩⟩, g3⟩
    · have hk9 : k = 9 := by omega
      refine ⟨s_Tape_0 ht, ?_⟩
      refine ⟨by omega, _, cz_115 hV ht hT47 hAT47.1, ?_⟩
      rintro _ I58 ⟨rfl, e9⟩; replace e9 := e9.symm; subst e9
      refine ⟨_, rfl, ?_⟩
      refine ⟨by omega, ?_⟩
      refine ⟨fun hq2 => ?_, fun hq2 => ?_⟩
      · have cw := bi_t hq2
        have hwne : wrd T b.2.2.2 ≠ [] := by rw [wrd_1 cw]; exact fun h => by cases h
        refine ⟨by omega, _, cz_116 hV ht hT47 hAT47.1, ?_⟩
        rintro _ I64 ⟨rfl, hT64, hF64⟩
        refine ⟨rfl, ?_⟩
        have hwl := wrd_le c41
        have hws := AT_s hwl
        have hws2 := hws.2
        have h6411 : (I64 a0 11).toInt = ((n + 1 + b.1.length : Nat) : Int) := by rw [hF64 a0 (by omega), hu.1 a0 (by omega)]; exact hSB.2.2.2.2.2.1.1
        have h6412 : (I64 a0 12).toInt = ((v + a.2.2.1.length + b.2.2.1.length : Nat) : Int) := by rw [hF64 a0 (by omega), hu.1 a0 (by omega)]; exact hSB.2.2.2.2.2.1.2
        have hpre64 : CPre I64 a0 a1 a2 T fd ln lm (n + 1 + b.1.length) (v + a.2.2.1.length + b.2.2.1.length) (skB T (b.2.2.2 + (wrd T b.2.2.2).length)) := ⟨⟨hws.1, _, _, _, hT64⟩, h6411, h6412, LLM_r (LLM_r hSB.2.2.2.2.2.2.2 (hu.1 a2 (by omega))) (hF64 a2 (by omega))⟩
        refine ⟨by omega, _, cz_117 (a1 := 33) hV ht hT64 c41 (by omega), ?_⟩
        rintro _ I69 ⟨rfl, e9⟩; replace e9 := e9.symm; subst e9
        refine ⟨_, rfl, ?_⟩
        refine ⟨by omega, ?_⟩
        refine ⟨fun hq3 => ?_, fun hq3 => ?_⟩
        · have c33 := bi_t hq3
          refine ⟨_, by omega, _, G60_e ih (d := d - 1) (f := f) (t := t + a.2.1.length + b.2.1.length) (by omega) hpre64 (by omega) (by omega) (by omega), ?_⟩
          rintro _ I76 ⟨⟨r769, rfl, ho76⟩, hF76⟩
          refine ⟨_, rfl, ?_⟩
          refine ⟨by omega, ?_⟩
          refine ⟨fun hq4 => ?_, fun hq4 => ?_⟩
          · obtain ⟨_, c, hcb, hO, hN⟩ := ho76.resolve_right (fun k => hq4 k.1)
            obtain ⟨_, _, _, _, hwc⟩ := (pBlk_ok (RH_s hln hlm f) hws.1.1 hcb).1
            have hO11 := hO.2.2.1
            simp only [-eq_self, hO11, h6411]
            refine ⟨_, r_Plan_0_4 hy, ?_⟩
            try simp only [-eq_self, Int.toNat_natCast]
            refine ⟨fun hq5 => ?_, fun hq5 => ?_⟩
            · refine ⟨_, ⟨s_Plan_5 hy, by decide⟩, by omega, ?_⟩
              intro I84 e_I84
              obtain ⟨g1, g2, g3⟩ := SB_else hSB hu h4r hO hN (FPz_trans (FPz_t hF64 (by omega)) hF76) (by rw [e_I84]; exact Jus_u : Jus a0 5 n I76 I84) (by rw [e_I84, jx_u_s]; exact (by rw [if_neg (by omega)]; rfl)) hk b8 hU hwq hwc hdy
              exact ⟨⟨_, rfl, Or.inl ⟨rfl, _, by rw [pBody_7 (by omega) ha, px_o hbk, pElse_2 (by omega) hwne c33, px_o hcb], g1, g2⟩⟩, g3⟩
            · refine ⟨_, ⟨s_Plan_5 hy, by decide⟩, by omega, ?_⟩
              intro I88 e_I88
              obtain ⟨g1, g2, g3⟩ := SB_else hSB hu h4r hO hN (FPz_trans (FPz_t hF64 (by omega)) hF76) (by rw [e_I88]; exact Jus_u : Jus a0 5 n I76 I88) (by rw [e_I88, jx_u_s]; exact (by rw [if_pos (by omega)]; exact jy_toInt (by omega))) hk b8 hU hwq hwc hdy
              exact ⟨⟨_, rfl, Or.inl ⟨rfl, _, by rw [pBody_7 (by omega) ha, px_o hbk, pElse_2 (by omega) hwne c33, px_o hcb], g1, g2⟩⟩, g3⟩
          · obtain ⟨_, e, h1, h2⟩ := ho76.resolve_left (fun k => by omega)
            exact ⟨⟨_, rfl, Or.inr ⟨rfl, e, by rw [pBody_7 (by omega) ha, px_o hbk, pElse_2 hk9 hwne c33, px_e h1], h2⟩⟩, FPz_trans (SB_end hSB hu h4r hk b8 hU hwq hdy).2.2 (FPz_trans (FPz_t hF64 (by omega)) (FPz_mono hF76 (by omega) (by omega)))⟩
        · have c33 := bi_f hq3
          refine ⟨by omega, _, cz_108 hV ht hT64 (by omega), ?_⟩
          rintro _ I92 ⟨rfl, hT92, hF92⟩
          refine ⟨_, rfl, ?_⟩
          refine ⟨by omega, ?_⟩
          exact ⟨⟨_, rfl, Or.inr ⟨rfl, _, by rw [pBody_7 (by omega) ha, px_o hbk, pElse_1 hk9 hwne c33], ⟨show (1 : Int) ≤ 1 by decide, show (1 : Int) ≤ 3 by decide⟩, _, _, _, _, hT92⟩⟩, FPz_trans (SB_end hSB hu h4r hk b8 hU hwq hdy).2.2 (FPz_trans (FPz_t hF64 (by omega)) (FPz_t hF92 (by omega)))⟩
      · have cw := bi_f hq2
        obtain ⟨g1, g2, g3⟩ := SB_end hSB hu h4r hk b8 hU hwq hdy
        exact ⟨⟨_, rfl, Or.inl ⟨rfl, _, by rw [pBody_7 (by omega) ha, px_o hbk, pElse_0 (Or.inr (wrd_0 cw))], g1, g2⟩⟩, g3⟩
  unfold wz_59
  refine ⟨s_Plan_0 hy, _, r_Plan_0_0 hy, ?_⟩
  try simp only [-eq_self, Int.toNat_natCast]
  refine ⟨_, ⟨s_Plan_1 hy, by decide⟩, by omega, ?_⟩
  refine ⟨fun hq6 => ?_, fun hq6 => ?_⟩
  · have hk8 : 8 ≤ k := by omega
    refine ⟨by omega, _, cz_61 hV hy ht hl hL hln hlm hdy hla h200 hc h12 (by omega) rfl (by omega), ?_⟩
    rintro _ I10 ⟨⟨r109, rfl, ho10⟩, hF10⟩
    refine ⟨_, rfl, ?_⟩
    refine ⟨by omega, ?_⟩
    refine ⟨fun hq7 => ?_, fun hq7 => ?_⟩
    · obtain ⟨_, z, hz, hcz, hT1, hW1, h12z⟩ := ho10.resolve_right (fun k => hq7 k.1)
      have ha : pArgs T ln lm k q v = .ok (0, [z.1], z.2.1, z.2.2) := by rw [pArgs_8 hk8, px_o hz]
      have hCA : CA I I10 a0 a1 a2 T fd ln lm n v k (0, [z.1], z.2.1, z.2.2) := CA_t hpre (by omega) hrow hF10 hla hcz hT1 hW1 h12z
      obtain ⟨a, hae⟩ : ∃ a : PA, a = (0, [z.1], z.2.1, z.2.2) := ⟨_, rfl⟩
      rw [← hae] at ha hCA
      obtain ⟨b1, b2, b3, b4, b5, b6, b7, b8, b9, b10, b11⟩ := pArgs_ok hln hlm (by omega) hAT ha
      have hal1 : a.2.1.length ≤ 1 := by
        rcases Int.lt_or_le k 8 with c | c
        · rw [(b7 c).1]; exact Nat.zero_le _
        · rw [b8 c]; exact Nat.le_refl _
      have hb3 := b2 (by omega)
      have hb4 := b3.1
      refine ⟨_, by omega, _, G60_e ih (d := d - 1) (f := f) (t := t + a.2.1.length) (by omega) ⟨hCA.2.1, hCA.2.2.2.2.2.1.1, hCA.2.2.2.2.2.1.2, hCA.2.2.2.2.2.2⟩ (by omega) (by omega) (by omega), ?_⟩
      rintro _ I17 ⟨⟨r179, rfl, ho17⟩, hF17⟩
      refine ⟨_, rfl, ?_⟩
      refine ⟨by omega, ?_⟩
      refine ⟨fun hq8 => ?_, fun hq8 => ?_⟩
      · obtain ⟨_, b, hbk, hO, hN⟩ := ho17.resolve_right (fun k => hq8 k.1)
        have hSB := SB_mk hCA hO hN hF17 hla
        have hO11 := hO.2.2.1
        have hC11 := hCA.2.2.2.2.2.1.1
        simp only [-eq_self, hO11, hC11]
        refine ⟨_, r_Plan_0_3 hy, ?_⟩
        refine ⟨fun hq9 => ?_, fun hq9 => ?_⟩
        · exact L86 _ _ _ _ _ rfl (⟨rfl, rfl, a, b, ha, hbk, hSB, by rw [if_neg (by omega)]⟩)
        · exact L86 _ _ _ _ _ rfl (⟨rfl, rfl, a, b, ha, hbk, hSB, by rw [if_pos (by omega)]⟩)
      · obtain ⟨_, e, h1, h2⟩ := ho17.resolve_left (fun k => by omega)
        exact ⟨⟨_, rfl, Or.inr ⟨rfl, e, by rw [pBody_7 (by omega) ha, px_e h1], h2⟩⟩, FPz_trans hCA.1 (FPz_mono hF17 (by omega) (by omega))⟩
    · obtain ⟨_, e, h1, h2⟩ := ho10.resolve_left (fun k => by omega)
      exact ⟨⟨_, rfl, Or.inr ⟨rfl, e, pBody_e (by rw [pArgs_8 hk8, px_e h1]), h2⟩⟩, hF10.1⟩
  · have hk7 : k = 7 := by omega
    refine ⟨_, r_Plan_0_1 hy, ?_⟩
    try simp only [-eq_self, Int.toNat_natCast]
    refine ⟨s_Tape_0 ht, ?_⟩
    refine ⟨by omega, _, cz_118 hV ht hT hsl (by omega) (by omega), ?_⟩
    rintro _ I28 ⟨⟨r9, q9, k9, f9, rfl, hn9, hT28⟩, hF28⟩
    refine ⟨_, rfl, ?_⟩
    have hr9 : -1 ≤ r9 ∧ r9 ≤ 20 := by rcases NB_p hsl hn9 hT28 with ⟨_, _, _, h, h2⟩ | ⟨_, _, h, _⟩ <;> omega
    refine ⟨_, ⟨s_Plan_2 hy, by decide⟩, by omega, ?_⟩
    intro I33 e_I33; subst e_I33
    have h33 : (jx_u I28 (a0 + 2) n (Int32.ofInt r9) (a0 + 2) n).toInt = r9 := by rw [jx_u_s]; exact jy_toInt (by omega)
    refine ⟨by omega, ?_⟩
    refine ⟨fun hq10 => ?_, fun hq10 => ?_⟩
    · obtain ⟨q2, h1, h2, _, _⟩ := (NB_p hsl hn9 hT28).resolve_right (fun ⟨e, _, h, _⟩ => by omega)
      have ha : pArgs T ln lm k q v = .ok (r9, [], [], q2) := by rw [pArgs_7 hk7, px_o h1]
      have hCA := CA_n (k := k) hpre hrow hF28 hdy hla (r := r9) (by omega) q2 h2
      obtain ⟨a, hae⟩ : ∃ a : PA, a = (r9, [], [], q2) := ⟨_, rfl⟩
      rw [← hae] at ha hCA
      obtain ⟨b1, b2, b3, b4, b5, b6, b7, b8, b9, b10, b11⟩ := pArgs_ok hln hlm (by omega) hAT ha
      have hal1 : a.2.1.length ≤ 1 := by
        rcases Int.lt_or_le k 8 with c | c
        · rw [(b7 c).1]; exact Nat.zero_le _
        · rw [b8 c]; exact Nat.le_refl _
      have hb3 := b2 (by omega)
      have hb4 := b3.1
      refine ⟨_, by omega, _, G60_e ih (d := d - 1) (f := f) (t := t + a.2.1.length) (by omega) ⟨hCA.2.1, hCA.2.2.2.2.2.1.1, hCA.2.2.2.2.2.1.2, hCA.2.2.2.2.2.2⟩ (by omega) (by omega) (by omega), ?_⟩
      rintro _ I39 ⟨⟨r399, rfl, ho39⟩, hF39⟩
      refine ⟨_, rfl, ?_⟩
      refine ⟨by omega, ?_⟩
      refine ⟨fun hq11 => ?_, fun hq11 => ?_⟩
      · obtain ⟨_, b, hbk, hO, hN⟩ := ho39.resolve_right (fun k => hq11 k.1)
        have hSB := SB_mk hCA hO hN hF39 hla
        have hO11 := hO.2.2.1
        have hC11 := hCA.2.2.2.2.2.1.1
        simp only [-eq_self, hO11, hC11]
        refine ⟨_, r_Plan_0_3 hy, ?_⟩
        refine ⟨fun hq12 => ?_, fun hq12 => ?_⟩
        · exact L86 _ _ _ _ _ rfl (⟨rfl, rfl, a, b, ha, hbk, hSB, by rw [if_neg (by omega)]⟩)
        · exact L86 _ _ _ _ _ rfl (⟨rfl, rfl, a, b, ha, hbk, hSB, by rw [if_pos (by omega)]⟩)
      · obtain ⟨_, e, h1, h2⟩ := ho39.resolve_left (fun k => by omega)
        exact ⟨⟨_, rfl, Or.inr ⟨rfl, e, by rw [pBody_7 (by omega) ha, px_e h1], h2⟩⟩, FPz_trans hCA.1 (FPz_mono hF39 (by omega) (by omega))⟩
    · obtain ⟨e, h1, h2, h3⟩ := (NB_p hsl hn9 hT28).resolve_left (fun ⟨q, _, _, h, _⟩ => by omega)
      exact ⟨⟨_, rfl, Or.inr ⟨rfl, e, pBody_e (by rw [pArgs_7 hk7, px_e h1]), CST_w h3 (by omega)⟩⟩, FPz_s (FPz_t hF28 (by omega)) (by omega) (Nat.le_refl _)⟩
