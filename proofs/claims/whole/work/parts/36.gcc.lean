/-! ===== the class: what is to come, what changes ===== -/
/-- GrievingCamels.goingsUntil -/
theorem cz_198 {V : jx_V} (hV : V.1.stackTraces = false) {X : jx_X} {R : jx_R} {I : jx_I} {a0 : Nat} {a1 : Int} {a2 : Int} {a3 : Int} {ld : Nat} {l : LT} {c : CT} 
    (h : GX X R I a0 ld l c) (hj : CJ c ≠ []) (h1 : 0 ≤ a1 ∧ a1 < (Ln l : Nat)) (h2c : 0 ≤ a2 ∧ a2 < (Lm l : Nat)) (h3 : a3 = 0 ∨ a3 = 1)
    {QE : String → jx_I → Prop} : jc V 6 198 (0, 0) [.ref a0, jy a1, jy a2, jy a3] X I R (fun rv I' => rv = some (jy (ff (fun k => decide ((if 0 < (itg l (CJ c) (CL c) (Cg c) (Cd c) k).1 a1.toNat a2.toNat then (1 : Int) else 0) = a3)) 24 0)) ∧ FS a0 I I') QE := by
  have hW := h.2.2.2.1
  have hW0 := hW.1
  refine wm_198 hV (by omega) (by omega) (by omega)  (fun J12 J70 hJJ => ?_)
  obtain ⟨hJ12, hJ70⟩ := hJJ
  have hl := GX_l h
  have hD := h.2.2.1; have hS := h.2.2.2.2.1; have hC := h.2.2.2.2.2.1; have hlo := h.2.1.2
  have hL8 : ∀ x ∈ CL c, x < 8 := fun x hx => by have := hC.2.1.2 x hx; omega
  unfold wz_198
  refine ⟨s_GC_0 h.1, _, r_GC_0_2 h.1, s_State_0 (b_GC_4 h.1), _, r_State_0_0 (b_GC_4 h.1), ?_⟩
  have L12 : ∀ (n12 : Nat) (l4 : Nat) (l5 : Int) (K : jx_I), n12 = (25 - l5).toNat → (∃ k : Nat, l5 = (k + 1 : Nat) ∧ k ≤ 24 ∧ (l4 = a0 + 5 ∨ l4 = a0 + 18) ∧ HD K l4 (itg l (CJ c) (CL c) (Cg c) (Cd c) k).1 (itg l (CJ c) (CL c) (Cg c) (Cd c) k).2 ∧ ff (fun k => decide ((if 0 < (itg l (CJ c) (CL c) (Cg c) (Cd c) k).1 a1.toNat a2.toNat then (1 : Int) else 0) = a3)) 24 0 = ff (fun k => decide ((if 0 < (itg l (CJ c) (CL c) (Cg c) (Cd c) k).1 a1.toNat a2.toNat then (1 : Int) else 0) = a3)) (24 - k) k ∧ FS a0 I K) → J12 l4 l5 K := by
    intro n12
    induction n12 using Nat.strongRecOn with
    | ind n12 ih12 =>
    intro l4 l5 K hn12 hI12
    obtain ⟨k, rfl, hk, h4, hH, hff, hF⟩ := hI12
    have h2 := GX_s h hF
    have hGk := GD_it (l := l) (J := CJ c) (L := CL c) hC.1 (fun x hx => by have := (WC_J hC hj).2.1 x hx; omega) hL8 k
    have hl4 : BX X R l4 THerd ∧ (l4 = a0 + 5 ∨ l4 = a0 + 18) := by
      rcases h4 with e | e <;> rw [e]
      · exact ⟨b_GC_5 h.1, Or.inl rfl⟩
      · exact ⟨b_GC_18 h.1, Or.inr rfl⟩
    refine hJ12 _ _ _ ?_
    unfold wz_198_12
    refine ⟨by omega, ?_⟩
    refine ⟨fun hq1 => ?_, fun hq1 => ?_⟩
    · rw [show 24 - k = 0 by omega] at hff
      exact ⟨by rw [hff]; rfl, hF⟩
    · refine ⟨s_GC_0 h.1, _, r_GC_0_4 h.1, _, h.2.1.1, _, r_GC_0_2 h.1, s_State_0 (b_GC_4 h.1), _, r_State_0_2 (b_GC_4 h.1), _, r_State_0_1 (b_GC_4 h.1), s_Trip_0 (b_GC_17 h.1), ?_⟩
      refine ⟨_, cz_121 hV (b_GC_17 h.1) hl (b_GC_11 h.1) (b_GC_9 h.1) h2.2.2.1 hW h2.2.2.2.2.1.2.2.1 (WC_J hC hj).2.1 h2.2.2.2.2.1.2.1 hC.2.1.2 hC.2.1.1 hGk (by omega) (by omega) (by omega) hl4.1 (WC_J hC hj).2.2 hH (by omega) (by omega), ?_⟩
      rintro _ I23 ⟨rfl, hT, h0, hFt⟩
      refine ⟨rfl, ?_⟩
      have hF3 : FS a0 I I23 := FS_2 hF hFt h0 hlo
      have hGk2 := GD_it (l := l) (J := CJ c) (L := CL c) hC.1 (fun x hx => by have := (WC_J hC hj).2.1 x hx; omega) hL8 (k + 1) a1.toNat a2.toNat (by omega) (by omega)
      have hgv : (jst l (CJ c) (CL c) (itg l (CJ c) (CL c) (Cg c) (Cd c) k).1 (itg l (CJ c) (CL c) (Cg c) (Cd c) k).2 ((CJ c).length - 1)).1 a1.toNat a2.toNat = (itg l (CJ c) (CL c) (Cg c) (Cd c) (k + 1)).1 a1.toNat a2.toNat := rfl
      refine ⟨_, r_Trip_0_0 (b_GC_17 h.1), s_Herd_0 (b_GC_18 h.1), ?_⟩
      refine ⟨_, cz_11 (p := a1.toNat) (c := a2.toNat) hV (b_GC_18 h.1) hT.1 (by omega) (by omega) (by omega) (by omega), ?_⟩
      rintro _ I30 ⟨rfl, e9⟩; replace e9 := e9.symm; subst e9
      refine ⟨_, rfl, ?_⟩
      simp only [-eq_self, hgv]
      refine ⟨by omega, ?_⟩
      refine ⟨fun hq2 => ?_, fun hq2 => ?_⟩
      · refine hJ70 _ _ _ _ ?_
        unfold wz_198_70
        refine ⟨by omega, ?_⟩
        refine ⟨fun hq3 => ?_, fun hq3 => ?_⟩
        · exact ih12 _ (by omega) _ _ _ rfl (⟨k + 1, by omega, by omega, Or.inr rfl, hT.1, by rw [hff, show 24 - k = (24 - (k + 1)) + 1 by omega, ff_s, if_neg]; simp only [decide_eq_true_eq]; rw [if_neg (by omega)]; omega, hF3⟩)
        · exact ⟨by rw [hff, show 24 - k = (24 - (k + 1)) + 1 by omega, ff_s, if_pos]; simp only [decide_eq_true_eq]; rw [if_neg (by omega)]; omega, hF3⟩
      · refine hJ70 _ _ _ _ ?_
        unfold wz_198_70
        refine ⟨by omega, ?_⟩
        refine ⟨fun hq4 => ?_, fun hq4 => ?_⟩
        · exact ih12 _ (by omega) _ _ _ rfl (⟨k + 1, by omega, by omega, Or.inr rfl, hT.1, by rw [hff, show 24 - k = (24 - (k + 1)) + 1 by omega, ff_s, if_neg]; simp only [decide_eq_true_eq]; rw [if_pos (by omega)]; omega, hF3⟩)
        · exact ⟨by rw [hff, show 24 - k = (24 - (k + 1)) + 1 by omega, ff_s, if_pos]; simp only [decide_eq_true_eq]; rw [if_pos (by omega)]; omega, hF3⟩
  exact L12 _ _ _ _ rfl (⟨0, rfl, by omega, Or.inl rfl, hS.1, rfl, FS_refl⟩)
/-- GrievingCamels.learnt -/
theorem cz_171 {V : jx_V} (hV : V.1.stackTraces = false) {X : jx_X} {R : jx_R} {I : jx_I} {a0 : Nat} {a1 : Int} {a2 : Int} {ld : Nat} {l : LT} {c : CT} 
    (h : GX X R I a0 ld l c) (r_a1 : -2147483648 ≤ a1 ∧ a1 < 2147483648) (r_a2 : -2147483648 ≤ a2 ∧ a2 < 2147483648)
    : jc V 9 171 (3, 18) [.ref a0, jy a1, jy a2] X I R (fun rv I' => nz (0 ≤ a1 ∧ a1 < (Ln l : Nat)) 0 (nz (0 ≤ a2 ∧ a2 < (Lm l : Nat)) 1 (nz (CJ c ≠ []) 3 (none))) = none ∧ rv = some (jy (ff (fun k => decide ((if 0 < (itg l (CJ c) (CL c) (Cg c) (Cd c) k).1 a1.toNat a2.toNat then (1 : Int) else 0) = 1)) 24 0)) ∧ FS a0 I I') (fun E I' => ∃ k, nz (0 ≤ a1 ∧ a1 < (Ln l : Nat)) 0 (nz (0 ≤ a2 ∧ a2 < (Lm l : Nat)) 1 (nz (CJ c ≠ []) 3 (none))) = some k ∧ E = (jx_exe k).1 ∧ I' = rfs I a0 k) := by
  have hW := h.2.2.2.1
  have hW0 := hW.1
  refine wm_171 hV (by omega) (by omega)  ?_
  have hl := GX_l h
  have hD := h.2.2.1; have hS := h.2.2.2.2.1; have hC := h.2.2.2.2.2.1; have hlo := h.2.1.2
  unfold wz_171
  refine ⟨s_GC_0 h.1, ?_⟩
  refine ⟨_, _, cz_187 hV h (by omega), fun Ex Ix h9 => ⟨0, by rw [nz_f h9.2.2], h9.1, h9.2.1⟩, ?_⟩
  rintro _ I6 ⟨rfl, e9, hp1⟩; replace e9 := e9.symm; subst e9
  refine ⟨rfl, ?_⟩
  refine ⟨_, _, cz_188 hV h (by omega), fun Ex Ix h9 => ⟨1, by rw [nz_t hp1]; rw [nz_f h9.2.2], h9.1, h9.2.1⟩, ?_⟩
  rintro _ I12 ⟨rfl, e9, hp2⟩; replace e9 := e9.symm; subst e9
  refine ⟨rfl, ?_⟩
  refine ⟨_, _, cz_193 hV h, fun Ex Ix h9 => ⟨3, by rw [nz_t hp1]; rw [nz_t hp2]; rw [nz_f (fun k => k h9.2.2)], h9.1, h9.2.1⟩, ?_⟩
  rintro _ I18 ⟨rfl, e9, hpJ⟩; replace e9 := e9.symm; subst e9
  refine ⟨rfl, ?_⟩
  refine ⟨_, cz_198 hV h hpJ hp1 hp2 (by omega), ?_⟩
  rintro _ I22 ⟨rfl, hF⟩
  refine ⟨_, rfl, ?_⟩
  exact ⟨by rw [nz_t hp1, nz_t hp2, nz_t hpJ], rfl, hF⟩
/-- GrievingCamels.forgot -/
theorem cz_172 {V : jx_V} (hV : V.1.stackTraces = false) {X : jx_X} {R : jx_R} {I : jx_I} {a0 : Nat} {a1 : Int} {a2 : Int} {ld : Nat} {l : LT} {c : CT} 
    (h : GX X R I a0 ld l c) (r_a1 : -2147483648 ≤ a1 ∧ a1 < 2147483648) (r_a2 : -2147483648 ≤ a2 ∧ a2 < 2147483648)
    : jc V 9 172 (3, 18) [.ref a0, jy a1, jy a2] X I R (fun rv I' => nz (0 ≤ a1 ∧ a1 < (Ln l : Nat)) 0 (nz (0 ≤ a2 ∧ a2 < (Lm l : Nat)) 1 (nz (CJ c ≠ []) 3 (none))) = none ∧ rv = some (jy (ff (fun k => decide ((if 0 < (itg l (CJ c) (CL c) (Cg c) (Cd c) k).1 a1.toNat a2.toNat then (1 : Int) else 0) = 0)) 24 0)) ∧ FS a0 I I') (fun E I' => ∃ k, nz (0 ≤ a1 ∧ a1 < (Ln l : Nat)) 0 (nz (0 ≤ a2 ∧ a2 < (Lm l : Nat)) 1 (nz (CJ c ≠ []) 3 (none))) = some k ∧ E = (jx_exe k).1 ∧ I' = rfs I a0 k) := by
  have hW := h.2.2.2.1
  have hW0 := hW.1
  refine wm_172 hV (by omega) (by omega)  ?_
  have hl := GX_l h
  have hD := h.2.2.1; have hS := h.2.2.2.2.1; have hC := h.2.2.2.2.2.1; have hlo := h.2.1.2
  unfold wz_172
  refine ⟨s_GC_0 h.1, ?_⟩
  refine ⟨_, _, cz_187 hV h (by omega), fun Ex Ix h9 => ⟨0, by rw [nz_f h9.2.2], h9.1, h9.2.1⟩, ?_⟩
  rintro _ I6 ⟨rfl, e9, hp1⟩; replace e9 := e9.symm; subst e9
  refine ⟨rfl, ?_⟩
  refine ⟨_, _, cz_188 hV h (by omega), fun Ex Ix h9 => ⟨1, by rw [nz_t hp1]; rw [nz_f h9.2.2], h9.1, h9.2.1⟩, ?_⟩
  rintro _ I12 ⟨rfl, e9, hp2⟩; replace e9 := e9.symm; subst e9
  refine ⟨rfl, ?_⟩
  refine ⟨_, _, cz_193 hV h, fun Ex Ix h9 => ⟨3, by rw [nz_t hp1]; rw [nz_t hp2]; rw [nz_f (fun k => k h9.2.2)], h9.1, h9.2.1⟩, ?_⟩
  rintro _ I18 ⟨rfl, e9, hpJ⟩; replace e9 := e9.symm; subst e9
  refine ⟨rfl, ?_⟩
  refine ⟨_, cz_198 hV h hpJ hp1 hp2 (by omega), ?_⟩
  rintro _ I22 ⟨rfl, hF⟩
  refine ⟨_, rfl, ?_⟩
  exact ⟨by rw [nz_t hp1, nz_t hp2, nz_t hpJ], rfl, hF⟩
/-- GrievingCamels.soon -/
theorem cz_173 {V : jx_V} (hV : V.1.stackTraces = false) {X : jx_X} {R : jx_R} {I : jx_I} {a0 : Nat} {a1 : Int} {ld : Nat} {l : LT} {c : CT} 
    (h : GX X R I a0 ld l c) (r_a1 : -2147483648 ≤ a1 ∧ a1 < 2147483648)
    : jc V 10 173 (2, 12) [.ref a0, jy a1] X I R (fun rv I' => nz (0 ≤ a1 ∧ a1 ≤ 9999) 2 (nz (CJ c ≠ []) 3 (none)) = none ∧ rv = some (jy (ff (fun k => decide (hrs l (CJ c) (CL c) (itg l (CJ c) (CL c) (Cg c) (Cd c) (k - 1)).1 (itg l (CJ c) (CL c) (Cg c) (Cd c) (k - 1)).2 ≤ a1)) 24 0)) ∧ FS a0 I I') (fun E I' => ∃ k, nz (0 ≤ a1 ∧ a1 ≤ 9999) 2 (nz (CJ c ≠ []) 3 (none)) = some k ∧ E = (jx_exe k).1 ∧ I' = rfs I a0 k) := by
  have hW := h.2.2.2.1
  have hW0 := hW.1
  refine wm_173 hV (by omega)  (fun J19 hJJ => ?_)
  have hJ19 := hJJ
  have hl := GX_l h
  have hD := h.2.2.1; have hS := h.2.2.2.2.1; have hC := h.2.2.2.2.2.1; have hlo := h.2.1.2
  have hL8 : ∀ x ∈ CL c, x < 8 := fun x hx => by have := hC.2.1.2 x hx; omega
  unfold wz_173
  refine ⟨s_GC_0 h.1, ?_⟩
  refine ⟨_, _, cz_191 hV h.1 (by omega), fun Ex Ix h9 => ⟨2, by rw [nz_f h9.2.2], h9.1, h9.2.1⟩, ?_⟩
  rintro _ I6 ⟨rfl, e9, hp1⟩; replace e9 := e9.symm; subst e9
  refine ⟨rfl, ?_⟩
  refine ⟨_, _, cz_193 hV h, fun Ex Ix h9 => ⟨3, by rw [nz_t hp1]; rw [nz_f (fun k => k h9.2.2)], h9.1, h9.2.1⟩, ?_⟩
  rintro _ I12 ⟨rfl, e9, hpJ⟩; replace e9 := e9.symm; subst e9
  refine ⟨rfl, ?_⟩
  refine ⟨_, r_GC_0_2 h.1, s_State_0 (b_GC_4 h.1), _, r_State_0_0 (b_GC_4 h.1), ?_⟩
  have L19 : ∀ (n19 : Nat) (l2 : Nat) (l3 : Int) (K : jx_I), n19 = (25 - l3).toNat → (∃ k : Nat, l3 = (k + 1 : Nat) ∧ k ≤ 24 ∧ (l2 = a0 + 5 ∨ l2 = a0 + 18) ∧ HD K l2 (itg l (CJ c) (CL c) (Cg c) (Cd c) k).1 (itg l (CJ c) (CL c) (Cg c) (Cd c) k).2 ∧ ff (fun k => decide (hrs l (CJ c) (CL c) (itg l (CJ c) (CL c) (Cg c) (Cd c) (k - 1)).1 (itg l (CJ c) (CL c) (Cg c) (Cd c) (k - 1)).2 ≤ a1)) 24 0 = ff (fun k => decide (hrs l (CJ c) (CL c) (itg l (CJ c) (CL c) (Cg c) (Cd c) (k - 1)).1 (itg l (CJ c) (CL c) (Cg c) (Cd c) (k - 1)).2 ≤ a1)) (24 - k) k ∧ FS a0 I K) → J19 l2 l3 K := by
    intro n19
    induction n19 using Nat.strongRecOn with
    | ind n19 ih19 =>
    intro l2 l3 K hn19 hI19
    obtain ⟨k, rfl, hk, h4, hH, hff, hF⟩ := hI19
    have h2 := GX_s h hF
    have hGk := GD_it (l := l) (J := CJ c) (L := CL c) hC.1 (fun x hx => by have := (WC_J hC hpJ).2.1 x hx; omega) hL8 k
    have hl2 : BX X R l2 THerd ∧ (l2 = a0 + 5 ∨ l2 = a0 + 18) := by
      rcases h4 with e | e <;> rw [e]
      · exact ⟨b_GC_5 h.1, Or.inl rfl⟩
      · exact ⟨b_GC_18 h.1, Or.inr rfl⟩
    refine hJ19 _ _ _ ?_
    unfold wz_173_19
    refine ⟨by omega, ?_⟩
    refine ⟨fun hq1 => ?_, fun hq1 => ?_⟩
    · rw [show 24 - k = 0 by omega] at hff
      exact ⟨by rw [nz_t hp1, nz_t hpJ], by rw [hff]; rfl, hF⟩
    · refine ⟨s_GC_0 h.1, _, r_GC_0_4 h.1, _, h.2.1.1, _, r_GC_0_2 h.1, s_State_0 (b_GC_4 h.1), _, r_State_0_2 (b_GC_4 h.1), _, r_State_0_1 (b_GC_4 h.1), s_Trip_0 (b_GC_17 h.1), ?_⟩
      refine ⟨_, cz_121 hV (b_GC_17 h.1) hl (b_GC_11 h.1) (b_GC_9 h.1) h2.2.2.1 hW h2.2.2.2.2.1.2.2.1 (WC_J hC hpJ).2.1 h2.2.2.2.2.1.2.1 hC.2.1.2 hC.2.1.1 hGk (by omega) (by omega) (by omega) hl2.1 (WC_J hC hpJ).2.2 hH (by omega) (by omega), ?_⟩
      rintro _ I35 ⟨rfl, hT, h0, hFt⟩
      refine ⟨rfl, ?_⟩
      have hF3 : FS a0 I I35 := FS_2 hF hFt h0 hlo
      have hvv : (I35 (a0 + 17) 3).toInt + (I35 (a0 + 17) 4).toInt = hrs l (CJ c) (CL c) (itg l (CJ c) (CL c) (Cg c) (Cd c) k).1 (itg l (CJ c) (CL c) (Cg c) (Cd c) k).2 := by rw [hT.2.1, hT.2.2.1]; rfl
      have hvr := hrs_rng hW (WC_J hC hpJ).2.1 (WC_J hC hpJ).1.2 (CL c) (itg l (CJ c) (CL c) (Cg c) (Cd c) k).1 (itg l (CJ c) (CL c) (Cg c) (Cd c) k).2
      refine ⟨_, cz_123 hV (b_GC_17 h.1), ?_⟩
      rintro _ I39 ⟨rfl, e9⟩; replace e9 := e9.symm; subst e9
      refine ⟨_, rfl, ?_⟩
      simp only [-eq_self, hvv]
      refine ⟨by omega, ?_⟩
      refine ⟨fun hq2 => ?_, fun hq2 => ?_⟩
      · refine ⟨_, r_Trip_0_0 (b_GC_17 h.1), ?_⟩
        exact ih19 _ (by omega) _ _ _ rfl (⟨k + 1, by omega, by omega, Or.inr rfl, hT.1, by rw [hff, show 24 - k = (24 - (k + 1)) + 1 by omega, ff_s, if_neg]; simp only [decide_eq_true_eq, Nat.add_sub_cancel]; omega, hF3⟩)
      · exact ⟨by rw [nz_t hp1, nz_t hpJ], by rw [hff, show 24 - k = (24 - (k + 1)) + 1 by omega, ff_s, if_pos]; simp only [decide_eq_true_eq, Nat.add_sub_cancel]; omega, hF3⟩
  exact L19 _ _ _ _ rfl (⟨0, rfl, by omega, Or.inl rfl, hS.1, rfl, FS_refl⟩)
/-- GrievingCamels.undo -/
theorem cz_159 {V : jx_V} (hV : V.1.stackTraces = false) {X : jx_X} {R : jx_R} {I : jx_I} {a0 : Nat} {ld : Nat} {l : LT} {c : CT} 
    (h : GX X R I a0 ld l c) 
    {QE : String → jx_I → Prop} : jc V 2 159 (0, 0) [.ref a0] X I R (fun rv I' => (CU c = [] ∧ rv = some (jy (-1)) ∧ I' = I) ∨ (∃ (u : List (GT × GT)) (e : GT × GT), CU c = u ++ [e] ∧ rv = some (jy (u.length : Int)) ∧ SX I' (a0 + 4) (e, c.2.1, CN c, u) ∧ FG a0 I I')) QE := by
  have hW := h.2.2.2.1
  have hW0 := hW.1
  refine wm_159 hV   ?_
  have hl := GX_l h
  have hD := h.2.2.1; have hS := h.2.2.2.2.1; have hC := h.2.2.2.2.2.1; have hlo := h.2.1.2
  unfold wz_159
  refine ⟨s_GC_0 h.1, _, r_GC_0_2 h.1, s_State_0 (b_GC_4 h.1), ?_⟩
  refine ⟨_, cz_100 hV (b_GC_4 h.1) hS, ?_⟩
  rintro _ I7 ⟨r, rfl, hr⟩
  refine ⟨_, rfl, ?_⟩
  refine ⟨by rcases hr with hr | ⟨u, e, hr, _⟩ <;> omega, ?_⟩
  refine ⟨fun hq1 => ?_, fun hq1 => ?_⟩
  · rcases hr with hr | ⟨u, e, hr, _⟩
    · exact Or.inl ⟨hr.2.1, rfl, hr.2.2⟩
    · omega
  · rcases hr with hr | ⟨u, e, hr, hu, hSX, hF⟩
    · omega
    · exact Or.inr ⟨u, e, hu, by rw [hSX.2.2.2.2.1], hSX, FG_fr (FG_s FS_refl) hF (by omega)⟩
/-- GrievingCamels.lay -/
theorem cz_174 {V : jx_V} (hV : V.1.stackTraces = false) {X : jx_X} {R : jx_R} {I : jx_I} {a0 : Nat} {a1 : Int} {a2 : Int} {ld : Nat} {l : LT} {c : CT} 
    (h : GX X R I a0 ld l c) (r_a1 : -2147483648 ≤ a1 ∧ a1 < 2147483648) (r_a2 : -2147483648 ≤ a2 ∧ a2 < 2147483648)
    : jc V 9 174 (2, 12) [.ref a0, jy a1, jy a2] X I R (fun rv I' => nz (0 ≤ a1 ∧ a1 < ((2 ^ Lm l : Nat) : Int)) 2 (nz (0 ≤ a2 ∧ a2 ≤ 99) 2 (none)) = none ∧ ((9 ≤ (CN c).length ∧ rv = some (jy (-1)) ∧ I' = I) ∨ ((CN c).length < 9 ∧ rv = some (jy ((CN c).length + 1 : Nat)) ∧ SX I' (a0 + 4) (c.1, c.2.1, CN c ++ [(a1.toNat, a2)], CU c) ∧ (I' (a0 + 89) 6).toInt = 1 ∧ (∀ k, k ≠ 6 → I' (a0 + 89) k = I (a0 + 89) k) ∧ (∀ q, (q < a0 + 4 ∨ a0 + 16 ≤ q) → q ≠ a0 + 89 → I' q = I q)))) (fun E I' => ∃ k, nz (0 ≤ a1 ∧ a1 < ((2 ^ Lm l : Nat) : Int)) 2 (nz (0 ≤ a2 ∧ a2 ≤ 99) 2 (none)) = some k ∧ E = (jx_exe k).1 ∧ I' = rfs I a0 k) := by
  have hW := h.2.2.2.1
  have hW0 := hW.1
  refine wm_174 hV (by omega) (by omega)  (fun J28 hJJ => ?_)
  have hJ28 := hJJ
  have hl := GX_l h
  have hD := h.2.2.1; have hS := h.2.2.2.2.1; have hC := h.2.2.2.2.2.1; have hlo := h.2.1.2
  have hpw : 2 ^ Lm l ≤ 2 ^ 8 := Nat.pow_le_pow_right (by omega) hW0.2
  unfold wz_174
  refine ⟨s_GC_0 h.1, _, h.2.1.1, s_Land_0 hl, ?_⟩
  refine ⟨_, cz_42 hV hl hD hW0.2 (by omega), ?_⟩
  rintro _ I7 ⟨rfl, e9⟩; replace e9 := e9.symm; subst e9
  refine ⟨_, rfl, ?_⟩
  refine ⟨_, _, cz_189 hV h.1 (by split <;> omega), fun Ex Ix h9 => ⟨2, by rw [nz_f (fun k => by rw [if_pos k] at h9; exact absurd h9.2.2 (by decide))], h9.1, h9.2.1⟩, ?_⟩
  rintro _ I13 ⟨rfl, e9, hpa⟩; replace e9 := e9.symm; subst e9
  refine ⟨rfl, ?_⟩
  have hp1 : 0 ≤ a1 ∧ a1 < ((2 ^ Lm l : Nat) : Int) := by
    by_cases k : 0 ≤ a1 ∧ a1 < ((2 ^ Lm l : Nat) : Int)
    · exact k
    · rw [if_neg k] at hpa; exact absurd rfl hpa
  refine ⟨fun hq1 => ?_, fun hq1 => ?_⟩
  · refine hJ28 _ _ _ ?_
    unfold wz_174_28
    refine ⟨s_GC_0 h.1, ?_⟩
    refine ⟨_, _, cz_189 hV h.1 (by omega), fun Ex Ix h9 => ⟨2, by rw [nz_t hp1, nz_f (by omega)], h9.1, h9.2.1⟩, ?_⟩
    rintro _ I20 ⟨rfl, e9, hp⟩; replace e9 := e9.symm; subst e9
    exact absurd rfl hp
  · refine ⟨fun hq2 => ?_, fun hq2 => ?_⟩
    · refine hJ28 _ _ _ ?_
      unfold wz_174_28
      refine ⟨s_GC_0 h.1, ?_⟩
      refine ⟨_, _, cz_189 hV h.1 (by omega), fun Ex Ix h9 => ⟨2, by rw [nz_t hp1, nz_f (by omega)], h9.1, h9.2.1⟩, ?_⟩
      rintro _ I20 ⟨rfl, e9, hp⟩; replace e9 := e9.symm; subst e9
      exact absurd rfl hp
    · refine hJ28 _ _ _ ?_
      unfold wz_174_28
      refine ⟨s_GC_0 h.1, ?_⟩
      refine ⟨_, _, cz_189 hV h.1 (by omega), fun Ex Ix h9 => absurd h9.2.2 (by decide), ?_⟩
      rintro _ I20 ⟨rfl, e9, hp⟩; replace e9 := e9.symm; subst e9
      refine ⟨rfl, ?_⟩
      refine ⟨s_GC_0 h.1, _, r_GC_0_2 h.1, s_State_0 (b_GC_4 h.1), ?_⟩
      refine ⟨_, cz_98 (B := a1.toNat) hV (b_GC_4 h.1) hS (by omega) (by omega) (by omega), ?_⟩
      rintro _ I28 ⟨r, rfl, hr⟩
      refine ⟨_, rfl, ?_⟩
      refine ⟨by rcases hr with hr | hr <;> omega, ?_⟩
      refine ⟨fun hq3 => ?_, fun hq3 => ?_⟩
      · refine ⟨_, r_GC_0_7 h.1, s_Explainer_0 (b_GC_89 h.1), ?_⟩
        intro I34 e_I34; subst e_I34
        rcases hr with hr | hr
        · refine ⟨by rw [nz_t hp1, nz_t (by omega)], Or.inr ⟨hr.2.1, ?_, SX_of hr.2.2.1 (fun q h1 h2 => jx_u_r _ _ _ (by omega)), by rw [jx_u_s]; rfl, fun k hk => by rw [jx_u_k _ _ _ _ hk, hr.2.2.2 _ (by omega)], fun q h1 h2 => by rw [jx_u_r _ _ _ h2, hr.2.2.2 q (by omega)]⟩⟩
          rw [jx_u_a _ _ _ _ (by omega), hr.2.2.1.2.2.2.1.1]
          simp [CN]
        · omega
      · rcases hr with hr | hr
        · omega
        · exact ⟨by rw [nz_t hp1, nz_t (by omega)], Or.inl ⟨hr.2.1, rfl, hr.2.2⟩⟩
/-- GrievingCamels.clear -/
theorem cz_175 {V : jx_V} (hV : V.1.stackTraces = false) {X : jx_X} {R : jx_R} {I : jx_I} {a0 : Nat} {ld : Nat} {l : LT} {c : CT} 
    (h : GX X R I a0 ld l c) 
    {QE : String → jx_I → Prop} : jc V 1 175 (0, 0) [.ref a0] X I R (fun rv I' => rv = some (jy ((CN c).length : Int)) ∧ SX I' (a0 + 4) (c.1, c.2.1, [], CU c) ∧ (I' (a0 + 89) 6).toInt = 1 ∧ (∀ k, k ≠ 6 → I' (a0 + 89) k = I (a0 + 89) k) ∧ (∀ q, q ≠ a0 + 4 → q ≠ a0 + 89 → I' q = I q)) QE := by
  have hW := h.2.2.2.1
  have hW0 := hW.1
  refine wm_175 hV   ?_
  have hl := GX_l h
  have hD := h.2.2.1; have hS := h.2.2.2.2.1; have hC := h.2.2.2.2.2.1; have hlo := h.2.1.2
  unfold wz_175
  refine ⟨s_GC_0 h.1, _, r_GC_0_2 h.1, s_State_0 (b_GC_4 h.1), ?_⟩
  intro I5 e_I5; subst e_I5
  refine ⟨_, r_GC_0_7 h.1, s_Explainer_0 (b_GC_89 h.1), ?_⟩
  intro I9 e_I9; subst e_I9
  have o9 : ∀ q, q ≠ a0 + 4 → q ≠ a0 + 89 → (jx_u (jx_u I (a0 + 4) 6 (Int32.ofInt 0)) (a0 + 89) 6 (Int32.ofInt 1)) q = I q := fun q h1 h2 => by rw [jx_u_r _ _ _ h2, jx_u_r _ _ _ h1]
  refine ⟨by rw [hS.2.2.2.1.1], ⟨HD_of hS.1 (o9 _ (by omega) (by omega)) (o9 _ (by omega) (by omega)), RW_of hS.2.1 (o9 _ (by omega) (by omega)) (o9 _ (by omega) (by omega)), RW_of hS.2.2.1 (o9 _ (by omega) (by omega)) (o9 _ (by omega) (by omega)), ⟨?_, Nat.zero_le _, fun k e hk => by simp [CN] at hk⟩, ?_⟩, by rw [jx_u_s]; rfl, fun k hk => by rw [jx_u_k _ _ _ _ hk, jx_u_r _ _ _ (by omega)], o9⟩
  · rw [jx_u_a _ _ _ _ (by omega), jx_u_s]; rfl
  · rw [jx_u_a _ _ _ _ (by omega), jx_u_k _ _ _ _ (by omega), o9 _ (by omega) (by omega)]; exact hS.2.2.2.2
def cpv (l : LT) (g : GT) (A B : Nat) : Nat → Int
  | 0 => 0
  | n + 1 => cpv l g A B n + wlr g n A (gmx g n B 8 / 2) 8 + wlr g n B (gmx g n A 8 / 2) 8
theorem gmx_rng {g d : GT} (hG : GD g d) {p B : Nat} (hp : p < 10) : ∀ n, n ≤ 8 → 0 ≤ gmx g p B n ∧ gmx g p B n ≤ 20
  | 0, _ => ⟨Int.le_refl _, by show (0 : Int) ≤ 20; decide⟩
  | n + 1, hn => by
    have h1 := gmx_rng hG (p := p) (B := B) hp n (by omega)
    have h2 := (hG p n hp (by omega)).1
    rcases bN_01 B n with e | e
    · unfold gmx at h1 ⊢
      rw [bl_0 e]
      exact h1
    · unfold gmx at h1 ⊢
      rw [bl_1 (by omega), List.foldl_append]
      show 0 ≤ max (List.foldl (fun m c => max m (g p c)) 0 (bl B n)) (g p n) ∧ max (List.foldl (fun m c => max m (g p c)) 0 (bl B n)) (g p n) ≤ 20
      omega
/-- GrievingCamels.compared -/
theorem cz_177 {V : jx_V} (hV : V.1.stackTraces = false) {X : jx_X} {R : jx_R} {I : jx_I} {a0 : Nat} {a1 : Int} {a2 : Int} {ld : Nat} {l : LT} {c : CT} 
    (h : GX X R I a0 ld l c) (r_a1 : -2147483648 ≤ a1 ∧ a1 < 2147483648) (r_a2 : -2147483648 ≤ a2 ∧ a2 < 2147483648)
    : jc V 9 177 (2, 12) [.ref a0, jy a1, jy a2] X I R (fun rv I' => nz ((0 ≤ a1 ∧ a1 < ((2 ^ Lm l : Nat) : Int)) ∧ (0 ≤ a2 ∧ a2 < ((2 ^ Lm l : Nat) : Int))) 2 (nz (a1.toNat &&& a2.toNat = 0) 2 (none)) = none ∧ rv = some (jy (cpv l (Cg c) a1.toNat a2.toNat (Ln l))) ∧ I' = I) (fun E I' => ∃ k, nz ((0 ≤ a1 ∧ a1 < ((2 ^ Lm l : Nat) : Int)) ∧ (0 ≤ a2 ∧ a2 < ((2 ^ Lm l : Nat) : Int))) 2 (nz (a1.toNat &&& a2.toNat = 0) 2 (none)) = some k ∧ E = (jx_exe k).1 ∧ I' = rfs I a0 k) := by
  have hW := h.2.2.2.1
  have hW0 := hW.1
  refine wm_177 hV (by omega) (by omega)  (fun J28 J43 J51 hJJ => ?_)
  obtain ⟨hJ28, hJ43, hJ51⟩ := hJJ
  have hl := GX_l h
  have hD := h.2.2.1; have hS := h.2.2.2.2.1; have hC := h.2.2.2.2.2.1; have hlo := h.2.1.2
  have hpw : 2 ^ Lm l ≤ 2 ^ 8 := Nat.pow_le_pow_right (by omega) hW0.2
  unfold wz_177
  refine ⟨s_GC_0 h.1, _, h.2.1.1, s_Land_0 hl, ?_⟩
  refine ⟨_, cz_42 hV hl hD hW0.2 (by omega), ?_⟩
  rintro _ I7 ⟨rfl, e9⟩; replace e9 := e9.symm; subst e9
  refine ⟨_, rfl, ?_⟩
  refine ⟨by omega, ?_⟩
  refine ⟨fun hq1 => ?_, fun hq1 => ?_⟩
  · refine hJ28 _ _ _ ?_
    unfold wz_177_28
    refine ⟨s_GC_0 h.1, ?_⟩
    refine ⟨_, _, cz_189 hV h.1 (by omega), fun Ex Ix h9 => ⟨2, by rw [nz_f (fun k => by rw [if_pos k.1] at hq1; exact absurd hq1 (by decide))], h9.1, h9.2.1⟩, ?_⟩
    rintro _ I20 ⟨rfl, e9, hp⟩; replace e9 := e9.symm; subst e9
    exact absurd rfl hp
  · refine ⟨_, cz_42 hV hl hD hW0.2 (by omega), ?_⟩
    rintro _ I12 ⟨rfl, e9⟩; replace e9 := e9.symm; subst e9
    refine ⟨_, rfl, ?_⟩
    refine ⟨by omega, ?_⟩
    refine ⟨fun hq2 => ?_, fun hq2 => ?_⟩
    · refine hJ28 _ _ _ ?_
      unfold wz_177_28
      refine ⟨s_GC_0 h.1, ?_⟩
      refine ⟨_, _, cz_189 hV h.1 (by omega), fun Ex Ix h9 => ⟨2, by rw [nz_f (fun k => by rw [if_pos k.2] at hq2; exact absurd hq2 (by decide))], h9.1, h9.2.1⟩, ?_⟩
      rintro _ I20 ⟨rfl, e9, hp⟩; replace e9 := e9.symm; subst e9
      exact absurd rfl hp
    · have hp12 : (0 ≤ a1 ∧ a1 < ((2 ^ Lm l : Nat) : Int)) ∧ (0 ≤ a2 ∧ a2 < ((2 ^ Lm l : Nat) : Int)) := by
        by_cases k1 : 0 ≤ a1 ∧ a1 < ((2 ^ Lm l : Nat) : Int)
        · by_cases k2 : 0 ≤ a2 ∧ a2 < ((2 ^ Lm l : Nat) : Int)
          · exact ⟨k1, k2⟩
          · rw [if_neg k2] at hq2; exact absurd rfl hq2
        · rw [if_neg k1] at hq1; exact absurd rfl hq1
      have hand := jz_and (a := a1.toNat) (b := a2.toNat) (by omega) (by omega)
      rw [show (a1.toNat : Int) = a1 by omega, show (a2.toNat : Int) = a2 by omega] at hand
      try simp only [-eq_self, hand]
      refine hJ28 _ _ _ ?_
      unfold wz_177_28
      refine ⟨s_GC_0 h.1, ?_⟩
      refine ⟨_, _, cz_189 hV h.1 (by omega), fun Ex Ix h9 => absurd h9.2.2 (by decide), ?_⟩
      rintro _ I20 ⟨rfl, e9, hp⟩; replace e9 := e9.symm; subst e9
      refine ⟨rfl, ?_⟩
      refine ⟨fun hq3 => ?_, fun hq3 => ?_⟩
      · refine hJ43 _ _ _ ?_
        unfold wz_177_43
        refine ⟨s_GC_0 h.1, ?_⟩
        refine ⟨_, _, cz_189 hV h.1 (by omega), fun Ex Ix h9 => ⟨2, by rw [nz_t hp12, nz_f (by omega)], h9.1, h9.2.1⟩, ?_⟩
        rintro _ I27 ⟨rfl, e9, hp⟩; replace e9 := e9.symm; subst e9
        exact absurd rfl hp
      · refine hJ43 _ _ _ ?_
        unfold wz_177_43
        refine ⟨s_GC_0 h.1, ?_⟩
        refine ⟨_, _, cz_189 hV h.1 (by omega), fun Ex Ix h9 => absurd h9.2.2 (by decide), ?_⟩
        rintro _ I27 ⟨rfl, e9, hp⟩; replace e9 := e9.symm; subst e9
        refine ⟨rfl, ?_⟩
        have L51 : ∀ (n51 : Nat) (l3 : Int) (l4 : Int) (K : jx_I), n51 = ((Ln l : Int) - l4).toNat → (∃ k : Nat, l4 = k ∧ k ≤ Ln l ∧ l3 = cpv l (Cg c) a1.toNat a2.toNat k ∧ K = I) → J51 l3 l4 K := by
          intro n51
          induction n51 using Nat.strongRecOn with
          | ind n51 ih51 =>
          intro l3 l4 K hn51 hI51
          obtain ⟨k, rfl, hk, rfl, rfl⟩ := hI51
          have hn7 := hD.1.1
          refine hJ51 _ _ _ ?_
          unfold wz_177_51
          refine ⟨s_GC_0 h.1, _, h.2.1.1, s_Land_0 hl, by omega, ?_⟩
          refine ⟨fun hq4 => ?_, fun hq4 => ?_⟩
          · exact ⟨by rw [nz_t hp12, nz_t (by omega)], by rw [show Ln l = k by omega], rfl⟩
          · have hgr1 := gmx_rng hC.1 (p := k) (B := a1.toNat) (by omega) 8 (by omega)
            have hgr2 := gmx_rng hC.1 (p := k) (B := a2.toNat) (by omega) 8 (by omega)
            have hd1 := jz_div2 (x := gmx (Cg c) k a1.toNat 8) (by omega)
            have hd2 := jz_div2 (x := gmx (Cg c) k a2.toNat 8) (by omega)
            refine ⟨_, r_GC_0_2 h.1, s_State_0 (b_GC_4 h.1), _, r_State_0_0 (b_GC_4 h.1), s_Herd_0 (b_GC_5 h.1), ?_⟩
            refine ⟨_, cz_20 (p := k) (B := a2.toNat) hV (b_GC_5 h.1) hS.1 hC.1 rfl (by omega) (by omega) (by omega), ?_⟩
            rintro _ I42 ⟨rfl, e9⟩; replace e9 := e9.symm; subst e9
            refine ⟨_, rfl, ?_⟩
            try simp only [-eq_self, hd2]
            refine ⟨_, cz_21 (p := k) (B := a1.toNat) hV (b_GC_5 h.1) hS.1 hC.1 rfl (by omega) (by omega) (by omega) (by omega), ?_⟩
            rintro _ I46 ⟨rfl, e9⟩; replace e9 := e9.symm; subst e9
            refine ⟨_, rfl, ?_⟩
            refine ⟨_, cz_20 (p := k) (B := a1.toNat) hV (b_GC_5 h.1) hS.1 hC.1 rfl (by omega) (by omega) (by omega), ?_⟩
            rintro _ I50 ⟨rfl, e9⟩; replace e9 := e9.symm; subst e9
            refine ⟨_, rfl, ?_⟩
            try simp only [-eq_self, hd1]
            refine ⟨_, cz_21 (p := k) (B := a2.toNat) hV (b_GC_5 h.1) hS.1 hC.1 rfl (by omega) (by omega) (by omega) (by omega), ?_⟩
            rintro _ I54 ⟨rfl, e9⟩; replace e9 := e9.symm; subst e9
            refine ⟨_, rfl, ?_⟩
            exact ih51 _ (by omega) _ _ _ rfl (⟨k + 1, by omega, by omega, rfl, rfl⟩)
        exact L51 _ _ _ _ rfl (⟨0, rfl, by omega, rfl, rfl⟩)
theorem GC_img {X : jx_X} {R : jx_R} {a k : Nat} (h : BX X R a TGC) (hk : k < 3) : R (a + 16) k = some (a + (111 + 12 * k)) ∧ BX X R (a + (111 + 12 * k)) TState := by
  rcases (by omega : k = 0 ∨ k = 1 ∨ k = 2) with rfl | rfl | rfl
  · exact ⟨r_GC_16_0 h, b_GC_111 h⟩
  · exact ⟨r_GC_16_1 h, b_GC_123 h⟩
  · exact ⟨r_GC_16_2 h, b_GC_135 h⟩
/-- GrievingCamels.image -/
theorem cz_183 {V : jx_V} (hV : V.1.stackTraces = false) {X : jx_X} {R : jx_R} {I : jx_I} {a0 : Nat} {ld : Nat} {l : LT} {c : CT} {n : Nat}
    (h : GX X R I a0 ld l c) (hn : (I a0 15).toInt = (n : Int)) (hn3 : n ≤ 3)
    {QE : String → jx_I → Prop} : jc V 3 183 (0, 0) [.ref a0] X I R (fun rv I' => (n = 3 ∧ rv = some (jy (-1)) ∧ I' = I) ∨ (n < 3 ∧ rv = some (jy (n + 1 : Nat)) ∧ SX I' (a0 + (111 + 12 * n)) c ∧ (I' a0 15).toInt = (n + 1 : Nat) ∧ (∀ q, (q < a0 + (111 + 12 * n) ∨ a0 + (111 + 12 * n) + 12 ≤ q) → q ≠ a0 → I' q = I q))) QE := by
  have hW := h.2.2.2.1
  have hW0 := hW.1
  refine wm_183 hV   ?_
  have hl := GX_l h
  have hD := h.2.2.1; have hS := h.2.2.2.2.1; have hC := h.2.2.2.2.2.1; have hlo := h.2.1.2
  unfold wz_183
  refine ⟨s_GC_0 h.1, ?_⟩
  refine ⟨fun hq1 => ?_, fun hq1 => ?_⟩
  · refine ⟨_, r_GC_0_3 h.1, _, ⟨s_GC_16 h.1, by decide⟩, ?_⟩
    try simp only [-eq_self, hn, Int.toNat_natCast]
    refine ⟨by omega, _, (GC_img (k := n) h.1 (by omega)).1, _, r_GC_0_2 h.1, s_State_0 (GC_img (k := n) h.1 (by omega)).2, ?_⟩
    refine ⟨_, cz_97 hV (GC_img (k := n) h.1 (by omega)).2 (b_GC_4 h.1) hS (by omega), ?_⟩
    rintro _ I14 ⟨rfl, hX, hF⟩
    refine ⟨rfl, ?_⟩
    intro I16 e_I16; subst e_I16
    have e15 : (I14 a0 15).toInt = (n : Int) := by rw [hF a0 (by omega), hn]
    refine Or.inr ⟨by omega, ?_, SX_of hX (fun q h1 h2 => jx_u_r _ _ _ (by omega)), ?_, fun q h1 h2 => by rw [jx_u_r _ _ _ h2, hF q h1]⟩
    · rw [jx_u_s, e15]; rw [jy_toInt (by omega)]; rfl
    · rw [jx_u_s, e15]; rw [jy_toInt (by omega)]; rfl
  · exact Or.inl ⟨by omega, rfl, rfl⟩
/-- GrievingCamels.restore -/
theorem cz_184 {V : jx_V} (hV : V.1.stackTraces = false) {X : jx_X} {R : jx_R} {I : jx_I} {a0 : Nat} {ld : Nat} {l : LT} {c : CT} {n : Nat} {e : CT}
    (h : GX X R I a0 ld l c) (hn : (I a0 15).toInt = ((n : Nat) : Int) + 1) (hn3 : n < 3) (hX : SX I (a0 + (111 + 12 * n)) e)
    {QE : String → jx_I → Prop} : jc V 3 184 (0, 0) [.ref a0] X I R (fun rv I' => rv = some (jy (n : Int)) ∧ SX I' (a0 + 4) e ∧ (I' a0 15).toInt = (n : Int) ∧ (I' (a0 + 89) 6).toInt = 1 ∧ (∀ k, k ≠ 6 → I' (a0 + 89) k = I (a0 + 89) k) ∧ (∀ q, (q < a0 + 4 ∨ a0 + 16 ≤ q) → q ≠ a0 → q ≠ a0 + 89 → I' q = I q)) QE := by
  have hW := h.2.2.2.1
  have hW0 := hW.1
  refine wm_184 hV   ?_
  have hl := GX_l h
  have hD := h.2.2.1; have hS := h.2.2.2.2.1; have hC := h.2.2.2.2.2.1; have hlo := h.2.1.2
  unfold wz_184
  refine ⟨s_GC_0 h.1, ?_⟩
  refine ⟨fun hq1 => ?_, fun hq1 => ?_⟩
  · intro I2 e_I2
    rw [hn] at e_I2
    have e15 : (I2 a0 15).toInt = (n : Int) := by rw [e_I2, jx_u_s, jy_toInt (by omega)]; omega
    try simp only [-eq_self, e15, Int.toNat_natCast]
    refine ⟨_, r_GC_0_2 h.1, _, r_GC_0_3 h.1, _, ⟨s_GC_16 h.1, by decide⟩, by omega, _, (GC_img (k := n) h.1 (by omega)).1, s_State_0 (b_GC_4 h.1), ?_⟩
    refine ⟨_, cz_97 hV (b_GC_4 h.1) (GC_img (k := n) h.1 (by omega)).2 (SX_of hX (fun q h1 h2 => by rw [e_I2]; exact jx_u_r _ _ _ (by omega))) (by omega), ?_⟩
    rintro _ I15 ⟨rfl, hX2, hF⟩
    refine ⟨rfl, ?_⟩
    refine ⟨_, r_GC_0_7 h.1, s_Explainer_0 (b_GC_89 h.1), ?_⟩
    intro I20 e_I20; subst e_I20
    have q15 : I15 a0 = I2 a0 := hF a0 (by omega)
    have v15 : (jx_u I15 (a0 + 89) 6 (Int32.ofInt 1) a0 15).toInt = (n : Int) := by rw [jx_u_a _ _ _ _ (by omega), q15, e15]
    exact ⟨by rw [v15], SX_of hX2 (fun q h1 h2 => jx_u_r _ _ _ (by omega)), v15, by rw [jx_u_s]; rfl, fun k hk => by rw [jx_u_k _ _ _ _ hk, hF _ (by omega), e_I2, jx_u_r _ _ _ (by omega)], fun q h1 h2 h3 => by rw [jx_u_r _ _ _ h3, hF q (by omega), e_I2, jx_u_r _ _ _ h2]⟩
  · omega
/-- GrievingCamels.restore -/
theorem cz_184z {V : jx_V} (hV : V.1.stackTraces = false) {X : jx_X} {R : jx_R} {I : jx_I} {a0 : Nat} {ld : Nat} {l : LT} {c : CT} 
    (h : GX X R I a0 ld l c) (hn : (I a0 15).toInt = 0)
    {QE : String → jx_I → Prop} : jc V 3 184 (0, 0) [.ref a0] X I R (fun rv I' => rv = some (jy (-1)) ∧ I' = I) QE := by
  have hW := h.2.2.2.1
  have hW0 := hW.1
  refine wm_184 hV   ?_
  have hl := GX_l h
  have hD := h.2.2.1; have hS := h.2.2.2.2.1; have hC := h.2.2.2.2.2.1; have hlo := h.2.1.2
  unfold wz_184
  refine ⟨s_GC_0 h.1, ?_⟩
  refine ⟨fun hq1 => ?_, fun hq1 => ?_⟩
  · omega
  · exact ⟨rfl, rfl⟩
theorem pc_nd {L : List Nat} (h : ∀ x ∈ L, x < 10) : (pc (bo L) = L.length) ↔ L.Nodup := by
  have hf : ∀ M : List Nat, pc (bo M) = ((List.range 10).filter (fun c => decide (c ∈ M))).length := by
    intro M
    unfold pc
    congr 1
    apply List.filter_congr
    intro x _
    rw [bo_t]
  have key : ∀ (M : List Nat) (n : Nat), ((List.range n).filter (fun c => decide (c ∈ M))).length ≤ M.length ∧ ((∀ x ∈ M, x < n) → (((List.range n).filter (fun c => decide (c ∈ M))).length = M.length ↔ M.Nodup)) := by
    intro M
    induction M with
    | nil => intro n; simp
    | cons a M ih =>
      intro n
      obtain ⟨i1, i2⟩ := ih n
      have hsp : ((List.range n).filter (fun c => decide (c ∈ a :: M))).length = ((List.range n).filter (fun c => decide (c ∈ M))).length + (if a ∈ M ∨ n ≤ a then 0 else 1) := by
        clear i1 i2
        induction n with
        | zero => simp
        | succ n ihn =>
          rw [List.range_succ, List.filter_append, List.filter_append, List.length_append, List.length_append, ihn]
          by_cases e : n = a
          · subst e
            by_cases e2 : n ∈ M
            · simp [e2]
            · simp [e2]
          · by_cases e3 : n ∈ M
            · by_cases e2 : a ∈ M
              · simp [e3, e2]
              · have : (n + 1 ≤ a) ↔ (n ≤ a) := by omega
                simp [e3, e2, this]
                omega
            · by_cases e2 : a ∈ M
              · simp [e3, e2, e]
              · have : (n + 1 ≤ a) ↔ (n ≤ a) := by omega
                simp [e3, e2, this, e]
      rw [hsp, List.length_cons, List.nodup_cons]
      constructor
      · split <;> omega
      · intro hx
        have hn := i2 (fun x hm => hx x (by simp [hm]))
        have ha := hx a (by simp)
        by_cases e2 : a ∈ M
        · rw [if_pos (Or.inl e2)]
          constructor
          · intro h5; omega
          · intro h5; exact absurd e2 h5.1
        · rw [if_neg (by intro h6; rcases h6 with h6 | h6; exact e2 h6; omega)]
          constructor
          · intro h5; exact ⟨e2, hn.mp (by omega)⟩
          · intro h5; have := hn.mpr h5.2; omega
  rw [hf]
  exact (key L 10).2 h
/-- GrievingCamels$Row.holdsOneTwice -/
theorem cz_79 {V : jx_V} (hV : V.1.stackTraces = false) {X : jx_X} {R : jx_R} {I : jx_I} {a0 : Nat} {L : List Nat}
    (hr : BX X R a0 TRow) (hL : RW I a0 L) (hL8 : ∀ x ∈ L, x < 10)
    {QE : String → jx_I → Prop} : jc V 2 79 (0, 0) [.ref a0] X I R (fun rv I' => (∃ r : Int, rv = some (jy r) ∧ ((r = 1 ∧ ¬ L.Nodup) ∨ (r = 0 ∧ L.Nodup))) ∧ I' = I) QE := by
  refine wm_79 hV   ?_
  have hb := bo_lt L hL8
  have hnd := pc_nd hL8
  have hm := hL.1
  unfold wz_79
  refine ⟨s_Row_0 hr, ?_⟩
  refine ⟨_, cz_80 hV hr hL (fun x hx => by have := hL8 x hx; omega), ?_⟩
  rintro _ I4 ⟨rfl, e9⟩; replace e9 := e9.symm; subst e9
  refine ⟨_, rfl, ?_⟩
  refine ⟨_, cz_327 hV rfl (by omega), ?_⟩
  rintro _ I8 ⟨rfl, e9⟩; replace e9 := e9.symm; subst e9
  refine ⟨_, rfl, ?_⟩
  refine ⟨by have : pc (bo L) ≤ 10 := (by unfold pc; have := List.length_filter_le (fun x => (bo L).testBit x) (List.range 10); simpa using this); omega, ?_⟩
  refine ⟨fun hq1 => ?_, fun hq1 => ?_⟩
  · exact ⟨⟨_, rfl, Or.inr ⟨rfl, hnd.mp (by omega)⟩⟩, rfl⟩
  · exact ⟨⟨_, rfl, Or.inl ⟨rfl, fun k => hq1 (by have := hnd.mpr k; omega)⟩⟩, rfl⟩
/-- GrievingCamels.string -/
theorem cz_146 {V : jx_V} (hV : V.1.stackTraces = false) {X : jx_X} {R : jx_R} {I : jx_I} {a0 : Nat} {a1 : Int} {a2 : Int64} {ld : Nat} {l : LT} {c : CT} 
    (h : GX X R I a0 ld l c) (r_a1 : -2147483648 ≤ a1 ∧ a1 < 2147483648)
    : jc V 9 146 (1, 6) [.ref a0, jy a1, .long a2] X I R (fun rv I' => nz (0 ≤ a1 ∧ a1 ≤ 8) 2 (none) = none ∧ ∃ r : Int, rv = some (jy r) ∧ ((r = 1 ∧ (dok a1.toNat a2.toInt (Lm l) ∧ (dgs a1.toNat a2.toInt.toNat).Nodup) ∧ SX I' (a0 + 4) (c.1, (dgs a1.toNat a2.toInt.toNat, CJ c), c.2.2) ∧ FG a0 I I') ∨ (r = 0 ∧ ¬ (dok a1.toNat a2.toInt (Lm l) ∧ (dgs a1.toNat a2.toInt.toNat).Nodup) ∧ FS a0 I I'))) (fun E I' => ∃ k, nz (0 ≤ a1 ∧ a1 ≤ 8) 2 (none) = some k ∧ E = (jx_exe k).1 ∧ I' = rfs I a0 k) := by
  have hW := h.2.2.2.1
  have hW0 := hW.1
  refine wm_146 hV (by omega)  (fun J16 hJJ => ?_)
  have hJ16 := hJJ
  have hl := GX_l h
  have hD := h.2.2.1; have hS := h.2.2.2.2.1; have hC := h.2.2.2.2.2.1; have hlo := h.2.1.2
  have hm8 := hD.1.2
  unfold wz_146
  refine ⟨fun hq1 => ?_, fun hq1 => ?_⟩
  · refine hJ16 _ _ _ ?_
    unfold wz_146_16
    refine ⟨s_GC_0 h.1, ?_⟩
    refine ⟨_, _, cz_189 hV h.1 (by omega), fun Ex Ix h9 => ⟨2, by rw [nz_f (by omega)], h9.1, h9.2.1⟩, ?_⟩
    rintro _ I6 ⟨rfl, e9, hp⟩; replace e9 := e9.symm; subst e9
    exact absurd rfl hp
  · refine ⟨fun hq2 => ?_, fun hq2 => ?_⟩
    · refine hJ16 _ _ _ ?_
      unfold wz_146_16
      refine ⟨s_GC_0 h.1, ?_⟩
      refine ⟨_, _, cz_189 hV h.1 (by omega), fun Ex Ix h9 => ⟨2, by rw [nz_f (by omega)], h9.1, h9.2.1⟩, ?_⟩
      rintro _ I6 ⟨rfl, e9, hp⟩; replace e9 := e9.symm; subst e9
      exact absurd rfl hp
    · refine hJ16 _ _ _ ?_
      unfold wz_146_16
      refine ⟨s_GC_0 h.1, ?_⟩
      refine ⟨_, _, cz_189 hV h.1 (by omega), fun Ex Ix h9 => absurd h9.2.2 (by decide), ?_⟩
      rintro _ I6 ⟨rfl, e9, hp⟩; replace e9 := e9.symm; subst e9
      refine ⟨rfl, ?_⟩
      refine ⟨s_GC_0 h.1, _, r_GC_0_8 h.1, _, h.2.1.1, s_Land_0 hl, s_Row_0 (b_GC_28 h.1), ?_⟩
      refine ⟨_, cz_78 (k := a1.toNat) hV (b_GC_28 h.1) (by omega) (by omega) (by rw [hm8]; omega), ?_⟩
      rintro _ I17 ⟨⟨r, rfl, hr⟩, hF⟩
      refine ⟨_, rfl, ?_⟩
      refine ⟨by rcases hr with hr | hr <;> omega, ?_⟩
      refine ⟨fun hq3 => ?_, fun hq3 => ?_⟩
      · rcases hr with hr | hr
        · omega
        · exact ⟨by rw [nz_t (by omega)], _, rfl, Or.inr ⟨rfl, fun k => hr.2 (by rw [hm8]; exact k.1), FS_fr FS_refl hF (by omega)⟩⟩
      · have hrw : r = 1 ∧ dok a1.toNat a2.toInt (Lm l) ∧ RW I17 (a0 + 28) (dgs a1.toNat a2.toInt.toNat) := by
          rcases hr with hr | hr
          · rw [hm8] at hr; exact hr
          · omega
        refine ⟨_, cz_79 hV (b_GC_28 h.1) hrw.2.2 (fun x hx => dgs_10 _ _ x hx), ?_⟩
        rintro _ I22 ⟨⟨r2, rfl, hr2⟩, e9⟩
        refine ⟨_, rfl, ?_⟩
        refine ⟨by rcases hr2 with hr | hr <;> omega, ?_⟩
        refine ⟨fun hq4 => ?_, fun hq4 => ?_⟩
        · refine ⟨_, r_GC_0_2 h.1, s_State_0 (b_GC_4 h.1), _, r_State_0_1 (b_GC_4 h.1), s_Row_0 (b_GC_9 h.1), ?_⟩
          refine ⟨_, cz_74 hV (b_GC_9 h.1) (b_GC_28 h.1) (by omega) (by rw [e9]; exact hrw.2.2), ?_⟩
          rintro _ I33 ⟨rfl, hR, hF2⟩
          refine ⟨rfl, ?_⟩
          rcases hr2 with hr2 | hr2
          · omega
          · refine ⟨by rw [nz_t (by omega)], _, rfl, Or.inl ⟨rfl, ⟨hrw.2.1, hr2.2⟩, ?_, FG_fr (FG_fr (FG_s FS_refl) (e9 ▸ hF) (by omega)) hF2 (by omega)⟩⟩
            have o : ∀ q, a0 + 4 ≤ q → q < a0 + 16 → q ≠ a0 + 9 → q ≠ a0 + 10 → I33 q = I q := fun q h1 h2 h3 h4 => by rw [hF2 q (by omega), e9, hF q (by omega)]
            exact ⟨HD_of hS.1 (o _ (by omega) (by omega) (by omega) (by omega)) (o _ (by omega) (by omega) (by omega) (by omega)), hR, RW_of hS.2.2.1 (o _ (by omega) (by omega) (by omega) (by omega)) (o _ (by omega) (by omega) (by omega) (by omega)), by rw [o (a0 + 4) (by omega) (by omega) (by omega) (by omega), o (a0 + 4 + 9) (by omega) (by omega) (by omega) (by omega), o (a0 + 4 + 10) (by omega) (by omega) (by omega) (by omega)]; exact hS.2.2.2.1, by rw [o (a0 + 4) (by omega) (by omega) (by omega) (by omega), o (a0 + 4 + 11) (by omega) (by omega) (by omega) (by omega)]; exact hS.2.2.2.2⟩
        · rcases hr2 with hr2 | hr2
          · exact ⟨by rw [nz_t (by omega)], _, rfl, Or.inr ⟨rfl, fun k => hr2.2 k.2, FS_fr FS_refl (e9 ▸ hF) (by omega)⟩⟩
          · omega
/-- GrievingCamels.route -/
theorem cz_152 {V : jx_V} (hV : V.1.stackTraces = false) {X : jx_X} {R : jx_R} {I : jx_I} {a0 : Nat} {a1 : Int} {a2 : Int64} {ld : Nat} {l : LT} {c : CT} 
    (h : GX X R I a0 ld l c) (r_a1 : -2147483648 ≤ a1 ∧ a1 < 2147483648)
    : jc V 9 152 (1, 6) [.ref a0, jy a1, .long a2] X I R (fun rv I' => nz (2 ≤ a1 ∧ a1 ≤ 12) 2 (none) = none ∧ (((dok a1.toNat a2.toInt (Ln l) ∧ RJ (Lr l) (dgs a1.toNat a2.toInt.toNat)) ∧ rv = some (jy (rs (Lr l) (dgs a1.toNat a2.toInt.toNat) (a1.toNat - 1))) ∧ SX I' (a0 + 4) (c.1, (CL c, dgs a1.toNat a2.toInt.toNat), c.2.2) ∧ FG a0 I I') ∨ (¬ (dok a1.toNat a2.toInt (Ln l) ∧ RJ (Lr l) (dgs a1.toNat a2.toInt.toNat)) ∧ rv = some (jy (-1)) ∧ FS a0 I I'))) (fun E I' => ∃ k, nz (2 ≤ a1 ∧ a1 ≤ 12) 2 (none) = some k ∧ E = (jx_exe k).1 ∧ I' = rfs I a0 k) := by
  have hW := h.2.2.2.1
  have hW0 := hW.1
  refine wm_152 hV (by omega)  (fun J17 hJJ => ?_)
  have hJ17 := hJJ
  have hl := GX_l h
  have hD := h.2.2.1; have hS := h.2.2.2.2.1; have hC := h.2.2.2.2.2.1; have hlo := h.2.1.2
  have hn7 := hD.1.1
  unfold wz_152
  refine ⟨fun hq1 => ?_, fun hq1 => ?_⟩
  · refine hJ17 _ _ _ ?_
    unfold wz_152_17
    refine ⟨s_GC_0 h.1, ?_⟩
    refine ⟨_, _, cz_189 hV h.1 (by omega), fun Ex Ix h9 => ⟨2, by rw [nz_f (by omega)], h9.1, h9.2.1⟩, ?_⟩
    rintro _ I6 ⟨rfl, e9, hp⟩; replace e9 := e9.symm; subst e9
    exact absurd rfl hp
  · refine ⟨fun hq2 => ?_, fun hq2 => ?_⟩
    · refine hJ17 _ _ _ ?_
      unfold wz_152_17
      refine ⟨s_GC_0 h.1, ?_⟩
      refine ⟨_, _, cz_189 hV h.1 (by omega), fun Ex Ix h9 => ⟨2, by rw [nz_f (by omega)], h9.1, h9.2.1⟩, ?_⟩
      rintro _ I6 ⟨rfl, e9, hp⟩; replace e9 := e9.symm; subst e9
      exact absurd rfl hp
    · refine hJ17 _ _ _ ?_
      unfold wz_152_17
      refine ⟨s_GC_0 h.1, ?_⟩
      refine ⟨_, _, cz_189 hV h.1 (by omega), fun Ex Ix h9 => absurd h9.2.2 (by decide), ?_⟩
      rintro _ I6 ⟨rfl, e9, hp⟩; replace e9 := e9.symm; subst e9
      refine ⟨rfl, ?_⟩
      refine ⟨s_GC_0 h.1, _, r_GC_0_8 h.1, _, h.2.1.1, s_Land_0 hl, s_Row_0 (b_GC_28 h.1), ?_⟩
      refine ⟨_, cz_78 (k := a1.toNat) hV (b_GC_28 h.1) (by omega) (by omega) (by rw [hn7]; omega), ?_⟩
      rintro _ I17 ⟨⟨r, rfl, hr⟩, hF⟩
      refine ⟨_, rfl, ?_⟩
      refine ⟨by rcases hr with hr | hr <;> omega, ?_⟩
      refine ⟨fun hq3 => ?_, fun hq3 => ?_⟩
      · have hrw : r = 1 ∧ dok a1.toNat a2.toInt (Ln l) ∧ RW I17 (a0 + 28) (dgs a1.toNat a2.toInt.toNat) := by
          rcases hr with hr | hr
          · rw [hn7] at hr; exact hr
          · omega
        refine ⟨_, cz_37 hV hl (LD_fr hD hF (by omega)) hW (b_GC_28 h.1) hrw.2.2 (fun x hx => by have := hrw.2.1.2.2 x hx; omega), ?_⟩
        rintro _ I22 ⟨⟨r2, rfl, hr2⟩, e9⟩
        refine ⟨_, rfl, ?_⟩
        have hlen := dgs_len a1.toNat a2.toInt.toNat
        rw [hlen] at hr2
        have hrr : -1 ≤ r2 ∧ r2 ≤ 288 := by
          rcases hr2 with q | q
          · have h5 := rs_rng (r := Lr l) (J := (dgs a1.toNat a2.toInt.toNat)) (b := 24) (fun k hk => by
              have m1 : ((dgs a1.toNat a2.toInt.toNat)).getD k 0 ∈ (dgs a1.toNat a2.toInt.toNat) := by rw [List.getD_eq_getElem?_getD, List.getElem?_eq_getElem (show k < ((dgs a1.toNat a2.toInt.toNat)).length by omega)]; exact List.getElem_mem _
              have m2 : ((dgs a1.toNat a2.toInt.toNat)).getD (k + 1) 0 ∈ (dgs a1.toNat a2.toInt.toNat) := by rw [List.getD_eq_getElem?_getD, List.getElem?_eq_getElem hk]; exact List.getElem_mem _
              have := hrw.2.1.2.2 _ m1
              have := hrw.2.1.2.2 _ m2
              exact (hW.2.2.1 _ _ (by omega) (by omega)).1) (a1.toNat - 1) (by omega)
            omega
          · omega
        have hr0 : RJ (Lr l) ((dgs a1.toNat a2.toInt.toNat)) → 0 ≤ r2 := fun hj => by
          rcases hr2 with q | q
          · have h5 := rs_rng (r := Lr l) (J := (dgs a1.toNat a2.toInt.toNat)) (b := 24) (fun k hk => by
              have m1 : ((dgs a1.toNat a2.toInt.toNat)).getD k 0 ∈ (dgs a1.toNat a2.toInt.toNat) := by rw [List.getD_eq_getElem?_getD, List.getElem?_eq_getElem (show k < ((dgs a1.toNat a2.toInt.toNat)).length by omega)]; exact List.getElem_mem _
              have m2 : ((dgs a1.toNat a2.toInt.toNat)).getD (k + 1) 0 ∈ (dgs a1.toNat a2.toInt.toNat) := by rw [List.getD_eq_getElem?_getD, List.getElem?_eq_getElem hk]; exact List.getElem_mem _
              have := hrw.2.1.2.2 _ m1
              have := hrw.2.1.2.2 _ m2
              exact (hW.2.2.1 _ _ (by omega) (by omega)).1) (a1.toNat - 1) (by omega)
            omega
          · exact absurd hj q.1
        refine ⟨by omega, ?_⟩
        refine ⟨fun hq4 => ?_, fun hq4 => ?_⟩
        · rcases hr2 with q | q
          · exact absurd (hr0 q.1) (by omega)
          · exact ⟨by rw [nz_t (by omega)], Or.inr ⟨fun k => q.1 k.2, by rw [q.2], FS_fr FS_refl (e9 ▸ hF) (by omega)⟩⟩
        · refine ⟨_, r_GC_0_2 h.1, s_State_0 (b_GC_4 h.1), _, r_State_0_2 (b_GC_4 h.1), s_Row_0 (b_GC_11 h.1), ?_⟩
          refine ⟨_, cz_74 hV (b_GC_11 h.1) (b_GC_28 h.1) (by omega) (by rw [e9]; exact hrw.2.2), ?_⟩
          rintro _ I33 ⟨rfl, hR, hF2⟩
          refine ⟨rfl, ?_⟩
          rcases hr2 with q | q
          · refine ⟨by rw [nz_t (by omega)], Or.inl ⟨⟨hrw.2.1, q.1⟩, by rw [q.2], ?_, FG_fr (FG_fr (FG_s FS_refl) (e9 ▸ hF) (by omega)) hF2 (by omega)⟩⟩
            have o : ∀ q, a0 + 4 ≤ q → q < a0 + 16 → q ≠ a0 + 11 → q ≠ a0 + 12 → I33 q = I q := fun q h1 h2 h3 h4 => by rw [hF2 q (by omega), e9, hF q (by omega)]
            exact ⟨HD_of hS.1 (o _ (by omega) (by omega) (by omega) (by omega)) (o _ (by omega) (by omega) (by omega) (by omega)), RW_of hS.2.1 (o _ (by omega) (by omega) (by omega) (by omega)) (o _ (by omega) (by omega) (by omega) (by omega)), hR, by rw [o (a0 + 4) (by omega) (by omega) (by omega) (by omega), o (a0 + 4 + 9) (by omega) (by omega) (by omega) (by omega), o (a0 + 4 + 10) (by omega) (by omega) (by omega) (by omega)]; exact hS.2.2.2.1, by rw [o (a0 + 4) (by omega) (by omega) (by omega) (by omega), o (a0 + 4 + 11) (by omega) (by omega) (by omega) (by omega)]; exact hS.2.2.2.2⟩
          · omega
      · rcases hr with hr | hr
        · omega
        · exact ⟨by rw [nz_t (by omega)], Or.inr ⟨fun k => hr.2 (by rw [hn7]; exact k.1), rfl, FS_fr FS_refl hF (by omega)⟩⟩
