/-! ===== the class reads a value of a plan, 2 ===== -/
def LLM (I : jx_I) (ld ln lm : Nat) : Prop := (I ld 7).toInt = (ln : Int) ∧ (I ld 8).toInt = (lm : Int)
def hiN (ln lm : Nat) (k : Int) : Int := if k = 0 then (ln : Int) - 1 else if k = 1 then 99 else (lm : Int) - 1
theorem LLM_r {I I' : jx_I} {ld ln lm : Nat} (h : LLM I ld ln lm) (he : I' ld = I ld) : LLM I' ld ln lm := by unfold LLM; rw [he]; exact h
theorem kvl_dig {T : List Int} {s : Nat} (h : 48 ≤ tat T s ∧ tat T s ≤ 57) : kvl (wrd T s) = 0 := by
  rw [wrd_0 (by omega)]
  decide +kernel
theorem dig_kvl {T : List Int} {s : Nat} {lm : Nat} (h : ¬ (48 ≤ tat T s ∧ tat T s ≤ 57)) (hk : kvl (wrd T s) = 0) : pVal T lm s = .error (1, s) := by
  rw [pVal_0 hk, pNum_e1 (dig_0 h)]
  rfl
/-- GrievingCamels$Plan.readNumberOf -/
theorem cz_58 {V : jx_V} (hV : V.1.stackTraces = false) {X : jx_X} {R : jx_R} {I : jx_I} {a0 : Nat} {a1 : Nat} {a2 : Nat} {a3 : Int} {T : List Int} {fd k : Int} {s ln lm : Nat}
    (ht : BX X R a1 TTape) (hl : BX X R a2 TLand) (hL : LLM I a2 ln lm) (hln : ln ≤ 10) (hlm : lm ≤ 8) (hc : CST I a1 T fd (.ok s)) (h3 : a3 = k) (r_a3 : 0 ≤ a3 ∧ a3 ≤ 9)
    {QE : String → jx_I → Prop} : jc V 3 58 (0, 0) [.ref a0, .ref a1, .ref a2, jy a3] X I R (fun rv I' => (∃ r : Int, rv = some (jy r) ∧ ((∃ q, pNum T 0 (hiN ln lm k) s = .ok (r, q) ∧ CST I' a1 T fd (.ok q) ∧ 0 ≤ r ∧ r ≤ hiN ln lm k) ∨ (∃ e, pNum T 0 (hiN ln lm k) s = .error e ∧ r = -1 ∧ CST I' a1 T fd (.error e)))) ∧ FR a1 (a1 + 1) I I') QE := by
  obtain ⟨hAT, wf, we, nf, hT⟩ := hc
  have hsl := hAT.1
  have h6 := hT.2.1
  have h3s := h3.symm
  subst h3s
  have hL1 := hL.1
  have hL2 := hL.2
  refine wm_58 hV (by omega)  (fun J31 hJJ => ?_)
  have hJ31 := hJJ
  unfold wz_58
  refine ⟨fun hq1 => ?_, fun hq1 => ?_⟩
  · simp only [-eq_self, hL2]
    refine ⟨fun hq2 => ?_, fun hq2 => ?_⟩
    · refine ⟨s_Land_0 hl, ?_⟩
      refine hJ31 _ _ _ _ ?_
      unfold wz_58_31
      refine ⟨s_Tape_0 ht, ?_⟩
      refine ⟨_, cz_118 hV ht hT hsl (by omega) (by omega), ?_⟩
      rintro _ I6 ⟨⟨r9, q9, k9, f9, rfl, hn9, hT6⟩, hF6⟩
      refine ⟨_, rfl, ?_⟩
      refine ⟨⟨r9, rfl, ?_⟩, hF6⟩
      have hhi : hiN ln lm k = (lm : Int) - 1 := by unfold hiN; rw [if_neg hq1, if_neg hq2]
      rw [hhi]
      rcases NB_p hsl hn9 hT6 with ⟨q2, h1, h2, h3, h4⟩ | ⟨e, h1, h2, h3⟩
      · exact Or.inl ⟨q2, h1, h2, h3, h4⟩
      · exact Or.inr ⟨e, h1, h2, h3⟩
    · refine hJ31 _ _ _ _ ?_
      unfold wz_58_31
      refine ⟨s_Tape_0 ht, ?_⟩
      refine ⟨_, cz_118 hV ht hT hsl (by omega) (by omega), ?_⟩
      rintro _ I6 ⟨⟨r9, q9, k9, f9, rfl, hn9, hT6⟩, hF6⟩
      refine ⟨_, rfl, ?_⟩
      refine ⟨⟨r9, rfl, ?_⟩, hF6⟩
      have hhi : hiN ln lm k = 99 := by unfold hiN; rw [if_neg hq1, if_pos hq2]
      rw [hhi]
      rcases NB_p hsl hn9 hT6 with ⟨q2, h1, h2, h3, h4⟩ | ⟨e, h1, h2, h3⟩
      · exact Or.inl ⟨q2, h1, h2, h3, h4⟩
      · exact Or.inr ⟨e, h1, h2, h3⟩
  · simp only [-eq_self, hL1]
    refine ⟨s_Land_0 hl, ?_⟩
    refine hJ31 _ _ _ _ ?_
    unfold wz_58_31
    refine ⟨s_Tape_0 ht, ?_⟩
    refine ⟨_, cz_118 hV ht hT hsl (by omega) (by omega), ?_⟩
    rintro _ I6 ⟨⟨r9, q9, k9, f9, rfl, hn9, hT6⟩, hF6⟩
    refine ⟨_, rfl, ?_⟩
    refine ⟨⟨r9, rfl, ?_⟩, hF6⟩
    have hhi : hiN ln lm k = (ln : Int) - 1 := by unfold hiN; rw [if_pos hq1]
    rw [hhi]
    rcases NB_p hsl hn9 hT6 with ⟨q2, h1, h2, h3, h4⟩ | ⟨e, h1, h2, h3⟩
    · exact Or.inl ⟨q2, h1, h2, h3, h4⟩
    · exact Or.inr ⟨e, h1, h2, h3⟩
/-- GrievingCamels$Plan.readRelation -/
theorem cz_62 {V : jx_V} (hV : V.1.stackTraces = false) {X : jx_X} {R : jx_R} {I : jx_I} {a0 : Nat} {a1 : Nat} {T : List Int} {fd : Int} {s : Nat}
    (ht : BX X R a1 TTape) (hc : CST I a1 T fd (.ok s))
    {QE : String → jx_I → Prop} : jc V 3 62 (0, 0) [.ref a0, .ref a1] X I R (fun rv I' => (∃ r : Int, rv = some (jy r) ∧ ((r = (prl (tat T s) : Int) ∧ prl (tat T s) ≠ 3 ∧ CST I' a1 T fd (.ok (skB T (s + 1)))) ∨ (r = -1 ∧ prl (tat T s) = 3 ∧ I' = I))) ∧ FR a1 (a1 + 1) I I') QE := by
  obtain ⟨hAT, wf, we, nf, hT⟩ := hc
  have hsl := hAT.1
  have h6 := hT.2.1
  refine wm_62 hV   ?_
  unfold wz_62
  refine ⟨s_Tape_0 ht, ?_⟩
  refine ⟨_, cz_112 hV ht hT hsl (by omega), ?_⟩
  rintro _ I4 ⟨⟨r4, rfl, ho4⟩, hF4⟩
  refine ⟨_, rfl, ?_⟩
  refine ⟨by omega, ?_⟩
  refine ⟨fun hq1 => ?_, fun hq1 => ?_⟩
  · obtain ⟨_, hn4, hI4⟩ := ho4.resolve_left (fun k => by omega)
    subst hI4
    refine ⟨_, cz_112 hV ht hT hsl (by omega), ?_⟩
    rintro _ I9 ⟨⟨r9, rfl, ho9⟩, hF9⟩
    refine ⟨_, rfl, ?_⟩
    refine ⟨by omega, ?_⟩
    refine ⟨fun hq2 => ?_, fun hq2 => ?_⟩
    · obtain ⟨_, hn9, hI9⟩ := ho9.resolve_left (fun k => by omega)
      subst hI9
      refine ⟨_, cz_112 hV ht hT hsl (by omega), ?_⟩
      rintro _ I14 ⟨⟨r14, rfl, ho14⟩, hF14⟩
      refine ⟨_, rfl, ?_⟩
      refine ⟨by omega, ?_⟩
      refine ⟨fun hq3 => ?_, fun hq3 => ?_⟩
      · obtain ⟨_, hn14, hI14⟩ := ho14.resolve_left (fun k => by omega)
        subst hI14
        exact ⟨⟨_, rfl, Or.inr ⟨rfl, prl_3 hn4 hn9 hn14, rfl⟩⟩, hF14⟩
      · obtain ⟨_, hc9, hT9⟩ := ho14.resolve_right (fun k => hq3 k.1)
        have hpr := prl_2 hc9
        have hl9 := tat_in hc9 (by decide)
        exact ⟨⟨_, rfl, Or.inl ⟨by rw [hpr]; rfl, by omega, (AT_s (by omega)).1, _, _, _, hT9⟩⟩, hF14⟩
    · obtain ⟨_, hc9, hT9⟩ := ho9.resolve_right (fun k => hq2 k.1)
      have hpr := prl_1 hc9
      have hl9 := tat_in hc9 (by decide)
      exact ⟨⟨_, rfl, Or.inl ⟨by rw [hpr]; rfl, by omega, (AT_s (by omega)).1, _, _, _, hT9⟩⟩, hF9⟩
  · obtain ⟨_, hc9, hT9⟩ := ho4.resolve_right (fun k => hq1 k.1)
    have hpr := prl_0 hc9
    have hl9 := tat_in hc9 (by decide)
    exact ⟨⟨_, rfl, Or.inl ⟨by rw [hpr]; rfl, by omega, (AT_s (by omega)).1, _, _, _, hT9⟩⟩, hF4⟩
/-- GrievingCamels$Plan.readTerm -/
theorem cz_63 {V : jx_V} (hV : V.1.stackTraces = false) {X : jx_X} {R : jx_R} {I : jx_I} {a0 : Nat} {a1 : Nat} {a2 : Nat} {a3 : Int} {T : List Int} {fd : Int} {s v n ln lm : Nat}
    (hy : BX X R a0 TPlan) (ht : BX X R a1 TTape) (hl : BX X R a2 TLand) (hL : LLM I a2 ln lm) (hlm : lm ≤ 8) (hc : CST I a1 T fd (.ok s)) (h12 : (I a0 12).toInt = (v : Int)) (hv : v < 200) (r_a3 : a3 = 1 ∨ a3 = -1) (hd : a1 + 2 ≤ a0 ∨ a0 + 12 ≤ a1) (hla : a2 ≠ a1)
    {QE : String → jx_I → Prop} : jc V 7 63 (0, 0) [.ref a0, .ref a1, .ref a2, jy a3] X I R (fun rv I' => (∃ r : Int, rv = some (jy r) ∧ ((r = 1 ∧ ∃ k x q, pVal T lm s = .ok (k, x, q) ∧ CST I' a1 T fd (.ok q) ∧ CV1 I' a0 v a3 (a3, k, x) ∧ (I' a0 12).toInt = (v : Int) + 1) ∨ (r = 0 ∧ ∃ e, pVal T lm s = .error e ∧ CST I' a1 T fd (.error e)))) ∧ FPz a0 a1 n v I I' ∧ I' a0 11 = I a0 11) QE := by
  obtain ⟨hAT, wf, we, nf, hT⟩ := hc
  have hsl := hAT.1
  have h6 := hT.2.1
  have hwl := wrd_le hsl
  have hL2 := hL.2
  have hkr := kvl_r (wrd T s)
  refine wm_63 hV (by omega)  (fun J68 hJJ => ?_)
  have hJ68 := hJJ
  unfold wz_63
  refine ⟨s_Tape_0 ht, ?_⟩
  refine ⟨_, cz_114 hV ht hT hsl, ?_⟩
  rintro _ I4 ⟨rfl, e9⟩; replace e9 := e9.symm; subst e9
  refine ⟨_, rfl, ?_⟩
  refine ⟨by omega, ?_⟩
  refine ⟨fun hq1 => ?_, fun hq1 => ?_⟩
  · have cd := bi_f hq1
    refine ⟨_, cz_116 hV ht hT hsl, ?_⟩
    rintro _ I9 ⟨rfl, hT9, hF9⟩
    refine ⟨rfl, ?_⟩
    have h912 : (I9 a0 12).toInt = (v : Int) := by rw [hF9 a0 (by omega)]; exact h12
    have hL9 : (I9 a2 8).toInt = (lm : Int) := by rw [hF9 a2 (by omega)]; exact hL2
    refine ⟨s_Plan_0 hy, ?_⟩
    refine ⟨_, cz_64 hV ht hT9 hsl, ?_⟩
    rintro _ I14 ⟨rfl, e9⟩; replace e9 := e9.symm; subst e9
    refine ⟨_, rfl, ?_⟩
    refine ⟨by omega, ?_⟩
    refine ⟨fun hq2 => ?_, fun hq2 => ?_⟩
    · have hk0 : kvl (wrd T s) ≠ 0 := by
        intro e
        rw [if_pos e] at hq2
        omega
      rw [if_neg hk0]
      rw [if_neg hk0] at hq2
      refine ⟨fun hq3 => ?_, fun hq3 => ?_⟩
      · refine ⟨fun hq4 => ?_, fun hq4 => ?_⟩
        · refine ⟨fun hq5 => ?_, fun hq5 => ?_⟩
          · refine ⟨_, r_Plan_0_8 hy, ?_⟩
            try simp only [-eq_self, h912, Int.toNat_natCast]
            refine ⟨_, ⟨s_Plan_9 hy, by decide⟩, by omega, ?_⟩
            intro I22 e_I22
            have h1222 : (I22 a0 12).toInt = (v : Int) := by rw [e_I22, jx_u_r _ _ _ (by omega)]; exact h912
            simp only [-eq_self, h1222, Int.toNat_natCast]
            refine ⟨_, r_Plan_0_9 hy, _, ⟨s_Plan_10 hy, by decide⟩, by omega, ?_⟩
            intro I28 e_I28
            have h1228 : (I28 a0 12).toInt = (v : Int) := by rw [e_I28, jx_u_r _ _ _ (by omega)]; exact h1222
            simp only [-eq_self, h1228, Int.toNat_natCast]
            refine ⟨_, r_Plan_0_10 hy, _, ⟨s_Plan_11 hy, by decide⟩, by omega, ?_⟩
            intro I34 e_I34
            have h1234 : (I34 a0 12).toInt = (v : Int) := by rw [e_I34, jx_u_r _ _ _ (by omega)]; exact h1228
            simp only [-eq_self, h1234, Int.toNat_natCast]
            intro I35 e_I35
            have hF35 : FPz a0 a1 n v I I35 := by
              rw [e_I35, e_I34, e_I28, e_I22]
              exact FPz_y (FPz_v (FPz_v (FPz_v (FPz_t hF9 (by omega)) (by omega) (Nat.le_refl _)) (by omega) (Nat.le_refl _)) (by omega) (Nat.le_refl _))
            refine ⟨⟨1, rfl, Or.inl ⟨rfl, _, _, _, pVal_k hk0 (by omega), ?_, ⟨?_, ?_, ?_⟩, ?_⟩⟩, hF35, by rw [e_I35, jx_u_k _ _ _ _ (by decide), e_I34, jx_u_r _ _ _ (by omega), e_I28, jx_u_r _ _ _ (by omega), e_I22, jx_u_r _ _ _ (by omega), hF9 a0 (by omega)]⟩
            · rw [e_I35, e_I34, e_I28, e_I22]
              exact CST_w (CST_w (CST_w (CST_w ((⟨(AT_s hwl).1, _, _, _, hT9⟩ : CST I9 a1 T fd (.ok (skB T (s + (wrd T s).length))))) (by omega)) (by omega)) (by omega)) (by omega)
            · rw [e_I35, jx_u_r _ _ _ (by omega), e_I34, jx_u_r _ _ _ (by omega), e_I28, jx_u_r _ _ _ (by omega), e_I22, jx_u_s]; exact jy_toInt (by omega)
            · rw [e_I35, jx_u_r _ _ _ (by omega), e_I34, jx_u_r _ _ _ (by omega), e_I28, jx_u_s]; exact jy_toInt (by omega)
            · rw [e_I35, jx_u_r _ _ _ (by omega), e_I34, jx_u_s]; exact jy_toInt (by omega)
            · rw [e_I35, jx_u_s]; exact jy_toInt (by omega)
          · exfalso
            omega
        · exact absurd (by decide : (0 : Int) ≤ 0) (by omega)
      · have hk7 : kvl (wrd T s) = 7 := by omega
        rw [hk7]
        simp only [-eq_self, hL9]
        refine ⟨s_Land_0 hl, ?_⟩
        refine ⟨_, cz_118 hV ht hT9 (AT_s hwl).1.1 (by omega) (by omega), ?_⟩
        rintro _ I44 ⟨⟨r9, q9, k9, f9, rfl, hn9, hT44⟩, hF44⟩
        refine ⟨_, rfl, ?_⟩
        have h12K : (I44 a0 12).toInt = (v : Int) := by rw [hF44 a0 (by omega)]; exact h912
        have hr9 : -1 ≤ r9 ∧ r9 ≤ 999 := by rcases NB_p (AT_s hwl).1.1 hn9 hT44 with ⟨_, _, _, h, h2⟩ | ⟨_, _, h, _⟩ <;> omega
        refine hJ68 _ _ _ ?_
        unfold wz_63_68
        simp only [-eq_self, h12K, Int.toNat_natCast]
        refine ⟨by omega, ?_⟩
        refine ⟨fun hq6 => ?_, fun hq6 => ?_⟩
        · refine ⟨s_Plan_0 hy, ?_⟩
          refine ⟨fun hq7 => ?_, fun hq7 => ?_⟩
          · refine ⟨_, r_Plan_0_8 hy, _, ⟨s_Plan_9 hy, by decide⟩, by omega, ?_⟩
            intro I62 e_I62
            have h1262 : (I62 a0 12).toInt = (v : Int) := by rw [e_I62, jx_u_r _ _ _ (by omega)]; exact h12K
            simp only [-eq_self, h1262, Int.toNat_natCast]
            refine ⟨_, r_Plan_0_9 hy, _, ⟨s_Plan_10 hy, by decide⟩, by omega, ?_⟩
            intro I68 e_I68
            have h1268 : (I68 a0 12).toInt = (v : Int) := by rw [e_I68, jx_u_r _ _ _ (by omega)]; exact h1262
            simp only [-eq_self, h1268, Int.toNat_natCast]
            refine ⟨_, r_Plan_0_10 hy, _, ⟨s_Plan_11 hy, by decide⟩, by omega, ?_⟩
            intro I74 e_I74
            have h1274 : (I74 a0 12).toInt = (v : Int) := by rw [e_I74, jx_u_r _ _ _ (by omega)]; exact h1268
            simp only [-eq_self, h1274, Int.toNat_natCast]
            intro I75 e_I75
            obtain ⟨q2, h1, h2, h3, h4⟩ := (NB_p (AT_s hwl).1.1 hn9 hT44).resolve_right (fun ⟨e, _, h, _⟩ => by omega)
            have hF75 : FPz a0 a1 n v I I75 := by
              rw [e_I75, e_I74, e_I68, e_I62]
              exact FPz_y (FPz_v (FPz_v (FPz_v (FPz_trans (FPz_t hF9 (by omega)) (FPz_t hF44 (by omega))) (by omega) (Nat.le_refl _)) (by omega) (Nat.le_refl _)) (by omega) (Nat.le_refl _))
            refine ⟨⟨1, rfl, Or.inl ⟨rfl, 7, r9, q2, by rw [pVal_7 hk7, h1]; rfl, ?_, ⟨?_, ?_, ?_⟩, ?_⟩⟩, hF75, by rw [e_I75, jx_u_k _ _ _ _ (by decide), e_I74, jx_u_r _ _ _ (by omega), e_I68, jx_u_r _ _ _ (by omega), e_I62, jx_u_r _ _ _ (by omega), hF44 a0 (by omega), hF9 a0 (by omega)]⟩
            · rw [e_I75, e_I74, e_I68, e_I62]
              exact CST_w (CST_w (CST_w (CST_w (h2) (by omega)) (by omega)) (by omega)) (by omega)
            · rw [e_I75, jx_u_r _ _ _ (by omega), e_I74, jx_u_r _ _ _ (by omega), e_I68, jx_u_r _ _ _ (by omega), e_I62, jx_u_s]; exact jy_toInt (by omega)
            · rw [e_I75, jx_u_r _ _ _ (by omega), e_I74, jx_u_r _ _ _ (by omega), e_I68, jx_u_s]; exact jy_toInt (by omega)
            · rw [e_I75, jx_u_r _ _ _ (by omega), e_I74, jx_u_s]; exact jy_toInt (by omega)
            · rw [e_I75, jx_u_s]; exact jy_toInt (by omega)
          · exfalso
            omega
        · obtain ⟨e, h1, h2, h3⟩ := (NB_p (AT_s hwl).1.1 hn9 hT44).resolve_left (fun ⟨q, _, _, h, _⟩ => by omega)
          exact ⟨⟨0, rfl, Or.inr ⟨rfl, e, by rw [pVal_7 hk7, h1]; rfl, h3⟩⟩, FPz_trans (FPz_t hF9 (by omega)) (FPz_t hF44 (by omega)), by rw [hF44 a0 (by omega), hF9 a0 (by omega)]⟩
    · have hk0 : kvl (wrd T s) = 0 := by
        rcases Nat.eq_zero_or_pos (kvl (wrd T s)) with e | e
        · exact e
        · rw [if_neg (by omega)] at hq2; omega
      refine ⟨_, cz_108 hV ht hT9 (by omega), ?_⟩
      rintro _ I48 ⟨rfl, hT48, hF48⟩
      refine ⟨_, rfl, ?_⟩
      refine ⟨by omega, ?_⟩
      exact ⟨⟨0, rfl, Or.inr ⟨rfl, _, dig_kvl cd hk0, ⟨show (1 : Int) ≤ 1 by decide, show (1 : Int) ≤ 3 by decide⟩, _, _, _, _, hT48⟩⟩, FPz_trans (FPz_t hF9 (by omega)) (FPz_t hF48 (by omega)), by rw [hF48 a0 (by omega), hF9 a0 (by omega)]⟩
  · have cd := bi_t hq1
    have hk0 := kvl_dig cd
    refine ⟨_, cz_118 hV ht hT hsl (by omega) (by omega), ?_⟩
    rintro _ I53 ⟨⟨r9, q9, k9, f9, rfl, hn9, hT53⟩, hF53⟩
    refine ⟨_, rfl, ?_⟩
    have h12K : (I53 a0 12).toInt = (v : Int) := by rw [hF53 a0 (by omega)]; exact h12
    have hr9 : -1 ≤ r9 ∧ r9 ≤ 999 := by rcases NB_p hsl hn9 hT53 with ⟨_, _, _, h, h2⟩ | ⟨_, _, h, _⟩ <;> omega
    refine hJ68 _ _ _ ?_
    unfold wz_63_68
    simp only [-eq_self, h12K, Int.toNat_natCast]
    refine ⟨by omega, ?_⟩
    refine ⟨fun hq8 => ?_, fun hq8 => ?_⟩
    · refine ⟨s_Plan_0 hy, ?_⟩
      refine ⟨fun hq9 => ?_, fun hq9 => ?_⟩
      · refine ⟨_, r_Plan_0_8 hy, _, ⟨s_Plan_9 hy, by decide⟩, by omega, ?_⟩
        intro I62 e_I62
        have h1262 : (I62 a0 12).toInt = (v : Int) := by rw [e_I62, jx_u_r _ _ _ (by omega)]; exact h12K
        simp only [-eq_self, h1262, Int.toNat_natCast]
        refine ⟨_, r_Plan_0_9 hy, _, ⟨s_Plan_10 hy, by decide⟩, by omega, ?_⟩
        intro I68 e_I68
        have h1268 : (I68 a0 12).toInt = (v : Int) := by rw [e_I68, jx_u_r _ _ _ (by omega)]; exact h1262
        simp only [-eq_self, h1268, Int.toNat_natCast]
        refine ⟨_, r_Plan_0_10 hy, _, ⟨s_Plan_11 hy, by decide⟩, by omega, ?_⟩
        intro I74 e_I74
        have h1274 : (I74 a0 12).toInt = (v : Int) := by rw [e_I74, jx_u_r _ _ _ (by omega)]; exact h1268
        simp only [-eq_self, h1274, Int.toNat_natCast]
        intro I75 e_I75
        obtain ⟨q2, h1, h2, h3, h4⟩ := (NB_p hsl hn9 hT53).resolve_right (fun ⟨e, _, h, _⟩ => by omega)
        have hF75 : FPz a0 a1 n v I I75 := by
          rw [e_I75, e_I74, e_I68, e_I62]
          exact FPz_y (FPz_v (FPz_v (FPz_v (FPz_t hF53 (by omega)) (by omega) (Nat.le_refl _)) (by omega) (Nat.le_refl _)) (by omega) (Nat.le_refl _))
        refine ⟨⟨1, rfl, Or.inl ⟨rfl, 0, r9, q2, by rw [pVal_0 hk0, h1]; rfl, ?_, ⟨?_, ?_, ?_⟩, ?_⟩⟩, hF75, by rw [e_I75, jx_u_k _ _ _ _ (by decide), e_I74, jx_u_r _ _ _ (by omega), e_I68, jx_u_r _ _ _ (by omega), e_I62, jx_u_r _ _ _ (by omega), hF53 a0 (by omega)]⟩
        · rw [e_I75, e_I74, e_I68, e_I62]
          exact CST_w (CST_w (CST_w (CST_w (h2) (by omega)) (by omega)) (by omega)) (by omega)
        · rw [e_I75, jx_u_r _ _ _ (by omega), e_I74, jx_u_r _ _ _ (by omega), e_I68, jx_u_r _ _ _ (by omega), e_I62, jx_u_s]; exact jy_toInt (by omega)
        · rw [e_I75, jx_u_r _ _ _ (by omega), e_I74, jx_u_r _ _ _ (by omega), e_I68, jx_u_s]; exact jy_toInt (by omega)
        · rw [e_I75, jx_u_r _ _ _ (by omega), e_I74, jx_u_s]; exact jy_toInt (by omega)
        · rw [e_I75, jx_u_s]; exact jy_toInt (by omega)
      · exfalso
        omega
    · obtain ⟨e, h1, h2, h3⟩ := (NB_p hsl hn9 hT53).resolve_left (fun ⟨q, _, _, h, _⟩ => by omega)
      exact ⟨⟨0, rfl, Or.inr ⟨rfl, e, by rw [pVal_0 hk0, h1]; rfl, h3⟩⟩, FPz_t hF53 (by omega), by rw [hF53 a0 (by omega)]⟩
