/-! ===== the reference reads a value ===== -/
theorem jx_us {f : jx_I} {a k j : Nat} {v : Int32} (h : k = j) : jx_u f a k v a j = v := by
  subst h
  exact jx_u_s ..
/-- GrievingCamelsModel.oneValue -/
theorem cz_306 {V : jx_V} (hV : V.1.stackTraces = false) {X : jx_X} {R : jx_R} {I : jx_I} {a0 : Nat} {a1 : Int} {T : List Int} {p s : Nat} {v lm : Nat}
    (hM : MX X R a0) (hT : RTX I a0 T (p : Int) 0 (-1)) (hp : p ≤ T.length) (hs : skB T p = s) (r_a1 : a1 = 1 ∨ a1 = -1) (h59 : (I a0 59).toInt = (v : Int)) (hv : v < 160) (hlm : (I (a0 + 4) 1).toInt = (lm : Int)) (hl8 : lm ≤ 8)
    {QE : String → jx_I → Prop} : jc V 6 306 (0, 0) [.ref a0, jy a1] X I R (fun rv I' => rv = none ∧ ((∃ k x q, pVal T lm s = .ok (k, x, q) ∧ ROK I' a0 T q ∧ RV1 I' a0 v (a1, k, x) ∧ (I' a0 59).toInt = (v : Int) + 1) ∨ (∃ e, pVal T lm s = .error e ∧ RER I' a0 T e)) ∧ FP a0 [4, 5, 6, 59] 120 120 v I I') QE := by
  have h6 := hT.2.1
  have hss : skB T s = s := by rw [← hs]; exact skB_idem T p
  have hsl : s ≤ T.length := by rw [← hs]; exact (skB_le hp).2
  have hwl := wrd_le hsl
  refine wm_306 hV (by omega)  (fun J188 J206 hJJ => ?_)
  obtain ⟨hJ188, hJ206⟩ := hJJ
  have L188 : ∀ (n188 : Nat) (s0 : Nat) (s1 : Int) (s2 : Int) (l2 : Nat) (K : jx_I), n188 = 0 → (s0 = (a0 + 2017 + v) ∧ l2 = (a0 + 2017 + v) ∧ s1 = 1 ∧ s2 = (kvl (wrd T s) : Int) ∧ ∃ q : Nat, q ≤ T.length ∧ RTX K a0 T (q : Int) 0 (-1) ∧ skB T q = (if kvl (wrd T s) = 0 then s else skB T (s + (wrd T s).length)) ∧ (K (a0 + 2017 + v) 0).toInt = a1 ∧ (K (a0 + 2017 + v) 2).toInt = 0 ∧ (K a0 59).toInt = (v : Int) + 1 ∧ FP a0 [4, 5, 6, 59] 120 120 v I K) → J188 s0 s1 s2 l2 K := by
    intro n188
    induction n188 using Nat.strongRecOn with
    | ind n188 ih188 =>
    intro s0 s1 s2 l2 K hn188 hI188
    obtain ⟨rfl, rfl, rfl, rfl, q, hq0, hTK, hsq, hb0, hb2, hbv, hFK⟩ := hI188
    have hkr := kvl_r (wrd T s)
    have hTw := RTX_w (x := Int32.ofInt (kvl (wrd T s) : Int)) (k := (1 : Int).toNat) (q := (a0 + 2017 + v)) hTK (by omega)
    have hFw := FP_v (x := Int32.ofInt (kvl (wrd T s) : Int)) (k := (1 : Int).toNat) (i := v) hFK (by omega)
    refine hJ188 _ _ _ _ _ ?_
    unfold wz_306_188
    refine ⟨_, ⟨sr_M_2016 hM (by omega), by decide⟩, by omega, ?_⟩
    intro I58 e_I58; subst e_I58
    have h581 : (jx_u K (a0 + 2017 + v) (1 : Int).toNat (Int32.ofInt (kvl (wrd T s) : Int)) (a0 + 2017 + v) (1 : Int).toNat).toInt = (kvl (wrd T s) : Int) := by rw [jx_u_s]; exact jy_toInt (by omega)
    have h580 : (jx_u K (a0 + 2017 + v) (1 : Int).toNat (Int32.ofInt (kvl (wrd T s) : Int)) (a0 + 2017 + v) 0).toInt = a1 := by rw [jx_u_k _ _ _ _ (by decide)]; exact hb0
    have h582 : (jx_u K (a0 + 2017 + v) (1 : Int).toNat (Int32.ofInt (kvl (wrd T s) : Int)) (a0 + 2017 + v) 2).toInt = 0 := by rw [jx_u_k _ _ _ _ (by decide)]; exact hb2
    have h589 : (jx_u K (a0 + 2017 + v) (1 : Int).toNat (Int32.ofInt (kvl (wrd T s) : Int)) a0 59).toInt = (v : Int) + 1 := by rw [jx_u_r _ _ _ (by omega)]; exact hbv
    have hlm58 : (jx_u K (a0 + 2017 + v) (1 : Int).toNat (Int32.ofInt (kvl (wrd T s) : Int)) (a0 + 4) (1 : Int).toNat).toInt = (lm : Int) := by rw [jx_u_r _ _ _ (by omega), hFK.1 _ (by omega) (by omega) (by omega) (by omega)]; exact hlm
    generalize jx_u K (a0 + 2017 + v) (1 : Int).toNat (Int32.ofInt (kvl (wrd T s) : Int)) = I58 at *
    refine ⟨_, ⟨sr_M_2016 hM (by omega), by decide⟩, by omega, ?_⟩
    refine ⟨fun hq1 => ?_, fun hq1 => ?_⟩
    · have hkv : kvl (wrd T s) ≠ 0 := by omega
      rw [if_neg hkv] at hsq
      have hsq7 := hsq
      refine ⟨by omega, ?_⟩
      refine ⟨fun hq2 => ?_, fun hq2 => ?_⟩
      · have hkv7 : kvl (wrd T s) ≠ 7 := by omega
        exact ⟨rfl, Or.inl ⟨_, _, _, pVal_k hkv hkv7, ⟨q, hq0, hsq7, hTw⟩, ⟨h580, h581, h582⟩, h589⟩, hFw⟩
      · have hkv0 := hkv
        replace hkv : kvl (wrd T s) = 7 := by omega
        refine ⟨s_M_0 hM, _, r_M_11 hM, ?_⟩
        try simp only [-eq_self, hlm58]
        refine ⟨_, ⟨s_M_4 hM, by decide⟩, by omega, ?_⟩
        refine ⟨_, cz_210 hV hM hTw hq0 rfl (by omega) (by omega), ?_⟩
        rintro _ I71 ⟨⟨r7, rfl, hR71⟩, hA71⟩
        refine ⟨_, rfl, ?_⟩
        rw [hsq7] at hR71
        have hA71x := FP_o (n := 120) (t := 120) (v := v) (ks2 := [4, 5, 6, 59]) hA71 (by decide)
        have hr7 : -2147483648 ≤ r7 ∧ r7 < 2147483648 := by
          rcases RNB_p ((skB_le hwl).2) hR71 with ⟨q2, hn, _⟩ | ⟨e, hn, _⟩
          · have := pNum_ok ((skB_le hwl).2) hn; omega
          · rcases hR71 with h | ⟨_, h, _⟩ | ⟨_, _, h, _⟩ <;> omega
        refine ⟨by omega, ?_⟩
        intro I74 e_I74; subst e_I74
        rcases RNB_p (skB_le hwl).2 hR71 with ⟨q2, hn, hok⟩ | ⟨e, hn, her⟩
        · exact ⟨rfl, Or.inl ⟨7, r7, q2, by rw [pVal_7 hkv, hn]; rfl, ROK_w hok (by omega), ⟨by rw [jx_u_k _ _ _ _ (by decide), hA71.1 _ (by omega)]; exact h580, by rw [jx_u_k _ _ _ _ (by decide), hA71.1 _ (by omega)]; rw [hkv] at h581; exact h581, by rw [jx_us (by decide)]; exact jy_toInt hr7⟩, by rw [jx_u_r _ _ _ (by omega), hA71.2 59 (by decide)]; exact h589⟩, FP_v (FP_trans hFw hA71x) (by omega)⟩
        · exact ⟨rfl, Or.inr ⟨e, by rw [pVal_7 hkv, hn]; rfl, RER_w her (by omega)⟩, FP_v (FP_trans hFw hA71x) (by omega)⟩
    · have hkv : kvl (wrd T s) = 0 := by omega
      rw [if_pos hkv] at hsq
      have hsq0 := hsq
      refine ⟨s_M_0 hM, ?_⟩
      refine ⟨_, cz_210 hV hM hTw hq0 rfl (by omega) (by omega), ?_⟩
      rintro _ I78 ⟨⟨r7, rfl, hR78⟩, hA78⟩
      refine ⟨_, rfl, ?_⟩
      rw [hsq0] at hR78
      have hA78x := FP_o (n := 120) (t := 120) (v := v) (ks2 := [4, 5, 6, 59]) hA78 (by decide)
      have hr7 : -2147483648 ≤ r7 ∧ r7 < 2147483648 := by
        rcases RNB_p (hsl) hR78 with ⟨q2, hn, _⟩ | ⟨e, hn, _⟩
        · have := pNum_ok (hsl) hn; omega
        · rcases hR78 with h | ⟨_, h, _⟩ | ⟨_, _, h, _⟩ <;> omega
      refine ⟨by omega, ?_⟩
      intro I81 e_I81; subst e_I81
      refine hJ206 _ _ ?_
      unfold wz_306_206
      refine ⟨_, ⟨sr_M_2016 hM (by omega), by decide⟩, by omega, ?_⟩
      refine ⟨fun hq3 => ?_, fun hq3 => ?_⟩
      · rcases RNB_p hsl hR78 with ⟨q2, hn, hok⟩ | ⟨e, hn, her⟩
        · exact ⟨rfl, Or.inl ⟨0, r7, q2, by rw [pVal_0 hkv, hn]; rfl, ROK_w hok (by omega), ⟨by rw [jx_u_k _ _ _ _ (by decide), hA78.1 _ (by omega)]; exact h580, by rw [jx_u_k _ _ _ _ (by decide), hA78.1 _ (by omega)]; rw [hkv] at h581; exact h581, by rw [jx_us (by decide)]; exact jy_toInt hr7⟩, by rw [jx_u_r _ _ _ (by omega), hA78.2 59 (by decide)]; exact h589⟩, FP_v (FP_trans hFw hA78x) (by omega)⟩
        · exact ⟨rfl, Or.inr ⟨e, by rw [pVal_0 hkv, hn]; rfl, RER_w her (by omega)⟩, FP_v (FP_trans hFw hA78x) (by omega)⟩
      · exfalso
        rw [jx_u_k _ _ _ _ (by decide), hA78.1 _ (by omega)] at hq3
        omega
  unfold wz_306
  refine ⟨s_M_0 hM, ?_⟩
  refine ⟨_, cz_207 hV hM hT hp, ?_⟩
  rintro _ I4 ⟨rfl, hT4, hF4⟩
  refine ⟨rfl, ?_⟩
  rw [hs] at hT4
  have h594 : (I4 a0 59).toInt = (v : Int) := by rw [hF4.2 59 (by decide)]; exact h59
  simp only [-eq_self, h594]
  refine ⟨_, r_M_65 hM, _, ⟨s_M_2016 hM, by decide⟩, by omega, _, rr_M_2016 hM (by omega), ?_⟩
  try simp only [-eq_self, Int.toNat_natCast]
  intro I13 e_I13; subst e_I13
  refine ⟨_, ⟨sr_M_2016 hM (by omega), by decide⟩, by omega, ?_⟩
  intro I17 e_I17; subst e_I17
  refine ⟨by omega, ?_⟩
  intro I19 e_I19; subst e_I19
  have hT0 : RTX (jx_u (jx_u (jx_u I4 a0 59 (Int32.ofInt ((v : Int) + 1))) (a0 + 2017 + v) (0 : Int).toNat (Int32.ofInt a1)) (a0 + 2017 + v) (2 : Int).toNat (Int32.ofInt 0)) a0 T (s : Nat) 0 (-1) := RTX_w (RTX_w (RTX_k hT4 (by decide)) (by omega)) (by omega)
  have hF0 : FP a0 [4, 5, 6, 59] 120 120 v I (jx_u (jx_u (jx_u I4 a0 59 (Int32.ofInt ((v : Int) + 1))) (a0 + 2017 + v) (0 : Int).toNat (Int32.ofInt a1)) (a0 + 2017 + v) (2 : Int).toNat (Int32.ofInt 0)) := FP_v (FP_v (FP_f (FP_o hF4 (by decide)) (by decide)) (by omega)) (by omega)
  have h590 : (jx_u (jx_u (jx_u I4 a0 59 (Int32.ofInt ((v : Int) + 1))) (a0 + 2017 + v) (0 : Int).toNat (Int32.ofInt a1)) (a0 + 2017 + v) (2 : Int).toNat (Int32.ofInt 0) a0 59).toInt = (v : Int) + 1 := by rw [jx_u_r _ _ _ (by omega), jx_u_r _ _ _ (by omega), jx_u_s]; exact jy_toInt (by omega)
  have hb0 : (jx_u (jx_u (jx_u I4 a0 59 (Int32.ofInt ((v : Int) + 1))) (a0 + 2017 + v) (0 : Int).toNat (Int32.ofInt a1)) (a0 + 2017 + v) (2 : Int).toNat (Int32.ofInt 0) (a0 + 2017 + v) 0).toInt = a1 ∧ (jx_u (jx_u (jx_u I4 a0 59 (Int32.ofInt ((v : Int) + 1))) (a0 + 2017 + v) (0 : Int).toNat (Int32.ofInt a1)) (a0 + 2017 + v) (2 : Int).toNat (Int32.ofInt 0) (a0 + 2017 + v) 2).toInt = 0 := ⟨by rw [jx_u_k _ _ _ _ (by decide), jx_us (by decide)]; exact jy_toInt (by omega), by rw [jx_us (by decide)]; rfl⟩
  generalize jx_u (jx_u (jx_u I4 a0 59 (Int32.ofInt ((v : Int) + 1))) (a0 + 2017 + v) (0 : Int).toNat (Int32.ofInt a1)) (a0 + 2017 + v) (2 : Int).toNat (Int32.ofInt 0) = I19 at *
  refine ⟨_, cz_216 (ws := sbi 26) hV hM hT0 hsl hss rfl (by decide +kernel), ?_⟩
  rintro _ I22 ⟨⟨r90, rfl, ho22⟩, hF22⟩
  refine ⟨_, rfl, ?_⟩
  have hFx22 := FP_trans hF0 (FP_o (n := 120) (t := 120) (v := v) (ks2 := [4, 5, 6, 59]) hF22 (by decide))
  have hg22 : ∀ q, q ≠ a0 → I22 q = I19 q := fun q hq => hF22.1 q hq
  have h522 : (I22 a0 59).toInt = (v : Int) + 1 := by rw [hF22.2 59 (by decide)]; exact h590
  refine ⟨by omega, ?_⟩
  refine ⟨fun hq4 => ?_, fun hq4 => ?_⟩
  · have h9 := ho22.resolve_left (fun k => by omega)
    obtain ⟨_, c26, hT22⟩ := h9
    refine ⟨_, cz_216 (ws := sbi 27) hV hM hT22 hsl hss rfl (by decide +kernel), ?_⟩
    rintro _ I27 ⟨⟨r91, rfl, ho27⟩, hF27⟩
    refine ⟨_, rfl, ?_⟩
    have hFx27 := FP_trans hFx22 (FP_o (n := 120) (t := 120) (v := v) (ks2 := [4, 5, 6, 59]) hF27 (by decide))
    have hg27 : ∀ q, q ≠ a0 → I27 q = I19 q := fun q hq => (hF27.1 q hq).trans (hg22 q hq)
    have h527 : (I27 a0 59).toInt = (v : Int) + 1 := by rw [hF27.2 59 (by decide)]; exact h522
    refine ⟨by omega, ?_⟩
    refine ⟨fun hq5 => ?_, fun hq5 => ?_⟩
    · have h9 := ho27.resolve_left (fun k => by omega)
      obtain ⟨_, c27, hT27⟩ := h9
      refine ⟨_, cz_216 (ws := sbi 28) hV hM hT27 hsl hss rfl (by decide +kernel), ?_⟩
      rintro _ I32 ⟨⟨r92, rfl, ho32⟩, hF32⟩
      refine ⟨_, rfl, ?_⟩
      have hFx32 := FP_trans hFx27 (FP_o (n := 120) (t := 120) (v := v) (ks2 := [4, 5, 6, 59]) hF32 (by decide))
      have hg32 : ∀ q, q ≠ a0 → I32 q = I19 q := fun q hq => (hF32.1 q hq).trans (hg27 q hq)
      have h532 : (I32 a0 59).toInt = (v : Int) + 1 := by rw [hF32.2 59 (by decide)]; exact h527
      refine ⟨by omega, ?_⟩
      refine ⟨fun hq6 => ?_, fun hq6 => ?_⟩
      · have h9 := ho32.resolve_left (fun k => by omega)
        obtain ⟨_, c28, hT32⟩ := h9
        refine ⟨_, cz_216 (ws := sbi 29) hV hM hT32 hsl hss rfl (by decide +kernel), ?_⟩
        rintro _ I37 ⟨⟨r93, rfl, ho37⟩, hF37⟩
        refine ⟨_, rfl, ?_⟩
        have hFx37 := FP_trans hFx32 (FP_o (n := 120) (t := 120) (v := v) (ks2 := [4, 5, 6, 59]) hF37 (by decide))
        have hg37 : ∀ q, q ≠ a0 → I37 q = I19 q := fun q hq => (hF37.1 q hq).trans (hg32 q hq)
        have h537 : (I37 a0 59).toInt = (v : Int) + 1 := by rw [hF37.2 59 (by decide)]; exact h532
        refine ⟨by omega, ?_⟩
        refine ⟨fun hq7 => ?_, fun hq7 => ?_⟩
        · have h9 := ho37.resolve_left (fun k => by omega)
          obtain ⟨_, c29, hT37⟩ := h9
          refine ⟨_, cz_216 (ws := sbi 30) hV hM hT37 hsl hss rfl (by decide +kernel), ?_⟩
          rintro _ I42 ⟨⟨r94, rfl, ho42⟩, hF42⟩
          refine ⟨_, rfl, ?_⟩
          have hFx42 := FP_trans hFx37 (FP_o (n := 120) (t := 120) (v := v) (ks2 := [4, 5, 6, 59]) hF42 (by decide))
          have hg42 : ∀ q, q ≠ a0 → I42 q = I19 q := fun q hq => (hF42.1 q hq).trans (hg37 q hq)
          have h542 : (I42 a0 59).toInt = (v : Int) + 1 := by rw [hF42.2 59 (by decide)]; exact h537
          refine ⟨by omega, ?_⟩
          refine ⟨fun hq8 => ?_, fun hq8 => ?_⟩
          · have h9 := ho42.resolve_left (fun k => by omega)
            obtain ⟨_, c30, hT42⟩ := h9
            refine ⟨_, cz_216 (ws := sbi 31) hV hM hT42 hsl hss rfl (by decide +kernel), ?_⟩
            rintro _ I47 ⟨⟨r95, rfl, ho47⟩, hF47⟩
            refine ⟨_, rfl, ?_⟩
            have hFx47 := FP_trans hFx42 (FP_o (n := 120) (t := 120) (v := v) (ks2 := [4, 5, 6, 59]) hF47 (by decide))
            have hg47 : ∀ q, q ≠ a0 → I47 q = I19 q := fun q hq => (hF47.1 q hq).trans (hg42 q hq)
            have h547 : (I47 a0 59).toInt = (v : Int) + 1 := by rw [hF47.2 59 (by decide)]; exact h542
            refine ⟨by omega, ?_⟩
            refine ⟨fun hq9 => ?_, fun hq9 => ?_⟩
            · have h9 := ho47.resolve_left (fun k => by omega)
              obtain ⟨_, c31, hT47⟩ := h9
              refine ⟨_, cz_216 (ws := sbi 32) hV hM hT47 hsl hss rfl (by decide +kernel), ?_⟩
              rintro _ I52 ⟨⟨r96, rfl, ho52⟩, hF52⟩
              refine ⟨_, rfl, ?_⟩
              have hFx52 := FP_trans hFx47 (FP_o (n := 120) (t := 120) (v := v) (ks2 := [4, 5, 6, 59]) hF52 (by decide))
              have hg52 : ∀ q, q ≠ a0 → I52 q = I19 q := fun q hq => (hF52.1 q hq).trans (hg47 q hq)
              have h552 : (I52 a0 59).toInt = (v : Int) + 1 := by rw [hF52.2 59 (by decide)]; exact h547
              refine ⟨by omega, ?_⟩
              refine ⟨fun hq10 => ?_, fun hq10 => ?_⟩
              · have h9 := ho52.resolve_left (fun k => by omega)
                obtain ⟨_, c32, hT52⟩ := h9
                have hkv : kvl (wrd T s) = 0 := by unfold kvl; rw [if_neg c26, if_neg c27, if_neg c28, if_neg c29, if_neg c30, if_neg c31, if_neg c32]
                exact L188 _ _ _ _ _ _ rfl (⟨rfl, rfl, rfl, by rw [hkv]; rfl, s, hsl, hT52, by rw [if_pos hkv]; exact hss, by rw [hg52 _ (by omega)]; exact hb0.1, by rw [hg52 _ (by omega)]; exact hb0.2, h552, hFx52⟩)
              · have h9 := ho52.resolve_right (fun k => hq10 k.1)
                obtain ⟨_, c32, hT52⟩ := h9
                have hkv : kvl (wrd T s) = 7 := by unfold kvl; rw [if_neg c26, if_neg c27, if_neg c28, if_neg c29, if_neg c30, if_neg c31, if_pos c32]
                exact L188 _ _ _ _ _ _ rfl (⟨rfl, rfl, rfl, by rw [hkv]; rfl, s + (wrd T s).length, hwl, by rw [c32]; exact hT52, by rw [if_neg (by omega)], by rw [hg52 _ (by omega)]; exact hb0.1, by rw [hg52 _ (by omega)]; exact hb0.2, h552, hFx52⟩)
            · have h9 := ho47.resolve_right (fun k => hq9 k.1)
              obtain ⟨_, c31, hT47⟩ := h9
              have hkv : kvl (wrd T s) = 6 := by unfold kvl; rw [if_neg c26, if_neg c27, if_neg c28, if_neg c29, if_neg c30, if_pos c31]
              exact L188 _ _ _ _ _ _ rfl (⟨rfl, rfl, rfl, by rw [hkv]; rfl, s + (wrd T s).length, hwl, by rw [c31]; exact hT47, by rw [if_neg (by omega)], by rw [hg47 _ (by omega)]; exact hb0.1, by rw [hg47 _ (by omega)]; exact hb0.2, h547, hFx47⟩)
          · have h9 := ho42.resolve_right (fun k => hq8 k.1)
            obtain ⟨_, c30, hT42⟩ := h9
            have hkv : kvl (wrd T s) = 5 := by unfold kvl; rw [if_neg c26, if_neg c27, if_neg c28, if_neg c29, if_pos c30]
            exact L188 _ _ _ _ _ _ rfl (⟨rfl, rfl, rfl, by rw [hkv]; rfl, s + (wrd T s).length, hwl, by rw [c30]; exact hT42, by rw [if_neg (by omega)], by rw [hg42 _ (by omega)]; exact hb0.1, by rw [hg42 _ (by omega)]; exact hb0.2, h542, hFx42⟩)
        · have h9 := ho37.resolve_right (fun k => hq7 k.1)
          obtain ⟨_, c29, hT37⟩ := h9
          have hkv : kvl (wrd T s) = 4 := by unfold kvl; rw [if_neg c26, if_neg c27, if_neg c28, if_pos c29]
          exact L188 _ _ _ _ _ _ rfl (⟨rfl, rfl, rfl, by rw [hkv]; rfl, s + (wrd T s).length, hwl, by rw [c29]; exact hT37, by rw [if_neg (by omega)], by rw [hg37 _ (by omega)]; exact hb0.1, by rw [hg37 _ (by omega)]; exact hb0.2, h537, hFx37⟩)
      · have h9 := ho32.resolve_right (fun k => hq6 k.1)
        obtain ⟨_, c28, hT32⟩ := h9
        have hkv : kvl (wrd T s) = 3 := by unfold kvl; rw [if_neg c26, if_neg c27, if_pos c28]
        exact L188 _ _ _ _ _ _ rfl (⟨rfl, rfl, rfl, by rw [hkv]; rfl, s + (wrd T s).length, hwl, by rw [c28]; exact hT32, by rw [if_neg (by omega)], by rw [hg32 _ (by omega)]; exact hb0.1, by rw [hg32 _ (by omega)]; exact hb0.2, h532, hFx32⟩)
    · have h9 := ho27.resolve_right (fun k => hq5 k.1)
      obtain ⟨_, c27, hT27⟩ := h9
      have hkv : kvl (wrd T s) = 2 := by unfold kvl; rw [if_neg c26, if_pos c27]
      exact L188 _ _ _ _ _ _ rfl (⟨rfl, rfl, rfl, by rw [hkv]; rfl, s + (wrd T s).length, hwl, by rw [c27]; exact hT27, by rw [if_neg (by omega)], by rw [hg27 _ (by omega)]; exact hb0.1, by rw [hg27 _ (by omega)]; exact hb0.2, h527, hFx27⟩)
  · have h9 := ho22.resolve_right (fun k => hq4 k.1)
    obtain ⟨_, c26, hT22⟩ := h9
    have hkv : kvl (wrd T s) = 1 := by unfold kvl; rw [if_pos c26]
    exact L188 _ _ _ _ _ _ rfl (⟨rfl, rfl, rfl, by rw [hkv]; rfl, s + (wrd T s).length, hwl, by rw [c26]; exact hT22, by rw [if_neg (by omega)], by rw [hg22 _ (by omega)]; exact hb0.1, by rw [hg22 _ (by omega)]; exact hb0.2, h522, hFx22⟩)
