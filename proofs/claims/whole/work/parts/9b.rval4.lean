/-! ===== the reference reads a test ===== -/
/-- the reference's i-th test that was read -/
def RT1 (I : jx_I) (m i : Nat) (e : TE) : Prop := (I (m + 1735 + i) 0).toInt = (e.1 : Int) ∧ (I (m + 1735 + i) 1).toInt = (e.2.1 : Int) ∧ (I (m + 1735 + i) 2).toInt = (e.2.2.1 : Int) ∧ (I (m + 1735 + i) 3).toInt = (e.2.2.2 : Int)
/-- the reference read a test and values from v on -/
def RTT (I : jx_I) (m : Nat) (T : List Int) (t v : Nat) : PX (TE × List VA × Nat) → Prop
  | .ok r => ROK I m T r.2.2 ∧ RT1 I m t r.1 ∧ (∀ (i : Nat) (e : VA), r.2.1[i]? = some e → RV1 I m (v + i) e) ∧ (I m 58).toInt = ((t + 1 : Nat) : Int) ∧ (I m 59).toInt = ((v + r.2.1.length : Nat) : Int)
  | .error e => RER I m T e
theorem pTest_s {T : List Int} {lm p v : Nat} : pTest T lm p v = (pVals T lm (T.length + 1) p 1).bind (fun a => if prl (tat T a.2) = 3 then .error (1, a.2) else (pVals T lm (T.length + 1) (skB T (a.2 + 1)) 1).bind (fun b => .ok ((v, prl (tat T a.2), v + a.1.length, v + a.1.length + b.1.length), a.1 ++ b.1, b.2))) := rfl
theorem pTest_3 {T : List Int} {lm p v : Nat} {a : List VA × Nat} (h : pVals T lm (T.length + 1) p 1 = .ok a) (h3 : prl (tat T a.2) = 3) : pTest T lm p v = .error (1, a.2) := by rw [pTest_s, px_o h, if_pos h3]
theorem pTest_b {T : List Int} {lm p v : Nat} {a : List VA × Nat} (h : pVals T lm (T.length + 1) p 1 = .ok a) (h3 : prl (tat T a.2) ≠ 3) : pTest T lm p v = (pVals T lm (T.length + 1) (skB T (a.2 + 1)) 1).bind (fun b => .ok ((v, prl (tat T a.2), v + a.1.length, v + a.1.length + b.1.length), a.1 ++ b.1, b.2)) := by rw [pTest_s, px_o h, if_neg h3]
theorem pTest_e {T : List Int} {lm p v : Nat} {e : Int × Nat} (h : pVals T lm (T.length + 1) p 1 = .error e) : pTest T lm p v = .error e := by rw [pTest_s, px_e h]
theorem RVS_r {I : jx_I} {m : Nat} {T : List Int} {v : Nat} {a : PX (List VA × Nat)} (h : RVS I m T v a) : RST I m T (a.bind (fun r => .ok r.2)) := by
  cases a with
  | error e => exact h
  | ok r => exact h.1
theorem prl_0 {c : Int} (h : c = 60) : prl c = 0 := if_pos h
theorem prl_1 {c : Int} (h : c = 62) : prl c = 1 := by unfold prl; rw [if_neg (by omega), if_pos h]
theorem prl_2 {c : Int} (h : c = 61) : prl c = 2 := by unfold prl; rw [if_neg (by omega), if_neg (by omega), if_pos h]
theorem prl_3 {c : Int} (h : c ≠ 60) (h1 : c ≠ 62) (h2 : c ≠ 61) : prl c = 3 := by unfold prl; rw [if_neg h, if_neg h1, if_neg h2]
theorem app_get {α : Type} {A B : List α} {P : Nat → α → Prop} (hA : ∀ i e, A[i]? = some e → P i e) (hB : ∀ i e, B[i]? = some e → P (A.length + i) e) : ∀ i e, (A ++ B)[i]? = some e → P i e := by
  intro i e he
  rcases Nat.lt_or_ge i A.length with c | c
  · rw [List.getElem?_append_left c] at he
    exact hA i e he
  · rw [List.getElem?_append_right c] at he
    have := hB _ e he
    rw [show A.length + (i - A.length) = i by omega] at this
    exact this
/-- GrievingCamelsModel.readsTest -/
theorem cz_304 {V : jx_V} (hV : V.1.stackTraces = false) {X : jx_X} {R : jx_R} {I : jx_I} {a0 : Nat} {T : List Int} {s t v lm : Nat}
    (hM : MX X R a0) (hs : ROK I a0 T s) (h58 : (I a0 58).toInt = (t : Int)) (ht : t < 120) (h59 : (I a0 59).toInt = (v : Int)) (hv : 2 * v ≤ s) (h200 : T.length ≤ 200) (hlm : (I (a0 + 4) 1).toInt = (lm : Int)) (hl8 : lm ≤ 8)
    {QE : String → jx_I → Prop} : jc V 8 304 (0, 0) [.ref a0] X I R (fun rv I' => rv = none ∧ RTT I' a0 T t v (pTest T lm s v) ∧ FP a0 [4, 5, 6, 58, 59] 120 t v I I') QE := by
  have hsb := ROK_s hs
  refine wm_304 hV   (fun J73 J90 hJJ => ?_)
  obtain ⟨hJ73, hJ90⟩ := hJJ
  have L73 : ∀ (n73 : Nat) (s0 : Nat) (s1 : Int) (s2 : Int) (l1 : Nat) (K : jx_I), n73 = 0 → (s0 = (a0 + 1735 + t) ∧ l1 = (a0 + 1735 + t) ∧ s1 = 1 ∧ FP a0 [4, 5, 6, 58, 59] 120 t v I K ∧ (K (a0 + 1735 + t) 0).toInt = (v : Int) ∧ (K a0 58).toInt = ((t + 1 : Nat) : Int) ∧ ((∃ r, (pVals T lm (T.length + 1) s 1) = .ok r ∧ s2 = (prl (tat T r.2) : Int) ∧ prl (tat T r.2) ≠ 3 ∧ ROK K a0 T (skB T (r.2 + 1)) ∧ (∀ (i : Nat) (e : VA), r.1[i]? = some e → RV1 K a0 (v + i) e) ∧ (K a0 59).toInt = ((v + r.1.length : Nat) : Int)) ∨ (s2 = -1 ∧ ((∃ r, (pVals T lm (T.length + 1) s 1) = .ok r ∧ prl (tat T r.2) = 3 ∧ RTX K a0 T (r.2 : Nat) 0 (-1)) ∨ ∃ e, (pVals T lm (T.length + 1) s 1) = .error e ∧ RER K a0 T e)))) → J73 s0 s1 s2 l1 K := by
    intro n73
    induction n73 using Nat.strongRecOn with
    | ind n73 ih73 =>
    intro s0 s1 s2 l1 K hn73 hI73
    obtain ⟨rfl, rfl, rfl, hFK, hb0, hb58, hb⟩ := hI73
    have hs2 : -1 ≤ s2 ∧ s2 ≤ 3 := by
      rcases hb with ⟨r, _, h, _⟩ | ⟨h, _⟩
      · have := (prl_r (tat T r.2)).1; omega
      · omega
    refine hJ73 _ _ _ _ _ ?_
    unfold wz_304_73
    refine ⟨_, ⟨sr_M_1734 hM (by omega), by decide⟩, by omega, ?_⟩
    intro I36 e_I36; subst e_I36
    have h361 : (jx_u K (a0 + 1735 + t) (1 : Int).toNat (Int32.ofInt s2) (a0 + 1735 + t) (1 : Int).toNat).toInt = s2 := by rw [jx_us (by decide)]; exact jy_toInt (by omega)
    have h360 : (jx_u K (a0 + 1735 + t) (1 : Int).toNat (Int32.ofInt s2) (a0 + 1735 + t) 0).toInt = (v : Int) := by rw [jx_u_k _ _ _ _ (by decide)]; exact hb0
    have h368 : (jx_u K (a0 + 1735 + t) (1 : Int).toNat (Int32.ofInt s2) a0 58).toInt = ((t + 1 : Nat) : Int) := by rw [jx_u_r _ _ _ (by omega)]; exact hb58
    have hF36 : FP a0 [4, 5, 6, 58, 59] 120 t v I (jx_u K (a0 + 1735 + t) (1 : Int).toNat (Int32.ofInt s2)) := FP_t hFK (by omega)
    have hRK : ((∃ r, (pVals T lm (T.length + 1) s 1) = .ok r ∧ s2 = (prl (tat T r.2) : Int) ∧ prl (tat T r.2) ≠ 3 ∧ ROK (jx_u K (a0 + 1735 + t) (1 : Int).toNat (Int32.ofInt s2)) a0 T (skB T (r.2 + 1)) ∧ (∀ (i : Nat) (e : VA), r.1[i]? = some e → RV1 (jx_u K (a0 + 1735 + t) (1 : Int).toNat (Int32.ofInt s2)) a0 (v + i) e) ∧ (jx_u K (a0 + 1735 + t) (1 : Int).toNat (Int32.ofInt s2) a0 59).toInt = ((v + r.1.length : Nat) : Int)) ∨ (s2 = -1 ∧ ((∃ r, (pVals T lm (T.length + 1) s 1) = .ok r ∧ prl (tat T r.2) = 3 ∧ RTX (jx_u K (a0 + 1735 + t) (1 : Int).toNat (Int32.ofInt s2)) a0 T (r.2 : Nat) 0 (-1)) ∨ ∃ e, (pVals T lm (T.length + 1) s 1) = .error e ∧ RER (jx_u K (a0 + 1735 + t) (1 : Int).toNat (Int32.ofInt s2)) a0 T e))) := by
      rcases hb with ⟨r, g1, g2, g3, g4, g5, g6⟩ | ⟨g1, ⟨r, g2, g3, g4⟩ | ⟨e, g2, g3⟩⟩
      · exact Or.inl ⟨r, g1, g2, g3, ROK_w g4 (by omega), fun i e h => by have h9 := g5 i e h; unfold RV1 at h9 ⊢; rw [jx_u_r _ _ _ (by omega)]; exact h9, by rw [jx_u_r _ _ _ (by omega)]; exact g6⟩
      · exact Or.inr ⟨g1, Or.inl ⟨r, g2, g3, RTX_w g4 (by omega)⟩⟩
      · exact Or.inr ⟨g1, Or.inr ⟨e, g2, RER_w g3 (by omega)⟩⟩
    clear hb
    generalize jx_u K (a0 + 1735 + t) (1 : Int).toNat (Int32.ofInt s2) = I36 at *
    refine ⟨_, ⟨sr_M_1734 hM (by omega), by decide⟩, by omega, ?_⟩
    refine ⟨fun hq1 => ?_, fun hq1 => ?_⟩
    · obtain ⟨r, g1, g2, g3, g4, g5, g6⟩ := hRK.resolve_right (fun k => hq1 (by rw [h361]; exact k.1))
      have hpv := pVals_ok hl8 _ _ _ _ hsb.1 (Or.inl rfl) g1
      have hrl := tat_in rfl ((prl_r (tat T r.2)).2 g3)
      have hrs := (skB_le (T := T) (i := r.2 + 1) (by omega)).1
      have hpv1 := hpv.2.2.1
      simp only [-eq_self, g6]
      refine ⟨s_M_0 hM, by omega, ?_⟩
      intro I42 e_I42; subst e_I42
      have h420 : ∀ k, k ≠ 2 → jx_u I36 (a0 + 1735 + t) (2 : Int).toNat (Int32.ofInt ((v + r.1.length : Nat) : Int)) (a0 + 1735 + t) k = I36 (a0 + 1735 + t) k := fun k hk => jx_u_k _ _ _ _ hk
      have h422 : (jx_u I36 (a0 + 1735 + t) (2 : Int).toNat (Int32.ofInt ((v + r.1.length : Nat) : Int)) (a0 + 1735 + t) 2).toInt = ((v + r.1.length : Nat) : Int) := by rw [jx_us (by decide)]; exact jy_toInt (by omega)
      have h428 : ∀ k, jx_u I36 (a0 + 1735 + t) (2 : Int).toNat (Int32.ofInt ((v + r.1.length : Nat) : Int)) a0 k = I36 a0 k := fun k => by rw [jx_u_r _ _ _ (by omega)]
      have h42q : ∀ q, q ≠ (a0 + 1735 + t) → jx_u I36 (a0 + 1735 + t) (2 : Int).toNat (Int32.ofInt ((v + r.1.length : Nat) : Int)) q = I36 q := fun q hq => by rw [jx_u_r _ _ _ hq]
      have hF42 : FP a0 [4, 5, 6, 58, 59] 120 t v I (jx_u I36 (a0 + 1735 + t) (2 : Int).toNat (Int32.ofInt ((v + r.1.length : Nat) : Int))) := FP_t hF36 (by omega)
      have hs42 : RST (jx_u I36 (a0 + 1735 + t) (2 : Int).toNat (Int32.ofInt ((v + r.1.length : Nat) : Int))) a0 T (.ok (skB T (r.2 + 1))) := ROK_w g4 (by omega)
      generalize jx_u I36 (a0 + 1735 + t) (2 : Int).toNat (Int32.ofInt ((v + r.1.length : Nat) : Int)) = I42 at *
      refine ⟨_, cz_305 (v := v + r.1.length) hV hM hs42 (fun s2 h2 => by cases h2; exact ⟨by rw [h428]; exact g6, by omega⟩) h200 (by rw [h42q _ (by omega), hF36.1 _ (by omega) (by omega) (by omega) (by omega)]; exact hlm) hl8, ?_⟩
      rintro _ I45 ⟨rfl, hV45, hF45⟩
      refine ⟨rfl, ?_⟩
      refine ⟨by omega, ?_⟩
      intro I48 e_I48; subst e_I48
      have hV : RVS I45 a0 T (v + r.1.length) (pVals T lm (T.length + 1) (skB T (r.2 + 1)) 1) := hV45
      rw [pTest_b g1 g3]
      have hFe := FP_t (x := Int32.ofInt (I45 a0 59).toInt) (k := (3 : Int).toNat) (i := t) (FP_trans hF42 (FP_mono hF45 (by decide) (Nat.le_refl _) (by omega) (by omega))) (by omega)
      have hrow : ∀ k, k ≠ 3 → jx_u I45 (a0 + 1735 + t) (3 : Int).toNat (Int32.ofInt (I45 a0 59).toInt) (a0 + 1735 + t) k = I42 (a0 + 1735 + t) k := fun k hk => (jx_u_k _ _ _ _ hk).trans (by rw [hF45.1 _ (by omega) (by omega) (by omega) (by omega)])
      have hr3 : (jx_u I45 (a0 + 1735 + t) (3 : Int).toNat (Int32.ofInt (I45 a0 59).toInt) (a0 + 1735 + t) 3).toInt = (I45 a0 59).toInt := by rw [jx_us (by decide)]; exact jy_toInt (jy_rng _)
      have hoth : ∀ q, q ≠ (a0 + 1735 + t) → jx_u I45 (a0 + 1735 + t) (3 : Int).toNat (Int32.ofInt (I45 a0 59).toInt) q = I45 q := fun q hq => jx_u_r _ _ _ hq
      cases hvb : pVals T lm (T.length + 1) (skB T (r.2 + 1)) 1 with
      | error e => rw [hvb] at hV; exact ⟨rfl, RER_w (show RER I45 a0 T e from hV) (by omega), hFe⟩
      | ok b =>
        rw [hvb] at hV
        have hV3 := hV.2.2
        refine ⟨rfl, ⟨ROK_w hV.1 (by omega), ⟨?_, ?_, ?_, ?_⟩, ?_, ?_, ?_⟩, hFe⟩
        · rw [hrow 0 (by decide), h420 0 (by decide)]; exact h360
        · rw [hrow 1 (by decide), h420 1 (by decide)]; rw [← g2]; exact h361
        · rw [hrow 2 (by decide)]; exact h422
        · rw [hr3]; exact hV3
        · refine app_get (fun i e h => ?_) (fun i e h => ?_)
          · have h9 := g5 i e h
            have hi := gi_lt h
            unfold RV1 at h9 ⊢
            rw [hoth _ (by omega), hF45.1 _ (by omega) (by omega) (by omega) (by omega), h42q _ (by omega)]
            exact h9
          · have h9 := hV.2.1 i e h
            unfold RV1 at h9 ⊢
            rw [hoth _ (by omega), ← Nat.add_assoc v]
            exact h9
        · rw [hoth _ (by omega), hF45.2 58 (by decide), h428]; exact h368
        · rw [hoth _ (by omega), hV3]
          show _ = ((v + (r.1 ++ b.1).length : Nat) : Int)
          rw [List.length_append, Nat.add_assoc]
    · have hm1 : s2 = -1 := by rw [← h361]; omega
      have hRK2 := (hRK.resolve_left (fun ⟨r, _, h, _⟩ => by omega)).2
      obtain ⟨e, he, p, fk, fa, hTw, hwk⟩ : ∃ e, pTest T lm s v = .error e ∧ ∃ (p : Nat) (fk fa : Int), RTX I36 a0 T (p : Int) fk fa ∧ (if fk = 0 then (1 : Int) else fk) = e.1 ∧ (if fk = 0 then (p : Int) else fa) = (e.2 : Int) ∧ 1 ≤ e.1 ∧ e.1 ≤ 3 := by
        rcases hRK2 with ⟨r, k1, k2, k3⟩ | ⟨e, k1, k2, k3, p, k4⟩
        · exact ⟨_, pTest_3 k1 k2, r.2, 0, -1, k3, rfl, rfl, show (1 : Int) ≤ 1 by decide, show (1 : Int) ≤ 3 by decide⟩
        · exact ⟨_, pTest_e k1, p, _, _, k4, by rw [if_neg (by omega)], by rw [if_neg (by omega)], k2, k3⟩
      have h364 := hTw.1.2.1
      simp only [-eq_self, h364]
      refine ⟨s_M_0 hM, ?_⟩
      refine ⟨_, cz_208 hV hM hTw (by omega) (by have := jy_rng (I36 a0 4); rw [h364] at this; exact this), ?_⟩
      rintro _ I52 ⟨rfl, hT52, hF52⟩
      refine ⟨rfl, ?_⟩
      rw [hwk.1, hwk.2.1] at hT52
      have hE52 : RER I52 a0 T e := ⟨hwk.2.2.1, hwk.2.2.2, p, hT52⟩
      refine hJ90 _ _ ?_
      unfold wz_304_90
      refine ⟨s_M_0 hM, _, ⟨sr_M_1734 hM (by omega), by decide⟩, by omega, ?_⟩
      intro I58 e_I58; subst e_I58
      have hx58 : RST (jx_u I52 (a0 + 1735 + t) (2 : Int).toNat (Int32.ofInt (I52 a0 59).toInt)) a0 T (.error e) := RER_w hE52 (by omega)
      refine ⟨_, cz_305 (v := v) (lm := lm) hV hM hx58 (fun s2 h2 => by cases h2) h200 (by rw [jx_u_r _ _ _ (by omega), hF52.1 _ (by omega), hF36.1 _ (by omega) (by omega) (by omega) (by omega)]; exact hlm) hl8, ?_⟩
      rintro _ I61 ⟨rfl, hV61, hF61⟩
      refine ⟨rfl, ?_⟩
      refine ⟨by omega, ?_⟩
      intro I64 e_I64; subst e_I64
      rw [he]
      refine ⟨rfl, RER_w (q := (a0 + 1735 + t)) hV61 (by omega), FP_t (i := t) (FP_trans (FP_t (i := t) (FP_trans hF36 (FP_o (n := 120) (t := t) (v := v) (ks2 := [4, 5, 6, 58, 59]) hF52 (by decide))) (by omega)) (FP_mono hF61 (by decide) (Nat.le_refl _) (by omega) (Nat.le_refl _))) (by omega)⟩
  unfold wz_304
  simp only [-eq_self, h58]
  refine ⟨s_M_0 hM, _, r_M_63 hM, _, ⟨s_M_1734 hM, by decide⟩, by omega, _, rr_M_1734 hM (by omega), ?_⟩
  have h599 : (jx_u I a0 58 (Int32.ofInt ((t : Int) + 1)) a0 59).toInt = (v : Int) := by rw [jx_u_k _ _ _ _ (by decide)]; exact h59
  try simp only [-eq_self, h599, Int.toNat_natCast]
  intro I9 e_I9; subst e_I9
  simp only [-eq_self, h599]
  refine ⟨_, ⟨sr_M_1734 hM (by omega), by decide⟩, by omega, ?_⟩
  intro I13 e_I13; subst e_I13
  have hrk : ROK (jx_u (jx_u I a0 58 (Int32.ofInt ((t : Int) + 1))) (a0 + 1735 + t) (0 : Int).toNat (Int32.ofInt (v : Int))) a0 T s := ROK_w (ROK_k hs (by decide)) (by omega)
  have hF13 : FP a0 [4, 5, 6, 58, 59] 120 t v I (jx_u (jx_u I a0 58 (Int32.ofInt ((t : Int) + 1))) (a0 + 1735 + t) (0 : Int).toNat (Int32.ofInt (v : Int))) := FP_t (FP_f FP_refl (by decide)) (by omega)
  have hr130 : (jx_u (jx_u I a0 58 (Int32.ofInt ((t : Int) + 1))) (a0 + 1735 + t) (0 : Int).toNat (Int32.ofInt (v : Int)) (a0 + 1735 + t) 0).toInt = (v : Int) := by rw [jx_us (by decide)]; exact jy_toInt (by omega)
  have h5813 : (jx_u (jx_u I a0 58 (Int32.ofInt ((t : Int) + 1))) (a0 + 1735 + t) (0 : Int).toNat (Int32.ofInt (v : Int)) a0 58).toInt = ((t + 1 : Nat) : Int) := by rw [jx_u_r _ _ _ (by omega), jx_u_s]; exact jy_toInt (by omega)
  have h5913 : (jx_u (jx_u I a0 58 (Int32.ofInt ((t : Int) + 1))) (a0 + 1735 + t) (0 : Int).toNat (Int32.ofInt (v : Int)) a0 59).toInt = (v : Int) := by rw [jx_u_r _ _ _ (by omega), jx_u_k _ _ _ _ (by decide)]; exact h59
  have hlm13 : (jx_u (jx_u I a0 58 (Int32.ofInt ((t : Int) + 1))) (a0 + 1735 + t) (0 : Int).toNat (Int32.ofInt (v : Int)) (a0 + 4) 1).toInt = (lm : Int) := by rw [jx_u_r _ _ _ (by omega), jx_u_r _ _ _ (by omega)]; exact hlm
  generalize jx_u (jx_u I a0 58 (Int32.ofInt ((t : Int) + 1))) (a0 + 1735 + t) (0 : Int).toNat (Int32.ofInt (v : Int)) = I13 at *
  refine ⟨_, cz_305 (x := .ok s) (v := v) hV hM hrk (fun s2 h2 => by cases h2; exact ⟨h5913, hv⟩) h200 hlm13 hl8, ?_⟩
  rintro _ I16 ⟨rfl, hV16r, hF16⟩
  refine ⟨rfl, ?_⟩
  have hF16x := FP_trans hF13 (FP_mono hF16 (by decide) (Nat.le_refl _) (by omega) (Nat.le_refl _) : FP a0 [4, 5, 6, 58, 59] 120 t v I13 I16)
  have hr0 : (I16 (a0 + 1735 + t) 0).toInt = (v : Int) := by rw [hF16.1 _ (by omega) (by omega) (by omega) (by omega)]; exact hr130
  have h5816 : (I16 a0 58).toInt = ((t + 1 : Nat) : Int) := by rw [hF16.2 58 (by decide)]; exact h5813
  have hV16 : RVS I16 a0 T v (pVals T lm (T.length + 1) s 1) := hV16r
  have hy16 := RVS_r hV16
  refine ⟨_, cz_218g hV hM hy16 (by omega), ?_⟩
  rintro _ I20 ⟨⟨r209, rfl, ho20⟩, hF20⟩
  refine ⟨_, rfl, ?_⟩
  have hF20x := FP_trans hF16x (FP_o (n := 120) (t := t) (v := v) (ks2 := [4, 5, 6, 58, 59]) hF20 (by decide))
  have hg20 : ∀ q, q ≠ a0 → I20 q = I16 q := fun q hq => hF20.1 q hq
  have h5820 : (I20 a0 58).toInt = ((t + 1 : Nat) : Int) := by rw [hF20.2 58 (by decide)]; exact h5816
  have h5920 : ∀ k, k ≠ 4 → I20 a0 k = I16 a0 k := fun k hk => hF20.2 k (by simpa using hk)
  refine ⟨by omega, ?_⟩
  refine ⟨fun hq2 => ?_, fun hq2 => ?_⟩
  · obtain ⟨_, hn20, hy20⟩ := ho20.resolve_left (fun k => by omega)
    refine ⟨_, cz_218g hV hM hy20 (by omega), ?_⟩
    rintro _ I25 ⟨⟨r259, rfl, ho25⟩, hF25⟩
    refine ⟨_, rfl, ?_⟩
    have hF25x := FP_trans hF20x (FP_o (n := 120) (t := t) (v := v) (ks2 := [4, 5, 6, 58, 59]) hF25 (by decide))
    have hg25 : ∀ q, q ≠ a0 → I25 q = I16 q := fun q hq => (hF25.1 q hq).trans (hg20 q hq)
    have h5825 : (I25 a0 58).toInt = ((t + 1 : Nat) : Int) := by rw [hF25.2 58 (by decide)]; exact h5820
    have h5925 : ∀ k, k ≠ 4 → I25 a0 k = I16 a0 k := fun k hk => (hF25.2 k (by simpa using hk)).trans (h5920 k hk)
    refine ⟨by omega, ?_⟩
    refine ⟨fun hq3 => ?_, fun hq3 => ?_⟩
    · obtain ⟨_, hn25, hy25⟩ := ho25.resolve_left (fun k => by omega)
      refine ⟨_, cz_218g hV hM hy25 (by omega), ?_⟩
      rintro _ I30 ⟨⟨r309, rfl, ho30⟩, hF30⟩
      refine ⟨_, rfl, ?_⟩
      have hF30x := FP_trans hF25x (FP_o (n := 120) (t := t) (v := v) (ks2 := [4, 5, 6, 58, 59]) hF30 (by decide))
      have hg30 : ∀ q, q ≠ a0 → I30 q = I16 q := fun q hq => (hF30.1 q hq).trans (hg25 q hq)
      have h5830 : (I30 a0 58).toInt = ((t + 1 : Nat) : Int) := by rw [hF30.2 58 (by decide)]; exact h5825
      have h5930 : ∀ k, k ≠ 4 → I30 a0 k = I16 a0 k := fun k hk => (hF30.2 k (by simpa using hk)).trans (h5925 k hk)
      refine ⟨by omega, ?_⟩
      refine ⟨fun hq4 => ?_, fun hq4 => ?_⟩
      · obtain ⟨_, hn30, hy30⟩ := ho30.resolve_left (fun k => by omega)
        have hN : (∃ r, (pVals T lm (T.length + 1) s 1) = .ok r ∧ prl (tat T r.2) = 3 ∧ RTX I30 a0 T (r.2 : Nat) 0 (-1)) ∨ ∃ e, (pVals T lm (T.length + 1) s 1) = .error e ∧ RER I30 a0 T e := by
          cases hvv : (pVals T lm (T.length + 1) s 1) with
          | error e => rw [hvv] at hy30; exact Or.inr ⟨e, rfl, hy30⟩
          | ok r =>
            rw [hvv] at hn20 hn25 hn30
            exact Or.inl ⟨r, rfl, prl_3 (hn20 _ rfl).1 (hn25 _ rfl).1 (hn30 _ rfl).1, (hn30 _ rfl).2⟩
        exact L73 _ _ _ _ _ _ rfl (⟨rfl, rfl, rfl, hF30x, by rw [hg30 _ (by omega)]; exact hr0, h5830, Or.inr ⟨rfl, hN⟩⟩)
      · obtain ⟨_, q, hyq, hc9, hok⟩ := ho30.resolve_right (fun k => hq4 k.1)
        obtain ⟨r, hr, hrq⟩ : ∃ r, (pVals T lm (T.length + 1) s 1) = .ok r ∧ q = r.2 := by
          cases hvv : (pVals T lm (T.length + 1) s 1) with
          | error e => rw [hvv] at hyq; cases hyq
          | ok r => rw [hvv] at hyq; cases hyq; exact ⟨r, rfl, rfl⟩
        rw [hr] at hV16
        subst hrq
        have hpr := prl_2 hc9
        exact L73 _ _ _ _ _ _ rfl (⟨rfl, rfl, rfl, hF30x, by rw [hg30 _ (by omega)]; exact hr0, h5830, Or.inl ⟨r, hr, by rw [hpr]; rfl, by omega, hok, fun i e h => by have h9 := hV16.2.1 i e h; unfold RV1 at h9 ⊢; rw [hg30 _ (by omega)]; exact h9, by rw [h5930 59 (by decide)]; exact hV16.2.2⟩⟩)
    · obtain ⟨_, q, hyq, hc9, hok⟩ := ho25.resolve_right (fun k => hq3 k.1)
      obtain ⟨r, hr, hrq⟩ : ∃ r, (pVals T lm (T.length + 1) s 1) = .ok r ∧ q = r.2 := by
        cases hvv : (pVals T lm (T.length + 1) s 1) with
        | error e => rw [hvv] at hyq; cases hyq
        | ok r => rw [hvv] at hyq; cases hyq; exact ⟨r, rfl, rfl⟩
      rw [hr] at hV16
      subst hrq
      have hpr := prl_1 hc9
      exact L73 _ _ _ _ _ _ rfl (⟨rfl, rfl, rfl, hF25x, by rw [hg25 _ (by omega)]; exact hr0, h5825, Or.inl ⟨r, hr, by rw [hpr]; rfl, by omega, hok, fun i e h => by have h9 := hV16.2.1 i e h; unfold RV1 at h9 ⊢; rw [hg25 _ (by omega)]; exact h9, by rw [h5925 59 (by decide)]; exact hV16.2.2⟩⟩)
  · obtain ⟨_, q, hyq, hc9, hok⟩ := ho20.resolve_right (fun k => hq2 k.1)
    obtain ⟨r, hr, hrq⟩ : ∃ r, (pVals T lm (T.length + 1) s 1) = .ok r ∧ q = r.2 := by
      cases hvv : (pVals T lm (T.length + 1) s 1) with
      | error e => rw [hvv] at hyq; cases hyq
      | ok r => rw [hvv] at hyq; cases hyq; exact ⟨r, rfl, rfl⟩
    rw [hr] at hV16
    subst hrq
    have hpr := prl_0 hc9
    exact L73 _ _ _ _ _ _ rfl (⟨rfl, rfl, rfl, hF20x, by rw [hg20 _ (by omega)]; exact hr0, h5820, Or.inl ⟨r, hr, by rw [hpr]; rfl, by omega, hok, fun i e h => by have h9 := hV16.2.1 i e h; unfold RV1 at h9 ⊢; rw [hg20 _ (by omega)]; exact h9, by rw [h5920 59 (by decide)]; exact hV16.2.2⟩⟩)
