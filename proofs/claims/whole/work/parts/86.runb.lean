/-! ===== the class: runStep, runSteps ===== -/
/-- GrievingCamels$Runner.runStep -/
theorem cz_87 {V : jx_V} (hV : V.1.stackTraces = false) {d : Nat} {X : jx_X} {R : jx_R} {I : jx_I} {a0 : Nat} {a1 : Int} {a2 : Int} {ld y : Nat} {l : LT} {P : PLT} {nx : Nat → Int} {s : RN} {k D g : Nat} {e : SP}
    (hz : ZX X R a0 ld y) (hZ : ZR I a0 ld y l P nx s) (hW : WT l) (hwp : WP l P) (hr : WR 0 l s) (he : P.1[k]? = some e) (h1 : a1 = (k : Int)) (h2 : a2 = (D : Int)) (hD6 : D ≤ 6) (ih : G86 V X R a0 ld y l P nx g) (hw : yWo s = 0) (hnb7 : 7 ≤ e.1 → NBv nx P g (D + 1) (k + 1) e.2.2.2.1) (hnb9 : e.1 = 9 → NBv nx P g (D + 1) e.2.2.2.1 e.2.2.2.2) (hd : 9 + 3 * (7 - D) ≤ d)
    {QE : String → jx_I → Prop} : jc V d 87 (0, 0) [.ref a0, jy a1, jy a2] X I R (fun rv I' => rv = none ∧ YR I' a0 (stq l P (rns l P g) k e s) ∧ ZF a0 ld I I') QE := by
  have hW0 := hW.1
  have hwp1 := hwp.1
  have hse := hwp.2.1 k e he
  have hse1 := hse.1
  have hse2 := hse.2.1
  have hkl := gi_lt he
  have d1 := hz.2.2.2.2.2.1
  have d2 := hz.2.2.2.2.2.2.1
  have d3 := hz.2.2.2.2.2.2.2
  subst h1
  subst h2
  have hkk : (I (y + 1) ((k : Nat) : Int).toNat).toInt = (e.1 : Int) := (hZ.2.2.1.2 k e he).1
  have hc := WR_cts hr
  have hcw := hc.2.2.1
  refine wm_87 hV (by omega) (by omega)  (fun J83 hJJ => ?_)
  have hJ83 := hJJ
  unfold wz_87
  refine ⟨s_Runner_0 hz.1, _, hz.2.2.2.2.1, s_Plan_0 hz.2.2.1, _, r_Plan_0_0 hz.2.2.1, _, ⟨s_Plan_1 hz.2.2.1, by decide⟩, by omega, ?_⟩
  refine ⟨fun hq1 => ?_, fun hq1 => ?_⟩
  · refine ⟨by omega, _, cz_88 hV hz.1 hZ.2.1 hw hr.2.2.2.1, ?_⟩
    rintro _ I13 ⟨rfl, hY13, hA13⟩
    refine ⟨_, rfl, ?_⟩
    have hF13 : ZF a0 ld I I13 := ZF_a hA13
    have hZ13 := ZR_of hz hZ hF13 hY13
    have h213 : (I13 (y + 2) ((k : Nat) : Int).toNat).toInt = e.2.1 := (hZ13.2.2.1.2 k e he).2.1
    refine ⟨by omega, ?_⟩
    refine ⟨fun hq2 => ?_, fun hq2 => ?_⟩
    · rw [stq_w (by omega) (by omega)]
      exact ⟨rfl, hY13, hF13⟩
    · have hcw0 : yWo (cts s) = 0 := by omega
      have hc1 := hc.2.2.2 hcw0
      refine ⟨fun hq3 => ?_, fun hq3 => ?_⟩
      · refine ⟨fun hq4 => ?_, fun hq4 => ?_⟩
        · refine ⟨fun hq5 => ?_, fun hq5 => ?_⟩
          · refine ⟨_, r_Plan_0_1 hz.2.2.1, _, ⟨s_Plan_2 hz.2.2.1, by decide⟩, by omega, ?_⟩
            refine ⟨by omega, _, cz_91 (k := e.1) (v := e.2.1) hV hz.1 hW hY13 hc1.1 hkk (by omega) h213 (WP_v hwp he).2, ?_⟩
            rintro _ I24 ⟨rfl, hY24, hA24⟩
            refine ⟨rfl, ?_⟩
            rw [stq_p (k := e.1) rfl (by omega) hcw0]
            exact ⟨rfl, hY24, FR2_trans hF13 (ZF_a hA24)⟩
          · obtain ⟨q, hqv⟩ : ∃ q : Nat, e.2.1 = (q : Int) := ⟨e.2.1.toNat, by omega⟩
            have hqm : q < Ln l := by have := hse.2.2.1 (by omega); omega
            refine ⟨_, r_Plan_0_1 hz.2.2.1, _, ⟨s_Plan_2 hz.2.2.1, by decide⟩, by omega, ?_⟩
            refine ⟨by omega, _, cz_92 (q := q) hV hz.1 hz.2.1 hz.2.2.2.1 hZ13.1 hW hY13 d1 hc1.1 (by omega) hqm, ?_⟩
            rintro _ I34 ⟨rfl, hY34, hA34⟩
            refine ⟨rfl, ?_⟩
            rw [stq_p (k := 0) (by omega) (by omega) hcw0, hqv]
            exact ⟨rfl, hY34, FR2_trans hF13 hA34⟩
        · obtain ⟨t, ht⟩ : ∃ t, P.2.1[e.2.2.1]? = some t := ⟨_, List.getElem?_eq_getElem (hse.2.2.2.2.1 (by omega))⟩
          refine ⟨by omega, _, cz_93 hV hz.1 hz.2.1 hz.2.2.1 hz.2.2.2.1 hz.2.2.2.2.1 hZ13.1 hW hY13 d1 d2 hc.1 hwp hZ13.2.2.2.1 ((hZ13.2.2.1.2 k e he).2.2.2.2 (by omega) t ht) (hwp.2.2.1 _ t ht) rfl (by omega), ?_⟩
          rintro _ I39 ⟨rfl, hA39⟩
          refine ⟨_, rfl, ?_⟩
          have hF39 : ZF a0 ld I13 I39 := ZF_b hA39
          have hZ39 : ZR I39 a0 ld y l P nx (cts s) := ZR_of hz hZ13 hF39 (YR_of hY13 (fun q h1 h2 => hA39 q (by omega)))
          have h4k := (hZ39.2.2.1.2 k e he).2.2.1 (by omega)
          have h5k := (hZ39.2.2.1.2 k e he).2.2.2.1 (by omega)
          refine ⟨by omega, ?_⟩
          refine ⟨fun hq6 => ?_, fun hq6 => ?_⟩
          · have ct := bi_f hq6
            refine ⟨_, r_Plan_0_4 hz.2.2.1, _, ⟨s_Plan_5 hz.2.2.1, by decide⟩, by omega, ?_⟩
            refine hJ83 _ _ _ ?_
            unfold wz_87_83
            refine ⟨s_Runner_0 hz.1, ?_⟩
            refine ⟨_, by omega, _, ih (d - 1) (D + 1) (e.2.2.2.1) (e.2.2.2.2) _ _ I39 (cts s) _ hZ39 hc.1 (hnb9 (by omega)) h5k (by omega) (by omega) (by omega), ?_⟩
            rintro _ I69 ⟨rfl, hY69, hF69⟩
            refine ⟨rfl, ?_⟩
            rw [stq_9n (by omega) hcw0 ht ct]
            exact ⟨rfl, hY69, FR2_trans hF13 (FR2_trans hF39 hF69)⟩
          · have ct := bi_t hq6
            refine ⟨_, r_Plan_0_3 hz.2.2.1, _, ⟨s_Plan_4 hz.2.2.1, by decide⟩, by omega, ?_⟩
            refine hJ83 _ _ _ ?_
            unfold wz_87_83
            refine ⟨s_Runner_0 hz.1, ?_⟩
            refine ⟨_, by omega, _, ih (d - 1) (D + 1) (k + 1) (e.2.2.2.1) _ _ I39 (cts s) _ hZ39 hc.1 (hnb7 (by omega)) h4k (by omega) (by omega) (by omega), ?_⟩
            rintro _ I69 ⟨rfl, hY69, hF69⟩
            refine ⟨rfl, ?_⟩
            rw [stq_9y (by omega) hcw0 ht ct]
            exact ⟨rfl, hY69, FR2_trans hF13 (FR2_trans hF39 hF69)⟩
      · refine ⟨_, by omega, _, cz_89 (d := d - 1) hV hz hZ13 hW hwp hc.1 he rfl rfl hD6 ih (by omega) (hnb7 (by omega)) (by omega), ?_⟩
        rintro _ I56 ⟨rfl, hY56, hF56⟩
        refine ⟨rfl, ?_⟩
        rw [stq_7 (by omega) hcw0]
        exact ⟨rfl, hY56, FR2_trans hF13 hF56⟩
  · obtain ⟨t, ht⟩ : ∃ t, P.2.1[e.2.2.1]? = some t := ⟨_, List.getElem?_eq_getElem (hse.2.2.2.2.1 (by omega))⟩
    refine ⟨_, by omega, _, cz_90 (d := d - 1) hV hz hZ hW hwp hr he rfl rfl hD6 ih (by omega) ht (hnb7 (by omega)) (by omega), ?_⟩
    rintro _ I62 ⟨rfl, hY62, hF62⟩
    refine ⟨rfl, ?_⟩
    rw [stq_8 (by omega) ht]
    exact ⟨rfl, hY62, hF62⟩
theorem NBv_b {nx : Nat → Int} {P : PLT} {g D k b : Nat} (h : NBv nx P g D k b) : b ≤ k ∨ (b ≤ P.1.length ∧ D ≤ 6 ∧ g ≠ 0) := by
  rcases Nat.lt_or_ge k b with hk | hk
  · cases g with
    | zero => exact Or.inl h
    | succ g => exact Or.inr ⟨h.1, (h.2 hk).1, by omega⟩
  · exact Or.inl hk
/-- GrievingCamels$Runner.runSteps -/
theorem cz_86s {V : jx_V} (hV : V.1.stackTraces = false) {d : Nat} {X : jx_X} {R : jx_R} {I : jx_I} {a0 : Nat} {a1 : Int} {a2 : Int} {ld y : Nat} {l : LT} {P : PLT} {nx : Nat → Int} {s : RN} {f D a b : Nat}
    (hz : ZX X R a0 ld y) (hZ : ZR I a0 ld y l P nx s) (hW : WT l) (hwp : WP l P) (hr : WR 0 l s) (hnb : NBv nx P f D a b) (h1 : a1 = if a < b then (a : Int) else -1) (h2 : a2 = (D : Int)) (hD7 : D ≤ 7) (hd : 10 + 3 * (7 - D) ≤ d) (ih : ∀ g, g < f → G86 V X R a0 ld y l P nx g)
    {QE : String → jx_I → Prop} : jc V d 86 (0, 0) [.ref a0, jy a1, jy a2] X I R (fun rv I' => rv = none ∧ YR I' a0 (rns l P f a b s) ∧ ZF a0 ld I I') QE := by
  have hW0 := hW.1
  have hwp1 := hwp.1
  have hnb0 := NBv_b hnb
  have d1 := hz.2.2.2.2.2.1
  have d2 := hz.2.2.2.2.2.2.1
  have d3 := hz.2.2.2.2.2.2.2
  subst h2
  have hr1 : -2147483648 ≤ a1 ∧ a1 < 2147483648 := by
    rw [h1]
    split <;> omega
  refine wm_86 hV (by omega) (by omega)  (fun J12 hJJ => ?_)
  have hJ12 := hJJ
  unfold wz_86
  refine ⟨fun hq1 => ?_, fun hq1 => ?_⟩
  · have L12 : ∀ (n12 : Nat) (l3 : Int) (l4 : Int) (K : jx_I), n12 = (100 - l4).toNat → (∃ (k g i : Nat) (s2 : RN), l4 = (i : Int) ∧ i ≤ 100 ∧ i ≤ k ∧ g ≤ f ∧ NBv nx P g D k b ∧ l3 = (if k < b then (k : Int) else -1) ∧ rns l P f a b s = rns l P g k b s2 ∧ ZR K a0 ld y l P nx s2 ∧ WR 0 l s2 ∧ ZF a0 ld I K) → J12 l3 l4 K := by
      intro n12
      induction n12 using Nat.strongRecOn with
      | ind n12 ih12 =>
      intro l3 l4 K hn12 hI12
      obtain ⟨k, g0, i, s2, rfl, hi1, hik, hgf, hnK, hl3, hE, hZK, hrK, hF⟩ := hI12
      have hnb1 := NBv_b hnK
      have h3a : k < b → l3 = (k : Int) := fun h => by rw [hl3, if_pos h]
      have h3b : ¬ k < b → l3 = -1 := fun h => by rw [hl3, if_neg h]
      have h8k := hZK.2.1.1.2.2.2.2
      have hw2 := hrK.2.2.2.2.1
      refine hJ12 _ _ _ ?_
      unfold wz_86_12
      refine ⟨by omega, ?_⟩
      refine ⟨fun hq2 => ?_, fun hq2 => ?_⟩
      · rw [hE, rns_n (Or.inl (by omega))]
        exact ⟨rfl, hZK.2.1, hF⟩
      · refine ⟨by omega, ?_⟩
        refine ⟨fun hq3 => ?_, fun hq3 => ?_⟩
        · rw [hE, rns_n (Or.inl (by omega))]
          exact ⟨rfl, hZK.2.1, hF⟩
        · refine ⟨s_Runner_0 hz.1, ?_⟩
          refine ⟨fun hq4 => ?_, fun hq4 => ?_⟩
          · rw [hE, rns_n (Or.inr (by omega))]
            exact ⟨rfl, hZK.2.1, hF⟩
          · have hkb : k < b := by omega
            have hl3b := h3a hkb
            clear h3a h3b hl3
            subst hl3b
            obtain ⟨g, rfl⟩ : ∃ g, g0 = g + 1 := ⟨g0 - 1, by omega⟩
            have hbl := hnK.1
            obtain ⟨e, he⟩ : ∃ e, P.1[k]? = some e := ⟨_, List.getElem?_eq_getElem (by omega)⟩
            have hn2 := (hnK.2 hkb).2 e he
            have hD6 := (hnK.2 hkb).1
            have hw0 : yWo s2 = 0 := by omega
            have hse := (hwp.2.1 k e he).2.2.2.2.2
            have hE2 : rns l P f a b s = rns l P g e.2.2.2.2 b (stq l P (rns l P g) k e s2) := hE.trans (rns_y hkb hbl hw0 he)
            have hst := KR_stq (P := P) (rec := rns l P g) (a := k) hW (KR_rns hW hwp g) (WP_v hwp he).1 (WP_v hwp he).2 s2 hrK
            refine ⟨_, by omega, _, cz_87 (d := d - 1) (e := e) (g := g) hV hz hZK hW hwp hrK he rfl rfl hD6 (ih g (by omega)) hw0 hn2.2.2.2.1 hn2.2.2.2.2 (by omega), ?_⟩
            rintro _ I8 ⟨rfl, hY8, hF8⟩
            refine ⟨rfl, ?_⟩
            have hZ8 := ZR_of hz hZK hF8 hY8
            have hx3 : (I8 (y + 3) ((k : Nat) : Int).toNat).toInt = if e.2.2.2.2 < b then (e.2.2.2.2 : Int) else -1 := (hZ8.2.2.2.2 k).trans hn2.2.1
            refine ⟨_, hz.2.2.2.2.1, s_Plan_0 hz.2.2.1, _, r_Plan_0_2 hz.2.2.1, _, ⟨s_Plan_3 hz.2.2.1, by decide⟩, by omega, ?_⟩
            exact ih12 _ (by omega) _ _ _ rfl (⟨e.2.2.2.2, g, i + 1, _, by omega, by omega, by omega, by omega, hn2.2.2.1, hx3, hE2, hZ8, hst.1, FR2_trans hF hF8⟩)
    exact L12 _ _ _ _ rfl (⟨a, f, 0, s, rfl, by omega, by omega, by omega, hnb, h1, rfl, hZ, hr, FR2_refl⟩)
  · rw [rns_n (Or.inl (by omega))]
    exact ⟨rfl, hZ.2.1, FR2_refl⟩
theorem cz_86 {V : jx_V} (hV : V.1.stackTraces = false) {X : jx_X} {R : jx_R} {x ld y : Nat} {l : LT} {P : PLT} {nx : Nat → Int} (hz : ZX X R x ld y) (hW : WT l) (hwp : WP l P) (f : Nat) : G86 V X R x ld y l P nx f := by
  induction f using Nat.strongRecOn with
  | ind f ih =>
    intro d D a b a1 a2 I s QE hZ hr hnb h1 h2 hD hd
    exact cz_86s hV hz hZ hW hwp hr hnb h1 h2 hD hd ih
