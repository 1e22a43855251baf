/-! ===== the class: runAgain, runWhile ===== -/
/-- a Plan holds the steps of P -/
def CPS (I : jx_I) (y : Nat) (P : PLT) : Prop := (I y 11).toInt = P.1.length ∧ ∀ (k : Nat) (e : SP), P.1[k]? = some e → (I (y + 1) k).toInt = (e.1 : Int) ∧ (I (y + 2) k).toInt = e.2.1 ∧ (7 ≤ e.1 → (I (y + 4) k).toInt = if k + 1 < e.2.2.2.1 then ((k + 1 : Nat) : Int) else -1) ∧ (e.1 = 9 → (I (y + 5) k).toInt = if e.2.2.2.1 < e.2.2.2.2 then (e.2.2.2.1 : Int) else -1) ∧ (8 ≤ e.1 → ∀ t, P.2.1[e.2.2.1]? = some t → CPT I y P k t)
theorem CPT_of {I I' : jx_I} {y : Nat} {P : PLT} {k : Nat} {t : TE} (h : CPT I y P k t) (e : ∀ q, y ≤ q → q < y + 12 → I' q = I q) : CPT I' y P k t := ⟨by rw [e _ (by omega) (by omega)]; exact h.1, by rw [e _ (by omega) (by omega)]; exact h.2.1, by rw [e _ (by omega) (by omega)]; exact h.2.2.1, fun i v a b c => by rw [e _ (by omega) (by omega)]; exact h.2.2.2 i v a b c⟩
theorem CPS_of {I I' : jx_I} {y : Nat} {P : PLT} (h : CPS I y P) (e : ∀ q, y ≤ q → q < y + 12 → I' q = I q) : CPS I' y P := ⟨by rw [e _ (by omega) (by omega)]; exact h.1, fun k s hs => ⟨by rw [e _ (by omega) (by omega)]; exact (h.2 k s hs).1, by rw [e _ (by omega) (by omega)]; exact (h.2 k s hs).2.1, fun a => by rw [e _ (by omega) (by omega)]; exact (h.2 k s hs).2.2.1 a, fun a => by rw [e _ (by omega) (by omega)]; exact (h.2 k s hs).2.2.2.1 a, fun a t ht => CPT_of ((h.2 k s hs).2.2.2.2 a t ht) e⟩⟩
theorem CPV_of {I I' : jx_I} {y : Nat} {P : PLT} (h : CPV I y P) (e : ∀ q, y ≤ q → q < y + 12 → I' q = I q) : CPV I' y P := fun i v hv => ⟨by rw [e _ (by omega) (by omega)]; exact (h i v hv).1, by rw [e _ (by omega) (by omega)]; exact (h i v hv).2⟩
/-- a Runner, its Land, its Plan -/
def ZX (X : jx_X) (R : jx_R) (x ld y : Nat) : Prop := BX X R x TRunner ∧ BX X R ld TLand ∧ BX X R y TPlan ∧ R x 2 = some ld ∧ R x 3 = some y ∧ (x + 7 ≤ ld ∨ ld + 11 ≤ x) ∧ (y + 12 ≤ ld ∨ ld + 11 ≤ y) ∧ (x + 7 ≤ y ∨ y + 12 ≤ x)
/-- they are in a run -/
def ZR (I : jx_I) (x ld y : Nat) (l : LT) (P : PLT) (nx : Nat → Int) (s : RN) : Prop := LD I ld l ∧ YR I x s ∧ CPS I y P ∧ CPV I y P ∧ (∀ k, (I (y + 3) k).toInt = nx k)
abbrev ZF (x ld : Nat) (I I' : jx_I) : Prop := FR2 x (x + 7) (ld + 9) (ld + 11) I I'
theorem ZR_of {X : jx_X} {R : jx_R} {I I' : jx_I} {x ld y : Nat} {l : LT} {P : PLT} {nx : Nat → Int} {s s' : RN} (hz : ZX X R x ld y) (h : ZR I x ld y l P nx s) (hF : ZF x ld I I') (hY : YR I' x s') : ZR I' x ld y l P nx s' := by
  have d1 := hz.2.2.2.2.2.1
  have d2 := hz.2.2.2.2.2.2.1
  have d3 := hz.2.2.2.2.2.2.2
  have e : ∀ q, y ≤ q → q < y + 12 → I' q = I q := fun q h1 h2 => hF q (by omega) (by omega)
  exact ⟨LD_of h.1 (fun q h1 h2 => hF q (by omega) (by omega)), hY, CPS_of h.2.2.1 e, CPV_of h.2.2.2.1 e, fun k => by rw [e (y + 3) (by omega) (by omega)]; exact h.2.2.2.2 k⟩
theorem ZF_a {x ld : Nat} {I I' : jx_I} (h : FR x (x + 7) I I') : ZF x ld I I' := fun q h1 _ => h q (by omega)
theorem ZF_b {x ld : Nat} {I I' : jx_I} (h : FR (ld + 9) (ld + 11) I I') : ZF x ld I I' := fun q _ h2 => h q (by omega)
/-- steps from a on, before b, D blocks open, f at most: what is next -/
def NBv (nx : Nat → Int) (P : PLT) : Nat → Nat → Nat → Nat → Prop
  | 0, _, a, b => b ≤ a
  | f + 1, D, a, b => b ≤ P.1.length ∧ (a < b → D ≤ 6 ∧ ∀ e, P.1[a]? = some e → e.2.2.2.2 ≤ b ∧ nx a = (if e.2.2.2.2 < b then (e.2.2.2.2 : Int) else -1) ∧ NBv nx P f D e.2.2.2.2 b ∧ (7 ≤ e.1 → NBv nx P f (D + 1) (a + 1) e.2.2.2.1) ∧ (e.1 = 9 → NBv nx P f (D + 1) e.2.2.2.1 e.2.2.2.2))
/-- runSteps of a block -/
def G86 (V : jx_V) (X : jx_X) (R : jx_R) (x ld y : Nat) (l : LT) (P : PLT) (nx : Nat → Int) (f : Nat) : Prop := ∀ (d D a b : Nat) (a1 a2 : Int) (I : jx_I) (s : RN) (QE : String → jx_I → Prop), ZR I x ld y l P nx s → WR 0 l s → NBv nx P f D a b → a1 = (if a < b then (a : Int) else -1) → a2 = (D : Int) → D ≤ 7 → 10 + 3 * (7 - D) ≤ d → jc V d 86 (0, 0) [.ref x, jy a1, jy a2] X I R (fun rv I' => rv = none ∧ YR I' x (rns l P f a b s) ∧ ZF x ld I I') QE
theorem cts_id {s : RN} (h : yWo s = 1) : cts s = s := by
  rw [cts_n (by omega)]
  show (s.1, (s.2.1.1, (1 : Int)), s.2.2) = s
  rw [← h]
/-- GrievingCamels$Runner.runAgain -/
theorem cz_89 {V : jx_V} (hV : V.1.stackTraces = false) {d : Nat} {X : jx_X} {R : jx_R} {I : jx_I} {a0 : Nat} {a1 : Int} {a2 : Int} {ld y : Nat} {l : LT} {P : PLT} {nx : Nat → Int} {s : RN} {k D g : Nat} {e : SP}
    (hz : ZX X R a0 ld y) (hZ : ZR I a0 ld y l P nx s) (hW : WT l) (hwp : WP l P) (hr : WR 0 l s) (he : P.1[k]? = some e) (h1 : a1 = (k : Int)) (h2 : a2 = (D : Int)) (hD6 : D ≤ 6) (ih : G86 V X R a0 ld y l P nx g) (h7 : e.1 = 7) (hnb : NBv nx P g (D + 1) (k + 1) e.2.2.2.1) (hd : 8 + 3 * (7 - D) ≤ d)
    {QE : String → jx_I → Prop} : jc V d 89 (0, 0) [.ref a0, jy a1, jy a2] X I R (fun rv I' => rv = none ∧ YR I' a0 (agn (rns l P g (k + 1) e.2.2.2.1) e.2.1.toNat s) ∧ ZF a0 ld I I') QE := by
  have hW0 := hW.1
  have hwp1 := hwp.1
  have hse := hwp.2.1 k e he
  have hse2 := hse.2.1
  have hkl := gi_lt he
  have d1 := hz.2.2.2.2.2.1
  have d2 := hz.2.2.2.2.2.2.1
  have d3 := hz.2.2.2.2.2.2.2
  subst h1
  subst h2
  refine wm_89 hV (by omega) (by omega)  (fun J2 hJJ => ?_)
  have hJ2 := hJJ
  unfold wz_89
  have L2 : ∀ (n2 : Nat) (l3 : Int) (K : jx_I), n2 = (e.2.1 - l3).toNat → (∃ (i : Nat) (s3 : RN), l3 = (i : Int) ∧ i ≤ e.2.1.toNat ∧ agn (rns l P g (k + 1) e.2.2.2.1) e.2.1.toNat s = agn (rns l P g (k + 1) e.2.2.2.1) (e.2.1.toNat - i) s3 ∧ ZR K a0 ld y l P nx s3 ∧ WR 0 l s3 ∧ ZF a0 ld I K) → J2 l3 K := by
    intro n2
    induction n2 using Nat.strongRecOn with
    | ind n2 ih2 =>
    intro l3 K hn2 hI2
    obtain ⟨i, s3, rfl, hi, hA, hZK, hrK, hF⟩ := hI2
    have hk3 := hZK.2.2.1.2 k e he
    have h2k := hk3.2.1
    have h4k := hk3.2.2.1 (by omega)
    have h8k := hZK.2.1.1.2.2.2.2
    refine hJ2 _ _ ?_
    unfold wz_89_2
    refine ⟨s_Runner_0 hz.1, _, hz.2.2.2.2.1, s_Plan_0 hz.2.2.1, _, r_Plan_0_1 hz.2.2.1, _, ⟨s_Plan_2 hz.2.2.1, by decide⟩, ?_⟩
    try simp only [-eq_self, Int.toNat_natCast, h2k]
    refine ⟨by omega, by omega, ?_⟩
    refine ⟨fun hq1 => ?_, fun hq1 => ?_⟩
    · rw [hA, show e.2.1.toNat - i = 0 by omega]
      exact ⟨rfl, hZK.2.1, hF⟩
    · refine ⟨fun hq2 => ?_, fun hq2 => ?_⟩
      · rw [hA, agn_n (by omega)]
        exact ⟨rfl, hZK.2.1, hF⟩
      · refine ⟨_, r_Plan_0_3 hz.2.2.1, _, ⟨s_Plan_4 hz.2.2.1, by decide⟩, ?_⟩
        try simp only [-eq_self, Int.toNat_natCast, h4k]
        refine ⟨by omega, ?_⟩
        refine ⟨_, by omega, _, ih (d - 1) (D + 1) (k + 1) e.2.2.2.1 _ _ K s3 _ hZK hrK hnb rfl (by omega) (by omega) (by omega), ?_⟩
        rintro _ I20 ⟨rfl, hY20, hF20⟩
        refine ⟨rfl, ?_⟩
        have hk2 := KR_rns hW hwp g (k + 1) e.2.2.2.1 s3 hrK
        exact ih2 _ (by omega) _ _ rfl (⟨i + 1, rns l P g (k + 1) e.2.2.2.1 s3, by omega, by omega, by rw [hA, show e.2.1.toNat - i = (e.2.1.toNat - (i + 1)) + 1 by omega, agn_y (by omega)], ZR_of hz hZK hF20 hY20, hk2.1, FR2_trans hF hF20⟩)
  exact L2 _ _ _ rfl (⟨0, s, rfl, by omega, rfl, hZ, hr, FR2_refl⟩)
/-- GrievingCamels$Runner.runWhile -/
theorem cz_90 {V : jx_V} (hV : V.1.stackTraces = false) {d : Nat} {X : jx_X} {R : jx_R} {I : jx_I} {a0 : Nat} {a1 : Int} {a2 : Int} {ld y : Nat} {l : LT} {P : PLT} {nx : Nat → Int} {s : RN} {k D g : Nat} {e : SP} {t : TE}
    (hz : ZX X R a0 ld y) (hZ : ZR I a0 ld y l P nx s) (hW : WT l) (hwp : WP l P) (hr : WR 0 l s) (he : P.1[k]? = some e) (h1 : a1 = (k : Int)) (h2 : a2 = (D : Int)) (hD6 : D ≤ 6) (ih : G86 V X R a0 ld y l P nx g) (h8 : e.1 = 8) (ht : P.2.1[e.2.2.1]? = some t) (hnb : NBv nx P g (D + 1) (k + 1) e.2.2.2.1) (hd : 8 + 3 * (7 - D) ≤ d)
    {QE : String → jx_I → Prop} : jc V d 90 (0, 0) [.ref a0, jy a1, jy a2] X I R (fun rv I' => rv = none ∧ YR I' a0 (whl (rns l P g (k + 1) e.2.2.2.1) (fun s => tsb l s P t) 301 s) ∧ ZF a0 ld I I') QE := by
  have hW0 := hW.1
  have hwp1 := hwp.1
  have hse := hwp.2.1 k e he
  have hse2 := hse.2.1
  have hkl := gi_lt he
  have d1 := hz.2.2.2.2.2.1
  have d2 := hz.2.2.2.2.2.2.1
  have d3 := hz.2.2.2.2.2.2.2
  subst h1
  subst h2
  refine wm_90 hV (by omega) (by omega)  (fun J2 hJJ => ?_)
  have hJ2 := hJJ
  unfold wz_90
  have L2 : ∀ (n2 : Nat) (l3 : Int) (K : jx_I), n2 = (301 - l3).toNat → (∃ (i : Nat) (s3 : RN), l3 = (i : Int) ∧ i ≤ 301 ∧ whl (rns l P g (k + 1) e.2.2.2.1) (fun s => tsb l s P t) 301 s = whl (rns l P g (k + 1) e.2.2.2.1) (fun s => tsb l s P t) (301 - i) s3 ∧ ZR K a0 ld y l P nx s3 ∧ WR 0 l s3 ∧ ZF a0 ld I K) → J2 l3 K := by
    intro n2
    induction n2 using Nat.strongRecOn with
    | ind n2 ih2 =>
    intro l3 K hn2 hI2
    obtain ⟨i, s3, rfl, hi, hA, hZK, hrK, hF⟩ := hI2
    have h8k := hZK.2.1.1.2.2.2.2
    have hw3 := hrK.2.2.2.2.1
    have hc := WR_cts hrK
    have hcw := hc.2.2.1
    refine hJ2 _ _ ?_
    unfold wz_90_2
    refine ⟨by omega, ?_⟩
    refine ⟨fun hq1 => ?_, fun hq1 => ?_⟩
    · rw [hA, show 301 - i = 0 by omega]
      exact ⟨rfl, hZK.2.1, hF⟩
    · refine ⟨s_Runner_0 hz.1, ?_⟩
      refine ⟨fun hq2 => ?_, fun hq2 => ?_⟩
      · rw [hA, show 301 - i = (300 - i) + 1 by omega, whl_n (fun z => by have := z.1; rw [cts_id (by omega)] at this; omega), cts_id (by omega)]
        exact ⟨rfl, hZK.2.1, hF⟩
      · refine ⟨by omega, _, cz_88 hV hz.1 hZK.2.1 (by omega) hrK.2.2.2.1, ?_⟩
        rintro _ I6 ⟨rfl, hY6, hA6⟩
        refine ⟨_, rfl, ?_⟩
        have hF6 : ZF a0 ld K I6 := ZF_a hA6
        have hZ6 := ZR_of hz hZK hF6 hY6
        refine ⟨by omega, ?_⟩
        refine ⟨fun hq3 => ?_, fun hq3 => ?_⟩
        · rw [hA, show 301 - i = (300 - i) + 1 by omega, whl_n (fun z => by have := z.1; omega)]
          exact ⟨rfl, hY6, FR2_trans hF hF6⟩
        · refine ⟨by omega, _, cz_93 hV hz.1 hz.2.1 hz.2.2.1 hz.2.2.2.1 hz.2.2.2.2.1 hZ6.1 hW hZ6.2.1 d1 d2 hc.1 hwp hZ6.2.2.2.1 ((hZ6.2.2.1.2 k e he).2.2.2.2 (by omega) t ht) (hwp.2.2.1 _ t ht) rfl (by omega), ?_⟩
          rintro _ I12 ⟨rfl, hA12⟩
          refine ⟨_, rfl, ?_⟩
          have hF12 : ZF a0 ld I6 I12 := ZF_b hA12
          have hZ12 : ZR I12 a0 ld y l P nx (cts s3) := ZR_of hz hZ6 hF12 (YR_of hY6 (fun q h1 h2 => hA12 q (by omega)))
          have h4k := (hZ12.2.2.1.2 k e he).2.2.1 (by omega)
          refine ⟨by omega, ?_⟩
          refine ⟨fun hq4 => ?_, fun hq4 => ?_⟩
          · have ct := bi_t hq4
            refine ⟨_, hz.2.2.2.2.1, s_Plan_0 hz.2.2.1, _, r_Plan_0_3 hz.2.2.1, _, ⟨s_Plan_4 hz.2.2.1, by decide⟩, by omega, ?_⟩
            refine ⟨_, by omega, _, ih (d - 1) (D + 1) (k + 1) e.2.2.2.1 _ _ I12 (cts s3) _ hZ12 hc.1 hnb h4k (by omega) (by omega) (by omega), ?_⟩
            rintro _ I27 ⟨rfl, hY27, hF27⟩
            refine ⟨rfl, ?_⟩
            have hk2 := KR_rns hW hwp g (k + 1) e.2.2.2.1 (cts s3) hc.1
            have hw0 : yWo (cts s3) = 0 := by omega
            exact ih2 _ (by omega) _ _ rfl (⟨i + 1, rns l P g (k + 1) e.2.2.2.1 (cts s3), by omega, by omega, by rw [hA, show 301 - i = (301 - (i + 1)) + 1 by omega, whl_y hw0 ct], ZR_of hz hZ12 hF27 hY27, hk2.1, FR2_trans hF (FR2_trans hF6 (FR2_trans hF12 hF27))⟩)
          · have ct := bi_f hq4
            rw [hA, show 301 - i = (300 - i) + 1 by omega, whl_n (fun z => ct z.2)]
            exact ⟨rfl, hZ12.2.1, FR2_trans hF (FR2_trans hF6 hF12)⟩
  exact L2 _ _ _ rfl (⟨0, s, rfl, by omega, rfl, hZ, hr, FR2_refl⟩)
