/-! ===== the class: runFrom ===== -/
/-- GrievingCamels$Runner.runFrom -/
theorem cz_85 {V : jx_V} (hV : V.1.stackTraces = false) {X : jx_X} {R : jx_R} {I : jx_I} {a0 : Nat} {a1 : Nat} {a2 : Nat} {a3 : Nat} {a4 : Int} {l : LT} {c : CT} {P : PLT} {p : Nat}
    (hx : BX X R a0 TRunner) (hl : BX X R a1 TLand) (hp : BX X R a2 TPlan) (hs : BX X R a3 TState) (hD : LD I a1 l) (hW : WT l) (hS : SX I a3 c) (hC : WC l c) (hps : CPS I a2 P) (hpv : CPV I a2 P) (hwp : WP l P) (hnb : NBv (fun k => (I (a2 + 3) k).toInt) P 100 0 0 P.1.length) (h4 : a4 = (p : Int)) (hpn : p < Ln l) (d1 : a0 + 7 ≤ a1 ∨ a1 + 11 ≤ a0) (d2 : a2 + 12 ≤ a1 ∨ a1 + 11 ≤ a2) (d3 : a0 + 7 ≤ a2 ∨ a2 + 12 ≤ a0) (d4 : a0 + 7 ≤ a3 ∨ a3 + 12 ≤ a0)
    {QE : String → jx_I → jx_R → Prop} : jd V 201 85 (0, 0) [.ref a0, .ref a1, .ref a2, .ref a3, jy a4] X I R (fun rv I' R' => rv = none ∧ YR I' a0 (rnr l c P p) ∧ ZF a0 a1 I I' ∧ RF a0 [2, 3] R R') QE := by
  have hW0 := hW.1
  have hW0 := hW.1
  have hwp1 := hwp.1
  subst h4
  refine wm_85 hV (by omega)  (fun J74 hJJ => ?_)
  have hJ74 := hJJ
  unfold wz_85
  refine ⟨s_Runner_0 hx, ?_⟩
  intro R2 e_R2
  intro R3 e_R3
  have hR3 : RF a0 [2, 3] R R3 := fun q k hk => by
    rw [e_R3, e_R2]
    have h3 : ¬ (q = a0 ∧ k = 2) := fun e => hk ⟨e.1, by rw [e.2]; decide⟩
    have h4 : ¬ (q = a0 ∧ k = 3) := fun e => hk ⟨e.1, by rw [e.2]; decide⟩
    exact (if_neg h4).trans (if_neg h3)
  have hr2 : R3 a0 2 = some a1 := by rw [e_R3, e_R2, jx_u_k _ _ _ _ (by omega), jx_u_s]
  have hr3 : R3 a0 3 = some a2 := by rw [e_R3, jx_u_s]
  clear e_R3 e_R2
  have hx : BX X R3 a0 TRunner := BX_rx hx hR3 (fun k en hk e => by
    have hk0 : k = 0 := by omega
    subst hk0
    have h5 : en = ((6, 0), [(0, 1), (1, 5)]) := (Option.some.inj hk).symm
    rw [h5]; decide)
  have hl : BX X R3 a1 TLand := BX_ro hl hR3 (by have : TLand.length = 11 := rfl; omega)
  have hp : BX X R3 a2 TPlan := BX_ro hp hR3 (by have : TPlan.length = 12 := rfl; omega)
  have hs : BX X R3 a3 TState := BX_ro hs hR3 (by have : TState.length = 12 := rfl; omega)
  have hz : ZX X R3 a0 a1 a2 := ⟨hx, hl, hp, hr2, hr3, d1, d2, d3⟩
  refine ⟨_, r_Runner_0_0 hx, s_State_0 hs, _, r_State_0_0 hs, s_Herd_0 (b_Runner_1 hx), ?_⟩
  refine ⟨_, cz_9 hV (b_Runner_1 hx) (b_State_1 hs) (by omega) hS.1, ?_⟩
  rintro _ I12 ⟨rfl, hH12, hF12⟩
  refine ⟨rfl, ?_⟩
  refine ⟨_, r_Runner_0_1 hx, _, r_State_0_1 hs, s_Row_0 (b_Runner_5 hx), ?_⟩
  refine ⟨_, cz_74 hV (b_Runner_5 hx) (b_State_5 hs) (by omega) (RW_of hS.2.1 (hF12 _ (by omega)) (hF12 _ (by omega))), ?_⟩
  rintro _ I21 ⟨rfl, hL21, hF21⟩
  refine ⟨rfl, ?_⟩
  intro I23 e_I23; subst e_I23
  intro I24 e_I24; subst e_I24
  intro I25 e_I25; subst e_I25
  intro I26 e_I26; subst e_I26
  intro I27 e_I27; subst e_I27
  have hF27 : ZF a0 a1 I (jx_u (jx_u (jx_u (jx_u (jx_u I21 a0 4 (Int32.ofInt (p : Int))) a0 5 (Int32.ofInt 0)) a0 6 (Int32.ofInt 0)) a0 7 (Int32.ofInt 0)) a0 8 (Int32.ofInt 0)) := FR2_u (FR2_u (FR2_u (FR2_u (FR2_u (FR2_l (FR2_l FR2_refl hF12 (by omega) (by omega)) hF21 (by omega) (by omega)) (by omega) (by omega)) (by omega) (by omega)) (by omega) (by omega)) (by omega) (by omega)) (by omega) (by omega)
  have hk27 : ∀ q, q ≠ a0 → (jx_u (jx_u (jx_u (jx_u (jx_u I21 a0 4 (Int32.ofInt (p : Int))) a0 5 (Int32.ofInt 0)) a0 6 (Int32.ofInt 0)) a0 7 (Int32.ofInt 0)) a0 8 (Int32.ofInt 0)) q = I21 q := fun q hq => by rw [jx_u_r _ _ _ hq, jx_u_r _ _ _ hq, jx_u_r _ _ _ hq, jx_u_r _ _ _ hq, jx_u_r _ _ _ hq]
  have hY27 : YR (jx_u (jx_u (jx_u (jx_u (jx_u I21 a0 4 (Int32.ofInt (p : Int))) a0 5 (Int32.ofInt 0)) a0 6 (Int32.ofInt 0)) a0 7 (Int32.ofInt 0)) a0 8 (Int32.ofInt 0)) a0 (rn0 c p) := ⟨⟨by rw [jx_u_k _ _ _ _ (by omega), jx_u_k _ _ _ _ (by omega), jx_u_k _ _ _ _ (by omega), jx_u_k _ _ _ _ (by omega), jx_u_s]; exact jy_toInt (by omega), by rw [jx_u_k _ _ _ _ (by omega), jx_u_k _ _ _ _ (by omega), jx_u_k _ _ _ _ (by omega), jx_u_s]; rfl, by rw [jx_u_k _ _ _ _ (by omega), jx_u_k _ _ _ _ (by omega), jx_u_s]; rfl, by rw [jx_u_k _ _ _ _ (by omega), jx_u_s]; rfl, by rw [jx_u_s]; rfl⟩, HD_of hH12 (by rw [hk27 _ (by omega)]; exact hF21 _ (by omega)) (by rw [hk27 _ (by omega)]; exact hF21 _ (by omega)), RW_of hL21 (hk27 _ (by omega)) (hk27 _ (by omega))⟩
  have ep : ∀ q, a2 ≤ q → q < a2 + 12 → (jx_u (jx_u (jx_u (jx_u (jx_u I21 a0 4 (Int32.ofInt (p : Int))) a0 5 (Int32.ofInt 0)) a0 6 (Int32.ofInt 0)) a0 7 (Int32.ofInt 0)) a0 8 (Int32.ofInt 0)) q = I q := fun q h1 h2 => hF27 q (by omega) (by omega)
  have hZ27 : ZR (jx_u (jx_u (jx_u (jx_u (jx_u I21 a0 4 (Int32.ofInt (p : Int))) a0 5 (Int32.ofInt 0)) a0 6 (Int32.ofInt 0)) a0 7 (Int32.ofInt 0)) a0 8 (Int32.ofInt 0)) a0 a1 a2 l P (fun k => (I (a2 + 3) k).toInt) (rn0 c p) := ⟨LD_of hD (fun q h1 h2 => hF27 q (by omega) (by omega)), hY27, CPS_of hps ep, CPV_of hpv ep, fun k => by rw [ep (a2 + 3) (by omega) (by omega)]⟩
  have h11 := hZ27.2.2.1.1
  refine ⟨_, hr3, s_Plan_0 hp, ?_⟩
  refine ⟨fun hq1 => ?_, fun hq1 => ?_⟩
  · refine hJ74 _ _ _ _ ?_
    unfold wz_85_74
    refine ⟨s_Runner_0 hx, ?_⟩
    refine ⟨_, by omega, _, cz_86 hV hz hW hwp 100 200 0 0 P.1.length _ _ _ (rn0 c p) _ hZ27 (WR_rn0 hC hpn) hnb (if_neg (by omega)).symm rfl (by omega) (by omega), ?_⟩
    rintro _ I36 ⟨rfl, hY36, hF36⟩
    refine ⟨rfl, ?_⟩
    exact ⟨rfl, hY36, FR2_trans hF27 hF36, hR3⟩
  · refine hJ74 _ _ _ _ ?_
    unfold wz_85_74
    refine ⟨s_Runner_0 hx, ?_⟩
    refine ⟨_, by omega, _, cz_86 hV hz hW hwp 100 200 0 0 P.1.length _ _ _ (rn0 c p) _ hZ27 (WR_rn0 hC hpn) hnb (if_pos (by omega)).symm rfl (by omega) (by omega), ?_⟩
    rintro _ I36 ⟨rfl, hY36, hF36⟩
    refine ⟨rfl, ?_⟩
    exact ⟨rfl, hY36, FR2_trans hF27 hF36, hR3⟩
