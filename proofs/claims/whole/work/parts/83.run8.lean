/-! ===== the class: the steps of a run ===== -/
/-- a Runner is in a run -/
def YR (I : jx_I) (x : Nat) (s : RN) : Prop := ((I x 4).toInt = (yHe s : Int) ∧ (I x 5).toInt = yHo s ∧ (I x 6).toInt = yLo s ∧ (I x 7).toInt = yDo s ∧ (I x 8).toInt = yWo s) ∧ HD I (x + 1) (yG s) (yD s) ∧ RW I (x + 5) (yL s)
theorem YR_k {I I' : jx_I} {x : Nat} {s : RN} (h : YR I x s) (e : ∀ q, x < q → q < x + 7 → I' q = I q) : HD I' (x + 1) (yG s) (yD s) ∧ RW I' (x + 5) (yL s) := ⟨HD_of h.2.1 (e _ (by omega) (by omega)) (e _ (by omega) (by omega)), RW_of h.2.2 (e _ (by omega) (by omega)) (e _ (by omega) (by omega))⟩
theorem YR_of {I I' : jx_I} {x : Nat} {s : RN} (h : YR I x s) (e : ∀ q, x ≤ q → q < x + 7 → I' q = I q) : YR I' x s := ⟨by rw [e x (by omega) (by omega)]; exact h.1, YR_k h (fun q h1 h2 => e q (by omega) h2)⟩
/-- what a value is, without its sign -/
def vlw (l : LT) (s : RN) (e : VA) : Int := if e.2.1 = 0 then e.2.2 else if e.2.1 = 1 then (yHe s : Int) else if e.2.1 = 2 then yHo s else if e.2.1 = 3 then yht l s else if e.2.1 = 4 then ((yL s).length : Int) else if e.2.1 = 5 then yLo s else if e.2.1 = 6 then yDo s - 1 else yG s (yHe s) e.2.2.toNat
theorem vvl_w {l : LT} {s : RN} {e : VA} : vvl l s e = e.1 * vlw l s e := rfl
/-- GrievingCamels$Runner.beginsStep -/
theorem cz_88 {V : jx_V} (hV : V.1.stackTraces = false) {X : jx_X} {R : jx_R} {I : jx_I} {a0 : Nat} {s : RN}
    (hx : BX X R a0 TRunner) (hY : YR I a0 s) (hw : yWo s = 0) (hdn : 0 ≤ yDo s ∧ yDo s ≤ 300)
    {QE : String → jx_I → Prop} : jc V 1 88 (0, 0) [.ref a0] X I R (fun rv I' => rv = some (jy (1 - yWo (cts s))) ∧ YR I' a0 (cts s) ∧ FR a0 (a0 + 7) I I') QE := by
  have h7 := hY.1.2.2.2.1
  have h8 := hY.1.2.2.2.2
  have hk : ∀ k v, HD (jx_u I a0 k v) (a0 + 1) (yG s) (yD s) ∧ RW (jx_u I a0 k v) (a0 + 5) (yL s) := fun k v => YR_k hY (fun q h1 h2 => jx_u_r _ _ _ (by omega))
  refine wm_88 hV   ?_
  unfold wz_88
  refine ⟨s_Runner_0 hx, ?_⟩
  refine ⟨fun hq1 => ?_, fun hq1 => ?_⟩
  · intro I2 e_I2; subst e_I2
    rw [cts_y hw (by omega)]
    exact ⟨rfl, ⟨⟨by rw [jx_u_k _ _ _ _ (by omega)]; exact hY.1.1, by rw [jx_u_k _ _ _ _ (by omega)]; exact hY.1.2.1, by rw [jx_u_k _ _ _ _ (by omega)]; exact hY.1.2.2.1, by rw [jx_u_s, h7]; exact jy_toInt (by omega), by rw [jx_u_k _ _ _ _ (by omega), h8]; exact hw⟩, hk _ _⟩, FR_u FR_refl (by omega) (by omega)⟩
  · intro I3 e_I3; subst e_I3
    rw [cts_n (by omega)]
    exact ⟨rfl, ⟨⟨by rw [jx_u_k _ _ _ _ (by omega)]; exact hY.1.1, by rw [jx_u_k _ _ _ _ (by omega)]; exact hY.1.2.1, by rw [jx_u_k _ _ _ _ (by omega)]; exact hY.1.2.2.1, by rw [jx_u_k _ _ _ _ (by omega)]; exact h7, by rw [jx_u_s]; rfl⟩, hk _ _⟩, FR_u FR_refl (by omega) (by omega)⟩
/-- GrievingCamels$Runner.valueOf -/
theorem cz_94 {V : jx_V} (hV : V.1.stackTraces = false) {X : jx_X} {R : jx_R} {I : jx_I} {a0 : Nat} {a1 : Int} {a2 : Int} {ld : Nat} {l : LT} {s : RN} {e : VA}
    (hx : BX X R a0 TRunner) (hl : BX X R ld TLand) (hr2 : R a0 2 = some ld) (hD : LD I ld l) (hW : WT l) (hY : YR I a0 s) (d1 : a0 + 7 ≤ ld ∨ ld + 11 ≤ a0) (hr : WR 0 l s) (h1 : a1 = (e.2.1 : Int)) (h2 : a2 = e.2.2) (hg : e.2.1 ≤ 7 ∧ (0 ≤ e.2.2 ∧ e.2.2 ≤ 999) ∧ (e.2.1 = 7 → e.2.2 < (Lm l : Int)))
    {QE : String → jx_I → Prop} : jc V 4 94 (0, 0) [.ref a0, jy a1, jy a2] X I R (fun rv I' => rv = some (jy (vlw l s e)) ∧ FR (ld + 9) (ld + 11) I I') QE := by
  have hW0 := hW.1
  have hW0 := hW.1
  have hr1 := hr.1
  have hG := hr.2.2.2.2.2.1
  have hnd := hr.2.2.2.2.2.2.1
  have hLm := hr.2.2.2.2.2.2.2
  have hL8 : ∀ c ∈ yL s, c < 8 := fun c hc => by have := hLm c hc; omega
  have hl8 := WR_8 hr hW
  have h4 := hY.1.1
  have h5 := hY.1.2.1
  have h6 := hY.1.2.2.1
  have h7 := hY.1.2.2.2.1
  have h8 := hY.1.2.2.2.2
  refine wm_94 hV (by omega) (by omega)  ?_
  unfold wz_94
  refine ⟨fun hq1 => ?_, fun hq1 => ?_, fun hq1 => ?_, fun hq1 => ?_, fun hq1 => ?_, fun hq1 => ?_, fun hq1 => ?_, fun hq1 => ?_⟩
  · exact ⟨by unfold vlw; rw [if_pos (by omega), h2], FR_refl⟩
  · refine ⟨s_Runner_0 hx, ?_⟩
    exact ⟨by unfold vlw; rw [if_neg (by omega), if_pos (by omega), h4], FR_refl⟩
  · refine ⟨s_Runner_0 hx, ?_⟩
    exact ⟨by unfold vlw; rw [if_neg (by omega), if_neg (by omega), if_pos (by omega), h5], FR_refl⟩
  · refine ⟨s_Runner_0 hx, _, hr2, s_Land_0 hl, _, r_Land_0_6 hl, _, r_Runner_0_1 hx, _, r_Runner_0_0 hx, s_Herd_0 (b_Runner_1 hx), _, r_Herd_0_0 (b_Runner_1 hx), ?_⟩
    refine ⟨_, cz_39 hV hl hD hW0.1 h4 hr1, ?_⟩
    rintro _ I18 ⟨rfl, e9⟩; replace e9 := e9.symm; subst e9
    refine ⟨_, rfl, ?_⟩
    refine ⟨s_Law_0 (b_Land_7 hl), ?_⟩
    refine ⟨_, cz_52 (base := yHe s * 8) (g := yG s (yHe s)) hV (b_Land_7 hl) (b_Runner_5 hx) (s_Herd_1 (b_Runner_1 hx)) (by decide) hY.2.2 (fun _ => hD.2.2.2.2 (Or.inl (by omega))) hW.2.2.2.2.2 (by omega) (by omega) (fun c hc => by have := hL8 c hc; omega) (fun c hc => ⟨(hY.2.1 (yHe s) c (by omega) (hL8 c hc)).1, (hG (yHe s) c (by omega) (hL8 c hc)).1⟩) (by omega) (by omega) (by unfold nd; split <;> omega), ?_⟩
    rintro _ I23 ⟨rfl, hF⟩
    refine ⟨_, rfl, ?_⟩
    exact ⟨by unfold vlw; rw [if_neg (by omega), if_neg (by omega), if_neg (by omega), if_pos (by omega)]; rfl, hF⟩
  · refine ⟨s_Runner_0 hx, _, r_Runner_0_1 hx, s_Row_0 (b_Runner_5 hx), ?_⟩
    exact ⟨by unfold vlw; rw [if_neg (by omega), if_neg (by omega), if_neg (by omega), if_neg (by omega), if_pos (by omega), hY.2.2.1], FR_refl⟩
  · refine ⟨s_Runner_0 hx, ?_⟩
    exact ⟨by unfold vlw; rw [if_neg (by omega), if_neg (by omega), if_neg (by omega), if_neg (by omega), if_neg (by omega), if_pos (by omega), h6], FR_refl⟩
  · refine ⟨s_Runner_0 hx, ?_⟩
    exact ⟨by unfold vlw; rw [if_neg (by omega), if_neg (by omega), if_neg (by omega), if_neg (by omega), if_neg (by omega), if_neg (by omega), if_pos (by omega), h7], FR_refl⟩
  · refine ⟨s_Runner_0 hx, _, r_Runner_0_0 hx, s_Herd_0 (b_Runner_1 hx), ?_⟩
    refine ⟨_, cz_11 (p := yHe s) (c := e.2.2.toNat) hV (b_Runner_1 hx) hY.2.1 h4 (by omega) (by omega) (by omega), ?_⟩
    rintro _ I37 ⟨rfl, e9⟩; replace e9 := e9.symm; subst e9
    refine ⟨_, rfl, ?_⟩
    exact ⟨by unfold vlw; rw [if_neg (by omega), if_neg (by omega), if_neg (by omega), if_neg (by omega), if_neg (by omega), if_neg (by omega), if_neg (by omega)], FR_refl⟩
/-- GrievingCamels$Runner.goTo -/
theorem cz_92 {V : jx_V} (hV : V.1.stackTraces = false) {X : jx_X} {R : jx_R} {I : jx_I} {a0 : Nat} {a1 : Int} {ld : Nat} {l : LT} {s : RN} {q : Nat}
    (hx : BX X R a0 TRunner) (hl : BX X R ld TLand) (hr2 : R a0 2 = some ld) (hD : LD I ld l) (hW : WT l) (hY : YR I a0 s) (d1 : a0 + 7 ≤ ld ∨ ld + 11 ≤ a0) (hr : WR 1 l s) (h1 : a1 = (q : Int)) (hq : q < Ln l)
    {QE : String → jx_I → Prop} : jc V 4 92 (0, 0) [.ref a0, jy a1] X I R (fun rv I' => rv = none ∧ YR I' a0 (pls l s 0 (q : Int)) ∧ FR2 a0 (a0 + 7) (ld + 9) (ld + 11) I I') QE := by
  have hW0 := hW.1
  have hW0 := hW.1
  have hr1 := hr.1
  have hG := hr.2.2.2.2.2.1
  have hnd := hr.2.2.2.2.2.2.1
  have hLm := hr.2.2.2.2.2.2.2
  have hL8 : ∀ c ∈ yL s, c < 8 := fun c hc => by have := hLm c hc; omega
  have hl8 := WR_8 hr hW
  have h4 := hY.1.1
  have h5 := hY.1.2.1
  have h6 := hY.1.2.2.1
  have h7 := hY.1.2.2.2.1
  have h8 := hY.1.2.2.2.2
  have hr2b := hr.2.1
  have hr3 := hr.2.2.1
  have hr4 := hr.2.2.2.1
  have hrw := (hW.2.2.1 (yHe s) q hr1 hq).1
  have hht := hlt_rng (Lc l) ((yL s).map (yG s q)) (nd (Lk l q))
  subst h1
  refine wm_92 hV (by omega)  ?_
  unfold wz_92
  refine ⟨s_Runner_0 hx, _, hr2, s_Land_0 hl, ?_⟩
  refine ⟨_, cz_36 hV hl hD hW0.1 h4 rfl hr1 hq, ?_⟩
  rintro _ I7 ⟨rfl, e9⟩; replace e9 := e9.symm; subst e9
  refine ⟨_, rfl, ?_⟩
  refine ⟨by omega, ?_⟩
  refine ⟨fun hq1 => ?_, fun hq1 => ?_⟩
  · intro I10 e_I10; subst e_I10
    have hI10 : FR a0 (a0 + 1) I (jx_u I a0 4 (Int32.ofInt (q : Int))) := FR_u FR_refl (by omega) (by omega)
    have h104 : ((jx_u I a0 4 (Int32.ofInt (q : Int))) a0 4).toInt = (q : Int) := by rw [jx_u_s]; exact jy_toInt (by omega)
    have h105 : ((jx_u I a0 4 (Int32.ofInt (q : Int))) a0 5).toInt = yHo s := by rw [jx_u_k _ _ _ _ (by omega)]; exact h5
    have hD10 := LD_fr hD hI10 (by omega)
    have hY10 := YR_k hY (I' := (jx_u I a0 4 (Int32.ofInt (q : Int)))) (fun z h1 h2 => hI10 z (by omega))
    simp only [-eq_self, h105]
    refine ⟨_, r_Land_0_6 hl, _, r_Runner_0_1 hx, _, r_Runner_0_0 hx, s_Herd_0 (b_Runner_1 hx), _, r_Herd_0_0 (b_Runner_1 hx), ?_⟩
    refine ⟨_, cz_39 hV hl hD10 hW0.1 h104 hq, ?_⟩
    rintro _ I22 ⟨rfl, e9⟩; replace e9 := e9.symm; subst e9
    refine ⟨_, rfl, ?_⟩
    refine ⟨s_Law_0 (b_Land_7 hl), ?_⟩
    refine ⟨_, cz_52 (base := q * 8) (g := yG s q) hV (b_Land_7 hl) (b_Runner_5 hx) (s_Herd_1 (b_Runner_1 hx)) (by decide) hY10.2 (fun _ => hD10.2.2.2.2 (Or.inl (by omega))) hW.2.2.2.2.2 (by omega) (by omega) (fun c hc => by have := hL8 c hc; omega) (fun c hc => ⟨(hY10.1 q c (by omega) (hL8 c hc)).1, (hG q c (by omega) (hL8 c hc)).1⟩) (by omega) (by omega) (by unfold nd; split <;> omega), ?_⟩
    rintro _ I27 ⟨rfl, hF27⟩
    refine ⟨_, rfl, ?_⟩
    intro I29 e_I29; subst e_I29
    have hF29 : FR2 a0 (a0 + 7) (ld + 9) (ld + 11) I (jx_u I27 a0 5 (Int32.ofInt (yHo s + (Lr l (yHe s) q + hlt (Lc l) ((yL s).map (yG s q)) (nd (Lk l q)))))) := FR2_u (FR2_r (FR2_l FR2_refl hI10 (by omega) (by omega)) hF27 (by omega) (by omega)) (by omega) (by omega)
    have hD29 := LD_fr2 hD hF29 (by omega) (by omega)
    have hY29 := YR_k hY (I' := jx_u I27 a0 5 (Int32.ofInt (yHo s + (Lr l (yHe s) q + hlt (Lc l) ((yL s).map (yG s q)) (nd (Lk l q)))))) (fun z h1 h2 => by rw [jx_u_r _ _ _ (by omega), hF27 z (by omega)]; exact hI10 z (by omega))
    refine ⟨_, cz_16 (p := q) (k := Lk l q) (mo := Lo l) hV (b_Runner_1 hx) hl (b_Runner_5 hx) hY29.1 hG rfl (by omega) hY29.2 hL8 hnd (fun c hc => ⟨(hD29.2.2.2.1 c (hLm c hc)).2.1, by have h7 := (hW.2.2.2.1 c (hLm c hc)).2.1; omega⟩) (hD29.2.1 q hq) (by omega) (by omega), ?_⟩
    rintro _ I32 ⟨rfl, hH32, hF32⟩
    refine ⟨rfl, ?_⟩
    rw [pls_go hq1]
    have k27 : ∀ j, j ≠ 4 → I27 a0 j = I a0 j := fun j hj => by rw [hF27 a0 (by omega), jx_u_k _ _ _ _ hj]
    have k32 : ∀ j, I32 a0 j = (jx_u I27 a0 5 (Int32.ofInt (yHo s + (Lr l (yHe s) q + hlt (Lc l) ((yL s).map (yG s q)) (nd (Lk l q)))))) a0 j := fun j => by rw [hF32 a0 (by omega)]
    refine ⟨rfl, ⟨⟨?_, ?_, ?_, ?_, ?_⟩, hH32, RW_of hY29.2 (hF32 _ (by omega)) (hF32 _ (by omega))⟩, FR2_l hF29 hF32 (by omega) (by omega)⟩
    · rw [k32, jx_u_k _ _ _ _ (by omega), hF27 a0 (by omega)]; exact h104
    · rw [k32, jx_u_s]; exact jy_toInt (by omega)
    · rw [k32, jx_u_k _ _ _ _ (by omega), k27 6 (by omega)]; exact h6
    · rw [k32, jx_u_k _ _ _ _ (by omega), k27 7 (by omega)]; exact h7
    · rw [k32, jx_u_k _ _ _ _ (by omega), k27 8 (by omega)]; exact h8
  · intro I34 e_I34; subst e_I34
    rw [pls_no hq1]
    have hk9 := fun v => YR_k (I' := jx_u I a0 6 v) hY (fun z h1 h2 => jx_u_r _ _ _ (by omega))
    exact ⟨rfl, ⟨⟨by rw [jx_u_k _ _ _ _ (by omega)]; exact h4, by rw [jx_u_k _ _ _ _ (by omega)]; exact h5, by rw [jx_u_s, h6]; exact jy_toInt (by omega), by rw [jx_u_k _ _ _ _ (by omega)]; exact h7, by rw [jx_u_k _ _ _ _ (by omega)]; exact h8⟩, hk9 _⟩, FR2_u FR2_refl (by omega) (by omega)⟩
