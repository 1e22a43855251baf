/-! ===== the reference: run, ran, ranRow, begin ===== -/
theorem cz_315 {V : jx_V} (hV : V.1.stackTraces = false) {X : jx_X} {R : jx_R} {m : Nat} {l : LT} {P : PLT} (hM : MX X R m) (hW : WT l) (hp : WP l P) (f : Nat) : G315 V X R m l P f := by
  induction f using Nat.strongRecOn with
  | ind f ih =>
    intro d a b I s QE hD hP hR hr hb hf hd
    exact cz_315s hV hM hD hP hW hp hR hr rfl rfl hb hf hd ih
/-- how a run from p begins -/
def rn0 (c : CT) (p : Nat) : RN := ((p, 0, 0), (0, 0), CL c, Cg c, Cd c)
/-- a run from p, to its end -/
def rnr (l : LT) (c : CT) (P : PLT) (p : Nat) : RN := rns l P 100 0 P.1.length (rn0 c p)
theorem WR_rn0 {l : LT} {c : CT} (hC : WC l c) {p : Nat} (hp : p < Ln l) : WR 0 l (rn0 c p) := ⟨hp, ⟨Int.le_refl _, Int.le_refl _⟩, ⟨Int.le_refl _, Int.le_refl _⟩, ⟨Int.le_refl _, by show (0 : Int) ≤ 300; omega⟩, Or.inl rfl, hC.1, hC.2.1.1, hC.2.1.2⟩
theorem WR_rnr {l : LT} {c : CT} {P : PLT} (hW : WT l) (hC : WC l c) (hp : WP l P) {p : Nat} (h : p < Ln l) : WR 0 l (rnr l c P p) := (KR_rns hW hp 100 0 P.1.length _ (WR_rn0 hC h)).1
/-- what a run answers -/
def rna (s : RN) (a : Int) : Int := if a = 0 then yHo s else if a = 1 then (yHe s : Int) else if a = 2 then yLo s else if a = 3 then yDo s else if a = 4 then (if yWo s = 0 then 0 else 1) else ((yL s).length : Int)
/-- where to begin: the first of least hours, below n -/
def bgn (l : LT) (c : CT) (P : PLT) : Nat → Int × Int
  | 0 => (-1, 0)
  | n + 1 => if (bgn l c P n).1 ≠ -1 ∧ (bgn l c P n).2 ≤ yHo (rnr l c P n) then bgn l c P n else ((n : Int), yHo (rnr l c P n))
theorem bgn_rng {l : LT} {c : CT} {P : PLT} (hW : WT l) (hC : WC l c) (hp : WP l P) : ∀ n, n ≤ Ln l → (-1 ≤ (bgn l c P n).1 ∧ (bgn l c P n).1 < n) ∧ 0 ≤ (bgn l c P n).2 ∧ (bgn l c P n).2 ≤ 36900
  | 0, _ => ⟨⟨Int.le_refl _, by show (-1 : Int) < 0; omega⟩, Int.le_refl _, by show (0 : Int) ≤ 36900; omega⟩
  | n + 1, h => by
    have ih := bgn_rng hW hC hp n (by omega)
    have hr := WR_rnr hW hC hp (p := n) (by omega)
    have h1 := hr.2.1
    have h2 := hr.2.2.2.1
    unfold bgn
    split
    · omega
    · exact ⟨⟨by show (-1 : Int) ≤ (n : Int); omega, by show (n : Int) < ((n + 1 : Nat) : Int); omega⟩, h1.1, by show yHo (rnr l c P n) ≤ 36900; omega⟩
/-- GrievingCamelsModel.runsFrom -/
theorem cz_316 {V : jx_V} (hV : V.1.stackTraces = false) {X : jx_X} {R : jx_R} {I : jx_I} {a0 : Nat} {a1 : Int} {l : LT} {c : CT} {P : PLT} {p : Nat}
    (hM : MX X R a0) (hX : MSX I a0 l c) (hW : WT l) (hC : WC l c) (hP : MP I a0 P) (hp : WP l P) (h1 : a1 = (p : Int)) (hpn : p < Ln l)
    {QE : String → jx_I → Prop} : jc V 201 316 (0, 0) [.ref a0, jy a1] X I R (fun rv I' => rv = none ∧ MR I' a0 l (rnr l c P p) ∧ FK a0 YK I I') QE := by
  have hW0 := hW.1
  have hW0 := hW.1
  have hp1 := hp.1
  subst h1
  refine wm_316 hV (by omega)  ?_
  unfold wz_316
  refine ⟨s_M_0 hM, ?_⟩
  refine ⟨_, cz_243 hV hM hX.1 hW hX.2.1 (GDn_w hW hC) hC.2.1.2 (WC_8 hW hC), ?_⟩
  rintro _ I4 ⟨rfl, hN1, hF1⟩
  refine ⟨rfl, ?_⟩
  intro I6 e_I6; subst e_I6
  intro I7 e_I7; subst e_I7
  intro I8 e_I8; subst e_I8
  intro I9 e_I9; subst e_I9
  intro I10 e_I10; subst e_I10
  have hF10 : FK a0 YK I (jx_u (jx_u (jx_u (jx_u (jx_u I4 a0 66 (Int32.ofInt (p : Int))) a0 67 (Int32.ofInt 0)) a0 68 (Int32.ofInt 0)) a0 69 (Int32.ofInt 0)) a0 70 (Int32.ofInt 0)) := FK_f (FK_f (FK_f (FK_f (FK_f (FK_mono hF1 (by decide)) (by decide)) (by decide)) (by decide)) (by decide)) (by decide)
  have hD10 := FK_MD hX.1 hF10 (by decide) hW
  have hP10 := MP_k hP hF10 (by decide)
  have hR10 : MR (jx_u (jx_u (jx_u (jx_u (jx_u I4 a0 66 (Int32.ofInt (p : Int))) a0 67 (Int32.ofInt 0)) a0 68 (Int32.ofInt 0)) a0 69 (Int32.ofInt 0)) a0 70 (Int32.ofInt 0)) a0 l (rn0 c p) := ⟨⟨by rw [jx_u_k _ _ _ _ (by omega), jx_u_k _ _ _ _ (by omega), jx_u_k _ _ _ _ (by omega), jx_u_k _ _ _ _ (by omega), jx_u_s]; exact jy_toInt (by omega), by rw [jx_u_k _ _ _ _ (by omega), jx_u_k _ _ _ _ (by omega), jx_u_k _ _ _ _ (by omega), jx_u_s]; rfl, by rw [jx_u_k _ _ _ _ (by omega), jx_u_k _ _ _ _ (by omega), jx_u_s]; rfl, by rw [jx_u_k _ _ _ _ (by omega), jx_u_s]; rfl, by rw [jx_u_s]; rfl⟩, MN_c hN1 hW (by rw [jx_u_k _ _ _ _ (by omega), jx_u_k _ _ _ _ (by omega), jx_u_k _ _ _ _ (by omega), jx_u_k _ _ _ _ (by omega), jx_u_k _ _ _ _ (by omega)]) (fun z h5 h6 => by rw [jx_u_r _ _ _ (by omega), jx_u_r _ _ _ (by omega), jx_u_r _ _ _ (by omega), jx_u_r _ _ _ (by omega), jx_u_r _ _ _ (by omega)])⟩
  refine ⟨_, by omega, _, G315_e (cz_315 hV hM hW hp 100) (d := 200) (a := 0) (b := P.1.length) (s := rn0 c p) (by omega) hP10.1 hD10 hP10 hR10 (WR_rn0 hC hpn) (by omega) (by omega) (by omega), ?_⟩
  rintro _ I15 ⟨rfl, hR15, hF15⟩
  refine ⟨rfl, ?_⟩
  exact ⟨rfl, hR15, FK_trans hF10 hF15⟩
/-- GrievingCamelsModel.run -/
theorem cz_317 {V : jx_V} (hV : V.1.stackTraces = false) {X : jx_X} {R : jx_R} {I : jx_I} {a0 : Nat} {a1 : Int} {a2 : Int} {l : LT} {c : CT} {P : PLT}
    (hM : MX X R a0) (hX : MSX I a0 l c) (hW : WT l) (hC : WC l c) (r_a1 : -2147483648 ≤ a1 ∧ a1 < 2147483648) (r_a2 : -2147483648 ≤ a2 ∧ a2 < 2147483648) (hP : MP I a0 P) (hp : WP l P)
    {QE : String → jx_I → Prop} : jc V 202 317 (0, 0) [.ref a0, jy a1, jy a2] X I R (fun rv I' => (nzw (0 ≤ a1 ∧ a1 < (Ln l : Nat)) 0 1 (nzw (0 ≤ a2 ∧ a2 ≤ 5) 2 2 (none)) = none ∧ rv = some (jy (rna (rnr l c P a1.toNat) a2)) ∧ (I' a0 0).toInt = 0 ∧ FK a0 SCR I I') ∨ (∃ k w, nzw (0 ≤ a1 ∧ a1 < (Ln l : Nat)) 0 1 (nzw (0 ≤ a2 ∧ a2 ≤ 5) 2 2 (none)) = some (k, w) ∧ I' = RM (jx_u I a0 0 (Int32.ofInt 0)) a0 k w ∧ ∃ x : Int, rv = some (jy x))) QE := by
  have hW0 := hW.1
  have hW0 := hW.1
  refine wm_317 hV (by omega) (by omega)  (fun J19 J42 hJJ => ?_)
  obtain ⟨hJ19, hJ42⟩ := hJJ
  unfold wz_317
  refine ⟨s_M_0 hM, ?_⟩
  intro I2 e_I2; subst e_I2
  have hX0 := MSX_0 (v := Int32.ofInt 0) hX hW
  have h00 : (jx_u I a0 0 (Int32.ofInt 0) a0 0).toInt = 0 := by rw [jx_u_s]; rfl
  refine ⟨_, cz_232 hV hM hX0.1 hW (by omega), ?_⟩
  rintro _ I5 ⟨rfl, e9⟩; replace e9 := e9.symm; subst e9
  refine ⟨_, rfl, ?_⟩
  refine ⟨by omega, ?_⟩
  refine ⟨fun hq1 => ?_, fun hq1 => ?_⟩
  · have c1 := bi_t hq1
    refine hJ19 _ _ _ ?_
    unfold wz_317_19
    refine ⟨s_M_0 hM, ?_⟩
    refine ⟨_, cz_202o hV hM h00 (by omega) (by omega), ?_⟩
    rintro _ I11 ⟨rfl, e9⟩; replace e9 := e9.symm; subst e9
    refine ⟨_, rfl, ?_⟩
    refine ⟨by omega, ?_⟩
    refine ⟨fun hq2 => ?_, fun hq2 => ?_⟩
    · exact absurd hq2 (by decide)
    · refine ⟨_, cz_203 hV (by omega) (by omega) (by omega), ?_⟩
      rintro _ I16 ⟨rfl, e9⟩; replace e9 := e9.symm; subst e9
      refine ⟨_, rfl, ?_⟩
      refine ⟨by omega, ?_⟩
      refine ⟨fun hq3 => ?_, fun hq3 => ?_⟩
      · have c2 := bi_t hq3
        refine hJ42 _ _ _ ?_
        unfold wz_317_42
        refine ⟨s_M_0 hM, ?_⟩
        refine ⟨_, cz_202o hV hM h00 (by omega) (by omega), ?_⟩
        rintro _ I22 ⟨rfl, e9⟩; replace e9 := e9.symm; subst e9
        refine ⟨_, rfl, ?_⟩
        refine ⟨by omega, ?_⟩
        refine ⟨fun hq4 => ?_, fun hq4 => ?_⟩
        · refine ⟨s_M_0 hM, ?_⟩
          refine ⟨_, cz_316 (p := a1.toNat) hV hM hX0 hW hC (MP_k hP FK_0 (by decide)) hp (by omega) (by omega), ?_⟩
          rintro _ I28 ⟨rfl, hR9, hF9⟩
          refine ⟨rfl, ?_⟩
          have hrr := WR_rnr hW hC hp (p := a1.toNat) (by omega)
          have hr1 := hrr.1
          have hr2 := hrr.2.1
          have hr3 := hrr.2.2.1
          have hr4 := hrr.2.2.2.1
          have hr5 := hrr.2.2.2.2.1
          have hL8 := WR_8 hrr hW
          refine ⟨fun hq5 => ?_, fun hq5 => ?_, fun hq5 => ?_, fun hq5 => ?_, fun hq5 => ?_, fun hq5 => ?_⟩
          · exact Or.inl ⟨by rw [nzw_t c1, nzw_t c2], by unfold rna; rw [if_neg (by omega), if_neg (by omega), if_neg (by omega), if_neg (by omega), if_neg (by omega)]; exact congrArg (fun z => some (jy z)) hR9.2.1.1, by rw [hF9.2 0 (by decide)]; exact h00, FK_trans FK_0 (FK_mono hF9 (by decide))⟩
          · exact Or.inl ⟨by rw [nzw_t c1, nzw_t c2], by unfold rna; rw [if_pos (by omega)]; exact congrArg (fun z => some (jy z)) hR9.1.2.1, by rw [hF9.2 0 (by decide)]; exact h00, FK_trans FK_0 (FK_mono hF9 (by decide))⟩
          · exact Or.inl ⟨by rw [nzw_t c1, nzw_t c2], by unfold rna; rw [if_neg (by omega), if_pos (by omega)]; exact congrArg (fun z => some (jy z)) hR9.1.1, by rw [hF9.2 0 (by decide)]; exact h00, FK_trans FK_0 (FK_mono hF9 (by decide))⟩
          · exact Or.inl ⟨by rw [nzw_t c1, nzw_t c2], by unfold rna; rw [if_neg (by omega), if_neg (by omega), if_pos (by omega)]; exact congrArg (fun z => some (jy z)) hR9.1.2.2.1, by rw [hF9.2 0 (by decide)]; exact h00, FK_trans FK_0 (FK_mono hF9 (by decide))⟩
          · exact Or.inl ⟨by rw [nzw_t c1, nzw_t c2], by unfold rna; rw [if_neg (by omega), if_neg (by omega), if_neg (by omega), if_pos (by omega)]; exact congrArg (fun z => some (jy z)) hR9.1.2.2.2.1, by rw [hF9.2 0 (by decide)]; exact h00, FK_trans FK_0 (FK_mono hF9 (by decide))⟩
          · refine ⟨fun hq6 => ?_, fun hq6 => ?_⟩
            · exact Or.inl ⟨by rw [nzw_t c1, nzw_t c2], by unfold rna; rw [if_neg (by omega), if_neg (by omega), if_neg (by omega), if_neg (by omega), if_pos (by omega), if_pos (by have := hR9.1.2.2.2.2; omega)], by rw [hF9.2 0 (by decide)]; exact h00, FK_trans FK_0 (FK_mono hF9 (by decide))⟩
            · exact Or.inl ⟨by rw [nzw_t c1, nzw_t c2], by unfold rna; rw [if_neg (by omega), if_neg (by omega), if_neg (by omega), if_neg (by omega), if_pos (by omega), if_neg (by have := hR9.1.2.2.2.2; omega)], by rw [hF9.2 0 (by decide)]; exact h00, FK_trans FK_0 (FK_mono hF9 (by decide))⟩
        · exact absurd hq4 (by decide)
      · have c2 := bi_f hq3
        refine hJ42 _ _ _ ?_
        unfold wz_317_42
        refine ⟨s_M_0 hM, ?_⟩
        refine ⟨_, cz_202b hV hM h00 (by omega) (by omega), ?_⟩
        rintro _ I22 ⟨rfl, e9⟩; replace e9 := e9.symm; subst e9
        refine ⟨_, rfl, ?_⟩
        refine ⟨by omega, ?_⟩
        refine ⟨fun hq7 => ?_, fun hq7 => ?_⟩
        · exact absurd hq7 (by decide)
        · exact Or.inr ⟨_, _, by rw [nzw_t c1]; exact nzw_f c2, rfl, _, rfl⟩
  · have c1 := bi_f hq1
    refine hJ19 _ _ _ ?_
    unfold wz_317_19
    refine ⟨s_M_0 hM, ?_⟩
    refine ⟨_, cz_202b hV hM h00 (by omega) (by omega), ?_⟩
    rintro _ I11 ⟨rfl, e9⟩; replace e9 := e9.symm; subst e9
    refine ⟨_, rfl, ?_⟩
    refine ⟨by omega, ?_⟩
    refine ⟨fun hq8 => ?_, fun hq8 => ?_⟩
    · exact Or.inr ⟨_, _, by exact nzw_f c1, rfl, _, rfl⟩
    · exact absurd hq8 (by decide)
/-- GrievingCamelsModel.ran -/
theorem cz_318 {V : jx_V} (hV : V.1.stackTraces = false) {X : jx_X} {R : jx_R} {I : jx_I} {a0 : Nat} {a1 : Int} {a2 : Int} {a3 : Int} {l : LT} {c : CT} {P : PLT}
    (hM : MX X R a0) (hX : MSX I a0 l c) (hW : WT l) (hC : WC l c) (r_a1 : -2147483648 ≤ a1 ∧ a1 < 2147483648) (r_a2 : -2147483648 ≤ a2 ∧ a2 < 2147483648) (r_a3 : -2147483648 ≤ a3 ∧ a3 < 2147483648) (hP : MP I a0 P) (hp : WP l P)
    {QE : String → jx_I → Prop} : jc V 202 318 (0, 0) [.ref a0, jy a1, jy a2, jy a3] X I R (fun rv I' => (nzw ((0 ≤ a1 ∧ a1 < (Ln l : Nat)) ∧ (0 ≤ a2 ∧ a2 < (Ln l : Nat))) 0 1 (nzw (0 ≤ a3 ∧ a3 < (Lm l : Nat)) 1 2 (none)) = none ∧ rv = some (jy (yG (rnr l c P a1.toNat) a2.toNat a3.toNat)) ∧ (I' a0 0).toInt = 0 ∧ FK a0 SCR I I') ∨ (∃ k w, nzw ((0 ≤ a1 ∧ a1 < (Ln l : Nat)) ∧ (0 ≤ a2 ∧ a2 < (Ln l : Nat))) 0 1 (nzw (0 ≤ a3 ∧ a3 < (Lm l : Nat)) 1 2 (none)) = some (k, w) ∧ I' = RM (jx_u I a0 0 (Int32.ofInt 0)) a0 k w ∧ ∃ x : Int, rv = some (jy x))) QE := by
  have hW0 := hW.1
  have hW0 := hW.1
  refine wm_318 hV (by omega) (by omega) (by omega)  (fun J27 J49 hJJ => ?_)
  obtain ⟨hJ27, hJ49⟩ := hJJ
  unfold wz_318
  refine ⟨s_M_0 hM, ?_⟩
  intro I2 e_I2; subst e_I2
  have hX0 := MSX_0 (v := Int32.ofInt 0) hX hW
  have h00 : (jx_u I a0 0 (Int32.ofInt 0) a0 0).toInt = 0 := by rw [jx_u_s]; rfl
  refine ⟨_, cz_232 hV hM hX0.1 hW (by omega), ?_⟩
  rintro _ I5 ⟨rfl, e9⟩; replace e9 := e9.symm; subst e9
  refine ⟨_, rfl, ?_⟩
  refine ⟨by omega, ?_⟩
  refine ⟨fun hq1 => ?_, fun hq1 => ?_⟩
  · have c1 := bi_f hq1
    refine hJ27 _ _ _ ?_
    unfold wz_318_27
    refine ⟨s_M_0 hM, ?_⟩
    refine ⟨_, cz_202b hV hM h00 (by omega) (by omega), ?_⟩
    rintro _ I16 ⟨rfl, e9⟩; replace e9 := e9.symm; subst e9
    refine ⟨_, rfl, ?_⟩
    refine ⟨by omega, ?_⟩
    refine ⟨fun hq2 => ?_, fun hq2 => ?_⟩
    · exact Or.inr ⟨_, _, by exact nzw_f (fun k => c1 k.1), rfl, _, rfl⟩
    · exact absurd hq2 (by decide)
  · have c1 := bi_t hq1
    refine ⟨_, cz_232 hV hM hX0.1 hW (by omega), ?_⟩
    rintro _ I10 ⟨rfl, e9⟩; replace e9 := e9.symm; subst e9
    refine ⟨_, rfl, ?_⟩
    refine ⟨by omega, ?_⟩
    refine ⟨fun hq3 => ?_, fun hq3 => ?_⟩
    · have c2 := bi_t hq3
      refine hJ27 _ _ _ ?_
      unfold wz_318_27
      refine ⟨s_M_0 hM, ?_⟩
      refine ⟨_, cz_202o hV hM h00 (by omega) (by omega), ?_⟩
      rintro _ I16 ⟨rfl, e9⟩; replace e9 := e9.symm; subst e9
      refine ⟨_, rfl, ?_⟩
      refine ⟨by omega, ?_⟩
      refine ⟨fun hq4 => ?_, fun hq4 => ?_⟩
      · exact absurd hq4 (by decide)
      · refine ⟨s_M_0 hM, ?_⟩
        refine ⟨_, cz_233 hV hM hX0.1 hW (by omega), ?_⟩
        rintro _ I22 ⟨rfl, e9⟩; replace e9 := e9.symm; subst e9
        refine ⟨_, rfl, ?_⟩
        refine ⟨by omega, ?_⟩
        refine ⟨fun hq5 => ?_, fun hq5 => ?_⟩
        · have c3 := bi_t hq5
          refine hJ49 _ _ _ ?_
          unfold wz_318_49
          refine ⟨s_M_0 hM, ?_⟩
          refine ⟨_, cz_202o hV hM h00 (by omega) (by omega), ?_⟩
          rintro _ I28 ⟨rfl, e9⟩; replace e9 := e9.symm; subst e9
          refine ⟨_, rfl, ?_⟩
          refine ⟨by omega, ?_⟩
          refine ⟨fun hq6 => ?_, fun hq6 => ?_⟩
          · refine ⟨s_M_0 hM, ?_⟩
            refine ⟨_, cz_316 (p := a1.toNat) hV hM hX0 hW hC (MP_k hP FK_0 (by decide)) hp (by omega) (by omega), ?_⟩
            rintro _ I34 ⟨rfl, hR9, hF9⟩
            refine ⟨rfl, ?_⟩
            refine ⟨_, r_M_42 hM, _, ⟨s_M_1346 hM, by decide⟩, by omega, _, rr_M_1346 hM (by omega), _, ⟨sr_M_1346 hM (by omega), by decide⟩, by omega, ?_⟩
            exact Or.inl ⟨by rw [nzw_t (And.intro c1 c2), nzw_t c3], by rw [hR9.2.2.1 a2.toNat a3.toNat (by omega) (by omega)], by rw [hF9.2 0 (by decide)]; exact h00, FK_trans FK_0 (FK_mono hF9 (by decide))⟩
          · exact absurd hq6 (by decide)
        · have c3 := bi_f hq5
          refine hJ49 _ _ _ ?_
          unfold wz_318_49
          refine ⟨s_M_0 hM, ?_⟩
          refine ⟨_, cz_202b hV hM h00 (by omega) (by omega), ?_⟩
          rintro _ I28 ⟨rfl, e9⟩; replace e9 := e9.symm; subst e9
          refine ⟨_, rfl, ?_⟩
          refine ⟨by omega, ?_⟩
          refine ⟨fun hq7 => ?_, fun hq7 => ?_⟩
          · exact absurd hq7 (by decide)
          · exact Or.inr ⟨_, _, by rw [nzw_t (⟨c1, c2⟩)]; exact nzw_f c3, rfl, _, rfl⟩
    · have c2 := bi_f hq3
      refine hJ27 _ _ _ ?_
      unfold wz_318_27
      refine ⟨s_M_0 hM, ?_⟩
      refine ⟨_, cz_202b hV hM h00 (by omega) (by omega), ?_⟩
      rintro _ I16 ⟨rfl, e9⟩; replace e9 := e9.symm; subst e9
      refine ⟨_, rfl, ?_⟩
      refine ⟨by omega, ?_⟩
      refine ⟨fun hq8 => ?_, fun hq8 => ?_⟩
      · exact Or.inr ⟨_, _, by exact nzw_f (fun k => c2 k.2), rfl, _, rfl⟩
      · exact absurd hq8 (by decide)
/-- GrievingCamelsModel.ranRow -/
theorem cz_319 {V : jx_V} (hV : V.1.stackTraces = false) {X : jx_X} {R : jx_R} {I : jx_I} {a0 : Nat} {a1 : Int} {a2 : Int} {l : LT} {c : CT} {P : PLT}
    (hM : MX X R a0) (hX : MSX I a0 l c) (hW : WT l) (hC : WC l c) (r_a1 : -2147483648 ≤ a1 ∧ a1 < 2147483648) (r_a2 : -2147483648 ≤ a2 ∧ a2 < 2147483648) (hP : MP I a0 P) (hp : WP l P)
    {QE : String → jx_I → Prop} : jc V 202 319 (0, 0) [.ref a0, jy a1, jy a2] X I R (fun rv I' => (nzw (0 ≤ a1 ∧ a1 < (Ln l : Nat)) 0 1 (none) = none ∧ rv = some (jy (itm (yL (rnr l c P a1.toNat)) a2)) ∧ (I' a0 0).toInt = 0 ∧ FK a0 SCR I I') ∨ (∃ k w, nzw (0 ≤ a1 ∧ a1 < (Ln l : Nat)) 0 1 (none) = some (k, w) ∧ I' = RM (jx_u I a0 0 (Int32.ofInt 0)) a0 k w ∧ ∃ x : Int, rv = some (jy x))) QE := by
  have hW0 := hW.1
  have hW0 := hW.1
  refine wm_319 hV (by omega) (by omega)  (fun J19 hJJ => ?_)
  have hJ19 := hJJ
  unfold wz_319
  refine ⟨s_M_0 hM, ?_⟩
  intro I2 e_I2; subst e_I2
  have hX0 := MSX_0 (v := Int32.ofInt 0) hX hW
  have h00 : (jx_u I a0 0 (Int32.ofInt 0) a0 0).toInt = 0 := by rw [jx_u_s]; rfl
  refine ⟨_, cz_232 hV hM hX0.1 hW (by omega), ?_⟩
  rintro _ I5 ⟨rfl, e9⟩; replace e9 := e9.symm; subst e9
  refine ⟨_, rfl, ?_⟩
  refine ⟨by omega, ?_⟩
  refine ⟨fun hq1 => ?_, fun hq1 => ?_⟩
  · have c1 := bi_t hq1
    refine hJ19 _ _ _ ?_
    unfold wz_319_19
    refine ⟨s_M_0 hM, ?_⟩
    refine ⟨_, cz_202o hV hM h00 (by omega) (by omega), ?_⟩
    rintro _ I11 ⟨rfl, e9⟩; replace e9 := e9.symm; subst e9
    refine ⟨_, rfl, ?_⟩
    refine ⟨by omega, ?_⟩
    refine ⟨fun hq2 => ?_, fun hq2 => ?_⟩
    · refine ⟨s_M_0 hM, ?_⟩
      refine ⟨_, cz_316 (p := a1.toNat) hV hM hX0 hW hC (MP_k hP FK_0 (by decide)) hp (by omega) (by omega), ?_⟩
      rintro _ I17 ⟨rfl, hR9, hF9⟩
      refine ⟨rfl, ?_⟩
      have hrr := WR_rnr hW hC hp (p := a1.toNat) (by omega)
      have hr1 := hrr.1
      have hr2 := hrr.2.1
      have hr3 := hrr.2.2.1
      have hr4 := hrr.2.2.2.1
      have hr5 := hrr.2.2.2.2.1
      have hL8 := WR_8 hrr hW
      have h46 := hR9.2.1.1
      simp only [-eq_self, h46]
      refine ⟨_, cz_203 hV (by omega) (by omega) (by omega), ?_⟩
      rintro _ I21 ⟨rfl, e9⟩; replace e9 := e9.symm; subst e9
      refine ⟨_, rfl, ?_⟩
      refine ⟨by omega, ?_⟩
      refine ⟨fun hq3 => ?_, fun hq3 => ?_⟩
      · have c3 := bi_f hq3
        exact Or.inl ⟨by rw [nzw_t c1], by rw [itm_o (by omega)], by rw [hF9.2 0 (by decide)]; exact h00, FK_trans FK_0 (FK_mono hF9 (by decide))⟩
      · have c3 := bi_t hq3
        refine ⟨_, r_M_44 hM, _, ⟨s_M_1364 hM, by decide⟩, by omega, ?_⟩
        obtain ⟨y, hy⟩ : ∃ y, (yL (rnr l c P a1.toNat))[a2.toNat]? = some y := ⟨_, List.getElem?_eq_getElem (by omega)⟩
        exact Or.inl ⟨by rw [nzw_t c1], by rw [itm_i (by omega) hy, hR9.2.1.2 _ _ hy], by rw [hF9.2 0 (by decide)]; exact h00, FK_trans FK_0 (FK_mono hF9 (by decide))⟩
    · exact absurd hq2 (by decide)
  · have c1 := bi_f hq1
    refine hJ19 _ _ _ ?_
    unfold wz_319_19
    refine ⟨s_M_0 hM, ?_⟩
    refine ⟨_, cz_202b hV hM h00 (by omega) (by omega), ?_⟩
    rintro _ I11 ⟨rfl, e9⟩; replace e9 := e9.symm; subst e9
    refine ⟨_, rfl, ?_⟩
    refine ⟨by omega, ?_⟩
    refine ⟨fun hq4 => ?_, fun hq4 => ?_⟩
    · exact absurd hq4 (by decide)
    · exact Or.inr ⟨_, _, by exact nzw_f c1, rfl, _, rfl⟩
/-- GrievingCamelsModel.begin -/
theorem cz_320 {V : jx_V} (hV : V.1.stackTraces = false) {X : jx_X} {R : jx_R} {I : jx_I} {a0 : Nat} {l : LT} {c : CT} {P : PLT}
    (hM : MX X R a0) (hX : MSX I a0 l c) (hW : WT l) (hC : WC l c)  (hP : MP I a0 P) (hp : WP l P)
    {QE : String → jx_I → Prop} : jc V 202 320 (0, 0) [.ref a0] X I R (fun rv I' => ((none : Option (Nat × Int)) = none ∧ rv = some (jy (bgn l c P (Ln l)).1) ∧ (I' a0 0).toInt = 0 ∧ FK a0 SCR I I') ∨ (∃ k w, (none : Option (Nat × Int)) = some (k, w) ∧ I' = RM (jx_u I a0 0 (Int32.ofInt 0)) a0 k w ∧ ∃ x : Int, rv = some (jy x))) QE := by
  have hW0 := hW.1
  have hW0 := hW.1
  refine wm_320 hV   (fun J11 J49 hJJ => ?_)
  obtain ⟨hJ11, hJ49⟩ := hJJ
  unfold wz_320
  refine ⟨s_M_0 hM, ?_⟩
  intro I2 e_I2; subst e_I2
  have hX0 := MSX_0 (v := Int32.ofInt 0) hX hW
  have h00 : (jx_u I a0 0 (Int32.ofInt 0) a0 0).toInt = 0 := by rw [jx_u_s]; rfl
  have L11 : ∀ (n11 : Nat) (l1 : Int) (l2 : Int) (l3 : Int) (K : jx_I), n11 = ((Ln l : Int) - l3).toNat → (∃ n : Nat, l3 = (n : Int) ∧ n ≤ Ln l ∧ l1 = (bgn l c P n).1 ∧ l2 = (bgn l c P n).2 ∧ FK a0 YK (jx_u I a0 0 (Int32.ofInt 0)) K) → J11 l1 l2 l3 K := by
    intro n11
    induction n11 using Nat.strongRecOn with
    | ind n11 ih11 =>
    intro l1 l2 l3 K hn11 hI11
    obtain ⟨n, rfl, hn, rfl, rfl, hF⟩ := hI11
    have h40 := (FK_MD hX0.1 hF (by decide) hW).1.1
    have hbr := bgn_rng hW hC hp n hn
    refine hJ11 _ _ _ _ ?_
    unfold wz_320_11
    refine ⟨s_M_0 hM, _, r_M_11 hM, _, ⟨s_M_4 hM, by decide⟩, ?_⟩
    try simp only [-eq_self, show (0 : Int).toNat = 0 from rfl, h40]
    refine ⟨by omega, by omega, ?_⟩
    refine ⟨fun hq1 => ?_, fun hq1 => ?_⟩
    · rw [show Ln l = n by omega]
      exact Or.inl ⟨rfl, rfl, by rw [hF.2 0 (by decide)]; exact h00, FK_trans FK_0 (FK_mono hF (by decide))⟩
    · refine ⟨_, cz_316 (p := n) hV hM (MSX_s hX0 (FK_mono hF (by decide)) hW) hW hC (MP_k (MP_k hP FK_0 (by decide)) hF (by decide)) hp rfl (by omega), ?_⟩
      rintro _ I12 ⟨rfl, hR9, hF9⟩
      refine ⟨rfl, ?_⟩
      have h67 := hR9.1.2.1
      have hrr := WR_rnr hW hC hp (p := n) (by omega)
      have hr2 := hrr.2.1
      have hr4 := hrr.2.2.2.1
      simp only [-eq_self, h67]
      refine ⟨by omega, ?_⟩
      refine ⟨fun hq2 => ?_, fun hq2 => ?_⟩
      · refine hJ49 _ _ _ _ ?_
        unfold wz_320_49
        exact ih11 _ (by omega) _ _ _ _ rfl (⟨n + 1, by omega, by omega, by unfold bgn; rw [if_neg (by omega)], by unfold bgn; rw [if_neg (by omega)], FK_trans hF hF9⟩)
      · refine ⟨by omega, ?_⟩
        refine ⟨fun hq3 => ?_, fun hq3 => ?_⟩
        · refine hJ49 _ _ _ _ ?_
          unfold wz_320_49
          exact ih11 _ (by omega) _ _ _ _ rfl (⟨n + 1, by omega, by omega, by unfold bgn; rw [if_neg (by omega)], by unfold bgn; rw [if_neg (by omega)], FK_trans hF hF9⟩)
        · refine hJ49 _ _ _ _ ?_
          unfold wz_320_49
          exact ih11 _ (by omega) _ _ _ _ rfl (⟨n + 1, by omega, by omega, by rw [show bgn l c P (n + 1) = bgn l c P n from if_pos (by omega)], by rw [show bgn l c P (n + 1) = bgn l c P n from if_pos (by omega)], FK_trans hF hF9⟩)
  exact L11 _ _ _ _ _ rfl (⟨0, rfl, by omega, rfl, rfl, FK_refl⟩)
