/-! ===== run, ran, ranRow, begin: the class ===== -/
theorem FS_z {b ld : Nat} {I I' : jx_I} (h : ZF (b + 82) ld I I') (ho : ld = b + 36 ∨ ld = b + 47) : FS b I I' := ⟨fun q h1 h2 h3 h4 => h q (by omega) (by omega), by rw [h (b + 23) (by omega) (by omega)]⟩
theorem RF_trans {x : Nat} {S : List Nat} {R R1 R2 : jx_R} (h : RF x S R R1) (h2 : RF x S R1 R2) : RF x S R R2 := fun q k hk => (h2 q k hk).trans (h q k hk)
theorem GX_24 {X : jx_X} {R R' : jx_R} {I : jx_I} {b ld : Nat} {l : LT} {c : CT} (h : GX X R I b ld l c) (e : RF (b + 82) [2, 3] R R') : GX X R' I b ld l c := by
  refine ⟨BX_rx h.1 e (fun k en hk e2 => ?_), ⟨?_, h.2.1.2⟩, h.2.2⟩
  · have hk0 : k = 82 := by omega
    subst hk0
    have h5 : TGC[82]? = some ((6, 0), [(0, 83), (1, 87)]) := rfl
    rw [h5] at hk
    rw [← Option.some.inj hk]
    show ∀ p ∈ [(0, 83), (1, 87)], p.1 ∉ [2, 3]
    decide
  · rw [e _ _ (by omega)]; exact h.2.1.1
/-- the class's Plan holds P -/
def PY (R : jx_R) (I : jx_I) (b y : Nat) (P : PLT) : Prop := R b 13 = some y ∧ (y = b + 58 ∨ y = b + 70) ∧ CPS I y P ∧ CPV I y P ∧ NBv (fun k => (I (y + 3) k).toInt) P 100 0 0 P.1.length
theorem PY_p {X : jx_X} {R : jx_R} {I : jx_I} {b y : Nat} {P : PLT} (h : BX X R b TGC) (hy : PY R I b y P) : BX X R y TPlan := by
  rcases hy.2.1 with e | e
  · rw [e]; exact b_GC_58 h
  · rw [e]; exact b_GC_70 h
theorem PY_s {R R' : jx_R} {I I' : jx_I} {b y : Nat} {P : PLT} (hy : PY R I b y P) (hf : FS b I I') (e : RF (b + 82) [2, 3] R R') : PY R' I' b y P := by
  have hy2 := hy.2.1
  have ek : ∀ q, y ≤ q → q < y + 12 → I' q = I q := fun q h1 h2 => hf.1 q (by omega) (by omega) (by omega) (by omega)
  refine ⟨by rw [e _ _ (by omega)]; exact hy.1, hy2, CPS_of hy.2.2.1 ek, CPV_of hy.2.2.2.1 ek, ?_⟩
  rw [ek (y + 3) (by omega) (by omega)]
  exact hy.2.2.2.2
/-- GrievingCamels.run -/
theorem cz_179 {V : jx_V} (hV : V.1.stackTraces = false) {X : jx_X} {R : jx_R} {I : jx_I} {a0 : Nat} {a1 : Int} {a2 : Int} {ld : Nat} {l : LT} {c : CT} {y : Nat} {P : PLT}
    (h : GX X R I a0 ld l c) (r_a1 : -2147483648 ≤ a1 ∧ a1 < 2147483648) (r_a2 : -2147483648 ≤ a2 ∧ a2 < 2147483648) (hy : PY R I a0 y P) (hwp : WP l P)
    : jd V 202 179 (2, 12) [.ref a0, jy a1, jy a2] X I R (fun rv I' R' => nz (0 ≤ a1 ∧ a1 < (Ln l : Nat)) 0 (nz (0 ≤ a2 ∧ a2 ≤ 5) 2 (none)) = none ∧ rv = some (jy (rna (rnr l c P a1.toNat) a2)) ∧ FS a0 I I' ∧ RF (a0 + 82) [2, 3] R R') (fun E I' R' => ∃ k, nz (0 ≤ a1 ∧ a1 < (Ln l : Nat)) 0 (nz (0 ≤ a2 ∧ a2 ≤ 5) 2 (none)) = some k ∧ E = (jx_exe k).1 ∧ I' = rfs I a0 k ∧ R' = R) := by
  have hW := h.2.2.2.1
  have hW0 := hW.1
  refine wm_179 hV (by omega) (by omega)  ?_
  have hl := GX_l h
  have hD := h.2.2.1; have hS := h.2.2.2.2.1; have hC := h.2.2.2.2.2.1; have hlo := h.2.1.2
  have hy2 := hy.2.1
  unfold wz_179
  refine ⟨s_GC_0 h.1, ?_⟩
  refine ⟨_, _, cz_187 hV h (by omega), fun Ex Ix h9 => ⟨0, by rw [nz_f h9.2.2], h9.1, h9.2.1, rfl⟩, ?_⟩
  rintro _ I6 ⟨rfl, e9, hp1⟩; replace e9 := e9.symm; subst e9
  refine ⟨rfl, ?_⟩
  refine ⟨_, _, cz_190 hV h.1 (by omega) (by omega), fun Ex Ix h9 => ⟨2, by rw [nz_t hp1]; rw [nz_f h9.2.2], h9.1, h9.2.1, rfl⟩, ?_⟩
  rintro _ I12 ⟨rfl, e9, hp2⟩; replace e9 := e9.symm; subst e9
  refine ⟨rfl, ?_⟩
  refine ⟨_, r_GC_0_5 h.1, _, h.2.1.1, _, hy.1, _, r_GC_0_2 h.1, s_Runner_0 (b_GC_82 h.1), ?_⟩
  refine ⟨_, cz_85 (p := a1.toNat) hV (b_GC_82 h.1) hl (PY_p h.1 hy) (b_GC_4 h.1) hD hW hS hC hy.2.2.1 hy.2.2.2.1 hwp hy.2.2.2.2 (by omega) (by omega) (by omega) (by omega) (by omega) (by omega), ?_⟩
  rintro _ I25 R27 ⟨rfl, hY9, hZ9, hR9⟩
  refine ⟨rfl, ?_⟩
  have hFS := FS_z hZ9 hlo
  have h24 := GX_24 h hR9
  have hrr := WR_rnr hW hC hwp (p := a1.toNat) (by omega)
  have hr1 := hrr.1
  have hr5 := hrr.2.2.2.2.1
  have hRa : RF (a0 + 82) [2, 3] R R27 := hR9
  have h := h24
  refine ⟨fun hq1 => ?_, fun hq1 => ?_, fun hq1 => ?_, fun hq1 => ?_, fun hq1 => ?_, fun hq1 => ?_⟩
  · refine ⟨_, r_GC_0_5 h.1, s_Runner_0 (b_GC_82 h.1), _, r_Runner_0_1 (b_GC_82 h.1), s_Row_0 (b_GC_87 h.1), ?_⟩
    exact ⟨by rw [nz_t hp1, nz_t hp2], by unfold rna; rw [if_neg (by omega), if_neg (by omega), if_neg (by omega), if_neg (by omega), if_neg (by omega)]; exact congrArg (fun z => some (jy z)) hY9.2.2.1, hFS, hRa⟩
  · refine ⟨_, r_GC_0_5 h.1, s_Runner_0 (b_GC_82 h.1), ?_⟩
    exact ⟨by rw [nz_t hp1, nz_t hp2], by unfold rna; rw [if_pos (by omega)]; exact congrArg (fun z => some (jy z)) hY9.1.2.1, hFS, hRa⟩
  · refine ⟨_, r_GC_0_5 h.1, s_Runner_0 (b_GC_82 h.1), ?_⟩
    exact ⟨by rw [nz_t hp1, nz_t hp2], by unfold rna; rw [if_neg (by omega), if_pos (by omega)]; exact congrArg (fun z => some (jy z)) hY9.1.1, hFS, hRa⟩
  · refine ⟨_, r_GC_0_5 h.1, s_Runner_0 (b_GC_82 h.1), ?_⟩
    exact ⟨by rw [nz_t hp1, nz_t hp2], by unfold rna; rw [if_neg (by omega), if_neg (by omega), if_pos (by omega)]; exact congrArg (fun z => some (jy z)) hY9.1.2.2.1, hFS, hRa⟩
  · refine ⟨_, r_GC_0_5 h.1, s_Runner_0 (b_GC_82 h.1), ?_⟩
    exact ⟨by rw [nz_t hp1, nz_t hp2], by unfold rna; rw [if_neg (by omega), if_neg (by omega), if_neg (by omega), if_pos (by omega)]; exact congrArg (fun z => some (jy z)) hY9.1.2.2.2.1, hFS, hRa⟩
  · refine ⟨_, r_GC_0_5 h.1, s_Runner_0 (b_GC_82 h.1), ?_⟩
    refine ⟨fun hq2 => ?_, fun hq2 => ?_⟩
    · exact ⟨by rw [nz_t hp1, nz_t hp2], by unfold rna; rw [if_neg (by omega), if_neg (by omega), if_neg (by omega), if_neg (by omega), if_pos (by omega), if_pos (by have := hY9.1.2.2.2.2; omega)], hFS, hRa⟩
    · exact ⟨by rw [nz_t hp1, nz_t hp2], by unfold rna; rw [if_neg (by omega), if_neg (by omega), if_neg (by omega), if_neg (by omega), if_pos (by omega), if_neg (by have := hY9.1.2.2.2.2; omega)], hFS, hRa⟩
/-- GrievingCamels.ran -/
theorem cz_180 {V : jx_V} (hV : V.1.stackTraces = false) {X : jx_X} {R : jx_R} {I : jx_I} {a0 : Nat} {a1 : Int} {a2 : Int} {a3 : Int} {ld : Nat} {l : LT} {c : CT} {y : Nat} {P : PLT}
    (h : GX X R I a0 ld l c) (r_a1 : -2147483648 ≤ a1 ∧ a1 < 2147483648) (r_a2 : -2147483648 ≤ a2 ∧ a2 < 2147483648) (r_a3 : -2147483648 ≤ a3 ∧ a3 < 2147483648) (hy : PY R I a0 y P) (hwp : WP l P)
    : jd V 202 180 (3, 18) [.ref a0, jy a1, jy a2, jy a3] X I R (fun rv I' R' => nz (0 ≤ a1 ∧ a1 < (Ln l : Nat)) 0 (nz (0 ≤ a2 ∧ a2 < (Ln l : Nat)) 0 (nz (0 ≤ a3 ∧ a3 < (Lm l : Nat)) 1 (none))) = none ∧ rv = some (jy (yG (rnr l c P a1.toNat) a2.toNat a3.toNat)) ∧ FS a0 I I' ∧ RF (a0 + 82) [2, 3] R R') (fun E I' R' => ∃ k, nz (0 ≤ a1 ∧ a1 < (Ln l : Nat)) 0 (nz (0 ≤ a2 ∧ a2 < (Ln l : Nat)) 0 (nz (0 ≤ a3 ∧ a3 < (Lm l : Nat)) 1 (none))) = some k ∧ E = (jx_exe k).1 ∧ I' = rfs I a0 k ∧ R' = R) := by
  have hW := h.2.2.2.1
  have hW0 := hW.1
  refine wm_180 hV (by omega) (by omega) (by omega)  ?_
  have hl := GX_l h
  have hD := h.2.2.1; have hS := h.2.2.2.2.1; have hC := h.2.2.2.2.2.1; have hlo := h.2.1.2
  have hy2 := hy.2.1
  unfold wz_180
  refine ⟨s_GC_0 h.1, ?_⟩
  refine ⟨_, _, cz_187 hV h (by omega), fun Ex Ix h9 => ⟨0, by rw [nz_f h9.2.2], h9.1, h9.2.1, rfl⟩, ?_⟩
  rintro _ I6 ⟨rfl, e9, hp1⟩; replace e9 := e9.symm; subst e9
  refine ⟨rfl, ?_⟩
  refine ⟨_, _, cz_187 hV h (by omega), fun Ex Ix h9 => ⟨0, by rw [nz_t hp1]; rw [nz_f h9.2.2], h9.1, h9.2.1, rfl⟩, ?_⟩
  rintro _ I12 ⟨rfl, e9, hp2⟩; replace e9 := e9.symm; subst e9
  refine ⟨rfl, ?_⟩
  refine ⟨_, _, cz_188 hV h (by omega), fun Ex Ix h9 => ⟨1, by rw [nz_t hp1, nz_t hp2]; rw [nz_f h9.2.2], h9.1, h9.2.1, rfl⟩, ?_⟩
  rintro _ I18 ⟨rfl, e9, hp3⟩; replace e9 := e9.symm; subst e9
  refine ⟨rfl, ?_⟩
  refine ⟨_, r_GC_0_5 h.1, _, h.2.1.1, _, hy.1, _, r_GC_0_2 h.1, s_Runner_0 (b_GC_82 h.1), ?_⟩
  refine ⟨_, cz_85 (p := a1.toNat) hV (b_GC_82 h.1) hl (PY_p h.1 hy) (b_GC_4 h.1) hD hW hS hC hy.2.2.1 hy.2.2.2.1 hwp hy.2.2.2.2 (by omega) (by omega) (by omega) (by omega) (by omega) (by omega), ?_⟩
  rintro _ I31 R33 ⟨rfl, hY9, hZ9, hR9⟩
  refine ⟨rfl, ?_⟩
  have hFS := FS_z hZ9 hlo
  have h24 := GX_24 h hR9
  have hrr := WR_rnr hW hC hwp (p := a1.toNat) (by omega)
  have hr1 := hrr.1
  have hr5 := hrr.2.2.2.2.1
  have hRa : RF (a0 + 82) [2, 3] R R33 := hR9
  have h := h24
  refine ⟨_, r_GC_0_5 h.1, s_Runner_0 (b_GC_82 h.1), _, r_Runner_0_0 (b_GC_82 h.1), s_Herd_0 (b_GC_83 h.1), ?_⟩
  refine ⟨_, cz_11 (p := a2.toNat) (c := a3.toNat) hV (b_Runner_1 (b_GC_82 h.1)) hY9.2.1 (by omega) (by omega) (by omega) (by omega), ?_⟩
  rintro _ I42 ⟨rfl, e9⟩; replace e9 := e9.symm; subst e9
  refine ⟨_, rfl, ?_⟩
  exact ⟨by rw [nz_t hp1, nz_t hp2, nz_t hp3], by rfl, hFS, hRa⟩
/-- GrievingCamels.ranRow -/
theorem cz_181 {V : jx_V} (hV : V.1.stackTraces = false) {X : jx_X} {R : jx_R} {I : jx_I} {a0 : Nat} {a1 : Int} {a2 : Int} {ld : Nat} {l : LT} {c : CT} {y : Nat} {P : PLT}
    (h : GX X R I a0 ld l c) (r_a1 : -2147483648 ≤ a1 ∧ a1 < 2147483648) (r_a2 : -2147483648 ≤ a2 ∧ a2 < 2147483648) (hy : PY R I a0 y P) (hwp : WP l P)
    : jd V 202 181 (1, 6) [.ref a0, jy a1, jy a2] X I R (fun rv I' R' => nz (0 ≤ a1 ∧ a1 < (Ln l : Nat)) 0 (none) = none ∧ rv = some (jy (itm (yL (rnr l c P a1.toNat)) a2)) ∧ FS a0 I I' ∧ RF (a0 + 82) [2, 3] R R') (fun E I' R' => ∃ k, nz (0 ≤ a1 ∧ a1 < (Ln l : Nat)) 0 (none) = some k ∧ E = (jx_exe k).1 ∧ I' = rfs I a0 k ∧ R' = R) := by
  have hW := h.2.2.2.1
  have hW0 := hW.1
  refine wm_181 hV (by omega) (by omega)  ?_
  have hl := GX_l h
  have hD := h.2.2.1; have hS := h.2.2.2.2.1; have hC := h.2.2.2.2.2.1; have hlo := h.2.1.2
  have hy2 := hy.2.1
  unfold wz_181
  refine ⟨s_GC_0 h.1, ?_⟩
  refine ⟨_, _, cz_187 hV h (by omega), fun Ex Ix h9 => ⟨0, by rw [nz_f h9.2.2], h9.1, h9.2.1, rfl⟩, ?_⟩
  rintro _ I6 ⟨rfl, e9, hp1⟩; replace e9 := e9.symm; subst e9
  refine ⟨rfl, ?_⟩
  refine ⟨_, r_GC_0_5 h.1, _, h.2.1.1, _, hy.1, _, r_GC_0_2 h.1, s_Runner_0 (b_GC_82 h.1), ?_⟩
  refine ⟨_, cz_85 (p := a1.toNat) hV (b_GC_82 h.1) hl (PY_p h.1 hy) (b_GC_4 h.1) hD hW hS hC hy.2.2.1 hy.2.2.2.1 hwp hy.2.2.2.2 (by omega) (by omega) (by omega) (by omega) (by omega) (by omega), ?_⟩
  rintro _ I19 R21 ⟨rfl, hY9, hZ9, hR9⟩
  refine ⟨rfl, ?_⟩
  have hFS := FS_z hZ9 hlo
  have h24 := GX_24 h hR9
  have hrr := WR_rnr hW hC hwp (p := a1.toNat) (by omega)
  have hr1 := hrr.1
  have hr5 := hrr.2.2.2.2.1
  have hRa : RF (a0 + 82) [2, 3] R R21 := hR9
  have h := h24
  refine ⟨_, r_GC_0_5 h.1, s_Runner_0 (b_GC_82 h.1), _, r_Runner_0_1 (b_GC_82 h.1), s_Row_0 (b_GC_87 h.1), ?_⟩
  refine ⟨_, cz_73 hV (b_Runner_5 (b_GC_82 h.1)) hY9.2.2 (by omega), ?_⟩
  rintro _ I30 ⟨rfl, e9⟩; replace e9 := e9.symm; subst e9
  refine ⟨_, rfl, ?_⟩
  exact ⟨by rw [nz_t hp1], by rfl, hFS, hRa⟩
