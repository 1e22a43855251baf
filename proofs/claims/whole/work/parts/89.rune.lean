/-! ===== begin: the class ===== -/
/-- GrievingCamels.begin -/
theorem cz_182 {V : jx_V} (hV : V.1.stackTraces = false) {X : jx_X} {R : jx_R} {I : jx_I} {a0 : Nat} {ld : Nat} {l : LT} {c : CT} {y : Nat} {P : PLT}
    (h : GX X R I a0 ld l c) (hy : PY R I a0 y P) (hwp : WP l P)
    {QE : String → jx_I → jx_R → Prop} : jd V 202 182 (0, 0) [.ref a0] X I R (fun rv I' R' => rv = some (jy (bgn l c P (Ln l)).1) ∧ FS a0 I I' ∧ RF (a0 + 82) [2, 3] R R') QE := by
  have hW := h.2.2.2.1
  have hW0 := hW.1
  refine wm_182 hV   (fun J6 J62 hJJ => ?_)
  obtain ⟨hJ6, hJ62⟩ := hJJ
  have hl := GX_l h
  have hD := h.2.2.1; have hS := h.2.2.2.2.1; have hC := h.2.2.2.2.2.1; have hlo := h.2.1.2
  have hy2 := hy.2.1
  unfold wz_182
  have L6 : ∀ (n6 : Nat) (l1 : Int) (l2 : Int) (l3 : Int) (K : jx_I) (KR : jx_R), n6 = ((Ln l : Int) - l3).toNat → (∃ n : Nat, l3 = (n : Int) ∧ n ≤ Ln l ∧ l1 = (bgn l c P n).1 ∧ l2 = (bgn l c P n).2 ∧ FS a0 I K ∧ RF (a0 + 82) [2, 3] R KR) → J6 l1 l2 l3 K KR := by
    intro n6
    induction n6 using Nat.strongRecOn with
    | ind n6 ih6 =>
    intro l1 l2 l3 K KR hn6 hI6
    obtain ⟨n, rfl, hn, rfl, rfl, hF, hRK⟩ := hI6
    have hK := GX_24 (GX_s h hF) hRK
    have hyK := PY_s hy hF hRK
    have hbr := bgn_rng hW hC hwp n hn
    obtain ⟨h, hy⟩ : GX X KR K a0 ld l c ∧ PY KR K a0 y P := ⟨hK, hyK⟩
    have hl := GX_l h
    have hD := h.2.2.1
    have hS := h.2.2.2.2.1
    have h7 := hD.1.1
    refine hJ6 _ _ _ _ _ ?_
    unfold wz_182_6
    refine ⟨s_GC_0 h.1, _, h.2.1.1, s_Land_0 hl, by omega, ?_⟩
    refine ⟨fun hq1 => ?_, fun hq1 => ?_⟩
    · rw [show Ln l = n by omega]
      exact ⟨rfl, hF, hRK⟩
    · refine ⟨_, r_GC_0_5 h.1, _, hy.1, _, r_GC_0_2 h.1, s_Runner_0 (b_GC_82 h.1), ?_⟩
      refine ⟨_, cz_85 (p := n) hV (b_GC_82 h.1) hl (PY_p h.1 hy) (b_GC_4 h.1) hD hW hS hC hy.2.2.1 hy.2.2.2.1 hwp hy.2.2.2.2 (by omega) (by omega) (by omega) (by omega) (by omega) (by omega), ?_⟩
      rintro _ I15 R17 ⟨rfl, hY9, hZ9, hR9⟩
      refine ⟨rfl, ?_⟩
      have hFS := FS_trans hF (FS_z hZ9 hlo)
      have hRa := RF_trans hRK hR9
      have h24 := GX_24 h hR9
      have hrr := WR_rnr hW hC hwp (p := n) (by omega)
      have hr2 := hrr.2.1
      have hr4 := hrr.2.2.2.1
      have h67 := hY9.1.2.1
      have h := h24
      refine ⟨by omega, ?_⟩
      refine ⟨fun hq2 => ?_, fun hq2 => ?_⟩
      · refine ⟨_, r_GC_0_5 h.1, s_Runner_0 (b_GC_82 h.1), ?_⟩
        refine hJ62 _ _ _ _ _ ?_
        unfold wz_182_62
        exact ih6 _ (by omega) _ _ _ _ _ rfl (⟨n + 1, by omega, by omega, by unfold bgn; rw [if_neg (by omega)], by unfold bgn; rw [if_neg (by omega)]; exact h67, hFS, hRa⟩)
      · refine ⟨_, r_GC_0_5 h.1, s_Runner_0 (b_GC_82 h.1), by omega, ?_⟩
        refine ⟨fun hq3 => ?_, fun hq3 => ?_⟩
        · exact ih6 _ (by omega) _ _ _ _ _ rfl (⟨n + 1, by omega, by omega, by rw [show bgn l c P (n + 1) = bgn l c P n from if_pos (by omega)], by rw [show bgn l c P (n + 1) = bgn l c P n from if_pos (by omega)], hFS, hRa⟩)
        · refine hJ62 _ _ _ _ _ ?_
          unfold wz_182_62
          exact ih6 _ (by omega) _ _ _ _ _ rfl (⟨n + 1, by omega, by omega, by unfold bgn; rw [if_neg (by omega)], by unfold bgn; rw [if_neg (by omega)]; exact h67, hFS, hRa⟩)
  exact L6 _ _ _ _ _ _ rfl (⟨0, rfl, by omega, rfl, rfl, FS_refl, fun _ _ _ => rfl⟩)
