/-! ===== what is asked and answered, and the class ===== -/
theorem GD_g0 {g d : GT} {p c : Nat} {v : Int} (h : GD g d) (hv : 0 ≤ v ∧ v ≤ 20) : GD (gu g p c v) d := fun q e hq he => ⟨(GD_gu h hv hv q e hq he).1, (h q e hq he).2⟩
theorem nz_iff {P Q : Prop} [Decidable P] [Decidable Q] (h : P ↔ Q) {k : Nat} {e : Option Nat} : nz P k e = nz Q k e := by
  unfold nz
  by_cases hp : P
  · rw [if_pos hp, if_pos (h.mp hp)]
  · rw [if_neg hp, if_neg (fun q => hp (h.mpr q))]
theorem pc_1 : ∀ n, n < 256 → n ≠ 0 → 1 ≤ pc n := by decide +kernel
theorem pw_lt {a : Int} {m : Nat} (h : 0 ≤ a ∧ a < ((2 ^ m : Nat) : Int)) : a.toNat < 2 ^ m := by
  obtain ⟨P, hP⟩ : ∃ P, P = 2 ^ m := ⟨_, rfl⟩
  rw [← hP] at h ⊢
  omega
def oe_3 (s : YZ) (a1 : Int) : Option (Nat × Int) := nzw (0 ≤ a1 ∧ a1 ≤ 5) 2 1 (none)
noncomputable def ov_3 (s : YZ) (a1 : Int) : Int := (if a1 = 0 then (Ln (yz_l s) : Int) else if a1 = 1 then (Lm (yz_l s) : Int) else if a1 = 2 then ((CL (yz_c s)).length : Int) else if a1 = 3 then ((CJ (yz_c s)).length : Int) else if a1 = 4 then ((CN (yz_c s)).length : Int) else ((CU (yz_c s)).length : Int))
theorem kc_3 {V : jx_V} (hV : V.1.stackTraces = false) {X : jx_X} {R : jx_R} {I : jx_I} {a0 : Nat} {a1 : Int} {s : YZ} (h : CI X R I a0 s) (hg : ZG s) (r_a1 : -2147483648 ≤ a1 ∧ a1 < 2147483648) : jp V 9 138 (1, 6) [.ref a0, jy a1] X I R (KQ X R I a0 (oe_3 s a1) (jy (ov_3 s a1)) s) (KE X R I a0 (oe_3 s a1) s) := by
  have hh := h
  obtain ⟨ld, l2, y, y2, hG, hL, hYs, hY, hT, hF, hE, hI, hr⟩ := hh
  have hW := hg.1
  have hC := hg.2.1
  have hW1 := hW.1
  refine jp_c (cz_138 hV hG r_a1) (fun rv I' hq => ?_) (fun E I' hq => ?_)
  · obtain ⟨q0, q1, rfl⟩ := hq
    exact ⟨ec_n (by unfold oe_3; simp only [ec_w, ec_0, nz_and]) q0, q1, CI_s h hg FS_refl, hg, FB_s FS_refl⟩
  · obtain ⟨k, hq⟩ := hq
    exact KE_r h hg (by unfold oe_3; simp only [ec_w, ec_0, nz_and]) hq
def oe_4 (s : YZ) (a1 : Int) : Option (Nat × Int) := nzw (0 ≤ a1 ∧ a1 < (Ln (yz_l s) : Nat)) 0 1 (none)
noncomputable def ov_4 (s : YZ) (a1 : Int) : Int := (Lk (yz_l s) a1.toNat)
theorem kc_4 {V : jx_V} (hV : V.1.stackTraces = false) {X : jx_X} {R : jx_R} {I : jx_I} {a0 : Nat} {a1 : Int} {s : YZ} (h : CI X R I a0 s) (hg : ZG s) (r_a1 : -2147483648 ≤ a1 ∧ a1 < 2147483648) : jp V 9 139 (1, 6) [.ref a0, jy a1] X I R (KQ X R I a0 (oe_4 s a1) (jy (ov_4 s a1)) s) (KE X R I a0 (oe_4 s a1) s) := by
  have hh := h
  obtain ⟨ld, l2, y, y2, hG, hL, hYs, hY, hT, hF, hE, hI, hr⟩ := hh
  have hW := hg.1
  have hC := hg.2.1
  have hW1 := hW.1
  refine jp_c (cz_139 hV hG r_a1) (fun rv I' hq => ?_) (fun E I' hq => ?_)
  · obtain ⟨q0, q1, rfl⟩ := hq
    exact ⟨ec_n (by unfold oe_4; simp only [ec_w, ec_0, nz_and]) q0, q1, CI_s h hg FS_refl, hg, FB_s FS_refl⟩
  · obtain ⟨k, hq⟩ := hq
    exact KE_r h hg (by unfold oe_4; simp only [ec_w, ec_0, nz_and]) hq
def oe_5 (s : YZ) (a1 : Int) (a2 : Int) : Option (Nat × Int) := nzw ((0 ≤ a1 ∧ a1 < (Ln (yz_l s) : Nat)) ∧ (0 ≤ a2 ∧ a2 < (Ln (yz_l s) : Nat))) 0 1 (none)
noncomputable def ov_5 (s : YZ) (a1 : Int) (a2 : Int) : Int := (if Lr (yz_l s) a1.toNat a2.toNat = 0 then -1 else Lr (yz_l s) a1.toNat a2.toNat)
theorem kc_5 {V : jx_V} (hV : V.1.stackTraces = false) {X : jx_X} {R : jx_R} {I : jx_I} {a0 : Nat} {a1 : Int} {a2 : Int} {s : YZ} (h : CI X R I a0 s) (hg : ZG s) (r_a1 : -2147483648 ≤ a1 ∧ a1 < 2147483648) (r_a2 : -2147483648 ≤ a2 ∧ a2 < 2147483648) : jp V 9 140 (2, 12) [.ref a0, jy a1, jy a2] X I R (KQ X R I a0 (oe_5 s a1 a2) (jy (ov_5 s a1 a2)) s) (KE X R I a0 (oe_5 s a1 a2) s) := by
  have hh := h
  obtain ⟨ld, l2, y, y2, hG, hL, hYs, hY, hT, hF, hE, hI, hr⟩ := hh
  have hW := hg.1
  have hC := hg.2.1
  have hW1 := hW.1
  refine jp_c (cz_140 hV hG r_a1 r_a2) (fun rv I' hq => ?_) (fun E I' hq => ?_)
  · obtain ⟨q0, q1, rfl⟩ := hq
    exact ⟨ec_n (by unfold oe_5; simp only [ec_w, ec_0, nz_and]) q0, q1, CI_s h hg FS_refl, hg, FB_s FS_refl⟩
  · obtain ⟨k, hq⟩ := hq
    exact KE_r h hg (by unfold oe_5; simp only [ec_w, ec_0, nz_and]) hq
def oe_6 (s : YZ) (a1 : Int) (a2 : Int) : Option (Nat × Int) := nzw (0 ≤ a1 ∧ a1 < (Lm (yz_l s) : Nat)) 1 1 (nzw (0 ≤ a2 ∧ a2 ≤ 1) 2 2 (none))
noncomputable def ov_6 (s : YZ) (a1 : Int) (a2 : Int) : Int := (if a2 = 0 then Lp (yz_l s) a1.toNat else Lo (yz_l s) a1.toNat)
theorem kc_6 {V : jx_V} (hV : V.1.stackTraces = false) {X : jx_X} {R : jx_R} {I : jx_I} {a0 : Nat} {a1 : Int} {a2 : Int} {s : YZ} (h : CI X R I a0 s) (hg : ZG s) (r_a1 : -2147483648 ≤ a1 ∧ a1 < 2147483648) (r_a2 : -2147483648 ≤ a2 ∧ a2 < 2147483648) : jp V 10 141 (2, 12) [.ref a0, jy a1, jy a2] X I R (KQ X R I a0 (oe_6 s a1 a2) (jy (ov_6 s a1 a2)) s) (KE X R I a0 (oe_6 s a1 a2) s) := by
  have hh := h
  obtain ⟨ld, l2, y, y2, hG, hL, hYs, hY, hT, hF, hE, hI, hr⟩ := hh
  have hW := hg.1
  have hC := hg.2.1
  have hW1 := hW.1
  refine jp_c (cz_141 hV hG r_a1 r_a2) (fun rv I' hq => ?_) (fun E I' hq => ?_)
  · obtain ⟨q0, q1, rfl⟩ := hq
    exact ⟨ec_n (by unfold oe_6; simp only [ec_w, ec_0, nz_and]) q0, q1, CI_s h hg FS_refl, hg, FB_s FS_refl⟩
  · obtain ⟨k, hq⟩ := hq
    exact KE_r h hg (by unfold oe_6; simp only [ec_w, ec_0, nz_and]) hq
def oe_7 (s : YZ) (a1 : Int) (a2 : Int) (a3 : Int) : Option (Nat × Int) := nzw (0 ≤ a1 ∧ a1 < (Ln (yz_l s) : Nat)) 0 1 (nzw (0 ≤ a2 ∧ a2 < (Lm (yz_l s) : Nat)) 1 2 (nzw (0 ≤ a3 ∧ a3 ≤ 1) 2 3 (none)))
noncomputable def ov_7 (s : YZ) (a1 : Int) (a2 : Int) (a3 : Int) : Int := (if a3 = 0 then Cg (yz_c s) a1.toNat a2.toNat else Cd (yz_c s) a1.toNat a2.toNat)
theorem kc_7 {V : jx_V} (hV : V.1.stackTraces = false) {X : jx_X} {R : jx_R} {I : jx_I} {a0 : Nat} {a1 : Int} {a2 : Int} {a3 : Int} {s : YZ} (h : CI X R I a0 s) (hg : ZG s) (r_a1 : -2147483648 ≤ a1 ∧ a1 < 2147483648) (r_a2 : -2147483648 ≤ a2 ∧ a2 < 2147483648) (r_a3 : -2147483648 ≤ a3 ∧ a3 < 2147483648) : jp V 10 143 (3, 18) [.ref a0, jy a1, jy a2, jy a3] X I R (KQ X R I a0 (oe_7 s a1 a2 a3) (jy (ov_7 s a1 a2 a3)) s) (KE X R I a0 (oe_7 s a1 a2 a3) s) := by
  have hh := h
  obtain ⟨ld, l2, y, y2, hG, hL, hYs, hY, hT, hF, hE, hI, hr⟩ := hh
  have hW := hg.1
  have hC := hg.2.1
  have hW1 := hW.1
  refine jp_c (cz_143 hV hG r_a1 r_a2 r_a3) (fun rv I' hq => ?_) (fun E I' hq => ?_)
  · obtain ⟨q0, q1, rfl⟩ := hq
    exact ⟨ec_n (by unfold oe_7; simp only [ec_w, ec_0, nz_and]) q0, q1, CI_s h hg FS_refl, hg, FB_s FS_refl⟩
  · obtain ⟨k, hq⟩ := hq
    exact KE_r h hg (by unfold oe_7; simp only [ec_w, ec_0, nz_and]) hq
def oe_12 (s : YZ) (a1 : Int) : Option (Nat × Int) := nzw (0 ≤ a1 ∧ a1 < (Ln (yz_l s) : Nat)) 0 1 (none)
noncomputable def ov_12 (s : YZ) (a1 : Int) : Int := (hlt (Lc (yz_l s)) ((CL (yz_c s)).map (Cg (yz_c s) a1.toNat)) (nd (Lk (yz_l s) a1.toNat)))
theorem kc_12 {V : jx_V} (hV : V.1.stackTraces = false) {X : jx_X} {R : jx_R} {I : jx_I} {a0 : Nat} {a1 : Int} {s : YZ} (h : CI X R I a0 s) (hg : ZG s) (r_a1 : -2147483648 ≤ a1 ∧ a1 < 2147483648) : jp V 9 148 (1, 6) [.ref a0, jy a1] X I R (KQ X R I a0 (oe_12 s a1) (jy (ov_12 s a1)) s) (KE X R I a0 (oe_12 s a1) s) := by
  have hh := h
  obtain ⟨ld, l2, y, y2, hG, hL, hYs, hY, hT, hF, hE, hI, hr⟩ := hh
  have hW := hg.1
  have hC := hg.2.1
  have hW1 := hW.1
  refine jp_c (cz_148 hV hG r_a1) (fun rv I' hq => ?_) (fun E I' hq => ?_)
  · obtain ⟨q0, q1, q2⟩ := hq
    exact ⟨ec_n (by unfold oe_12; simp only [ec_w, ec_0, nz_and]) q0, q1, CI_s h hg q2, hg, FB_s q2⟩
  · obtain ⟨k, hq⟩ := hq
    exact KE_r h hg (by unfold oe_12; simp only [ec_w, ec_0, nz_and]) hq
def oe_13 (s : YZ) (a1 : Int) (a2 : Int) : Option (Nat × Int) := nzw (0 ≤ a1 ∧ a1 < (Ln (yz_l s) : Nat)) 0 1 (nzw (0 ≤ a2 ∧ a2 ≤ 4) 2 2 (none))
noncomputable def ov_13 (s : YZ) (a1 : Int) (a2 : Int) : Int := (vl ((CL (yz_c s)).map (Cg (yz_c s) a1.toNat)) a2.toNat)
theorem kc_13 {V : jx_V} (hV : V.1.stackTraces = false) {X : jx_X} {R : jx_R} {I : jx_I} {a0 : Nat} {a1 : Int} {a2 : Int} {s : YZ} (h : CI X R I a0 s) (hg : ZG s) (r_a1 : -2147483648 ≤ a1 ∧ a1 < 2147483648) (r_a2 : -2147483648 ≤ a2 ∧ a2 < 2147483648) : jp V 10 149 (2, 12) [.ref a0, jy a1, jy a2] X I R (KQ X R I a0 (oe_13 s a1 a2) (jy (ov_13 s a1 a2)) s) (KE X R I a0 (oe_13 s a1 a2) s) := by
  have hh := h
  obtain ⟨ld, l2, y, y2, hG, hL, hYs, hY, hT, hF, hE, hI, hr⟩ := hh
  have hW := hg.1
  have hC := hg.2.1
  have hW1 := hW.1
  refine jp_c (cz_149 hV hG r_a1 r_a2) (fun rv I' hq => ?_) (fun E I' hq => ?_)
  · obtain ⟨q0, q1, q2⟩ := hq
    exact ⟨ec_n (by unfold oe_13; simp only [ec_w, ec_0, nz_and]) q0, q1, CI_s h hg q2, hg, FB_s q2⟩
  · obtain ⟨k, hq⟩ := hq
    exact KE_r h hg (by unfold oe_13; simp only [ec_w, ec_0, nz_and]) hq
def oe_14 (s : YZ) (a1 : Int) (a2 : Int) : Option (Nat × Int) := nzw (0 ≤ a1 ∧ a1 < (Ln (yz_l s) : Nat)) 0 1 (nzw (0 ≤ a2 ∧ a2 < ((2 ^ Lm (yz_l s) : Nat) : Int)) 2 2 (none))
noncomputable def ov_14 (s : YZ) (a1 : Int) (a2 : Int) : Int := (hlt (Lc (yz_l s)) ((bl a2.toNat (Lm (yz_l s))).map (Cg (yz_c s) a1.toNat)) (nd (Lk (yz_l s) a1.toNat)))
theorem kc_14 {V : jx_V} (hV : V.1.stackTraces = false) {X : jx_X} {R : jx_R} {I : jx_I} {a0 : Nat} {a1 : Int} {a2 : Int} {s : YZ} (h : CI X R I a0 s) (hg : ZG s) (r_a1 : -2147483648 ≤ a1 ∧ a1 < 2147483648) (r_a2 : -2147483648 ≤ a2 ∧ a2 < 2147483648) : jp V 9 150 (2, 12) [.ref a0, jy a1, jy a2] X I R (KQ X R I a0 (oe_14 s a1 a2) (jy (ov_14 s a1 a2)) s) (KE X R I a0 (oe_14 s a1 a2) s) := by
  have hh := h
  obtain ⟨ld, l2, y, y2, hG, hL, hYs, hY, hT, hF, hE, hI, hr⟩ := hh
  have hW := hg.1
  have hC := hg.2.1
  have hW1 := hW.1
  refine jp_c (cz_150 hV hG r_a1 r_a2) (fun rv I' hq => ?_) (fun E I' hq => ?_)
  · obtain ⟨q0, q1, q2⟩ := hq
    exact ⟨ec_n (by unfold oe_14; simp only [ec_w, ec_0, nz_and]) q0, q1.trans (by unfold ov_14; rw [bl_top (pw_lt (nz_s (nz_s q0).2).1) 8 hW1.2]), CI_s h hg q2, hg, FB_s q2⟩
  · obtain ⟨k, hq⟩ := hq
    exact KE_r h hg (by unfold oe_14; simp only [ec_w, ec_0, nz_and]) hq
def oe_17 (s : YZ) (a1 : Int) : Option (Nat × Int) := nzw (0 ≤ a1 ∧ a1 ≤ 2) 2 1 (nzw (CJ (yz_c s) ≠ []) 3 2 (none))
noncomputable def ov_17 (s : YZ) (a1 : Int) : Int := (if a1 = 0 then hrs (yz_l s) (CJ (yz_c s)) (CL (yz_c s)) (Cg (yz_c s)) (Cd (yz_c s)) else if a1 = 1 then rs (Lr (yz_l s)) (CJ (yz_c s)) ((CJ (yz_c s)).length - 1) else jhs (yz_l s) (CJ (yz_c s)) (CL (yz_c s)) (Cg (yz_c s)) (Cd (yz_c s)) ((CJ (yz_c s)).length - 1))
theorem kc_17 {V : jx_V} (hV : V.1.stackTraces = false) {X : jx_X} {R : jx_R} {I : jx_I} {a0 : Nat} {a1 : Int} {s : YZ} (h : CI X R I a0 s) (hg : ZG s) (r_a1 : -2147483648 ≤ a1 ∧ a1 < 2147483648) : jp V 10 154 (2, 12) [.ref a0, jy a1] X I R (KQ X R I a0 (oe_17 s a1) (jy (ov_17 s a1)) s) (KE X R I a0 (oe_17 s a1) s) := by
  have hh := h
  obtain ⟨ld, l2, y, y2, hG, hL, hYs, hY, hT, hF, hE, hI, hr⟩ := hh
  have hW := hg.1
  have hC := hg.2.1
  have hW1 := hW.1
  refine jp_c (cz_154 hV hG r_a1) (fun rv I' hq => ?_) (fun E I' hq => ?_)
  · obtain ⟨q0, q1, q2⟩ := hq
    exact ⟨ec_n (by unfold oe_17; simp only [ec_w, ec_0, nz_and]) q0, q1, CI_s h hg q2, hg, FB_s q2⟩
  · obtain ⟨k, hq⟩ := hq
    exact KE_r h hg (by unfold oe_17; simp only [ec_w, ec_0, nz_and]) hq
def oe_18 (s : YZ) (a1 : Int) : Option (Nat × Int) := nzw (CJ (yz_c s) ≠ []) 3 1 (none)
noncomputable def ov_18 (s : YZ) (a1 : Int) : Int := (if 0 ≤ a1 ∧ a1 < (CJ (yz_c s)).length then (if a1 = 0 then 0 else jht (yz_l s) (CJ (yz_c s)) (CL (yz_c s)) (Cg (yz_c s)) (Cd (yz_c s)) (a1.toNat - 1)) else -1)
theorem kc_18 {V : jx_V} (hV : V.1.stackTraces = false) {X : jx_X} {R : jx_R} {I : jx_I} {a0 : Nat} {a1 : Int} {s : YZ} (h : CI X R I a0 s) (hg : ZG s) (r_a1 : -2147483648 ≤ a1 ∧ a1 < 2147483648) : jp V 9 155 (1, 6) [.ref a0, jy a1] X I R (KQ X R I a0 (oe_18 s a1) (jy (ov_18 s a1)) s) (KE X R I a0 (oe_18 s a1) s) := by
  have hh := h
  obtain ⟨ld, l2, y, y2, hG, hL, hYs, hY, hT, hF, hE, hI, hr⟩ := hh
  have hW := hg.1
  have hC := hg.2.1
  have hW1 := hW.1
  refine jp_c (cz_155 hV hG r_a1) (fun rv I' hq => ?_) (fun E I' hq => ?_)
  · obtain ⟨q0, q1, q2⟩ := hq
    exact ⟨ec_n (by unfold oe_18; simp only [ec_w, ec_0, nz_and]) q0, q1, CI_s h hg q2, hg, FB_s q2⟩
  · obtain ⟨k, hq⟩ := hq
    exact KE_r h hg (by unfold oe_18; simp only [ec_w, ec_0, nz_and]) hq
def oe_19 (s : YZ) (a1 : Int) : Option (Nat × Int) := nzw (CJ (yz_c s) ≠ []) 3 1 (none)
noncomputable def ov_19 (s : YZ) (a1 : Int) : Int := (if 1 ≤ a1 ∧ a1 < (CJ (yz_c s)).length then (mgr ((jst (yz_l s) (CJ (yz_c s)) (CL (yz_c s)) (Cg (yz_c s)) (Cd (yz_c s)) (a1.toNat - 1)).1 ((CJ (yz_c s)).getD a1.toNat 0)) (CL (yz_c s))).2 else -1)
theorem kc_19 {V : jx_V} (hV : V.1.stackTraces = false) {X : jx_X} {R : jx_R} {I : jx_I} {a0 : Nat} {a1 : Int} {s : YZ} (h : CI X R I a0 s) (hg : ZG s) (r_a1 : -2147483648 ≤ a1 ∧ a1 < 2147483648) : jp V 9 156 (1, 6) [.ref a0, jy a1] X I R (KQ X R I a0 (oe_19 s a1) (jy (ov_19 s a1)) s) (KE X R I a0 (oe_19 s a1) s) := by
  have hh := h
  obtain ⟨ld, l2, y, y2, hG, hL, hYs, hY, hT, hF, hE, hI, hr⟩ := hh
  have hW := hg.1
  have hC := hg.2.1
  have hW1 := hW.1
  refine jp_c (cz_156 hV hG r_a1) (fun rv I' hq => ?_) (fun E I' hq => ?_)
  · obtain ⟨q0, q1, q2⟩ := hq
    exact ⟨ec_n (by unfold oe_19; simp only [ec_w, ec_0, nz_and]) q0, q1, CI_s h hg q2, hg, FB_s q2⟩
  · obtain ⟨k, hq⟩ := hq
    exact KE_r h hg (by unfold oe_19; simp only [ec_w, ec_0, nz_and]) hq
def oe_22 (s : YZ) (a1 : Int) (a2 : Int) (a3 : Int) : Option (Nat × Int) := nzw ((0 ≤ a1 ∧ a1 < (Ln (yz_l s) : Nat)) ∧ (0 ≤ a2 ∧ a2 < (Ln (yz_l s) : Nat))) 0 1 (nzw (0 ≤ a3 ∧ a3 ≤ 2) 2 2 (none))
noncomputable def ov_22 (s : YZ) (a1 : Int) (a2 : Int) (a3 : Int) : Int64 := (lsa (yz_l s) (yz_c s) a1.toNat a2.toNat a3)
theorem kc_22 {V : jx_V} (hV : V.1.stackTraces = false) {X : jx_X} {R : jx_R} {I : jx_I} {a0 : Nat} {a1 : Int} {a2 : Int} {a3 : Int} {s : YZ} (h : CI X R I a0 s) (hg : ZG s) (r_a1 : -2147483648 ≤ a1 ∧ a1 < 2147483648) (r_a2 : -2147483648 ≤ a2 ∧ a2 < 2147483648) (r_a3 : -2147483648 ≤ a3 ∧ a3 < 2147483648) : jp V 10 163 (3, 18) [.ref a0, jy a1, jy a2, jy a3] X I R (KQ X R I a0 (oe_22 s a1 a2 a3) (.long (ov_22 s a1 a2 a3)) s) (KE X R I a0 (oe_22 s a1 a2 a3) s) := by
  have hh := h
  obtain ⟨ld, l2, y, y2, hG, hL, hYs, hY, hT, hF, hE, hI, hr⟩ := hh
  have hW := hg.1
  have hC := hg.2.1
  have hW1 := hW.1
  refine jp_c (cz_163 hV hG r_a1 r_a2 r_a3) (fun rv I' hq => ?_) (fun E I' hq => ?_)
  · obtain ⟨q0, q1, q2⟩ := hq
    exact ⟨ec_n (by unfold oe_22; simp only [ec_w, ec_0, nz_and]) q0, q1, CI_s h hg q2, hg, FB_s q2⟩
  · obtain ⟨k, hq⟩ := hq
    exact KE_r h hg (by unfold oe_22; simp only [ec_w, ec_0, nz_and]) hq
def oe_23 (s : YZ) (a1 : Int) (a2 : Int) : Option (Nat × Int) := nzw (((0 ≤ a1 ∧ a1 < ((2 ^ Lm (yz_l s) : Nat) : Int)) ∧ (1 ≤ (pc a1.toNat : Int) ∧ (pc a1.toNat : Int) ≤ 6) ∧ (0 ≤ a2 ∧ a2 ≤ 1))) 2 1 (nzw (CJ (yz_c s) ≠ []) 3 2 (none))
noncomputable def ov_23 (s : YZ) (a1 : Int) (a2 : Int) : Int := (roa (yz_l s) (yz_c s) a1.toNat a2)
theorem kc_23 {V : jx_V} (hV : V.1.stackTraces = false) {X : jx_X} {R : jx_R} {I : jx_I} {a0 : Nat} {a1 : Int} {a2 : Int} {s : YZ} (h : CI X R I a0 s) (hg : ZG s) (r_a1 : -2147483648 ≤ a1 ∧ a1 < 2147483648) (r_a2 : -2147483648 ≤ a2 ∧ a2 < 2147483648) : jp V 10 166 (3, 18) [.ref a0, jy a1, jy a2] X I R (KQ X R I a0 (oe_23 s a1 a2) (jy (ov_23 s a1 a2)) s) (KE X R I a0 (oe_23 s a1 a2) s) := by
  have hh := h
  obtain ⟨ld, l2, y, y2, hG, hL, hYs, hY, hT, hF, hE, hI, hr⟩ := hh
  have hW := hg.1
  have hC := hg.2.1
  have hW1 := hW.1
  have hec : ec (oe_23 s a1 a2) = nz (a1 ≠ 0 ∧ (0 ≤ a1 ∧ a1 < ((2 ^ Lm (yz_l s) : Nat) : Int)) ∧ pc a1.toNat ≤ 6) 2 (nz (0 ≤ a2 ∧ a2 ≤ 1) 2 (nz (CJ (yz_c s) ≠ []) 3 (none))) := by
    unfold oe_23
    rw [ec_w, ec_w, ec_0]
    have hp8 : 2 ^ Lm (yz_l s) ≤ 2 ^ 8 := Nat.pow_le_pow_right (by omega) hW1.2
    rw [nz_iff (Q := (a1 ≠ 0 ∧ (0 ≤ a1 ∧ a1 < ((2 ^ Lm (yz_l s) : Nat) : Int)) ∧ pc a1.toNat ≤ 6) ∧ (0 ≤ a2 ∧ a2 ≤ 1)), nz_and]
    constructor
    · rintro ⟨c1, c2, c3⟩
      refine ⟨⟨fun c0 => ?_, c1, by omega⟩, c3⟩
      have c4 := c2.1
      rw [c0] at c4
      exact absurd c4 (by decide)
    · rintro ⟨⟨c0, c1, c2⟩, c3⟩
      have c4 := pw_lt c1
      have c5 := pc_1 a1.toNat (by omega) (by omega)
      exact ⟨c1, ⟨by omega, by omega⟩, c3⟩
  refine jp_c (cz_166 hV hG r_a1 r_a2) (fun rv I' hq => ?_) (fun E I' hq => ?_)
  · obtain ⟨q0, q1, q2⟩ := hq
    exact ⟨ec_n hec q0, q1, CI_s h hg q2, hg, FB_s q2⟩
  · obtain ⟨k, hq⟩ := hq
    exact KE_r h hg hec hq
def oe_24 (s : YZ) (a1 : Int) : Option (Nat × Int) := nzw (0 ≤ a1 ∧ a1 ≤ 1) 2 1 (nzw (CJ (yz_c s) ≠ []) 3 2 (none))
noncomputable def ov_24 (s : YZ) (a1 : Int) : Int := (if CL (yz_c s) = [] then 0 else if a1 = 0 then (ptf (yz_l s) (yz_c s) (2 ^ (CL (yz_c s)).getD 0 0) (bo (CL (yz_c s)) + 1 - (2 ^ (CL (yz_c s)).getD 0 0))).1 else ((ptf (yz_l s) (yz_c s) (2 ^ (CL (yz_c s)).getD 0 0) (bo (CL (yz_c s)) + 1 - (2 ^ (CL (yz_c s)).getD 0 0))).2 : Nat))
theorem kc_24 {V : jx_V} (hV : V.1.stackTraces = false) {X : jx_X} {R : jx_R} {I : jx_I} {a0 : Nat} {a1 : Int} {s : YZ} (h : CI X R I a0 s) (hg : ZG s) (r_a1 : -2147483648 ≤ a1 ∧ a1 < 2147483648) : jp V 10 167 (2, 12) [.ref a0, jy a1] X I R (KQ X R I a0 (oe_24 s a1) (jy (ov_24 s a1)) s) (KE X R I a0 (oe_24 s a1) s) := by
  have hh := h
  obtain ⟨ld, l2, y, y2, hG, hL, hYs, hY, hT, hF, hE, hI, hr⟩ := hh
  have hW := hg.1
  have hC := hg.2.1
  have hW1 := hW.1
  refine jp_c (cz_167 hV hG r_a1) (fun rv I' hq => ?_) (fun E I' hq => ?_)
  · obtain ⟨q0, q1, q2⟩ := hq
    exact ⟨ec_n (by unfold oe_24; simp only [ec_w, ec_0, nz_and]) q0, q1, CI_s h hg q2, hg, FB_s q2⟩
  · obtain ⟨k, hq⟩ := hq
    exact KE_r h hg (by unfold oe_24; simp only [ec_w, ec_0, nz_and]) hq
def oe_25 (s : YZ) (a1 : Int) : Option (Nat × Int) := nzw (0 ≤ a1 ∧ a1 ≤ 1) 2 1 (nzw (CJ (yz_c s) ≠ []) 3 2 (none))
noncomputable def ov_25 (s : YZ) (a1 : Int) : Int := (if a1 = 0 then (slf (yz_l s) (yz_c s) (CL (yz_c s))).1 else (slf (yz_l s) (yz_c s) (CL (yz_c s))).2)
theorem kc_25 {V : jx_V} (hV : V.1.stackTraces = false) {X : jx_X} {R : jx_R} {I : jx_I} {a0 : Nat} {a1 : Int} {s : YZ} (h : CI X R I a0 s) (hg : ZG s) (r_a1 : -2147483648 ≤ a1 ∧ a1 < 2147483648) : jp V 10 168 (2, 12) [.ref a0, jy a1] X I R (KQ X R I a0 (oe_25 s a1) (jy (ov_25 s a1)) s) (KE X R I a0 (oe_25 s a1) s) := by
  have hh := h
  obtain ⟨ld, l2, y, y2, hG, hL, hYs, hY, hT, hF, hE, hI, hr⟩ := hh
  have hW := hg.1
  have hC := hg.2.1
  have hW1 := hW.1
  refine jp_c (cz_168 hV hG r_a1) (fun rv I' hq => ?_) (fun E I' hq => ?_)
  · obtain ⟨q0, q1, q2⟩ := hq
    exact ⟨ec_n (by unfold oe_25; simp only [ec_w, ec_0, nz_and]) q0, q1, CI_s h hg q2, hg, FB_s q2⟩
  · obtain ⟨k, hq⟩ := hq
    exact KE_r h hg (by unfold oe_25; simp only [ec_w, ec_0, nz_and]) hq
def oe_26 (s : YZ) (a1 : Int) : Option (Nat × Int) := nzw (0 ≤ a1 ∧ a1 ≤ 1) 2 1 (nzw (CJ (yz_c s) ≠ []) 3 2 (none))
noncomputable def ov_26 (s : YZ) (a1 : Int) : Int := (if a1 = 0 then (hlf (yz_l s) (yz_c s) (Ln (yz_l s))).1 else (hlf (yz_l s) (yz_c s) (Ln (yz_l s))).2)
theorem kc_26 {V : jx_V} (hV : V.1.stackTraces = false) {X : jx_X} {R : jx_R} {I : jx_I} {a0 : Nat} {a1 : Int} {s : YZ} (h : CI X R I a0 s) (hg : ZG s) (r_a1 : -2147483648 ≤ a1 ∧ a1 < 2147483648) : jp V 10 169 (2, 12) [.ref a0, jy a1] X I R (KQ X R I a0 (oe_26 s a1) (jy (ov_26 s a1)) s) (KE X R I a0 (oe_26 s a1) s) := by
  have hh := h
  obtain ⟨ld, l2, y, y2, hG, hL, hYs, hY, hT, hF, hE, hI, hr⟩ := hh
  have hW := hg.1
  have hC := hg.2.1
  have hW1 := hW.1
  refine jp_c (cz_169 hV hG r_a1) (fun rv I' hq => ?_) (fun E I' hq => ?_)
  · obtain ⟨q0, q1, q2⟩ := hq
    exact ⟨ec_n (by unfold oe_26; simp only [ec_w, ec_0, nz_and]) q0, q1, CI_s h hg q2, hg, FB_s q2⟩
  · obtain ⟨k, hq⟩ := hq
    exact KE_r h hg (by unfold oe_26; simp only [ec_w, ec_0, nz_and]) hq
def oe_30 (s : YZ) (a1 : Int) (a2 : Int) : Option (Nat × Int) := nzw (((0 ≤ a1 ∧ a1 < ((2 ^ Lm (yz_l s) : Nat) : Int)) ∧ (0 ≤ a2 ∧ a2 < ((2 ^ Lm (yz_l s) : Nat) : Int))) ∧ a1.toNat &&& a2.toNat = 0) 2 1 (none)
noncomputable def ov_30 (s : YZ) (a1 : Int) (a2 : Int) : Int := (cpv (yz_l s) (Cg (yz_c s)) a1.toNat a2.toNat (Ln (yz_l s)))
theorem kc_30 {V : jx_V} (hV : V.1.stackTraces = false) {X : jx_X} {R : jx_R} {I : jx_I} {a0 : Nat} {a1 : Int} {a2 : Int} {s : YZ} (h : CI X R I a0 s) (hg : ZG s) (r_a1 : -2147483648 ≤ a1 ∧ a1 < 2147483648) (r_a2 : -2147483648 ≤ a2 ∧ a2 < 2147483648) : jp V 9 177 (2, 12) [.ref a0, jy a1, jy a2] X I R (KQ X R I a0 (oe_30 s a1 a2) (jy (ov_30 s a1 a2)) s) (KE X R I a0 (oe_30 s a1 a2) s) := by
  have hh := h
  obtain ⟨ld, l2, y, y2, hG, hL, hYs, hY, hT, hF, hE, hI, hr⟩ := hh
  have hW := hg.1
  have hC := hg.2.1
  have hW1 := hW.1
  refine jp_c (cz_177 hV hG r_a1 r_a2) (fun rv I' hq => ?_) (fun E I' hq => ?_)
  · obtain ⟨q0, q1, rfl⟩ := hq
    exact ⟨ec_n (by unfold oe_30; simp only [ec_w, ec_0, nz_and]) q0, q1, CI_s h hg FS_refl, hg, FB_s FS_refl⟩
  · obtain ⟨k, hq⟩ := hq
    exact KE_r h hg (by unfold oe_30; simp only [ec_w, ec_0, nz_and]) hq
def oe_31 (s : YZ) (a1 : Int) : Option (Nat × Int) := nzw (0 ≤ a1 ∧ a1 ≤ 99) 2 1 (nzw (CJ (yz_c s) ≠ []) 3 2 (none))
noncomputable def ov_31 (s : YZ) (a1 : Int) : Int := (ff (fun i => decide (a1 ≤ jhs (yz_l s) (CJ (yz_c s)) (CL (yz_c s)) (Cg (yz_c s)) (Cd (yz_c s)) i)) ((CJ (yz_c s)).length - 1) 0)
theorem kc_31 {V : jx_V} (hV : V.1.stackTraces = false) {X : jx_X} {R : jx_R} {I : jx_I} {a0 : Nat} {a1 : Int} {s : YZ} (h : CI X R I a0 s) (hg : ZG s) (r_a1 : -2147483648 ≤ a1 ∧ a1 < 2147483648) : jp V 9 160 (2, 12) [.ref a0, jy a1] X I R (KQ X R I a0 (oe_31 s a1) (jy (ov_31 s a1)) s) (KE X R I a0 (oe_31 s a1) s) := by
  have hh := h
  obtain ⟨ld, l2, y, y2, hG, hL, hYs, hY, hT, hF, hE, hI, hr⟩ := hh
  have hW := hg.1
  have hC := hg.2.1
  have hW1 := hW.1
  refine jp_c (cz_160 hV hG r_a1) (fun rv I' hq => ?_) (fun E I' hq => ?_)
  · obtain ⟨q0, q1, q2⟩ := hq
    exact ⟨ec_n (by unfold oe_31; simp only [ec_w, ec_0, nz_and]) q0, q1, CI_s h hg q2, hg, FB_s q2⟩
  · obtain ⟨k, hq⟩ := hq
    exact KE_r h hg (by unfold oe_31; simp only [ec_w, ec_0, nz_and]) hq
def oe_32 (s : YZ) (a1 : Int) (a2 : Int) : Option (Nat × Int) := nzw (0 ≤ a2 ∧ a2 ≤ 8) 2 1 (nzw (CJ (yz_c s) ≠ []) 3 2 (none))
noncomputable def ov_32 (s : YZ) (a1 : Int) (a2 : Int) : Int := (dbt (yz_l s) (yz_c s) a1 a2)
theorem kc_32 {V : jx_V} (hV : V.1.stackTraces = false) {X : jx_X} {R : jx_R} {I : jx_I} {a0 : Nat} {a1 : Int} {a2 : Int} {s : YZ} (h : CI X R I a0 s) (hg : ZG s) (r_a1 : -2147483648 ≤ a1 ∧ a1 < 2147483648) (r_a2 : -2147483648 ≤ a2 ∧ a2 < 2147483648) : jp V 10 161 (2, 12) [.ref a0, jy a1, jy a2] X I R (KQ X R I a0 (oe_32 s a1 a2) (jy (ov_32 s a1 a2)) s) (KE X R I a0 (oe_32 s a1 a2) s) := by
  have hh := h
  obtain ⟨ld, l2, y, y2, hG, hL, hYs, hY, hT, hF, hE, hI, hr⟩ := hh
  have hW := hg.1
  have hC := hg.2.1
  have hW1 := hW.1
  refine jp_c (cz_161 hV hG r_a1 r_a2) (fun rv I' hq => ?_) (fun E I' hq => ?_)
  · obtain ⟨q0, q1, q2⟩ := hq
    exact ⟨ec_n (by unfold oe_32; simp only [ec_w, ec_0, nz_and]) q0, q1, CI_s h hg q2, hg, FB_s q2⟩
  · obtain ⟨k, hq⟩ := hq
    exact KE_r h hg (by unfold oe_32; simp only [ec_w, ec_0, nz_and]) hq
def oe_33 (s : YZ) (a1 : Int) (a2 : Int) (a3 : Int) (a4 : Int) : Option (Nat × Int) := nzw ((0 ≤ a2 ∧ a2 ≤ 8) ∧ (1 ≤ a3 ∧ a3 ≤ 60) ∧ (0 ≤ a4 ∧ a4 ≤ 2)) 2 1 (nzw (CJ (yz_c s) ≠ []) 3 2 (none))
noncomputable def ov_33 (s : YZ) (a1 : Int) (a2 : Int) (a3 : Int) (a4 : Int) : Int := (if a4 = 0 then spl (fun k => dbt (yz_l s) (yz_c s) (a1 + k) a2) a3.toNat else if a4 = 1 then spg (fun k => dbt (yz_l s) (yz_c s) (a1 + k) a2) a3.toNat else spa (fun k => dbt (yz_l s) (yz_c s) (a1 + k) a2) a3.toNat)
theorem kc_33 {V : jx_V} (hV : V.1.stackTraces = false) {X : jx_X} {R : jx_R} {I : jx_I} {a0 : Nat} {a1 : Int} {a2 : Int} {a3 : Int} {a4 : Int} {s : YZ} (h : CI X R I a0 s) (hg : ZG s) (r_a1 : -2147483648 ≤ a1 ∧ a1 < 2147483648) (r_a2 : -2147483648 ≤ a2 ∧ a2 < 2147483648) (r_a3 : -2147483648 ≤ a3 ∧ a3 < 2147483648) (r_a4 : -2147483648 ≤ a4 ∧ a4 < 2147483648) : jp V 10 162 (4, 24) [.ref a0, jy a1, jy a2, jy a3, jy a4] X I R (KQ X R I a0 (oe_33 s a1 a2 a3 a4) (jy (ov_33 s a1 a2 a3 a4)) s) (KE X R I a0 (oe_33 s a1 a2 a3 a4) s) := by
  have hh := h
  obtain ⟨ld, l2, y, y2, hG, hL, hYs, hY, hT, hF, hE, hI, hr⟩ := hh
  have hW := hg.1
  have hC := hg.2.1
  have hW1 := hW.1
  refine jp_c (cz_162 hV hG r_a1 r_a2 r_a3 r_a4) (fun rv I' hq => ?_) (fun E I' hq => ?_)
  · obtain ⟨q0, q1, q2⟩ := hq
    exact ⟨ec_n (by unfold oe_33; simp only [ec_w, ec_0, nz_and]) q0, q1, CI_s h hg q2, hg, FB_s q2⟩
  · obtain ⟨k, hq⟩ := hq
    exact KE_r h hg (by unfold oe_33; simp only [ec_w, ec_0, nz_and]) hq
def oe_39 (s : YZ) (a1 : Int) (a2 : Int) (a3 : Int) : Option (Nat × Int) := nzw (0 ≤ a1 ∧ a1 < (Ln (yz_l s) : Nat)) 0 1 (nzw ((0 ≤ a2 ∧ a2 ≤ 999) ∧ (0 ≤ a3 ∧ a3 ≤ 1)) 2 2 (none))
noncomputable def ov_39 (s : YZ) (a1 : Int) (a2 : Int) (a3 : Int) : Int := (if a3 = 0 then (pc (vst (yz_l s) (yz_c s) a1.toNat a2) : Nat) else (vst (yz_l s) (yz_c s) a1.toNat a2 : Nat))
theorem kc_39 {V : jx_V} (hV : V.1.stackTraces = false) {X : jx_X} {R : jx_R} {I : jx_I} {a0 : Nat} {a1 : Int} {a2 : Int} {a3 : Int} {s : YZ} (h : CI X R I a0 s) (hg : ZG s) (r_a1 : -2147483648 ≤ a1 ∧ a1 < 2147483648) (r_a2 : -2147483648 ≤ a2 ∧ a2 < 2147483648) (r_a3 : -2147483648 ≤ a3 ∧ a3 < 2147483648) : jp V 10 165 (3, 18) [.ref a0, jy a1, jy a2, jy a3] X I R (KQ X R I a0 (oe_39 s a1 a2 a3) (jy (ov_39 s a1 a2 a3)) s) (KE X R I a0 (oe_39 s a1 a2 a3) s) := by
  have hh := h
  obtain ⟨ld, l2, y, y2, hG, hL, hYs, hY, hT, hF, hE, hI, hr⟩ := hh
  have hW := hg.1
  have hC := hg.2.1
  have hW1 := hW.1
  refine jp_c (cz_165 hV hG r_a1 r_a2 r_a3) (fun rv I' hq => ?_) (fun E I' hq => ?_)
  · obtain ⟨q0, q1, q2⟩ := hq
    exact ⟨ec_n (by unfold oe_39; simp only [ec_w, ec_0, nz_and]) q0, q1, CI_s h hg q2, hg, FB_s q2⟩
  · obtain ⟨k, hq⟩ := hq
    exact KE_r h hg (by unfold oe_39; simp only [ec_w, ec_0, nz_and]) hq
def oe_40 (s : YZ) (a1 : Int) : Option (Nat × Int) := nzw (0 ≤ a1 ∧ a1 ≤ 1) 2 1 (none)
noncomputable def ov_40 (s : YZ) (a1 : Int) : Int := (if a1 = 0 then (wdo (yz_l s) (hh (yz_l s) (yz_c s)) (Ln (yz_l s))).1 else (wdo (yz_l s) (hh (yz_l s) (yz_c s)) (Ln (yz_l s))).2)
theorem kc_40 {V : jx_V} (hV : V.1.stackTraces = false) {X : jx_X} {R : jx_R} {I : jx_I} {a0 : Nat} {a1 : Int} {s : YZ} (h : CI X R I a0 s) (hg : ZG s) (r_a1 : -2147483648 ≤ a1 ∧ a1 < 2147483648) : jp V 10 164 (1, 6) [.ref a0, jy a1] X I R (KQ X R I a0 (oe_40 s a1) (jy (ov_40 s a1)) s) (KE X R I a0 (oe_40 s a1) s) := by
  have hh := h
  obtain ⟨ld, l2, y, y2, hG, hL, hYs, hY, hT, hF, hE, hI, hr⟩ := hh
  have hW := hg.1
  have hC := hg.2.1
  have hW1 := hW.1
  refine jp_c (cz_164 hV hG r_a1) (fun rv I' hq => ?_) (fun E I' hq => ?_)
  · obtain ⟨q0, q1, q2⟩ := hq
    exact ⟨ec_n (by unfold oe_40; simp only [ec_w, ec_0, nz_and]) q0, q1, CI_s h hg q2, hg, FB_s q2⟩
  · obtain ⟨k, hq⟩ := hq
    exact KE_r h hg (by unfold oe_40; simp only [ec_w, ec_0, nz_and]) hq
def oe_41 (s : YZ) (a1 : Int) (a2 : Int) : Option (Nat × Int) := nzw (0 ≤ a1 ∧ a1 < (Ln (yz_l s) : Nat)) 0 1 (nzw (0 ≤ a2 ∧ a2 < (Lm (yz_l s) : Nat)) 1 2 (nzw (CJ (yz_c s) ≠ []) 3 3 (none)))
noncomputable def ov_41 (s : YZ) (a1 : Int) (a2 : Int) : Int := (ff (fun k => decide ((if 0 < (itg (yz_l s) (CJ (yz_c s)) (CL (yz_c s)) (Cg (yz_c s)) (Cd (yz_c s)) k).1 a1.toNat a2.toNat then (1 : Int) else 0) = 1)) 24 0)
theorem kc_41 {V : jx_V} (hV : V.1.stackTraces = false) {X : jx_X} {R : jx_R} {I : jx_I} {a0 : Nat} {a1 : Int} {a2 : Int} {s : YZ} (h : CI X R I a0 s) (hg : ZG s) (r_a1 : -2147483648 ≤ a1 ∧ a1 < 2147483648) (r_a2 : -2147483648 ≤ a2 ∧ a2 < 2147483648) : jp V 9 171 (3, 18) [.ref a0, jy a1, jy a2] X I R (KQ X R I a0 (oe_41 s a1 a2) (jy (ov_41 s a1 a2)) s) (KE X R I a0 (oe_41 s a1 a2) s) := by
  have hh := h
  obtain ⟨ld, l2, y, y2, hG, hL, hYs, hY, hT, hF, hE, hI, hr⟩ := hh
  have hW := hg.1
  have hC := hg.2.1
  have hW1 := hW.1
  refine jp_c (cz_171 hV hG r_a1 r_a2) (fun rv I' hq => ?_) (fun E I' hq => ?_)
  · obtain ⟨q0, q1, q2⟩ := hq
    exact ⟨ec_n (by unfold oe_41; simp only [ec_w, ec_0, nz_and]) q0, q1, CI_s h hg q2, hg, FB_s q2⟩
  · obtain ⟨k, hq⟩ := hq
    exact KE_r h hg (by unfold oe_41; simp only [ec_w, ec_0, nz_and]) hq
def oe_42 (s : YZ) (a1 : Int) (a2 : Int) : Option (Nat × Int) := nzw (0 ≤ a1 ∧ a1 < (Ln (yz_l s) : Nat)) 0 1 (nzw (0 ≤ a2 ∧ a2 < (Lm (yz_l s) : Nat)) 1 2 (nzw (CJ (yz_c s) ≠ []) 3 3 (none)))
noncomputable def ov_42 (s : YZ) (a1 : Int) (a2 : Int) : Int := (ff (fun k => decide ((if 0 < (itg (yz_l s) (CJ (yz_c s)) (CL (yz_c s)) (Cg (yz_c s)) (Cd (yz_c s)) k).1 a1.toNat a2.toNat then (1 : Int) else 0) = 0)) 24 0)
theorem kc_42 {V : jx_V} (hV : V.1.stackTraces = false) {X : jx_X} {R : jx_R} {I : jx_I} {a0 : Nat} {a1 : Int} {a2 : Int} {s : YZ} (h : CI X R I a0 s) (hg : ZG s) (r_a1 : -2147483648 ≤ a1 ∧ a1 < 2147483648) (r_a2 : -2147483648 ≤ a2 ∧ a2 < 2147483648) : jp V 9 172 (3, 18) [.ref a0, jy a1, jy a2] X I R (KQ X R I a0 (oe_42 s a1 a2) (jy (ov_42 s a1 a2)) s) (KE X R I a0 (oe_42 s a1 a2) s) := by
  have hh := h
  obtain ⟨ld, l2, y, y2, hG, hL, hYs, hY, hT, hF, hE, hI, hr⟩ := hh
  have hW := hg.1
  have hC := hg.2.1
  have hW1 := hW.1
  refine jp_c (cz_172 hV hG r_a1 r_a2) (fun rv I' hq => ?_) (fun E I' hq => ?_)
  · obtain ⟨q0, q1, q2⟩ := hq
    exact ⟨ec_n (by unfold oe_42; simp only [ec_w, ec_0, nz_and]) q0, q1, CI_s h hg q2, hg, FB_s q2⟩
  · obtain ⟨k, hq⟩ := hq
    exact KE_r h hg (by unfold oe_42; simp only [ec_w, ec_0, nz_and]) hq
def oe_43 (s : YZ) (a1 : Int) : Option (Nat × Int) := nzw (0 ≤ a1 ∧ a1 ≤ 9999) 2 1 (nzw (CJ (yz_c s) ≠ []) 3 2 (none))
noncomputable def ov_43 (s : YZ) (a1 : Int) : Int := (ff (fun k => decide (hrs (yz_l s) (CJ (yz_c s)) (CL (yz_c s)) (itg (yz_l s) (CJ (yz_c s)) (CL (yz_c s)) (Cg (yz_c s)) (Cd (yz_c s)) (k - 1)).1 (itg (yz_l s) (CJ (yz_c s)) (CL (yz_c s)) (Cg (yz_c s)) (Cd (yz_c s)) (k - 1)).2 ≤ a1)) 24 0)
theorem kc_43 {V : jx_V} (hV : V.1.stackTraces = false) {X : jx_X} {R : jx_R} {I : jx_I} {a0 : Nat} {a1 : Int} {s : YZ} (h : CI X R I a0 s) (hg : ZG s) (r_a1 : -2147483648 ≤ a1 ∧ a1 < 2147483648) : jp V 10 173 (2, 12) [.ref a0, jy a1] X I R (KQ X R I a0 (oe_43 s a1) (jy (ov_43 s a1)) s) (KE X R I a0 (oe_43 s a1) s) := by
  have hh := h
  obtain ⟨ld, l2, y, y2, hG, hL, hYs, hY, hT, hF, hE, hI, hr⟩ := hh
  have hW := hg.1
  have hC := hg.2.1
  have hW1 := hW.1
  refine jp_c (cz_173 hV hG r_a1) (fun rv I' hq => ?_) (fun E I' hq => ?_)
  · obtain ⟨q0, q1, q2⟩ := hq
    exact ⟨ec_n (by unfold oe_43; simp only [ec_w, ec_0, nz_and]) q0, q1, CI_s h hg q2, hg, FB_s q2⟩
  · obtain ⟨k, hq⟩ := hq
    exact KE_r h hg (by unfold oe_43; simp only [ec_w, ec_0, nz_and]) hq
def oe_44 (s : YZ) (a1 : Int) (a2 : Int) : Option (Nat × Int) := nzw ((0 ≤ a1 ∧ a1 < (Lm (yz_l s) : Nat)) ∧ (0 ≤ a2 ∧ a2 < (Lm (yz_l s) : Nat))) 1 1 (nzw (a1 ≠ a2) 2 2 (none))
noncomputable def ov_44 (s : YZ) (a1 : Int) (a2 : Int) : Int := (bN (Lf (yz_l s) a1.toNat) a2.toNat : Nat)
theorem kc_44 {V : jx_V} (hV : V.1.stackTraces = false) {X : jx_X} {R : jx_R} {I : jx_I} {a0 : Nat} {a1 : Int} {a2 : Int} {s : YZ} (h : CI X R I a0 s) (hg : ZG s) (r_a1 : -2147483648 ≤ a1 ∧ a1 < 2147483648) (r_a2 : -2147483648 ≤ a2 ∧ a2 < 2147483648) : jp V 9 142 (3, 18) [.ref a0, jy a1, jy a2] X I R (KQ X R I a0 (oe_44 s a1 a2) (jy (ov_44 s a1 a2)) s) (KE X R I a0 (oe_44 s a1 a2) s) := by
  have hh := h
  obtain ⟨ld, l2, y, y2, hG, hL, hYs, hY, hT, hF, hE, hI, hr⟩ := hh
  have hW := hg.1
  have hC := hg.2.1
  have hW1 := hW.1
  refine jp_c (cz_142 hV hG r_a1 r_a2) (fun rv I' hq => ?_) (fun E I' hq => ?_)
  · obtain ⟨q0, q1, rfl⟩ := hq
    exact ⟨ec_n (by unfold oe_44; simp only [ec_w, ec_0, nz_and]) q0, q1, CI_s h hg FS_refl, hg, FB_s FS_refl⟩
  · obtain ⟨k, hq⟩ := hq
    exact KE_r h hg (by unfold oe_44; simp only [ec_w, ec_0, nz_and]) hq
def oe_46 (s : YZ)  : Option (Nat × Int) := nzw (CJ (yz_c s) ≠ []) 3 1 (none)
noncomputable def ov_46 (s : YZ)  : Int := ((hvy (jht (yz_l s) (CJ (yz_c s)) (CL (yz_c s)) (Cg (yz_c s)) (Cd (yz_c s))) ((CJ (yz_c s)).length - 2) + 1 : Nat) : Int)
theorem kc_46 {V : jx_V} (hV : V.1.stackTraces = false) {X : jx_X} {R : jx_R} {I : jx_I} {a0 : Nat}  {s : YZ} (h : CI X R I a0 s) (hg : ZG s)  : jp V 9 157 (1, 6) [.ref a0] X I R (KQ X R I a0 (oe_46 s ) (jy (ov_46 s )) s) (KE X R I a0 (oe_46 s ) s) := by
  have hh := h
  obtain ⟨ld, l2, y, y2, hG, hL, hYs, hY, hT, hF, hE, hI, hr⟩ := hh
  have hW := hg.1
  have hC := hg.2.1
  have hW1 := hW.1
  refine jp_c (cz_157 hV hG ) (fun rv I' hq => ?_) (fun E I' hq => ?_)
  · obtain ⟨q0, q1, q2⟩ := hq
    exact ⟨ec_n (by unfold oe_46; simp only [ec_w, ec_0, nz_and]) q0, q1, CI_s h hg q2, hg, FB_s q2⟩
  · obtain ⟨k, hq⟩ := hq
    exact KE_r h hg (by unfold oe_46; simp only [ec_w, ec_0, nz_and]) hq
def oe_47 (s : YZ) (a1 : Int) : Option (Nat × Int) := nzw (0 ≤ a1 ∧ a1 ≤ 9999) 2 1 (nzw (CJ (yz_c s) ≠ []) 3 2 (none))
noncomputable def ov_47 (s : YZ) (a1 : Int) : Int := (lgf (yz_l s) (yz_c s) a1 (bo (CL (yz_c s)) + 1))
theorem kc_47 {V : jx_V} (hV : V.1.stackTraces = false) {X : jx_X} {R : jx_R} {I : jx_I} {a0 : Nat} {a1 : Int} {s : YZ} (h : CI X R I a0 s) (hg : ZG s) (r_a1 : -2147483648 ≤ a1 ∧ a1 < 2147483648) : jp V 10 170 (2, 12) [.ref a0, jy a1] X I R (KQ X R I a0 (oe_47 s a1) (jy (ov_47 s a1)) s) (KE X R I a0 (oe_47 s a1) s) := by
  have hh := h
  obtain ⟨ld, l2, y, y2, hG, hL, hYs, hY, hT, hF, hE, hI, hr⟩ := hh
  have hW := hg.1
  have hC := hg.2.1
  have hW1 := hW.1
  refine jp_c (cz_170 hV hG r_a1) (fun rv I' hq => ?_) (fun E I' hq => ?_)
  · obtain ⟨q0, q1, q2⟩ := hq
    exact ⟨ec_n (by unfold oe_47; simp only [ec_w, ec_0, nz_and]) q0, q1, CI_s h hg q2, hg, FB_s q2⟩
  · obtain ⟨k, hq⟩ := hq
    exact KE_r h hg (by unfold oe_47; simp only [ec_w, ec_0, nz_and]) hq
noncomputable def ov_2 (s : YZ)  : Int := (yz_f s)
theorem kc_2 {V : jx_V} (hV : V.1.stackTraces = false) {X : jx_X} {R : jx_R} {I : jx_I} {a0 : Nat}  {s : YZ} (h : CI X R I a0 s) (hg : ZG s)  : jp V 1 137 (0, 0) [.ref a0] X I R (KQ X R I a0 none (jy (ov_2 s )) s) (fun _ _ _ => False) := by
  have hh := h
  obtain ⟨ld, l2, y, y2, hG, hL, hYs, hY, hT, hF, hE, hI, hr⟩ := hh
  have hW := hg.1
  have hC := hg.2.1
  have hW1 := hW.1
  refine jp_c (QE0 := fun _ _ => False) (cz_137 hV hG ) (fun rv I' hq => ?_) (fun _ _ q => q)
  obtain ⟨q1, rfl⟩ := hq
  exact ⟨rfl, by rw [q1, hF]; rfl, h, hg, FB_s FS_refl⟩
noncomputable def ov_11 (s : YZ) (a1 : Int) : Int := (itm (CL (yz_c s)) a1)
theorem kc_11 {V : jx_V} (hV : V.1.stackTraces = false) {X : jx_X} {R : jx_R} {I : jx_I} {a0 : Nat} {a1 : Int} {s : YZ} (h : CI X R I a0 s) (hg : ZG s) (r_a1 : -2147483648 ≤ a1 ∧ a1 < 2147483648) : jp V 2 147 (0, 0) [.ref a0, jy a1] X I R (KQ X R I a0 none (jy (ov_11 s a1)) s) (fun _ _ _ => False) := by
  have hh := h
  obtain ⟨ld, l2, y, y2, hG, hL, hYs, hY, hT, hF, hE, hI, hr⟩ := hh
  have hW := hg.1
  have hC := hg.2.1
  have hW1 := hW.1
  refine jp_c (QE0 := fun _ _ => False) (cz_147 hV hG r_a1) (fun rv I' hq => ?_) (fun _ _ q => q)
  obtain ⟨q1, rfl⟩ := hq
  exact ⟨rfl, q1, h, hg, FB_s FS_refl⟩
noncomputable def ov_16 (s : YZ) (a1 : Int) : Int := (itm (CJ (yz_c s)) a1)
theorem kc_16 {V : jx_V} (hV : V.1.stackTraces = false) {X : jx_X} {R : jx_R} {I : jx_I} {a0 : Nat} {a1 : Int} {s : YZ} (h : CI X R I a0 s) (hg : ZG s) (r_a1 : -2147483648 ≤ a1 ∧ a1 < 2147483648) : jp V 2 153 (0, 0) [.ref a0, jy a1] X I R (KQ X R I a0 none (jy (ov_16 s a1)) s) (fun _ _ _ => False) := by
  have hh := h
  obtain ⟨ld, l2, y, y2, hG, hL, hYs, hY, hT, hF, hE, hI, hr⟩ := hh
  have hW := hg.1
  have hC := hg.2.1
  have hW1 := hW.1
  refine jp_c (QE0 := fun _ _ => False) (cz_153 hV hG r_a1) (fun rv I' hq => ?_) (fun _ _ q => q)
  obtain ⟨q1, rfl⟩ := hq
  exact ⟨rfl, q1, h, hg, FB_s FS_refl⟩
noncomputable def ov_45 (s : YZ)  : Int := (qn (Lf (yz_l s)) (CL (yz_c s)) ((CL (yz_c s)).length - 1) : Nat)
theorem kc_45 {V : jx_V} (hV : V.1.stackTraces = false) {X : jx_X} {R : jx_R} {I : jx_I} {a0 : Nat}  {s : YZ} (h : CI X R I a0 s) (hg : ZG s)  : jp V 3 151 (0, 0) [.ref a0] X I R (KQ X R I a0 none (jy (ov_45 s )) s) (fun _ _ _ => False) := by
  have hh := h
  obtain ⟨ld, l2, y, y2, hG, hL, hYs, hY, hT, hF, hE, hI, hr⟩ := hh
  have hW := hg.1
  have hC := hg.2.1
  have hW1 := hW.1
  refine jp_c (QE0 := fun _ _ => False) (cz_151 hV hG ) (fun rv I' hq => ?_) (fun _ _ q => q)
  obtain ⟨q1, rfl⟩ := hq
  exact ⟨rfl, q1, h, hg, FB_s FS_refl⟩
noncomputable def ov_50 (s : YZ) (a1 : Int) : Int := (if 0 ≤ a1 ∧ a1 ≤ 3 then yz_r s a1.toNat else -1)
theorem kc_50 {V : jx_V} (hV : V.1.stackTraces = false) {X : jx_X} {R : jx_R} {I : jx_I} {a0 : Nat} {a1 : Int} {s : YZ} (h : CI X R I a0 s) (hg : ZG s) (r_a1 : -2147483648 ≤ a1 ∧ a1 < 2147483648) : jp V 1 185 (0, 0) [.ref a0, jy a1] X I R (KQ X R I a0 none (jy (ov_50 s a1)) s) (fun _ _ _ => False) := by
  have hh := h
  obtain ⟨ld, l2, y, y2, hG, hL, hYs, hY, hT, hF, hE, hI, hr⟩ := hh
  have hW := hg.1
  have hC := hg.2.1
  have hW1 := hW.1
  refine jp_c (QE0 := fun _ _ => False) (cz_185 hV hG.1 r_a1) (fun rv I' hq => ?_) (fun _ _ q => q)
  obtain ⟨q1, rfl⟩ := hq
  refine ⟨rfl, ?_, h, hg, FB_s FS_refl⟩
  rw [q1]
  unfold ov_50
  by_cases e : 0 ≤ a1 ∧ a1 ≤ 3
  · rw [if_pos e, if_pos e, hr _ (by omega)]
  · rw [if_neg e, if_neg e]
noncomputable def ov_51 (s : YZ) (a1 : Int) : Int := (if a1 = 0 then ((yz_i s).length : Int) else if a1 = 1 then ((yz_b s).length : Int) else if a1 = 2 then ((CU (yz_c s)).length : Int) else -1)
theorem kc_51 {V : jx_V} (hV : V.1.stackTraces = false) {X : jx_X} {R : jx_R} {I : jx_I} {a0 : Nat} {a1 : Int} {s : YZ} (h : CI X R I a0 s) (hg : ZG s) (r_a1 : -2147483648 ≤ a1 ∧ a1 < 2147483648) : jp V 1 186 (0, 0) [.ref a0, jy a1] X I R (KQ X R I a0 none (jy (ov_51 s a1)) s) (fun _ _ _ => False) := by
  have hh := h
  obtain ⟨ld, l2, y, y2, hG, hL, hYs, hY, hT, hF, hE, hI, hr⟩ := hh
  have hW := hg.1
  have hC := hg.2.1
  have hW1 := hW.1
  refine jp_c (QE0 := fun _ _ => False) (cz_186 hV hG.1 r_a1) (fun rv I' hq => ?_) (fun _ _ q => q)
  obtain ⟨q1, rfl⟩ := hq
  refine ⟨rfl, ?_, h, hg, FB_s FS_refl⟩
  rw [q1, hI.1, hT.1, hG.2.2.2.2.1.2.2.2.2.1]
  rfl
def oe_8 (s : YZ) (a1 : Int) (a2 : Int) (a3 : Int) : Option (Nat × Int) := nzw (0 ≤ a1 ∧ a1 < (Ln (yz_l s) : Nat)) 0 1 (nzw (0 ≤ a2 ∧ a2 < (Lm (yz_l s) : Nat)) 1 2 (nzw (1 ≤ a3 ∧ a3 ≤ 20) 2 3 (none)))
noncomputable def ov_8 (s : YZ) (a1 : Int) (a2 : Int) (a3 : Int) : Int := (min 20 (Cg (yz_c s) a1.toNat a2.toNat + a3))
noncomputable def os_8 (s : YZ) (a1 : Int) (a2 : Int) (a3 : Int) : YZ := yzC s ((gu (Cg (yz_c s)) a1.toNat a2.toNat (min 20 (Cg (yz_c s) a1.toNat a2.toNat + a3)), gu (Cd (yz_c s)) a1.toNat a2.toNat (min 20 (Cd (yz_c s) a1.toNat a2.toNat + a3))), (yz_c s).2)
theorem kc_8 {V : jx_V} (hV : V.1.stackTraces = false) {X : jx_X} {R : jx_R} {I : jx_I} {a0 : Nat} {a1 : Int} {a2 : Int} {a3 : Int} {s : YZ} (h : CI X R I a0 s) (hg : ZG s) (r_a1 : -2147483648 ≤ a1 ∧ a1 < 2147483648) (r_a2 : -2147483648 ≤ a2 ∧ a2 < 2147483648) (r_a3 : -2147483648 ≤ a3 ∧ a3 < 2147483648) : jp V 9 144 (3, 18) [.ref a0, jy a1, jy a2, jy a3] X I R (KQ X R I a0 (oe_8 s a1 a2 a3) (jy (ov_8 s a1 a2 a3)) (os_8 s a1 a2 a3)) (KE X R I a0 (oe_8 s a1 a2 a3) s) := by
  have hh := h
  obtain ⟨ld, l2, y, y2, hG, hL, hYs, hY, hT, hF, hE, hI, hr⟩ := hh
  have hW := hg.1
  have hC := hg.2.1
  have hW1 := hW.1
  refine jp_c (cz_144 hV hG r_a1 r_a2 r_a3) (fun rv I' hq => ?_) (fun E I' hq => ?_)
  · obtain ⟨q0, q1, q2, q3⟩ := hq
    have w1 := nz_s q0
    have w2 := nz_s w1.2
    have w3 := nz_s w2.2
    have hd := hC.1 a1.toNat a2.toNat (by omega) (by omega)
    have hC2 : WC (yz_l s) ((gu (Cg (yz_c s)) a1.toNat a2.toNat (min 20 (Cg (yz_c s) a1.toNat a2.toNat + a3)), gu (Cd (yz_c s)) a1.toNat a2.toNat (min 20 (Cd (yz_c s) a1.toNat a2.toNat + a3))), (yz_c s).2) := ⟨GD_gu hC.1 (by omega) (by omega), hC.2⟩
    exact ⟨ec_n (by unfold oe_8; simp only [ec_w, ec_0, nz_and]) q0, q1, CI_m h hg q2 q3 hC2 rfl, ZG_C hg hC2, FB_g q3⟩
  · obtain ⟨k, hq⟩ := hq
    exact KE_r h hg (by unfold oe_8; simp only [ec_w, ec_0, nz_and]) hq
def oe_9 (s : YZ) (a1 : Int) (a2 : Int) : Option (Nat × Int) := nzw (0 ≤ a1 ∧ a1 < (Ln (yz_l s) : Nat)) 0 1 (nzw (0 ≤ a2 ∧ a2 < (Lm (yz_l s) : Nat)) 1 2 (none))
noncomputable def ov_9 (s : YZ) (a1 : Int) (a2 : Int) : Int := (Cg (yz_c s) a1.toNat a2.toNat)
noncomputable def os_9 (s : YZ) (a1 : Int) (a2 : Int) : YZ := yzC s ((gu (Cg (yz_c s)) a1.toNat a2.toNat 0, Cd (yz_c s)), (yz_c s).2)
theorem kc_9 {V : jx_V} (hV : V.1.stackTraces = false) {X : jx_X} {R : jx_R} {I : jx_I} {a0 : Nat} {a1 : Int} {a2 : Int} {s : YZ} (h : CI X R I a0 s) (hg : ZG s) (r_a1 : -2147483648 ≤ a1 ∧ a1 < 2147483648) (r_a2 : -2147483648 ≤ a2 ∧ a2 < 2147483648) : jp V 9 145 (2, 12) [.ref a0, jy a1, jy a2] X I R (KQ X R I a0 (oe_9 s a1 a2) (jy (ov_9 s a1 a2)) (os_9 s a1 a2)) (KE X R I a0 (oe_9 s a1 a2) s) := by
  have hh := h
  obtain ⟨ld, l2, y, y2, hG, hL, hYs, hY, hT, hF, hE, hI, hr⟩ := hh
  have hW := hg.1
  have hC := hg.2.1
  have hW1 := hW.1
  refine jp_c (cz_145 hV hG r_a1 r_a2) (fun rv I' hq => ?_) (fun E I' hq => ?_)
  · obtain ⟨q0, q1, q2, q3⟩ := hq
    have hC2 : WC (yz_l s) ((gu (Cg (yz_c s)) a1.toNat a2.toNat 0, Cd (yz_c s)), (yz_c s).2) := ⟨GD_g0 hC.1 (by omega), hC.2⟩
    exact ⟨ec_n (by unfold oe_9; simp only [ec_w, ec_0, nz_and]) q0, q1, CI_m h hg q2 q3 hC2 rfl, ZG_C hg hC2, FB_g q3⟩
  · obtain ⟨k, hq⟩ := hq
    exact KE_r h hg (by unfold oe_9; simp only [ec_w, ec_0, nz_and]) hq
def oe_10 (s : YZ) (a1 : Int) (a2 : Int64) : Option (Nat × Int) := nzw (0 ≤ a1 ∧ a1 ≤ 8) 2 1 (none)
noncomputable def ov_10 (s : YZ) (a1 : Int) (a2 : Int64) : Int := cif (dok a1.toNat a2.toInt (Lm (yz_l s)) ∧ (dgs a1.toNat a2.toInt.toNat).Nodup) 1 0
noncomputable def os_10 (s : YZ) (a1 : Int) (a2 : Int64) : YZ := cif (dok a1.toNat a2.toInt (Lm (yz_l s)) ∧ (dgs a1.toNat a2.toInt.toNat).Nodup) (yzC s ((yz_c s).1, (dgs a1.toNat a2.toInt.toNat, CJ (yz_c s)), (yz_c s).2.2)) s
theorem kc_10 {V : jx_V} (hV : V.1.stackTraces = false) {X : jx_X} {R : jx_R} {I : jx_I} {a0 : Nat} {a1 : Int} {a2 : Int64} {s : YZ} (h : CI X R I a0 s) (hg : ZG s) (r_a1 : -2147483648 ≤ a1 ∧ a1 < 2147483648) : jp V 9 146 (1, 6) [.ref a0, jy a1, .long a2] X I R (KQ X R I a0 (oe_10 s a1 a2) (jy (ov_10 s a1 a2)) (os_10 s a1 a2)) (KE X R I a0 (oe_10 s a1 a2) s) := by
  have hh := h
  obtain ⟨ld, l2, y, y2, hG, hL, hYs, hY, hT, hF, hE, hI, hr⟩ := hh
  have hW := hg.1
  have hC := hg.2.1
  have hW1 := hW.1
  refine jp_c (cz_146 hV hG r_a1) (fun rv I' hq => ?_) (fun E I' hq => ?_)
  · obtain ⟨q0, r, q1, (⟨rfl, q2, q3, q4⟩ | ⟨rfl, q2, q3⟩)⟩ := hq
    · have hC2 : WC (yz_l s) ((yz_c s).1, (dgs a1.toNat a2.toInt.toNat, CJ (yz_c s)), (yz_c s).2.2) := ⟨hC.1, ⟨q2.2, fun x hx => by have h1 := q2.1.2.2 x hx; omega⟩, hC.2.2⟩
      unfold ov_10 os_10
      rw [cif_t q2, cif_t q2]
      exact ⟨ec_n (by unfold oe_10; simp only [ec_w, ec_0, nz_and]) q0, q1, CI_m h hg q3 q4 hC2 rfl, ZG_C hg hC2, FB_g q4⟩
    · unfold ov_10 os_10
      rw [cif_f q2, cif_f q2]
      exact ⟨ec_n (by unfold oe_10; simp only [ec_w, ec_0, nz_and]) q0, q1, CI_s h hg q3, hg, FB_s q3⟩
  · obtain ⟨k, hq⟩ := hq
    exact KE_r h hg (by unfold oe_10; simp only [ec_w, ec_0, nz_and]) hq
def oe_15 (s : YZ) (a1 : Int) (a2 : Int64) : Option (Nat × Int) := nzw (2 ≤ a1 ∧ a1 ≤ 12) 2 1 (none)
noncomputable def ov_15 (s : YZ) (a1 : Int) (a2 : Int64) : Int := cif (dok a1.toNat a2.toInt (Ln (yz_l s)) ∧ RJ (Lr (yz_l s)) (dgs a1.toNat a2.toInt.toNat)) ((rs (Lr (yz_l s)) (dgs a1.toNat a2.toInt.toNat) (a1.toNat - 1))) ((-1))
noncomputable def os_15 (s : YZ) (a1 : Int) (a2 : Int64) : YZ := cif (dok a1.toNat a2.toInt (Ln (yz_l s)) ∧ RJ (Lr (yz_l s)) (dgs a1.toNat a2.toInt.toNat)) (yzC s ((yz_c s).1, (CL (yz_c s), dgs a1.toNat a2.toInt.toNat), (yz_c s).2.2)) s
theorem kc_15 {V : jx_V} (hV : V.1.stackTraces = false) {X : jx_X} {R : jx_R} {I : jx_I} {a0 : Nat} {a1 : Int} {a2 : Int64} {s : YZ} (h : CI X R I a0 s) (hg : ZG s) (r_a1 : -2147483648 ≤ a1 ∧ a1 < 2147483648) : jp V 9 152 (1, 6) [.ref a0, jy a1, .long a2] X I R (KQ X R I a0 (oe_15 s a1 a2) (jy (ov_15 s a1 a2)) (os_15 s a1 a2)) (KE X R I a0 (oe_15 s a1 a2) s) := by
  have hh := h
  obtain ⟨ld, l2, y, y2, hG, hL, hYs, hY, hT, hF, hE, hI, hr⟩ := hh
  have hW := hg.1
  have hC := hg.2.1
  have hW1 := hW.1
  refine jp_c (cz_152 hV hG r_a1) (fun rv I' hq => ?_) (fun E I' hq => ?_)
  · obtain ⟨q0, (⟨q2, q1, q3, q4⟩ | ⟨q2, q1, q3⟩)⟩ := hq
    · have w1 := (nz_s q0).1
      have hlen := dgs_len a1.toNat a2.toInt.toNat
      have hC2 : WC (yz_l s) ((yz_c s).1, (CL (yz_c s), dgs a1.toNat a2.toInt.toNat), (yz_c s).2.2) := ⟨hC.1, hC.2.1, Or.inr ⟨⟨by show 2 ≤ (dgs a1.toNat a2.toInt.toNat).length; omega, by show (dgs a1.toNat a2.toInt.toNat).length ≤ 12; omega⟩, fun x hx => by have h1 := q2.1.2.2 x hx; omega, q2.2⟩, hC.2.2.2⟩
      unfold ov_15 os_15
      rw [cif_t q2, cif_t q2]
      exact ⟨ec_n (by unfold oe_15; simp only [ec_w, ec_0, nz_and]) q0, q1, CI_m h hg q3 q4 hC2 rfl, ZG_C hg hC2, FB_g q4⟩
    · unfold ov_15 os_15
      rw [cif_f q2, cif_f q2]
      exact ⟨ec_n (by unfold oe_15; simp only [ec_w, ec_0, nz_and]) q0, q1, CI_s h hg q3, hg, FB_s q3⟩
  · obtain ⟨k, hq⟩ := hq
    exact KE_r h hg (by unfold oe_15; simp only [ec_w, ec_0, nz_and]) hq
def oe_20 (s : YZ)  : Option (Nat × Int) := nzw (CJ (yz_c s) ≠ []) 3 1 (none)
noncomputable def ov_20 (s : YZ)  : Int := if 24 ≤ (CU (yz_c s)).length then (-1) else (hrs (yz_l s) (CJ (yz_c s)) (CL (yz_c s)) (Cg (yz_c s)) (Cd (yz_c s)))
noncomputable def os_20 (s : YZ)  : YZ := if 24 ≤ (CU (yz_c s)).length then s else yzC s ((jst (yz_l s) (CJ (yz_c s)) (CL (yz_c s)) (Cg (yz_c s)) (Cd (yz_c s)) ((CJ (yz_c s)).length - 1)), (yz_c s).2.1, CN (yz_c s), CU (yz_c s) ++ [(yz_c s).1])
theorem kc_20 {V : jx_V} (hV : V.1.stackTraces = false) {X : jx_X} {R : jx_R} {I : jx_I} {a0 : Nat}  {s : YZ} (h : CI X R I a0 s) (hg : ZG s)  : jp V 9 158 (1, 6) [.ref a0] X I R (KQ X R I a0 (oe_20 s ) (jy (ov_20 s )) (os_20 s )) (KE X R I a0 (oe_20 s ) s) := by
  have hh := h
  obtain ⟨ld, l2, y, y2, hG, hL, hYs, hY, hT, hF, hE, hI, hr⟩ := hh
  have hW := hg.1
  have hC := hg.2.1
  have hW1 := hW.1
  refine jp_c (cz_158 hV hG ) (fun rv I' hq => ?_) (fun E I' hq => ?_)
  · obtain ⟨q0, (⟨q2, q1, rfl⟩ | ⟨q2, q1, q3, q4⟩)⟩ := hq
    · unfold ov_20 os_20
      rw [if_pos q2, if_pos q2]
      exact ⟨ec_n (by unfold oe_20; simp only [ec_w, ec_0, nz_and]) q0, q1, h, hg, FB_s FS_refl⟩
    · have w1 := (nz_s q0).1
      have hJ := WC_J hC w1
      have hC2 : WC (yz_l s) ((jst (yz_l s) (CJ (yz_c s)) (CL (yz_c s)) (Cg (yz_c s)) (Cd (yz_c s)) ((CJ (yz_c s)).length - 1)), (yz_c s).2.1, CN (yz_c s), CU (yz_c s) ++ [(yz_c s).1]) := ⟨GD_j hC.1 (fun x hx => by have h1 := hJ.2.1 x hx; omega) (fun x hx => by have h1 := hC.2.1.2 x hx; omega) _ (by omega), hC.2.1, hC.2.2.1, hC.2.2.2.1, fun e he => by
        rcases List.mem_append.mp he with h1 | h1
        · exact hC.2.2.2.2 e h1
        · rw [List.mem_singleton.mp h1]; exact hC.1⟩
      unfold ov_20 os_20
      rw [if_neg (by omega), if_neg (by omega)]
      exact ⟨ec_n (by unfold oe_20; simp only [ec_w, ec_0, nz_and]) q0, q1, CI_m h hg q3 q4 hC2 rfl, ZG_C hg hC2, FB_g q4⟩
  · obtain ⟨k, hq⟩ := hq
    exact KE_r h hg (by unfold oe_20; simp only [ec_w, ec_0, nz_and]) hq
noncomputable def ov_21 (s : YZ)  : Int := cif (CU (yz_c s) = []) ((-1)) ((((CU (yz_c s)).length : Int) - 1))
noncomputable def os_21 (s : YZ)  : YZ := cif (CU (yz_c s) = []) s (yzC s ((CU (yz_c s)).getLastD (yz_c s).1, (yz_c s).2.1, CN (yz_c s), (CU (yz_c s)).dropLast))
theorem lul_ {α : Type} (u : List α) (e x : α) : (u ++ [e]).getLastD x = e := by simp
theorem lud_ {α : Type} (u : List α) (e : α) : (u ++ [e]).dropLast = u := by simp
theorem lun_ {α : Type} (u : List α) (e : α) : (((u ++ [e]).length : Nat) : Int) - 1 = (u.length : Int) := by simp
theorem kc_21 {V : jx_V} (hV : V.1.stackTraces = false) {X : jx_X} {R : jx_R} {I : jx_I} {a0 : Nat}  {s : YZ} (h : CI X R I a0 s) (hg : ZG s)  : jp V 2 159 (0, 0) [.ref a0] X I R (KQ X R I a0 none (jy (ov_21 s )) (os_21 s )) (fun _ _ _ => False) := by
  have hh := h
  obtain ⟨ld, l2, y, y2, hG, hL, hYs, hY, hT, hF, hE, hI, hr⟩ := hh
  have hW := hg.1
  have hC := hg.2.1
  have hW1 := hW.1
  refine jp_c (QE0 := fun _ _ => False) (cz_159 hV hG) (fun rv I' hq => ?_) (fun _ _ q => q)
  rcases hq with ⟨q2, q1, rfl⟩ | ⟨u, e, q2, q1, q3, q4⟩
  · unfold ov_21 os_21
    rw [cif_t q2, cif_t q2]
    exact ⟨rfl, q1, h, hg, FB_s FS_refl⟩
  · have hne : ¬ CU (yz_c s) = [] := by rw [q2]; simp
    have hC2 : WC (yz_l s) (e, (yz_c s).2.1, CN (yz_c s), u) := ⟨hC.2.2.2.2 e (by rw [q2]; simp), hC.2.1, hC.2.2.1, hC.2.2.2.1, fun e2 he => hC.2.2.2.2 e2 (by rw [q2]; exact List.mem_append_left _ he)⟩
    unfold ov_21 os_21
    rw [cif_f hne, cif_f hne, q2, lul_, lud_, lun_]
    exact ⟨rfl, q1, CI_m h hg q3 q4 hC2 rfl, ZG_C hg hC2, FB_g q4⟩
def oe_27 (s : YZ) (a1 : Int) (a2 : Int) : Option (Nat × Int) := nzw ((0 ≤ a1 ∧ a1 < ((2 ^ Lm (yz_l s) : Nat) : Int)) ∧ (0 ≤ a2 ∧ a2 ≤ 99)) 2 1 (none)
noncomputable def ov_27 (s : YZ) (a1 : Int) (a2 : Int) : Int := if 9 ≤ (CN (yz_c s)).length then (-1) else ((CN (yz_c s)).length + 1 : Nat)
noncomputable def os_27 (s : YZ) (a1 : Int) (a2 : Int) : YZ := if 9 ≤ (CN (yz_c s)).length then s else yzC s ((yz_c s).1, (yz_c s).2.1, CN (yz_c s) ++ [(a1.toNat, a2)], CU (yz_c s))
theorem kc_27 {V : jx_V} (hV : V.1.stackTraces = false) {X : jx_X} {R : jx_R} {I : jx_I} {a0 : Nat} {a1 : Int} {a2 : Int} {s : YZ} (h : CI X R I a0 s) (hg : ZG s) (r_a1 : -2147483648 ≤ a1 ∧ a1 < 2147483648) (r_a2 : -2147483648 ≤ a2 ∧ a2 < 2147483648) : jp V 9 174 (2, 12) [.ref a0, jy a1, jy a2] X I R (KQ X R I a0 (oe_27 s a1 a2) (jy (ov_27 s a1 a2)) (os_27 s a1 a2)) (KE X R I a0 (oe_27 s a1 a2) s) := by
  have hh := h
  obtain ⟨ld, l2, y, y2, hG, hL, hYs, hY, hT, hF, hE, hI, hr⟩ := hh
  have hW := hg.1
  have hC := hg.2.1
  have hW1 := hW.1
  refine jp_c (cz_174 hV hG r_a1 r_a2) (fun rv I' hq => ?_) (fun E I' hq => ?_)
  · obtain ⟨q0, (⟨q2, q1, rfl⟩ | ⟨q2, q1, q3, q4, q5, q6⟩)⟩ := hq
    · unfold ov_27 os_27
      rw [if_pos q2, if_pos q2]
      exact ⟨ec_n (by unfold oe_27; simp only [ec_w, ec_0, nz_and]) q0, q1, h, hg, FB_s FS_refl⟩
    · have w1 := nz_s q0
      have w2 := nz_s w1.2
      have hC2 : WC (yz_l s) ((yz_c s).1, (yz_c s).2.1, CN (yz_c s) ++ [(a1.toNat, a2)], CU (yz_c s)) := ⟨hC.1, hC.2.1, hC.2.2.1, fun e he => by
        rcases List.mem_append.mp he with h1 | h1
        · exact hC.2.2.2.1 e h1
        · rw [List.mem_singleton.mp h1]; exact ⟨pw_lt w1.1, w2.1⟩, hC.2.2.2.2⟩
      unfold ov_27 os_27
      rw [if_neg (by omega), if_neg (by omega)]
      exact ⟨ec_n (by unfold oe_27; simp only [ec_w, ec_0, nz_and]) q0, q1, CI_g h hg q3 hC2 (EV_6 hE q4 (q6 _ (by omega) (by omega))) ⟨hG.1, rfl⟩ (q6 _ (by omega) (by omega)) (q6 _ (by omega) (by omega)) (q6 _ (by omega) (by omega)) (q6 _ (by omega) (by omega)) (by rw [q6 _ (by omega) (by omega)]) (fun q w1 w2 w3 w4 => q6 q (by omega) (by omega)), ZG_C hg hC2, fun q hq => ⟨q6 q (by omega) (by omega), rfl⟩⟩
  · obtain ⟨k, hq⟩ := hq
    exact KE_r h hg (by unfold oe_27; simp only [ec_w, ec_0, nz_and]) hq
noncomputable def ov_28 (s : YZ)  : Int := ((CN (yz_c s)).length : Int)
noncomputable def os_28 (s : YZ)  : YZ := yzC s ((yz_c s).1, (yz_c s).2.1, [], CU (yz_c s))
theorem kc_28 {V : jx_V} (hV : V.1.stackTraces = false) {X : jx_X} {R : jx_R} {I : jx_I} {a0 : Nat}  {s : YZ} (h : CI X R I a0 s) (hg : ZG s)  : jp V 1 175 (0, 0) [.ref a0] X I R (KQ X R I a0 none (jy (ov_28 s )) (os_28 s )) (fun _ _ _ => False) := by
  have hh := h
  obtain ⟨ld, l2, y, y2, hG, hL, hYs, hY, hT, hF, hE, hI, hr⟩ := hh
  have hW := hg.1
  have hC := hg.2.1
  have hW1 := hW.1
  refine jp_c (QE0 := fun _ _ => False) (cz_175 hV hG) (fun rv I' hq => ?_) (fun _ _ q => q)
  obtain ⟨q1, q3, q4, q5, q6⟩ := hq
  have hC2 : WC (yz_l s) ((yz_c s).1, (yz_c s).2.1, [], CU (yz_c s)) := ⟨hC.1, hC.2.1, hC.2.2.1, fun e he => (by cases he), hC.2.2.2.2⟩
  exact ⟨rfl, q1, CI_g h hg q3 hC2 (EV_6 hE q4 (q6 _ (by omega) (by omega))) ⟨hG.1, rfl⟩ (q6 _ (by omega) (by omega)) (q6 _ (by omega) (by omega)) (q6 _ (by omega) (by omega)) (q6 _ (by omega) (by omega)) (by rw [q6 _ (by omega) (by omega)]) (fun q w1 w2 w3 w4 => q6 q (by omega) (by omega)), ZG_C hg hC2, fun q hq => ⟨q6 q (by omega) (by omega), rfl⟩⟩
def oe_29 (s : YZ) (a1 : Int) : Option (Nat × Int) := nzw (0 ≤ a1 ∧ a1 ≤ 3) 2 1 (none)
noncomputable def ov_29 (s : YZ) (a1 : Int) : Int := (exa (yz_l s) (yz_c s) a1)
theorem kc_29 {V : jx_V} (hV : V.1.stackTraces = false) {X : jx_X} {R : jx_R} {I : jx_I} {a0 : Nat} {a1 : Int} {s : YZ} (h : CI X R I a0 s) (hg : ZG s) (r_a1 : -2147483648 ≤ a1 ∧ a1 < 2147483648) : jp V 202 176 (1, 6) [.ref a0, jy a1] X I R (KQ X R I a0 (oe_29 s a1) (jy (ov_29 s a1)) s) (KE X R I a0 (oe_29 s a1) s) := by
  have hh := h
  obtain ⟨ld, l2, y, y2, hG, hL, hYs, hY, hT, hF, hE, hI, hr⟩ := hh
  have hW := hg.1
  have hC := hg.2.1
  have hW1 := hW.1
  refine jp_d (cz_176 hV hG r_a1 hE) (fun rv I' R' hq => ?_) (fun E I' R' hq => ?_)
  · obtain ⟨q0, q1, q2, q3, q4⟩ := hq
    exact ⟨ec_n (by unfold oe_29; simp only [ec_w, ec_0, nz_and]) q0, q1, CI_35 h hg q2 q3 q4, hg, fun q hq => ⟨q3 q (by omega) (by omega) (by omega), RF_q q4 (by omega)⟩⟩
  · obtain ⟨k, q1, q2, q3, rfl⟩ := hq
    exact KE_r h hg (by unfold oe_29; simp only [ec_w, ec_0, nz_and]) ⟨q1, q2, q3⟩
def oe_35 (s : YZ) (a1 : Int) (a2 : Int) : Option (Nat × Int) := nzw (0 ≤ a1 ∧ a1 < (Ln (yz_l s) : Nat)) 0 1 (nzw (0 ≤ a2 ∧ a2 ≤ 5) 2 2 (none))
noncomputable def ov_35 (s : YZ) (a1 : Int) (a2 : Int) : Int := (rna (rnr (yz_l s) (yz_c s) (yz_p s) a1.toNat) a2)
theorem kc_35 {V : jx_V} (hV : V.1.stackTraces = false) {X : jx_X} {R : jx_R} {I : jx_I} {a0 : Nat} {a1 : Int} {a2 : Int} {s : YZ} (h : CI X R I a0 s) (hg : ZG s) (r_a1 : -2147483648 ≤ a1 ∧ a1 < 2147483648) (r_a2 : -2147483648 ≤ a2 ∧ a2 < 2147483648) : jp V 202 179 (2, 12) [.ref a0, jy a1, jy a2] X I R (KQ X R I a0 (oe_35 s a1 a2) (jy (ov_35 s a1 a2)) s) (KE X R I a0 (oe_35 s a1 a2) s) := by
  have hh := h
  obtain ⟨ld, l2, y, y2, hG, hL, hYs, hY, hT, hF, hE, hI, hr⟩ := hh
  have hW := hg.1
  have hC := hg.2.1
  have hW1 := hW.1
  refine jp_d (cz_179 hV hG r_a1 r_a2 hY hg.2.2.1) (fun rv I' R' hq => ?_) (fun E I' R' hq => ?_)
  · obtain ⟨q0, q1, q2, q3⟩ := hq
    exact ⟨ec_n (by unfold oe_35; simp only [ec_w, ec_0, nz_and]) q0, q1, CI_24 h hg q2 q3, hg, FB_24 q2 q3⟩
  · obtain ⟨k, q1, q2, q3, rfl⟩ := hq
    exact KE_r h hg (by unfold oe_35; simp only [ec_w, ec_0, nz_and]) ⟨q1, q2, q3⟩
def oe_36 (s : YZ) (a1 : Int) (a2 : Int) (a3 : Int) : Option (Nat × Int) := nzw ((0 ≤ a1 ∧ a1 < (Ln (yz_l s) : Nat)) ∧ (0 ≤ a2 ∧ a2 < (Ln (yz_l s) : Nat))) 0 1 (nzw (0 ≤ a3 ∧ a3 < (Lm (yz_l s) : Nat)) 1 2 (none))
noncomputable def ov_36 (s : YZ) (a1 : Int) (a2 : Int) (a3 : Int) : Int := (yG (rnr (yz_l s) (yz_c s) (yz_p s) a1.toNat) a2.toNat a3.toNat)
theorem kc_36 {V : jx_V} (hV : V.1.stackTraces = false) {X : jx_X} {R : jx_R} {I : jx_I} {a0 : Nat} {a1 : Int} {a2 : Int} {a3 : Int} {s : YZ} (h : CI X R I a0 s) (hg : ZG s) (r_a1 : -2147483648 ≤ a1 ∧ a1 < 2147483648) (r_a2 : -2147483648 ≤ a2 ∧ a2 < 2147483648) (r_a3 : -2147483648 ≤ a3 ∧ a3 < 2147483648) : jp V 202 180 (3, 18) [.ref a0, jy a1, jy a2, jy a3] X I R (KQ X R I a0 (oe_36 s a1 a2 a3) (jy (ov_36 s a1 a2 a3)) s) (KE X R I a0 (oe_36 s a1 a2 a3) s) := by
  have hh := h
  obtain ⟨ld, l2, y, y2, hG, hL, hYs, hY, hT, hF, hE, hI, hr⟩ := hh
  have hW := hg.1
  have hC := hg.2.1
  have hW1 := hW.1
  refine jp_d (cz_180 hV hG r_a1 r_a2 r_a3 hY hg.2.2.1) (fun rv I' R' hq => ?_) (fun E I' R' hq => ?_)
  · obtain ⟨q0, q1, q2, q3⟩ := hq
    exact ⟨ec_n (by unfold oe_36; simp only [ec_w, ec_0, nz_and]) q0, q1, CI_24 h hg q2 q3, hg, FB_24 q2 q3⟩
  · obtain ⟨k, q1, q2, q3, rfl⟩ := hq
    exact KE_r h hg (by unfold oe_36; simp only [ec_w, ec_0, nz_and]) ⟨q1, q2, q3⟩
def oe_37 (s : YZ) (a1 : Int) (a2 : Int) : Option (Nat × Int) := nzw (0 ≤ a1 ∧ a1 < (Ln (yz_l s) : Nat)) 0 1 (none)
noncomputable def ov_37 (s : YZ) (a1 : Int) (a2 : Int) : Int := (itm (yL (rnr (yz_l s) (yz_c s) (yz_p s) a1.toNat)) a2)
theorem kc_37 {V : jx_V} (hV : V.1.stackTraces = false) {X : jx_X} {R : jx_R} {I : jx_I} {a0 : Nat} {a1 : Int} {a2 : Int} {s : YZ} (h : CI X R I a0 s) (hg : ZG s) (r_a1 : -2147483648 ≤ a1 ∧ a1 < 2147483648) (r_a2 : -2147483648 ≤ a2 ∧ a2 < 2147483648) : jp V 202 181 (1, 6) [.ref a0, jy a1, jy a2] X I R (KQ X R I a0 (oe_37 s a1 a2) (jy (ov_37 s a1 a2)) s) (KE X R I a0 (oe_37 s a1 a2) s) := by
  have hh := h
  obtain ⟨ld, l2, y, y2, hG, hL, hYs, hY, hT, hF, hE, hI, hr⟩ := hh
  have hW := hg.1
  have hC := hg.2.1
  have hW1 := hW.1
  refine jp_d (cz_181 hV hG r_a1 r_a2 hY hg.2.2.1) (fun rv I' R' hq => ?_) (fun E I' R' hq => ?_)
  · obtain ⟨q0, q1, q2, q3⟩ := hq
    exact ⟨ec_n (by unfold oe_37; simp only [ec_w, ec_0, nz_and]) q0, q1, CI_24 h hg q2 q3, hg, FB_24 q2 q3⟩
  · obtain ⟨k, q1, q2, q3, rfl⟩ := hq
    exact KE_r h hg (by unfold oe_37; simp only [ec_w, ec_0, nz_and]) ⟨q1, q2, q3⟩
noncomputable def ov_38 (s : YZ)  : Int := (bgn (yz_l s) (yz_c s) (yz_p s) (Ln (yz_l s))).1
theorem kc_38 {V : jx_V} (hV : V.1.stackTraces = false) {X : jx_X} {R : jx_R} {I : jx_I} {a0 : Nat}  {s : YZ} (h : CI X R I a0 s) (hg : ZG s)  : jp V 202 182 (0, 0) [.ref a0] X I R (KQ X R I a0 none (jy (ov_38 s )) s) (fun _ _ _ => False) := by
  have hh := h
  obtain ⟨ld, l2, y, y2, hG, hL, hYs, hY, hT, hF, hE, hI, hr⟩ := hh
  have hW := hg.1
  have hC := hg.2.1
  have hW1 := hW.1
  refine jp_d (QE0 := fun _ _ _ => False) (cz_182 hV hG  hY hg.2.2.1) (fun rv I' R' hq => ?_) (fun _ _ _ q => q)
  obtain ⟨q1, q2, q3⟩ := hq
  exact ⟨rfl, q1, CI_24 h hg q2 q3, hg, FB_24 q2 q3⟩
