/-! ===== the reference: what is asked and answered ===== -/
theorem MQ_e {X : jx_X} {R : jx_R} {I I' : jx_I} {m : Nat} {ty : Option Value → Prop} {e : Option (Nat × Int)} {v : Value} {s s' : YZ} {rv : Option Value} (h : MI X R I m s) (hg : ZG s) (hq : ∃ k w, e = some (k, w) ∧ I' = RM (jx_u I m 0 (Int32.ofInt 0)) m k w ∧ ty rv) : MQA X R I m ty e v s s' rv I' R := by
  obtain ⟨k, w, h1, rfl, h3⟩ := hq
  have hr := MI_r (k := k) (w := w) h hg
  exact ⟨rfl, hr.2.2, Or.inr ⟨k, w, h1, h3, hr.1, hr.2.1⟩⟩
theorem mc_3 {V : jx_V} (hV : V.1.stackTraces = false) {X : jx_X} {R : jx_R} {I : jx_I} {m : Nat} {a1 : Int} {s : YZ} (h : MI X R I m s) (hg : ZG s) (r_a1 : -2147483648 ≤ a1 ∧ a1 < 2147483648) : jp V 2 231 (0, 0) [.ref m, jy a1] X I R (MQA X R I m ty_i (oe_3 s a1) (jy (ov_3 s a1)) s s) (fun _ _ _ => False) := by
  have hh := h
  obtain ⟨hM, hX, hP, hB, hF, hI, hr⟩ := hh
  have hW := hg.1
  have hC := hg.2.1
  refine jp_c (QE0 := fun _ _ => False) (cz_231 hV hM hX hW hC r_a1) (fun rv I' hq => ?_) (fun _ _ q => q)
  exact MQ_s h hg hq
theorem mc_4 {V : jx_V} (hV : V.1.stackTraces = false) {X : jx_X} {R : jx_R} {I : jx_I} {m : Nat} {a1 : Int} {s : YZ} (h : MI X R I m s) (hg : ZG s) (r_a1 : -2147483648 ≤ a1 ∧ a1 < 2147483648) : jp V 3 234 (0, 0) [.ref m, jy a1] X I R (MQA X R I m ty_i (oe_4 s a1) (jy (ov_4 s a1)) s s) (fun _ _ _ => False) := by
  have hh := h
  obtain ⟨hM, hX, hP, hB, hF, hI, hr⟩ := hh
  have hW := hg.1
  have hC := hg.2.1
  refine jp_c (QE0 := fun _ _ => False) (cz_234 hV hM hX hW hC r_a1) (fun rv I' hq => ?_) (fun _ _ q => q)
  exact MQ_s h hg hq
theorem mc_5 {V : jx_V} (hV : V.1.stackTraces = false) {X : jx_X} {R : jx_R} {I : jx_I} {m : Nat} {a1 : Int} {a2 : Int} {s : YZ} (h : MI X R I m s) (hg : ZG s) (r_a1 : -2147483648 ≤ a1 ∧ a1 < 2147483648) (r_a2 : -2147483648 ≤ a2 ∧ a2 < 2147483648) : jp V 3 235 (0, 0) [.ref m, jy a1, jy a2] X I R (MQA X R I m ty_i (oe_5 s a1 a2) (jy (ov_5 s a1 a2)) s s) (fun _ _ _ => False) := by
  have hh := h
  obtain ⟨hM, hX, hP, hB, hF, hI, hr⟩ := hh
  have hW := hg.1
  have hC := hg.2.1
  refine jp_c (QE0 := fun _ _ => False) (cz_235 hV hM hX hW hC r_a1 r_a2) (fun rv I' hq => ?_) (fun _ _ q => q)
  exact MQ_s h hg hq
theorem mc_6 {V : jx_V} (hV : V.1.stackTraces = false) {X : jx_X} {R : jx_R} {I : jx_I} {m : Nat} {a1 : Int} {a2 : Int} {s : YZ} (h : MI X R I m s) (hg : ZG s) (r_a1 : -2147483648 ≤ a1 ∧ a1 < 2147483648) (r_a2 : -2147483648 ≤ a2 ∧ a2 < 2147483648) : jp V 3 236 (0, 0) [.ref m, jy a1, jy a2] X I R (MQA X R I m ty_i (oe_6 s a1 a2) (jy (ov_6 s a1 a2)) s s) (fun _ _ _ => False) := by
  have hh := h
  obtain ⟨hM, hX, hP, hB, hF, hI, hr⟩ := hh
  have hW := hg.1
  have hC := hg.2.1
  refine jp_c (QE0 := fun _ _ => False) (cz_236 hV hM hX hW hC r_a1 r_a2) (fun rv I' hq => ?_) (fun _ _ q => q)
  exact MQ_s h hg hq
theorem mc_7 {V : jx_V} (hV : V.1.stackTraces = false) {X : jx_X} {R : jx_R} {I : jx_I} {m : Nat} {a1 : Int} {a2 : Int} {a3 : Int} {s : YZ} (h : MI X R I m s) (hg : ZG s) (r_a1 : -2147483648 ≤ a1 ∧ a1 < 2147483648) (r_a2 : -2147483648 ≤ a2 ∧ a2 < 2147483648) (r_a3 : -2147483648 ≤ a3 ∧ a3 < 2147483648) : jp V 3 237 (0, 0) [.ref m, jy a1, jy a2, jy a3] X I R (MQA X R I m ty_i (oe_7 s a1 a2 a3) (jy (ov_7 s a1 a2 a3)) s s) (fun _ _ _ => False) := by
  have hh := h
  obtain ⟨hM, hX, hP, hB, hF, hI, hr⟩ := hh
  have hW := hg.1
  have hC := hg.2.1
  refine jp_c (QE0 := fun _ _ => False) (cz_237 hV hM hX hW hC r_a1 r_a2 r_a3) (fun rv I' hq => ?_) (fun _ _ q => q)
  exact MQ_s h hg hq
theorem mc_12 {V : jx_V} (hV : V.1.stackTraces = false) {X : jx_X} {R : jx_R} {I : jx_I} {m : Nat} {a1 : Int} {s : YZ} (h : MI X R I m s) (hg : ZG s) (r_a1 : -2147483648 ≤ a1 ∧ a1 < 2147483648) : jp V 4 248 (0, 0) [.ref m, jy a1] X I R (MQA X R I m ty_i (oe_12 s a1) (jy (ov_12 s a1)) s s) (fun _ _ _ => False) := by
  have hh := h
  obtain ⟨hM, hX, hP, hB, hF, hI, hr⟩ := hh
  have hW := hg.1
  have hC := hg.2.1
  refine jp_c (QE0 := fun _ _ => False) (cz_248 hV hM hX hW hC r_a1) (fun rv I' hq => ?_) (fun _ _ q => q)
  exact MQ_s h hg hq
theorem mc_13 {V : jx_V} (hV : V.1.stackTraces = false) {X : jx_X} {R : jx_R} {I : jx_I} {m : Nat} {a1 : Int} {a2 : Int} {s : YZ} (h : MI X R I m s) (hg : ZG s) (r_a1 : -2147483648 ≤ a1 ∧ a1 < 2147483648) (r_a2 : -2147483648 ≤ a2 ∧ a2 < 2147483648) : jp V 3 249 (0, 0) [.ref m, jy a1, jy a2] X I R (MQA X R I m ty_i (oe_13 s a1 a2) (jy (ov_13 s a1 a2)) s s) (fun _ _ _ => False) := by
  have hh := h
  obtain ⟨hM, hX, hP, hB, hF, hI, hr⟩ := hh
  have hW := hg.1
  have hC := hg.2.1
  refine jp_c (QE0 := fun _ _ => False) (cz_249 hV hM hX hW hC r_a1 r_a2) (fun rv I' hq => ?_) (fun _ _ q => q)
  exact MQ_s h hg hq
theorem mc_14 {V : jx_V} (hV : V.1.stackTraces = false) {X : jx_X} {R : jx_R} {I : jx_I} {m : Nat} {a1 : Int} {a2 : Int} {s : YZ} (h : MI X R I m s) (hg : ZG s) (r_a1 : -2147483648 ≤ a1 ∧ a1 < 2147483648) (r_a2 : -2147483648 ≤ a2 ∧ a2 < 2147483648) : jp V 4 251 (0, 0) [.ref m, jy a1, jy a2] X I R (MQA X R I m ty_i (oe_14 s a1 a2) (jy (ov_14 s a1 a2)) s s) (fun _ _ _ => False) := by
  have hh := h
  obtain ⟨hM, hX, hP, hB, hF, hI, hr⟩ := hh
  have hW := hg.1
  have hC := hg.2.1
  refine jp_c (QE0 := fun _ _ => False) (cz_251 hV hM hX hW hC r_a1 r_a2) (fun rv I' hq => ?_) (fun _ _ q => q)
  exact MQ_s h hg hq
theorem mc_17 {V : jx_V} (hV : V.1.stackTraces = false) {X : jx_X} {R : jx_R} {I : jx_I} {m : Nat} {a1 : Int} {s : YZ} (h : MI X R I m s) (hg : ZG s) (r_a1 : -2147483648 ≤ a1 ∧ a1 < 2147483648) : jp V 6 261 (0, 0) [.ref m, jy a1] X I R (MQA X R I m ty_i (oe_17 s a1) (jy (ov_17 s a1)) s s) (fun _ _ _ => False) := by
  have hh := h
  obtain ⟨hM, hX, hP, hB, hF, hI, hr⟩ := hh
  have hW := hg.1
  have hC := hg.2.1
  refine jp_c (QE0 := fun _ _ => False) (cz_261 hV hM hX hW hC r_a1) (fun rv I' hq => ?_) (fun _ _ q => q)
  exact MQ_s h hg hq
theorem mc_18 {V : jx_V} (hV : V.1.stackTraces = false) {X : jx_X} {R : jx_R} {I : jx_I} {m : Nat} {a1 : Int} {s : YZ} (h : MI X R I m s) (hg : ZG s) (r_a1 : -2147483648 ≤ a1 ∧ a1 < 2147483648) : jp V 6 263 (0, 0) [.ref m, jy a1] X I R (MQA X R I m ty_i (oe_18 s a1) (jy (ov_18 s a1)) s s) (fun _ _ _ => False) := by
  have hh := h
  obtain ⟨hM, hX, hP, hB, hF, hI, hr⟩ := hh
  have hW := hg.1
  have hC := hg.2.1
  refine jp_c (QE0 := fun _ _ => False) (cz_263 hV hM hX hW hC r_a1) (fun rv I' hq => ?_) (fun _ _ q => q)
  exact MQ_s h hg hq
theorem mc_19 {V : jx_V} (hV : V.1.stackTraces = false) {X : jx_X} {R : jx_R} {I : jx_I} {m : Nat} {a1 : Int} {s : YZ} (h : MI X R I m s) (hg : ZG s) (r_a1 : -2147483648 ≤ a1 ∧ a1 < 2147483648) : jp V 6 264 (0, 0) [.ref m, jy a1] X I R (MQA X R I m ty_i (oe_19 s a1) (jy (ov_19 s a1)) s s) (fun _ _ _ => False) := by
  have hh := h
  obtain ⟨hM, hX, hP, hB, hF, hI, hr⟩ := hh
  have hW := hg.1
  have hC := hg.2.1
  refine jp_c (QE0 := fun _ _ => False) (cz_264 hV hM hX hW hC r_a1) (fun rv I' hq => ?_) (fun _ _ q => q)
  exact MQ_s h hg hq
theorem mc_22 {V : jx_V} (hV : V.1.stackTraces = false) {X : jx_X} {R : jx_R} {I : jx_I} {m : Nat} {a1 : Int} {a2 : Int} {a3 : Int} {s : YZ} (h : MI X R I m s) (hg : ZG s) (r_a1 : -2147483648 ≤ a1 ∧ a1 < 2147483648) (r_a2 : -2147483648 ≤ a2 ∧ a2 < 2147483648) (r_a3 : -2147483648 ≤ a3 ∧ a3 < 2147483648) : jp V 5 269 (0, 0) [.ref m, jy a1, jy a2, jy a3] X I R (MQA X R I m ty_l (oe_22 s a1 a2 a3) (.long (ov_22 s a1 a2 a3)) s s) (fun _ _ _ => False) := by
  have hh := h
  obtain ⟨hM, hX, hP, hB, hF, hI, hr⟩ := hh
  have hW := hg.1
  have hC := hg.2.1
  refine jp_c (QE0 := fun _ _ => False) (cz_269 hV hM hX hW hC r_a1 r_a2 r_a3) (fun rv I' hq => ?_) (fun _ _ q => q)
  exact MQ_s h hg hq
theorem mc_23 {V : jx_V} (hV : V.1.stackTraces = false) {X : jx_X} {R : jx_R} {I : jx_I} {m : Nat} {a1 : Int} {a2 : Int} {s : YZ} (h : MI X R I m s) (hg : ZG s) (r_a1 : -2147483648 ≤ a1 ∧ a1 < 2147483648) (r_a2 : -2147483648 ≤ a2 ∧ a2 < 2147483648) : jp V 201 275 (0, 0) [.ref m, jy a1, jy a2] X I R (MQA X R I m ty_i (oe_23 s a1 a2) (jy (ov_23 s a1 a2)) s s) (fun _ _ _ => False) := by
  have hh := h
  obtain ⟨hM, hX, hP, hB, hF, hI, hr⟩ := hh
  have hW := hg.1
  have hC := hg.2.1
  refine jp_c (QE0 := fun _ _ => False) (cz_275 hV hM hX hW hC r_a1 r_a2) (fun rv I' hq => ?_) (fun _ _ q => q)
  exact MQ_s h hg hq
theorem mc_24 {V : jx_V} (hV : V.1.stackTraces = false) {X : jx_X} {R : jx_R} {I : jx_I} {m : Nat} {a1 : Int} {s : YZ} (h : MI X R I m s) (hg : ZG s) (r_a1 : -2147483648 ≤ a1 ∧ a1 < 2147483648) : jp V 7 278 (0, 0) [.ref m, jy a1] X I R (MQA X R I m ty_i (oe_24 s a1) (jy (ov_24 s a1)) s s) (fun _ _ _ => False) := by
  have hh := h
  obtain ⟨hM, hX, hP, hB, hF, hI, hr⟩ := hh
  have hW := hg.1
  have hC := hg.2.1
  refine jp_c (QE0 := fun _ _ => False) (cz_278 hV hM hX hW hC r_a1) (fun rv I' hq => ?_) (fun _ _ q => q)
  exact MQ_s h hg hq
theorem mc_25 {V : jx_V} (hV : V.1.stackTraces = false) {X : jx_X} {R : jx_R} {I : jx_I} {m : Nat} {a1 : Int} {s : YZ} (h : MI X R I m s) (hg : ZG s) (r_a1 : -2147483648 ≤ a1 ∧ a1 < 2147483648) : jp V 7 279 (0, 0) [.ref m, jy a1] X I R (MQA X R I m ty_i (oe_25 s a1) (jy (ov_25 s a1)) s s) (fun _ _ _ => False) := by
  have hh := h
  obtain ⟨hM, hX, hP, hB, hF, hI, hr⟩ := hh
  have hW := hg.1
  have hC := hg.2.1
  refine jp_c (QE0 := fun _ _ => False) (cz_279 hV hM hX hW hC r_a1) (fun rv I' hq => ?_) (fun _ _ q => q)
  exact MQ_s h hg hq
theorem mc_26 {V : jx_V} (hV : V.1.stackTraces = false) {X : jx_X} {R : jx_R} {I : jx_I} {m : Nat} {a1 : Int} {s : YZ} (h : MI X R I m s) (hg : ZG s) (r_a1 : -2147483648 ≤ a1 ∧ a1 < 2147483648) : jp V 6 280 (0, 0) [.ref m, jy a1] X I R (MQA X R I m ty_i (oe_26 s a1) (jy (ov_26 s a1)) s s) (fun _ _ _ => False) := by
  have hh := h
  obtain ⟨hM, hX, hP, hB, hF, hI, hr⟩ := hh
  have hW := hg.1
  have hC := hg.2.1
  refine jp_c (QE0 := fun _ _ => False) (cz_280 hV hM hX hW hC r_a1) (fun rv I' hq => ?_) (fun _ _ q => q)
  exact MQ_s h hg hq
theorem mc_29 {V : jx_V} (hV : V.1.stackTraces = false) {X : jx_X} {R : jx_R} {I : jx_I} {m : Nat} {a1 : Int} {s : YZ} (h : MI X R I m s) (hg : ZG s) (r_a1 : -2147483648 ≤ a1 ∧ a1 < 2147483648) : jp V 4 286 (0, 0) [.ref m, jy a1] X I R (MQA X R I m ty_i (oe_29 s a1) (jy (ov_29 s a1)) s s) (fun _ _ _ => False) := by
  have hh := h
  obtain ⟨hM, hX, hP, hB, hF, hI, hr⟩ := hh
  have hW := hg.1
  have hC := hg.2.1
  refine jp_c (QE0 := fun _ _ => False) (cz_286 hV hM hX hW hC r_a1) (fun rv I' hq => ?_) (fun _ _ q => q)
  exact MQ_s h hg hq
theorem mc_30 {V : jx_V} (hV : V.1.stackTraces = false) {X : jx_X} {R : jx_R} {I : jx_I} {m : Nat} {a1 : Int} {a2 : Int} {s : YZ} (h : MI X R I m s) (hg : ZG s) (r_a1 : -2147483648 ≤ a1 ∧ a1 < 2147483648) (r_a2 : -2147483648 ≤ a2 ∧ a2 < 2147483648) : jp V 3 288 (0, 0) [.ref m, jy a1, jy a2] X I R (MQA X R I m ty_i (oe_30 s a1 a2) (jy (ov_30 s a1 a2)) s s) (fun _ _ _ => False) := by
  have hh := h
  obtain ⟨hM, hX, hP, hB, hF, hI, hr⟩ := hh
  have hW := hg.1
  have hC := hg.2.1
  refine jp_c (QE0 := fun _ _ => False) (cz_288 hV hM hX hW hC r_a1 r_a2) (fun rv I' hq => ?_) (fun _ _ q => q)
  exact MQ_s h hg hq
theorem mc_31 {V : jx_V} (hV : V.1.stackTraces = false) {X : jx_X} {R : jx_R} {I : jx_I} {m : Nat} {a1 : Int} {s : YZ} (h : MI X R I m s) (hg : ZG s) (r_a1 : -2147483648 ≤ a1 ∧ a1 < 2147483648) : jp V 5 289 (0, 0) [.ref m, jy a1] X I R (MQA X R I m ty_i (oe_31 s a1) (jy (ov_31 s a1)) s s) (fun _ _ _ => False) := by
  have hh := h
  obtain ⟨hM, hX, hP, hB, hF, hI, hr⟩ := hh
  have hW := hg.1
  have hC := hg.2.1
  refine jp_c (QE0 := fun _ _ => False) (cz_289 hV hM hX hW hC r_a1) (fun rv I' hq => ?_) (fun _ _ q => q)
  exact MQ_s h hg hq
theorem mc_32 {V : jx_V} (hV : V.1.stackTraces = false) {X : jx_X} {R : jx_R} {I : jx_I} {m : Nat} {a1 : Int} {a2 : Int} {s : YZ} (h : MI X R I m s) (hg : ZG s) (r_a1 : -2147483648 ≤ a1 ∧ a1 < 2147483648) (r_a2 : -2147483648 ≤ a2 ∧ a2 < 2147483648) : jp V 7 291 (0, 0) [.ref m, jy a1, jy a2] X I R (MQA X R I m ty_i (oe_32 s a1 a2) (jy (ov_32 s a1 a2)) s s) (fun _ _ _ => False) := by
  have hh := h
  obtain ⟨hM, hX, hP, hB, hF, hI, hr⟩ := hh
  have hW := hg.1
  have hC := hg.2.1
  refine jp_c (QE0 := fun _ _ => False) (cz_291 hV hM hX hW hC r_a1 r_a2) (fun rv I' hq => ?_) (fun _ _ q => q)
  exact MQ_s h hg hq
theorem mc_33 {V : jx_V} (hV : V.1.stackTraces = false) {X : jx_X} {R : jx_R} {I : jx_I} {m : Nat} {a1 : Int} {a2 : Int} {a3 : Int} {a4 : Int} {s : YZ} (h : MI X R I m s) (hg : ZG s) (r_a1 : -2147483648 ≤ a1 ∧ a1 < 2147483648) (r_a2 : -2147483648 ≤ a2 ∧ a2 < 2147483648) (r_a3 : -2147483648 ≤ a3 ∧ a3 < 2147483648) (r_a4 : -2147483648 ≤ a4 ∧ a4 < 2147483648) : jp V 7 292 (0, 0) [.ref m, jy a1, jy a2, jy a3, jy a4] X I R (MQA X R I m ty_i (oe_33 s a1 a2 a3 a4) (jy (ov_33 s a1 a2 a3 a4)) s s) (fun _ _ _ => False) := by
  have hh := h
  obtain ⟨hM, hX, hP, hB, hF, hI, hr⟩ := hh
  have hW := hg.1
  have hC := hg.2.1
  refine jp_c (QE0 := fun _ _ => False) (cz_292 hV hM hX hW hC r_a1 r_a2 r_a3 r_a4) (fun rv I' hq => ?_) (fun _ _ q => q)
  exact MQ_s h hg hq
theorem mc_39 {V : jx_V} (hV : V.1.stackTraces = false) {X : jx_X} {R : jx_R} {I : jx_I} {m : Nat} {a1 : Int} {a2 : Int} {a3 : Int} {s : YZ} (h : MI X R I m s) (hg : ZG s) (r_a1 : -2147483648 ≤ a1 ∧ a1 < 2147483648) (r_a2 : -2147483648 ≤ a2 ∧ a2 < 2147483648) (r_a3 : -2147483648 ≤ a3 ∧ a3 < 2147483648) : jp V 4 273 (0, 0) [.ref m, jy a1, jy a2, jy a3] X I R (MQA X R I m ty_i (oe_39 s a1 a2 a3) (jy (ov_39 s a1 a2 a3)) s s) (fun _ _ _ => False) := by
  have hh := h
  obtain ⟨hM, hX, hP, hB, hF, hI, hr⟩ := hh
  have hW := hg.1
  have hC := hg.2.1
  refine jp_c (QE0 := fun _ _ => False) (cz_273 hV hM hX hW hC r_a1 r_a2 r_a3) (fun rv I' hq => ?_) (fun _ _ q => q)
  exact MQ_s h hg hq
theorem mc_40 {V : jx_V} (hV : V.1.stackTraces = false) {X : jx_X} {R : jx_R} {I : jx_I} {m : Nat} {a1 : Int} {s : YZ} (h : MI X R I m s) (hg : ZG s) (r_a1 : -2147483648 ≤ a1 ∧ a1 < 2147483648) : jp V 5 270 (0, 0) [.ref m, jy a1] X I R (MQA X R I m ty_i (oe_40 s a1) (jy (ov_40 s a1)) s s) (fun _ _ _ => False) := by
  have hh := h
  obtain ⟨hM, hX, hP, hB, hF, hI, hr⟩ := hh
  have hW := hg.1
  have hC := hg.2.1
  refine jp_c (QE0 := fun _ _ => False) (cz_270 hV hM hX hW hC r_a1) (fun rv I' hq => ?_) (fun _ _ q => q)
  exact MQ_s h hg hq
theorem mc_41 {V : jx_V} (hV : V.1.stackTraces = false) {X : jx_X} {R : jx_R} {I : jx_I} {m : Nat} {a1 : Int} {a2 : Int} {s : YZ} (h : MI X R I m s) (hg : ZG s) (r_a1 : -2147483648 ≤ a1 ∧ a1 < 2147483648) (r_a2 : -2147483648 ≤ a2 ∧ a2 < 2147483648) : jp V 7 295 (0, 0) [.ref m, jy a1, jy a2] X I R (MQA X R I m ty_i (oe_41 s a1 a2) (jy (ov_41 s a1 a2)) s s) (fun _ _ _ => False) := by
  have hh := h
  obtain ⟨hM, hX, hP, hB, hF, hI, hr⟩ := hh
  have hW := hg.1
  have hC := hg.2.1
  refine jp_c (QE0 := fun _ _ => False) (cz_295 hV hM hX hW hC r_a1 r_a2) (fun rv I' hq => ?_) (fun _ _ q => q)
  exact MQ_s h hg hq
theorem mc_42 {V : jx_V} (hV : V.1.stackTraces = false) {X : jx_X} {R : jx_R} {I : jx_I} {m : Nat} {a1 : Int} {a2 : Int} {s : YZ} (h : MI X R I m s) (hg : ZG s) (r_a1 : -2147483648 ≤ a1 ∧ a1 < 2147483648) (r_a2 : -2147483648 ≤ a2 ∧ a2 < 2147483648) : jp V 7 296 (0, 0) [.ref m, jy a1, jy a2] X I R (MQA X R I m ty_i (oe_42 s a1 a2) (jy (ov_42 s a1 a2)) s s) (fun _ _ _ => False) := by
  have hh := h
  obtain ⟨hM, hX, hP, hB, hF, hI, hr⟩ := hh
  have hW := hg.1
  have hC := hg.2.1
  refine jp_c (QE0 := fun _ _ => False) (cz_296 hV hM hX hW hC r_a1 r_a2) (fun rv I' hq => ?_) (fun _ _ q => q)
  exact MQ_s h hg hq
theorem mc_43 {V : jx_V} (hV : V.1.stackTraces = false) {X : jx_X} {R : jx_R} {I : jx_I} {m : Nat} {a1 : Int} {s : YZ} (h : MI X R I m s) (hg : ZG s) (r_a1 : -2147483648 ≤ a1 ∧ a1 < 2147483648) : jp V 6 297 (0, 0) [.ref m, jy a1] X I R (MQA X R I m ty_i (oe_43 s a1) (jy (ov_43 s a1)) s s) (fun _ _ _ => False) := by
  have hh := h
  obtain ⟨hM, hX, hP, hB, hF, hI, hr⟩ := hh
  have hW := hg.1
  have hC := hg.2.1
  refine jp_c (QE0 := fun _ _ => False) (cz_297 hV hM hX hW hC r_a1) (fun rv I' hq => ?_) (fun _ _ q => q)
  exact MQ_s h hg hq
theorem mc_44 {V : jx_V} (hV : V.1.stackTraces = false) {X : jx_X} {R : jx_R} {I : jx_I} {m : Nat} {a1 : Int} {a2 : Int} {s : YZ} (h : MI X R I m s) (hg : ZG s) (r_a1 : -2147483648 ≤ a1 ∧ a1 < 2147483648) (r_a2 : -2147483648 ≤ a2 ∧ a2 < 2147483648) : jp V 3 298 (0, 0) [.ref m, jy a1, jy a2] X I R (MQA X R I m ty_i (oe_44 s a1 a2) (jy (ov_44 s a1 a2)) s s) (fun _ _ _ => False) := by
  have hh := h
  obtain ⟨hM, hX, hP, hB, hF, hI, hr⟩ := hh
  have hW := hg.1
  have hC := hg.2.1
  refine jp_c (QE0 := fun _ _ => False) (cz_298 hV hM hX hW hC r_a1 r_a2) (fun rv I' hq => ?_) (fun _ _ q => q)
  exact MQ_s h hg hq
theorem mc_46 {V : jx_V} (hV : V.1.stackTraces = false) {X : jx_X} {R : jx_R} {I : jx_I} {m : Nat}  {s : YZ} (h : MI X R I m s) (hg : ZG s)  : jp V 5 300 (0, 0) [.ref m] X I R (MQA X R I m ty_i (oe_46 s ) (jy (ov_46 s )) s s) (fun _ _ _ => False) := by
  have hh := h
  obtain ⟨hM, hX, hP, hB, hF, hI, hr⟩ := hh
  have hW := hg.1
  have hC := hg.2.1
  refine jp_c (QE0 := fun _ _ => False) (cz_300 hV hM hX hW hC ) (fun rv I' hq => ?_) (fun _ _ q => q)
  exact MQ_s h hg hq
theorem mc_47 {V : jx_V} (hV : V.1.stackTraces = false) {X : jx_X} {R : jx_R} {I : jx_I} {m : Nat} {a1 : Int} {s : YZ} (h : MI X R I m s) (hg : ZG s) (r_a1 : -2147483648 ≤ a1 ∧ a1 < 2147483648) : jp V 7 281 (0, 0) [.ref m, jy a1] X I R (MQA X R I m ty_i (oe_47 s a1) (jy (ov_47 s a1)) s s) (fun _ _ _ => False) := by
  have hh := h
  obtain ⟨hM, hX, hP, hB, hF, hI, hr⟩ := hh
  have hW := hg.1
  have hC := hg.2.1
  refine jp_c (QE0 := fun _ _ => False) (cz_281 hV hM hX hW hC r_a1) (fun rv I' hq => ?_) (fun _ _ q => q)
  exact MQ_s h hg hq
theorem mc_35 {V : jx_V} (hV : V.1.stackTraces = false) {X : jx_X} {R : jx_R} {I : jx_I} {m : Nat} {a1 : Int} {a2 : Int} {s : YZ} (h : MI X R I m s) (hg : ZG s) (r_a1 : -2147483648 ≤ a1 ∧ a1 < 2147483648) (r_a2 : -2147483648 ≤ a2 ∧ a2 < 2147483648) : jp V 202 317 (0, 0) [.ref m, jy a1, jy a2] X I R (MQA X R I m ty_i (oe_35 s a1 a2) (jy (ov_35 s a1 a2)) s s) (fun _ _ _ => False) := by
  have hh := h
  obtain ⟨hM, hX, hP, hB, hF, hI, hr⟩ := hh
  have hW := hg.1
  have hC := hg.2.1
  refine jp_c (QE0 := fun _ _ => False) (cz_317 hV hM hX hW hC r_a1 r_a2 hP hg.2.2.1) (fun rv I' hq => ?_) (fun _ _ q => q)
  exact MQ_s h hg hq
theorem mc_36 {V : jx_V} (hV : V.1.stackTraces = false) {X : jx_X} {R : jx_R} {I : jx_I} {m : Nat} {a1 : Int} {a2 : Int} {a3 : Int} {s : YZ} (h : MI X R I m s) (hg : ZG s) (r_a1 : -2147483648 ≤ a1 ∧ a1 < 2147483648) (r_a2 : -2147483648 ≤ a2 ∧ a2 < 2147483648) (r_a3 : -2147483648 ≤ a3 ∧ a3 < 2147483648) : jp V 202 318 (0, 0) [.ref m, jy a1, jy a2, jy a3] X I R (MQA X R I m ty_i (oe_36 s a1 a2 a3) (jy (ov_36 s a1 a2 a3)) s s) (fun _ _ _ => False) := by
  have hh := h
  obtain ⟨hM, hX, hP, hB, hF, hI, hr⟩ := hh
  have hW := hg.1
  have hC := hg.2.1
  refine jp_c (QE0 := fun _ _ => False) (cz_318 hV hM hX hW hC r_a1 r_a2 r_a3 hP hg.2.2.1) (fun rv I' hq => ?_) (fun _ _ q => q)
  exact MQ_s h hg hq
theorem mc_37 {V : jx_V} (hV : V.1.stackTraces = false) {X : jx_X} {R : jx_R} {I : jx_I} {m : Nat} {a1 : Int} {a2 : Int} {s : YZ} (h : MI X R I m s) (hg : ZG s) (r_a1 : -2147483648 ≤ a1 ∧ a1 < 2147483648) (r_a2 : -2147483648 ≤ a2 ∧ a2 < 2147483648) : jp V 202 319 (0, 0) [.ref m, jy a1, jy a2] X I R (MQA X R I m ty_i (oe_37 s a1 a2) (jy (ov_37 s a1 a2)) s s) (fun _ _ _ => False) := by
  have hh := h
  obtain ⟨hM, hX, hP, hB, hF, hI, hr⟩ := hh
  have hW := hg.1
  have hC := hg.2.1
  refine jp_c (QE0 := fun _ _ => False) (cz_319 hV hM hX hW hC r_a1 r_a2 hP hg.2.2.1) (fun rv I' hq => ?_) (fun _ _ q => q)
  exact MQ_s h hg hq
theorem mc_38 {V : jx_V} (hV : V.1.stackTraces = false) {X : jx_X} {R : jx_R} {I : jx_I} {m : Nat}  {s : YZ} (h : MI X R I m s) (hg : ZG s)  : jp V 202 320 (0, 0) [.ref m] X I R (MQA X R I m ty_i none (jy (ov_38 s )) s s) (fun _ _ _ => False) := by
  have hh := h
  obtain ⟨hM, hX, hP, hB, hF, hI, hr⟩ := hh
  have hW := hg.1
  have hC := hg.2.1
  refine jp_c (QE0 := fun _ _ => False) (cz_320 hV hM hX hW hC hP hg.2.2.1) (fun rv I' hq => ?_) (fun _ _ q => q)
  exact MQ_s h hg hq
theorem mc_45 {V : jx_V} (hV : V.1.stackTraces = false) {X : jx_X} {R : jx_R} {I : jx_I} {m : Nat}  {s : YZ} (h : MI X R I m s) (hg : ZG s)  : jp V 1 299 (0, 0) [.ref m] X I R (MQA X R I m ty_i none (jy (ov_45 s )) s s) (fun _ _ _ => False) := by
  have hh := h
  obtain ⟨hM, hX, hP, hB, hF, hI, hr⟩ := hh
  have hW := hg.1
  have hC := hg.2.1
  refine jp_c (QE0 := fun _ _ => False) (cz_299 hV hM hX hW hC ) (fun rv I' hq => ?_) (fun _ _ q => q)
  exact MQ_s h hg hq
theorem mc_11 {V : jx_V} (hV : V.1.stackTraces = false) {X : jx_X} {R : jx_R} {I : jx_I} {m : Nat} {a1 : Int} {s : YZ} (h : MI X R I m s) (hg : ZG s) (r_a1 : -2147483648 ≤ a1 ∧ a1 < 2147483648) : jp V 2 242 (0, 0) [.ref m, jy a1] X I R (MQA X R I m ty_i none (jy (ov_11 s a1)) s s) (fun _ _ _ => False) := by
  have hh := h
  obtain ⟨hM, hX, hP, hB, hF, hI, hr⟩ := hh
  have hW := hg.1
  have hC := hg.2.1
  refine jp_c (QE0 := fun _ _ => False) (cz_242 hV hM hX hW hC r_a1) (fun rv I' hq => ?_) (fun _ _ q => q)
  exact MQ_s h hg (Or.inl ⟨rfl, hq⟩)
theorem mc_16 {V : jx_V} (hV : V.1.stackTraces = false) {X : jx_X} {R : jx_R} {I : jx_I} {m : Nat} {a1 : Int} {s : YZ} (h : MI X R I m s) (hg : ZG s) (r_a1 : -2147483648 ≤ a1 ∧ a1 < 2147483648) : jp V 2 257 (0, 0) [.ref m, jy a1] X I R (MQA X R I m ty_i none (jy (ov_16 s a1)) s s) (fun _ _ _ => False) := by
  have hh := h
  obtain ⟨hM, hX, hP, hB, hF, hI, hr⟩ := hh
  have hW := hg.1
  have hC := hg.2.1
  refine jp_c (QE0 := fun _ _ => False) (cz_257 hV hM hX hW hC r_a1) (fun rv I' hq => ?_) (fun _ _ q => q)
  exact MQ_s h hg (Or.inl ⟨rfl, hq⟩)
theorem mc_2 {V : jx_V} (hV : V.1.stackTraces = false) {X : jx_X} {R : jx_R} {I : jx_I} {m : Nat}  {s : YZ} (h : MI X R I m s) (hg : ZG s)  : jp V 1 230 (0, 0) [.ref m] X I R (MQA X R I m ty_i none (jy (ov_2 s )) s s) (fun _ _ _ => False) := by
  have hh := h
  obtain ⟨hM, hX, hP, hB, hF, hI, hr⟩ := hh
  have hW := hg.1
  have hC := hg.2.1
  refine jp_c (QE0 := fun _ _ => False) (cz_230 hV hM) (fun rv I' hq => ?_) (fun _ _ q => q)
  obtain ⟨q1, rfl⟩ := hq
  exact MQ_s h hg (Or.inl ⟨rfl, by rw [q1, hF]; rfl, by rw [jx_u_s]; rfl, FK_0⟩)
theorem mc_50 {V : jx_V} (hV : V.1.stackTraces = false) {X : jx_X} {R : jx_R} {I : jx_I} {m : Nat} {a1 : Int} {s : YZ} (h : MI X R I m s) (hg : ZG s) (r_a1 : -2147483648 ≤ a1 ∧ a1 < 2147483648) : jp V 2 325 (0, 0) [.ref m, jy a1] X I R (MQA X R I m ty_i none (jy (ov_50 s a1)) s s) (fun _ _ _ => False) := by
  have hh := h
  obtain ⟨hM, hX, hP, hB, hF, hI, hr⟩ := hh
  have hW := hg.1
  have hC := hg.2.1
  refine jp_c (QE0 := fun _ _ => False) (cz_325 hV hM r_a1) (fun rv I' hq => ?_) (fun _ _ q => q)
  obtain ⟨q1, rfl⟩ := hq
  refine MQ_s h hg (Or.inl ⟨rfl, ?_, by rw [jx_u_s]; rfl, FK_0⟩)
  rw [q1]
  unfold ov_50
  by_cases e : 0 ≤ a1 ∧ a1 ≤ 3
  · rw [if_pos e, if_pos e, hr _ (by omega)]
  · rw [if_neg e, if_neg e]
theorem mc_51 {V : jx_V} (hV : V.1.stackTraces = false) {X : jx_X} {R : jx_R} {I : jx_I} {m : Nat} {a1 : Int} {s : YZ} (h : MI X R I m s) (hg : ZG s) (r_a1 : -2147483648 ≤ a1 ∧ a1 < 2147483648) : jp V 1 326 (0, 0) [.ref m, jy a1] X I R (MQA X R I m ty_i none (jy (ov_51 s a1)) s s) (fun _ _ _ => False) := by
  have hh := h
  obtain ⟨hM, hX, hP, hB, hF, hI, hr⟩ := hh
  have hW := hg.1
  have hC := hg.2.1
  refine jp_c (QE0 := fun _ _ => False) (cz_326 hV hM r_a1) (fun rv I' hq => ?_) (fun _ _ q => q)
  obtain ⟨q1, rfl⟩ := hq
  refine MQ_s h hg (Or.inl ⟨rfl, ?_, by rw [jx_u_s]; rfl, FK_0⟩)
  rw [q1, hI.1, hB.1, hX.2.2.2.2.1]
  rfl
theorem mc_8 {V : jx_V} (hV : V.1.stackTraces = false) {X : jx_X} {R : jx_R} {I : jx_I} {m : Nat} {a1 : Int} {a2 : Int} {a3 : Int} {s : YZ} (h : MI X R I m s) (hg : ZG s) (r_a1 : -2147483648 ≤ a1 ∧ a1 < 2147483648) (r_a2 : -2147483648 ≤ a2 ∧ a2 < 2147483648) (r_a3 : -2147483648 ≤ a3 ∧ a3 < 2147483648) : jp V 3 238 (0, 0) [.ref m, jy a1, jy a2, jy a3] X I R (MQA X R I m ty_i (oe_8 s a1 a2 a3) (jy (ov_8 s a1 a2 a3)) s (os_8 s a1 a2 a3)) (fun _ _ _ => False) := by
  have hh := h
  obtain ⟨hM, hX, hP, hB, hF, hI, hr⟩ := hh
  have hW := hg.1
  have hC := hg.2.1
  refine jp_c (QE0 := fun _ _ => False) (cz_238 hV hM hX hW hC r_a1 r_a2 r_a3) (fun rv I' hq => ?_) (fun _ _ q => q)
  exact MQ_c h hg hq
theorem mc_9 {V : jx_V} (hV : V.1.stackTraces = false) {X : jx_X} {R : jx_R} {I : jx_I} {m : Nat} {a1 : Int} {a2 : Int} {s : YZ} (h : MI X R I m s) (hg : ZG s) (r_a1 : -2147483648 ≤ a1 ∧ a1 < 2147483648) (r_a2 : -2147483648 ≤ a2 ∧ a2 < 2147483648) : jp V 3 239 (0, 0) [.ref m, jy a1, jy a2] X I R (MQA X R I m ty_i (oe_9 s a1 a2) (jy (ov_9 s a1 a2)) s (os_9 s a1 a2)) (fun _ _ _ => False) := by
  have hh := h
  obtain ⟨hM, hX, hP, hB, hF, hI, hr⟩ := hh
  have hW := hg.1
  have hC := hg.2.1
  refine jp_c (QE0 := fun _ _ => False) (cz_239 hV hM hX hW hC r_a1 r_a2) (fun rv I' hq => ?_) (fun _ _ q => q)
  exact MQ_c h hg hq
theorem mc_28 {V : jx_V} (hV : V.1.stackTraces = false) {X : jx_X} {R : jx_R} {I : jx_I} {m : Nat}  {s : YZ} (h : MI X R I m s) (hg : ZG s)  : jp V 1 283 (0, 0) [.ref m] X I R (MQA X R I m ty_i none (jy (ov_28 s )) s (os_28 s )) (fun _ _ _ => False) := by
  have hh := h
  obtain ⟨hM, hX, hP, hB, hF, hI, hr⟩ := hh
  have hW := hg.1
  have hC := hg.2.1
  refine jp_c (QE0 := fun _ _ => False) (cz_283 hV hM hX hW hC ) (fun rv I' hq => ?_) (fun _ _ q => q)
  exact MQ_c h hg hq
theorem mc_10 {V : jx_V} (hV : V.1.stackTraces = false) {X : jx_X} {R : jx_R} {I : jx_I} {m : Nat} {a1 : Int} {a2 : Int64} {s : YZ} (h : MI X R I m s) (hg : ZG s) (r_a1 : -2147483648 ≤ a1 ∧ a1 < 2147483648) : jp V 3 241 (0, 0) [.ref m, jy a1, .long a2] X I R (MQA X R I m ty_i (oe_10 s a1 a2) (jy (ov_10 s a1 a2)) s (os_10 s a1 a2)) (fun _ _ _ => False) := by
  have hh := h
  obtain ⟨hM, hX, hP, hB, hF, hI, hr⟩ := hh
  have hW := hg.1
  have hC := hg.2.1
  refine jp_c (QE0 := fun _ _ => False) (cz_241 hV hM hX hW hC r_a1) (fun rv I' hq => ?_) (fun _ _ q => q)
  rcases hq with ⟨q0, q3, (⟨q2, q1, q4, q5⟩ | ⟨q2, q1, q4⟩)⟩ | hq
  · have hm := MQ_c (ty := ty_i) h hg (Or.inl ⟨q0, q1, q3, q4, q5⟩)
    unfold ov_10 os_10
    rw [cif_t q2, cif_t q2]
    exact hm
  · have hm := MQ_s (ty := ty_i) h hg (Or.inl ⟨q0, q1, q3, q4⟩)
    unfold ov_10 os_10
    rw [cif_f q2, cif_f q2]
    exact hm
  · exact MQ_e h hg hq
theorem mc_15 {V : jx_V} (hV : V.1.stackTraces = false) {X : jx_X} {R : jx_R} {I : jx_I} {m : Nat} {a1 : Int} {a2 : Int64} {s : YZ} (h : MI X R I m s) (hg : ZG s) (r_a1 : -2147483648 ≤ a1 ∧ a1 < 2147483648) : jp V 3 256 (0, 0) [.ref m, jy a1, .long a2] X I R (MQA X R I m ty_i (oe_15 s a1 a2) (jy (ov_15 s a1 a2)) s (os_15 s a1 a2)) (fun _ _ _ => False) := by
  have hh := h
  obtain ⟨hM, hX, hP, hB, hF, hI, hr⟩ := hh
  have hW := hg.1
  have hC := hg.2.1
  refine jp_c (QE0 := fun _ _ => False) (cz_256 hV hM hX hW hC r_a1) (fun rv I' hq => ?_) (fun _ _ q => q)
  rcases hq with ⟨q0, q3, (⟨q2, q1, q4, q5⟩ | ⟨q2, q1, q4⟩)⟩ | hq
  · have hm := MQ_c (ty := ty_i) h hg (Or.inl ⟨q0, q1, q3, q4, q5⟩)
    unfold ov_15 os_15
    rw [cif_t q2, cif_t q2]
    exact hm
  · have hm := MQ_s (ty := ty_i) h hg (Or.inl ⟨q0, q1, q3, q4⟩)
    unfold ov_15 os_15
    rw [cif_f q2, cif_f q2]
    exact hm
  · exact MQ_e h hg hq
theorem mc_20 {V : jx_V} (hV : V.1.stackTraces = false) {X : jx_X} {R : jx_R} {I : jx_I} {m : Nat}  {s : YZ} (h : MI X R I m s) (hg : ZG s)  : jp V 6 266 (0, 0) [.ref m] X I R (MQA X R I m ty_i (oe_20 s ) (jy (ov_20 s )) s (os_20 s )) (fun _ _ _ => False) := by
  have hh := h
  obtain ⟨hM, hX, hP, hB, hF, hI, hr⟩ := hh
  have hW := hg.1
  have hC := hg.2.1
  refine jp_c (QE0 := fun _ _ => False) (cz_266 hV hM hX hW hC ) (fun rv I' hq => ?_) (fun _ _ q => q)
  rcases hq with ⟨q0, q3, (⟨q2, q1, q4⟩ | ⟨q2, q1, q4, q5⟩)⟩ | hq
  · have hm := MQ_s (ty := ty_i) h hg (Or.inl ⟨q0, q1, q3, q4⟩)
    unfold ov_20 os_20
    rw [if_pos q2, if_pos q2]
    exact hm
  · have hm := MQ_c (ty := ty_i) h hg (Or.inl ⟨q0, q1, q3, q4, q5⟩)
    unfold ov_20 os_20
    rw [if_neg (by omega), if_neg (by omega)]
    exact hm
  · exact MQ_e h hg hq
theorem mc_27 {V : jx_V} (hV : V.1.stackTraces = false) {X : jx_X} {R : jx_R} {I : jx_I} {m : Nat} {a1 : Int} {a2 : Int} {s : YZ} (h : MI X R I m s) (hg : ZG s) (r_a1 : -2147483648 ≤ a1 ∧ a1 < 2147483648) (r_a2 : -2147483648 ≤ a2 ∧ a2 < 2147483648) : jp V 3 282 (0, 0) [.ref m, jy a1, jy a2] X I R (MQA X R I m ty_i (oe_27 s a1 a2) (jy (ov_27 s a1 a2)) s (os_27 s a1 a2)) (fun _ _ _ => False) := by
  have hh := h
  obtain ⟨hM, hX, hP, hB, hF, hI, hr⟩ := hh
  have hW := hg.1
  have hC := hg.2.1
  refine jp_c (QE0 := fun _ _ => False) (cz_282 hV hM hX hW hC r_a1 r_a2) (fun rv I' hq => ?_) (fun _ _ q => q)
  rcases hq with ⟨q0, q3, (⟨q2, q1, q4⟩ | ⟨q2, q1, q4, q5⟩)⟩ | hq
  · have hm := MQ_s (ty := ty_i) h hg (Or.inl ⟨q0, q1, q3, q4⟩)
    unfold ov_27 os_27
    rw [if_pos q2, if_pos q2]
    exact hm
  · have hm := MQ_c (ty := ty_i) h hg (Or.inl ⟨q0, q1, q3, q4, q5⟩)
    unfold ov_27 os_27
    rw [if_neg (by omega), if_neg (by omega)]
    exact hm
  · exact MQ_e h hg hq
theorem mc_21 {V : jx_V} (hV : V.1.stackTraces = false) {X : jx_X} {R : jx_R} {I : jx_I} {m : Nat}  {s : YZ} (h : MI X R I m s) (hg : ZG s)  : jp V 1 267 (0, 0) [.ref m] X I R (MQA X R I m ty_i none (jy (ov_21 s )) s (os_21 s )) (fun _ _ _ => False) := by
  have hh := h
  obtain ⟨hM, hX, hP, hB, hF, hI, hr⟩ := hh
  have hW := hg.1
  have hC := hg.2.1
  refine jp_c (QE0 := fun _ _ => False) (cz_267 hV hM hX hW hC ) (fun rv I' hq => ?_) (fun _ _ q => q)
  rcases hq with ⟨q0, q3, (⟨q2, q1, q4⟩ | ⟨u, e, q2, q1, q4, q5⟩)⟩ | hq
  · have hm := MQ_s (ty := ty_i) h hg (Or.inl ⟨q0, q1, q3, q4⟩)
    unfold ov_21 os_21
    rw [cif_t q2, cif_t q2]
    exact hm
  · have hne : ¬ CU (yz_c s) = [] := by rw [q2]; simp
    have hm := MQ_c (ty := ty_i) h hg (Or.inl ⟨q0, q1, q3, q4, q5⟩)
    unfold ov_21 os_21
    rw [cif_f hne, cif_f hne, q2, lul_, lud_, lun_]
    exact hm
  · exact MQ_e h hg hq
theorem mc_0 {V : jx_V} (hV : V.1.stackTraces = false) {X : jx_X} {R : jx_R} {I : jx_I} {m : Nat} {a1 : Int} {a2 : Int} {a3 : Int} {a4 : Int} {a5 : Int} {s : YZ} (h : MI X R I m s) (hg : ZG s) (r_a1 : -2147483648 ≤ a1 ∧ a1 < 2147483648) (r_a2 : -2147483648 ≤ a2 ∧ a2 < 2147483648) (r_a3 : -2147483648 ≤ a3 ∧ a3 < 2147483648) (r_a4 : -2147483648 ≤ a4 ∧ a4 < 2147483648) (r_a5 : -2147483648 ≤ a5 ∧ a5 < 2147483648) : jp V 1 205 (0, 0) [.ref m, jy a1, jy a2, jy a3, jy a4, jy a5] X I R (MQA X R I m ty_i none (jy (ov_0 s a1 a2 a3 a4 a5)) s (os_0 s a1 a2 a3 a4 a5)) (fun _ _ _ => False) := by
  have hh := h
  obtain ⟨hM, hX, hP, hB, hF, hI, hr⟩ := hh
  have hW := hg.1
  have hC := hg.2.1
  refine jp_c (QE0 := fun _ _ => False) (cz_205 hV hM hB.1 hg.2.2.2.1 r_a1 r_a2 r_a3 r_a4 r_a5) (fun rv I' hq => ?_) (fun _ _ q => q)
  rcases hq with ⟨q2, q1, q3, q4, q5, q6, q7⟩ | ⟨q2, q1, rfl⟩
  · unfold ov_0 os_0
    rw [if_pos q2, if_pos q2]
    have hl2 : (yz_b s ++ fbs a1 a2 a3 a4 a5).length = (yz_b s).length + 20 := by rw [List.length_append, fbs_l]
    have e0 : (I' m 0).toInt = 0 := by rw [q6 0 (by decide), jx_u_s]; rfl
    have ek : ∀ k, k ≠ 0 → k ≠ 1 → I' m k = I m k := fun k h0 h1 => by rw [q6 k h1, jx_u_k _ _ _ _ h0]
    refine ⟨rfl, fun q hq => q7 q (by omega) (by omega), Or.inl ⟨rfl, q1, ?_, e0⟩⟩
    refine MI_G (c' := yz_c s) (i' := yz_i s) (r' := yz_r s) h (MSX_b hX hW (fun k hk => ek k ((show ∀ k ∈ [23, 36, 37, 38, 39], k ≠ 0 by decide) k hk) ((show ∀ k ∈ [23, 36, 37, 38, 39], k ≠ 1 by decide) k hk)) (fun q h1 => q7 q (by omega) (by omega))) (ek 56 (by decide) (by decide)) ⟨by rw [q3, hl2], fed_app (g := fun k => (I (m + 1) k).toInt) (g' := fun k => (I' (m + 1) k).toInt) hB.2 q4 (fun k hk => by show (I' (m + 1) k).toInt = (I (m + 1) k).toInt; rw [q5 k hk])⟩ (by rw [ek 3 (by decide) (by decide)]; exact hF) ⟨by rw [ek 40 (by decide) (by decide)]; exact hI.1, fun k e he => KI_fr (hI.2 k e he) (q7 _ (by omega) (by omega))⟩ (by rw [q7 _ (by omega) (by omega)]; exact hr) (fun q h1 => q7 q (by omega) (by omega))
  · have hm := MQ_s (I' := jx_u I m 0 (Int32.ofInt 0)) (ty := ty_i) h hg (Or.inl ⟨(rfl : (none : Option (Nat × Int)) = none), q1, (by rw [jx_u_s]; rfl), FK_0⟩)
    unfold ov_0 os_0
    rw [if_neg (by omega), if_neg (by omega)]
    exact hm
theorem mc_48 {V : jx_V} (hV : V.1.stackTraces = false) {X : jx_X} {R : jx_R} {I : jx_I} {m : Nat}  {s : YZ} (h : MI X R I m s) (hg : ZG s)  : jp V 3 323 (0, 0) [.ref m] X I R (MQA X R I m ty_i none (jy (ov_48 s )) s (os_48 s )) (fun _ _ _ => False) := by
  have hh := h
  obtain ⟨hM, hX, hP, hB, hF, hI, hr⟩ := hh
  have hW := hg.1
  have hC := hg.2.1
  refine jp_c (QE0 := fun _ _ => False) (cz_323 hV hM hX hW hC hI.1 hg.2.2.2.2.1) (fun rv I' hq => ?_) (fun _ _ q => q)
  rcases hq with ⟨q2, q1, rfl⟩ | ⟨q2, q1, q3, q4, q5, q6, q7⟩
  · have hm := MQ_s (I' := jx_u I m 0 (Int32.ofInt 0)) (ty := ty_i) h hg (Or.inl ⟨(rfl : (none : Option (Nat × Int)) = none), q1, (by rw [jx_u_s]; rfl), FK_0⟩)
    unfold ov_48 os_48
    rw [if_pos q2, if_pos q2]
    exact hm
  · unfold ov_48 os_48
    rw [if_neg (by omega), if_neg (by omega)]
    have h3 := hg.2.2.2.2.1
    have hl2 : (yz_i s ++ [yz_c s]).length = (yz_i s).length + 1 := by simp
    refine ⟨rfl, fun q hq => q6 q (by omega) (by omega), Or.inl ⟨rfl, q1, ?_, q5⟩⟩
    refine MI_G (c' := yz_c s) (B' := yz_b s) (f' := yz_f s) (r' := yz_r s) h (MSX_b hX hW (fun k hk => q7 k ((show ∀ k ∈ [23, 36, 37, 38, 39], k ≠ 0 by decide) k hk) ((show ∀ k ∈ [23, 36, 37, 38, 39], k ≠ 40 by decide) k hk) ((show ∀ k ∈ [23, 36, 37, 38, 39], k ≠ 41 by decide) k hk)) (fun q h1 => q6 q (by omega) (by omega))) (q7 56 (by decide) (by decide) (by decide)) ⟨by rw [q7 1 (by decide) (by decide) (by decide)]; exact hB.1, by rw [q6 _ (by omega) (by omega)]; exact hB.2⟩ (by rw [q7 3 (by decide) (by decide) (by decide)]; exact hF) ⟨by rw [q4, hl2], fun k e he => ?_⟩ (by rw [q6 _ (by omega) (by omega)]; exact hr) (fun q h1 => q6 q (by omega) (by omega))
    by_cases e9 : k < (yz_i s).length
    · rw [List.getElem?_append_left e9] at he
      exact KI_fr (hI.2 k e he) (q6 _ (by omega) (by omega))
    · have hk := gi_lt he
      have hk9 : k = (yz_i s).length := by omega
      rw [hk9, List.getElem?_concat_length] at he
      cases he
      rw [hk9]
      exact q3
theorem mc_49 {V : jx_V} (hV : V.1.stackTraces = false) {X : jx_X} {R : jx_R} {I : jx_I} {m : Nat}  {s : YZ} (h : MI X R I m s) (hg : ZG s)  : jp V 3 324 (0, 0) [.ref m] X I R (MQA X R I m ty_i none (jy (ov_49 s )) s (os_49 s )) (fun _ _ _ => False) := by
  have hh := h
  obtain ⟨hM, hX, hP, hB, hF, hI, hr⟩ := hh
  have hW := hg.1
  have hC := hg.2.1
  by_cases e0 : yz_i s = []
  · refine jp_c (QE0 := fun _ _ => False) (cz_324z hV hM (by rw [hI.1, e0]; rfl)) (fun rv I' hq => ?_) (fun _ _ q => q)
    obtain ⟨q1, rfl⟩ := hq
    have hm := MQ_s (I' := jx_u I m 0 (Int32.ofInt 0)) (ty := ty_i) h hg (Or.inl ⟨(rfl : (none : Option (Nat × Int)) = none), q1, (by rw [jx_u_s]; rfl), FK_0⟩)
    unfold ov_49 os_49
    rw [cif_t e0, e0]
    exact hm
  · obtain ⟨u, e, hue⟩ : ∃ u e, yz_i s = u ++ [e] := ⟨_, _, (List.dropLast_concat_getLast e0).symm⟩
    have hl2 : (u ++ [e]).length = u.length + 1 := by simp
    have h3 := hg.2.2.2.2.1
    rw [hue] at h3
    refine jp_c (QE0 := fun _ _ => False) (cz_324 hV hM hX hW hC (n := u.length) (e := e) (by rw [hI.1, hue, hl2]) (by omega) (hI.2 u.length e (by rw [hue, List.getElem?_concat_length]))) (fun rv I' hq => ?_) (fun _ _ q => q)
    obtain ⟨q1, q2, q4, q3, q5, q6⟩ := hq
    unfold ov_49 os_49
    rw [cif_f e0, hue, lul_, lud_, lun_]
    refine ⟨rfl, fun q hq => q5 q (by omega) (by omega), Or.inl ⟨rfl, q1, ?_, q3⟩⟩
    refine MI_G (B' := yz_b s) (f' := yz_f s) (r' := yz_r s) h q2 (q6 56 (by decide) (by decide)) ⟨by rw [q6 1 (by decide) (by decide)]; exact hB.1, by rw [q5 _ (by omega) (by omega)]; exact hB.2⟩ (by rw [q6 3 (by decide) (by decide)]; exact hF) ⟨q4, fun k e2 he => ?_⟩ (by rw [q5 _ (by omega) (by omega)]; exact hr) (fun q h1 => q5 q (by omega) (by omega))
    have hk := gi_lt he
    exact KI_fr (hI.2 k e2 (by rw [hue, List.getElem?_append_left hk]; exact he)) (q5 _ (by omega) (by omega))
theorem mc_34 {V : jx_V} (hV : V.1.stackTraces = false) {X : jx_X} {R : jx_R} {I : jx_I} {m : Nat} {a1 : Int} {s : YZ} (h : MI X R I m s) (hg : ZG s) (r_a1 : -2147483648 ≤ a1 ∧ a1 < 2147483648) : jp V 201 307 (0, 0) [.ref m, jy a1] X I R (MQA X R I m ty_i (oe_34 s a1) (jy (ov_34 s a1)) s (os_34 s a1)) (fun _ _ _ => False) := by
  have hh := h
  obtain ⟨hM, hX, hP, hB, hF, hI, hr⟩ := hh
  have hW := hg.1
  have hC := hg.2.1
  refine jp_c (QE0 := fun _ _ => False) (cz_307 hV hM hX.1 hW hB.1 hg.2.2.2.1 hB.2 r_a1) (fun rv I' hq => ?_) (fun _ _ q => q)
  rcases hq with ⟨q0, q1, q2, q3, q4, q5⟩ | hq
  · unfold os_34
    obtain ⟨z, hz⟩ : ∃ z, z = plo (yz_b s) a1.toNat (Ln (yz_l s)) (Lm (yz_l s)) := ⟨_, rfl⟩
    have q1' : rv = some (jy (ov_34 s a1)) := q1
    rw [← hz] at q2 q5 ⊢
    have h3 := hg.2.2.2.2.1
    have hwp := hg.2.2.1
    cases z with
    | error er =>
      have ek : ∀ k ∈ [23, 36, 37, 38, 39, 40, 56], I' m k = I m k := fun k hk => q5.2 k ((show ∀ k ∈ [23, 36, 37, 38, 39, 40, 56], k ∉ KT by decide) k hk)
      have ea : ∀ q, q ≠ m → (q < m + 1493 ∨ (m + 1613 ≤ q ∧ q < m + 1735) ∨ (m + 1855 ≤ q ∧ q < m + 2017)) → I' q = I q := fun q h0 h1 => q5.1 q h0 (by omega) (by omega) (by omega)
      refine ⟨rfl, fun q hq => ea q (by omega) (by omega), Or.inl ⟨q0, q1', ⟨hM, MSX_b hX hW (fun k hk => ek k ((show ∀ k ∈ [23, 36, 37, 38, 39], k ∈ [23, 36, 37, 38, 39, 40, 56] by decide) k hk)) (fun q h1 => ea q (by omega) (by omega)), ?_, ⟨q4, fun k x hk => by cases hk⟩, q2, ⟨by rw [ek 40 (by decide)]; exact hI.1, fun k e he => KI_fr (hI.2 k e he) (ea _ (by omega) (by have h9 := yz_k hg he; omega))⟩, by rw [ea _ (by omega) (by omega)]; exact hr⟩, q3⟩⟩
      exact ⟨by rw [ek 56 (by decide)]; exact hP.1, fun k e he => by have h5 : k < (yz_p s).1.length := gi_lt he; have := hwp.1.1; rw [ea _ (by omega) (by omega)]; exact hP.2.1 k e he, fun k e he => by have h5 : k < (yz_p s).2.1.length := gi_lt he; have := hwp.1.2.1; rw [ea _ (by omega) (by omega)]; exact hP.2.2.1 k e he, fun k e he => by have h5 : k < (yz_p s).2.2.length := gi_lt he; have := hwp.1.2.2; rw [ea _ (by omega) (by omega)]; exact hP.2.2.2 k e he⟩
    | ok r =>
      obtain ⟨g1, g2⟩ := q5
      have ek : ∀ k ∈ [23, 36, 37, 38, 39, 40], I' m k = I m k := fun k hk => g2.2 k ((show ∀ k ∈ [23, 36, 37, 38, 39, 40], k ∉ KT by decide) k hk) ((show ∀ k ∈ [23, 36, 37, 38, 39, 40], k ≠ 56 by decide) k hk)
      exact ⟨rfl, fun q hq => g2.1 q (by omega) (by omega), Or.inl ⟨q0, q1', ⟨hM, MSX_b hX hW (fun k hk => ek k ((show ∀ k ∈ [23, 36, 37, 38, 39], k ∈ [23, 36, 37, 38, 39, 40] by decide) k hk)) (fun q h1 => g2.1 q (by omega) (by omega)), g1, ⟨q4, fun k x hk => by cases hk⟩, q2, ⟨by rw [ek 40 (by decide)]; exact hI.1, fun k e he => KI_fr (hI.2 k e he) (g2.1 _ (by omega) (by have h9 := yz_k hg he; omega))⟩, by rw [g2.1 _ (by omega) (by omega)]; exact hr⟩, q3⟩⟩
  · exact MQ_e h hg hq
theorem mc_1 {V : jx_V} (hV : V.1.stackTraces = false) {X : jx_X} {R : jx_R} {I : jx_I} {m : Nat} {a1 : Int} {s : YZ} (h : MI X R I m s) (hg : ZG s) (r_a1 : -2147483648 ≤ a1 ∧ a1 < 2147483648) : jp V 202 228 (0, 0) [.ref m, jy a1] X I R (MQA X R I m ty_i (oe_1 s a1) (jy (ov_1 s a1)) s (os_1 s a1)) (fun _ _ _ => False) := by
  have hh := h
  obtain ⟨hM, hX, hP, hB, hF, hI, hr⟩ := hh
  have hW := hg.1
  have hC := hg.2.1
  refine jp_c (QE0 := fun _ _ => False) (cz_228 hV hM hB.1 hg.2.2.2.1 hB.2 r_a1) (fun rv I' hq => ?_) (fun _ _ q => q)
  rcases hq with ⟨q0, q1, q2, q3, q4, q5⟩ | hq
  · unfold os_1
    obtain ⟨z, hz⟩ : ∃ z, z = lno (yz_b s) a1.toNat := ⟨_, rfl⟩
    have q1' : rv = some (jy (ov_1 s a1)) := q1
    rw [← hz] at q2 q5 ⊢
    have h3 := hg.2.2.2.2.1
    cases z with
    | error er =>
      have ek : ∀ k ∈ [23, 36, 37, 38, 39, 40, 56], I' m k = I m k := fun k hk => q5.2 k ((show ∀ k ∈ [23, 36, 37, 38, 39, 40, 56], k ∉ [0, 1, 2, 3, 4, 5, 6, 7, 24, 25] by decide) k hk)
      have ea : ∀ q, (q < m ∨ q = m + 2 ∨ q = m + 4 ∨ q = m + 6 ∨ q = m + 8 ∨ q = m + 10 ∨ q = m + 12 ∨ (m + 25 ≤ q ∧ q < m + 35) ∨ (m + 45 ≤ q ∧ q < m + 665) ∨ m + 1288 ≤ q) → I' q = I q := fun q h0 => q5.1 q (by omega) (fun h1 => by unfold RDo at h1; omega)
      refine ⟨rfl, fun q hq => ea q (by omega), Or.inl ⟨q0, q1', ⟨hM, MSX_b hX hW (fun k hk => ek k ((show ∀ k ∈ [23, 36, 37, 38, 39], k ∈ [23, 36, 37, 38, 39, 40, 56] by decide) k hk)) (fun q h1 => ea q (by omega)), ?_, ⟨q4, fun k x hk => by cases hk⟩, q2, ⟨by rw [ek 40 (by decide)]; exact hI.1, fun k e he => KI_fr (hI.2 k e he) (ea _ (by omega))⟩, by rw [ea _ (by omega)]; exact hr⟩, q3⟩⟩
      exact ⟨by rw [ek 56 (by decide)]; exact hP.1, fun k e he => by rw [ea _ (by omega)]; exact hP.2.1 k e he, fun k e he => by rw [ea _ (by omega)]; exact hP.2.2.1 k e he, fun k e he => by rw [ea _ (by omega)]; exact hP.2.2.2 k e he⟩
    | ok L =>
      obtain ⟨g1, g2, g3, g4, g5⟩ := q5
      exact ⟨rfl, fun q hq => g4 q (by omega) (fun h1 => by unfold RDo at h1; omega) (fun h1 => by unfold SDo at h1; omega), Or.inl ⟨q0, q1', ⟨hM, g1, ⟨g3, fun k e he => (by cases he), fun k e he => (by cases he), fun k e he => (by cases he)⟩, ⟨q4, fun k x hk => by cases hk⟩, q2, ⟨g2, fun k e he => by cases he⟩, by rw [g4 _ (by omega) (fun h1 => by unfold RDo at h1; omega) (fun h1 => by unfold SDo at h1; omega)]; exact hr⟩, q3⟩⟩
  · exact MQ_e h hg hq
