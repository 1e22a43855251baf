/-! ===== every instruction's row, over the machine ===== -/
theorem jx_gw {w : Cond} (h : w ∈ lw_tbl) (g : goodWord w = true) : w ∈ jx_good := List.mem_filter.mpr ⟨h, g⟩
theorem jx_cl (ci : Nat) (h : ci ≤ 12) : vwCl[ci]? = some (jx_cn ci, jx_T ci, jx_fn ci) := by
  match ci, h with
  | 0, _ => rfl
  | 1, _ => rfl
  | 2, _ => rfl
  | 3, _ => rfl
  | 4, _ => rfl
  | 5, _ => rfl
  | 6, _ => rfl
  | 7, _ => rfl
  | 8, _ => rfl
  | 9, _ => rfl
  | 10, _ => rfl
  | 11, _ => rfl
  | 12, _ => rfl
theorem jx_layAll : (List.range 13).all (fun ci => (List.range (jx_fn ci)).all (fun k => jx_lay.any (fun e => Nat.beq e.1 ci && Nat.beq e.2.1 k))) = true := by decide +kernel
theorem jx_lays (ci : Nat) (h : ci ≤ 12) : ∀ w ∈ u_ws (jx_cn ci) (jx_T ci) (jx_fn ci), w ∈ jx_good := by
  intro w hw
  obtain ⟨k, hk, rfl⟩ := List.mem_map.mp hw
  have h1 := List.all_eq_true.mp (List.all_eq_true.mp jx_layAll ci (List.mem_range.mpr (by omega))) k hk
  obtain ⟨e, he, h2⟩ := List.any_eq_true.mp h1
  simp only [Bool.and_eq_true] at h2
  have e1 := Nat.eq_of_beq_eq_true h2.1
  have e2 := Nat.eq_of_beq_eq_true h2.2
  have h3 := jx_walk_ok _ _ jx_lay_ok (e.2.2, u_lay (jx_cn e.1) (jx_T e.1) e.2.1) (List.mem_map.mpr ⟨e, he, rfl⟩)
  rw [e1, e2] at h3
  refine jx_gw h3 ?_
  unfold u_lay
  split <;> rfl
/-- the types of the fields, and that their names differ -/
def jx_ty (ci k : Nat) : FieldType := (parseFieldDescriptor (jx_T ci k).2.2.1).getD .int
theorem jx_tyAll : (List.range 13).all (fun ci => (List.range (jx_fn ci)).all (fun k => decide (parseFieldDescriptor (jx_T ci k).2.2.1 = some (jx_ty ci k)) && (match jx_ty ci k with
    | .int => Nat.beq (jx_fk ci k) 0
    | .boolean => Nat.beq (jx_fk ci k) 2
    | .object _ => Nat.beq (jx_fk ci k) 1
    | .array _ => Nat.beq (jx_fk ci k) 1
    | _ => false))) = true := by decide +kernel
theorem jx_nmAll : (List.range 13).all (fun ci => (List.range (jx_fn ci)).all (fun a => (List.range (jx_fn ci)).all (fun b => Nat.beq a b || decide ((jx_T ci a).2.1 ≠ (jx_T ci b).2.1)))) = true := by decide +kernel
theorem jx_ownAll : (List.range 13).all (fun ci => (List.range (jx_fn ci)).all (fun k => decide ((jx_T ci k).1 = jx_cn ci))) = true := by decide +kernel
theorem jx_tys_ok (ci : Nat) (h : ci ≤ 12) : ∀ k, k < jx_fn ci → parseFieldDescriptor (jx_T ci k).2.2.1 = some (jx_ty ci k) := by
  intro k hk
  have h1 := List.all_eq_true.mp (List.all_eq_true.mp jx_tyAll ci (List.mem_range.mpr (by omega))) k (List.mem_range.mpr hk)
  simp only [Bool.and_eq_true, decide_eq_true_eq] at h1
  exact h1.1
theorem jx_ty_k (ci : Nat) (h : ci ≤ 12) (k : Nat) (hk : k < jx_fn ci) : (jx_fk ci k = 0 ∧ jx_ty ci k = .int) ∨ (jx_fk ci k = 2 ∧ jx_ty ci k = .boolean) ∨ (jx_fk ci k = 1 ∧ ((∃ t, jx_ty ci k = .object t) ∨ ∃ t, jx_ty ci k = .array t)) := by
  have h1 := List.all_eq_true.mp (List.all_eq_true.mp jx_tyAll ci (List.mem_range.mpr (by omega))) k (List.mem_range.mpr hk)
  simp only [Bool.and_eq_true, decide_eq_true_eq] at h1
  have h2 := h1.2
  revert h2
  generalize jx_ty ci k = t
  intro h2
  cases t with
  | int => exact Or.inl ⟨Nat.eq_of_beq_eq_true h2, rfl⟩
  | boolean => exact Or.inr (Or.inl ⟨Nat.eq_of_beq_eq_true h2, rfl⟩)
  | object t => exact Or.inr (Or.inr ⟨Nat.eq_of_beq_eq_true h2, Or.inl ⟨t, rfl⟩⟩)
  | array t => exact Or.inr (Or.inr ⟨Nat.eq_of_beq_eq_true h2, Or.inr ⟨t, rfl⟩⟩)
  | _ => exact absurd (show false = true from h2) (by decide)
theorem jx_nms_ok (ci : Nat) (h : ci ≤ 12) : ∀ a, a < jx_fn ci → ∀ b, b < jx_fn ci → a ≠ b → (jx_T ci a).2.1 ≠ (jx_T ci b).2.1 := by
  intro a ha b hb hab
  have h1 := List.all_eq_true.mp (List.all_eq_true.mp (List.all_eq_true.mp jx_nmAll ci (List.mem_range.mpr (by omega))) a (List.mem_range.mpr ha)) b (List.mem_range.mpr hb)
  simp only [Bool.or_eq_true, decide_eq_true_eq] at h1
  exact h1.resolve_left (fun q => hab (Nat.eq_of_beq_eq_true q))
theorem jx_own_ok (ci : Nat) (h : ci ≤ 12) : ∀ k, k < jx_fn ci → (jx_T ci k).1 = jx_cn ci := by
  intro k hk
  have h1 := List.all_eq_true.mp (List.all_eq_true.mp jx_ownAll ci (List.mem_range.mpr (by omega))) k (List.mem_range.mpr hk)
  exact of_decide_eq_true h1
theorem jx_flw {o i ci k : Nat} (h : jx_flk o i ci k = true) : Cond.fieldLink (jx_cn o) i (jx_T ci k).1 (jx_T ci k).2.1 (jx_T ci k).2.2.1 ∈ jx_good := by
  obtain ⟨e, he, h2⟩ := List.any_eq_true.mp h
  simp only [Bool.and_eq_true] at h2
  have e1 := Nat.eq_of_beq_eq_true h2.1
  have e2 := Nat.eq_of_beq_eq_true h2.2.1
  have e3 := Nat.eq_of_beq_eq_true h2.2.2.1
  have e4 := Nat.eq_of_beq_eq_true h2.2.2.2
  have h3 := jx_walk_ok _ _ jx_flt_ok (e.2.2.2.2, jx_wflt e) (List.mem_map.mpr ⟨e, he, rfl⟩)
  unfold jx_wflt at h3
  rw [e1, e2, e3, e4] at h3
  exact jx_gw h3 rfl
theorem jx_fs_get {ci a k : Nat} {I : jx_I} {R : jx_R} (hk : k < jx_fn ci) : (jx_fs ci a I R)[k]? = some (if jx_fk ci k = 1 then va_rf (R a k) else .int (I a k)) := by
  simp [jx_fs, hk]
theorem jx_fs_len {ci a : Nat} {I : jx_I} {R : jx_R} : (jx_fs ci a I R).length = jx_fn ci := by simp [jx_fs]
theorem jx_fs_setI {ci a k : Nat} {I : jx_I} {R : jx_R} {x : Int32} (hf : jx_fk ci k ≠ 1) : (jx_fs ci a I R).set k (.int x) = jx_fs ci a (jx_u I a k x) R := by
  apply List.ext_getElem?
  intro j
  rw [List.getElem?_set]
  by_cases hj : k = j
  · subst hj
    by_cases hl : k < jx_fn ci
    · rw [if_pos rfl, if_pos (by rw [jx_fs_len]; exact hl), jx_fs_get hl, if_neg hf, jx_u_s]
    · rw [if_pos rfl, if_neg (by rw [jx_fs_len]; exact hl)]
      exact (List.getElem?_eq_none (by rw [jx_fs_len]; omega)).symm
  · rw [if_neg hj]
    by_cases hl : j < jx_fn ci
    · rw [jx_fs_get hl, jx_fs_get hl, jx_u_k _ _ _ _ (fun q => hj q.symm)]
    · rw [List.getElem?_eq_none (by rw [jx_fs_len]; omega), List.getElem?_eq_none (by rw [jx_fs_len]; omega)]
theorem jx_fs_setR {ci a k : Nat} {I : jx_I} {R : jx_R} {x : Option Nat} (hf : jx_fk ci k = 1) : (jx_fs ci a I R).set k (va_rf x) = jx_fs ci a I (jx_u R a k x) := by
  apply List.ext_getElem?
  intro j
  rw [List.getElem?_set]
  by_cases hj : k = j
  · subst hj
    by_cases hl : k < jx_fn ci
    · rw [if_pos rfl, if_pos (by rw [jx_fs_len]; exact hl), jx_fs_get hl, if_pos hf, jx_u_s]
    · rw [if_pos rfl, if_neg (by rw [jx_fs_len]; exact hl)]
      exact (List.getElem?_eq_none (by rw [jx_fs_len]; omega)).symm
  · rw [if_neg hj]
    by_cases hl : j < jx_fn ci
    · rw [jx_fs_get hl, jx_fs_get hl, jx_u_k _ _ _ _ (fun q => hj q.symm)]
    · rw [List.getElem?_eq_none (by rw [jx_fs_len]; omega), List.getElem?_eq_none (by rw [jx_fs_len]; omega)]
theorem jx_fs_I {ci a : Nat} {I I' : jx_I} {R : jx_R} (h : I' a = I a) : jx_fs ci a I' R = jx_fs ci a I R := by simp [jx_fs, h]
theorem jx_fs_R {ci a : Nat} {I : jx_I} {R R' : jx_R} (h : R' a = R a) : jx_fs ci a I R' = jx_fs ci a I R := by simp [jx_fs, h]
theorem jx_cell_eq {V : jx_V} {sh : Nat × Nat} {a : Nat} {I I' : jx_I} {G G' : Nat → Nat → Int64} {R R' : jx_R} (h1 : I' a = I a) (h2 : G' a = G a) (h3 : R' a = R a) : jx_cell V sh a I' G' R' = jx_cell V sh a I G R := by
  unfold jx_cell
  rw [jx_fs_I h1, jx_fs_R h3, h1, h2, h3]
theorem jx_cell_o {V : jx_V} {ci n a : Nat} {I : jx_I} {G : Nat → Nat → Int64} {R : jx_R} (h : ci < 100) : jx_cell V (ci, n) a I G R = .inr (ci, jx_fs ci a I R) := if_pos h
theorem jx_cell_i {V : jx_V} {n a : Nat} {I : jx_I} {G : Nat → Nat → Int64} {R : jx_R} : jx_cell V (100, n) a I G R = .inl (V.2.2.1 0, n, .inl (I a)) := rfl
theorem jx_cell_l {V : jx_V} {n a : Nat} {I : jx_I} {G : Nat → Nat → Int64} {R : jx_R} : jx_cell V (101, n) a I G R = .inl (V.2.2.1 1, n, .inr (.inl (G a))) := rfl
/-- one cell changed -/
theorem jx_Ra_set {V : jx_V} {X : jx_X} {I I' : jx_I} {G' : Nat → Nat → Int64} {R R' : jx_R} {H H1 : Heap} {a : Nat} {sh : Nat × Nat} (h : jx_Ra V X I R H) (hs : X.2.1 a = some sh) (hz : H1.size = H.size) (ho : ∀ q : Nat, q ≠ a → H1[q]? = H[q]?)
    (hI : ∀ b, b ≠ a → I' b = I b) (hG : ∀ b, b ≠ a → G' b = X.2.2 b) (hR : ∀ b, b ≠ a → R' b = R b) (hc : va_at V.2.1 vwCl (a, jx_cell V sh a I' G' R') H1) : jx_Ra V (X.1, X.2.1, G') I' R' H1 := by
  refine ⟨hz.trans h.1, fun b sh' hb => ?_⟩
  by_cases e : b = a
  · subst e
    have hb' : X.2.1 b = some sh' := hb
    rw [hs] at hb'
    cases hb'
    exact hc
  · show va_at V.2.1 vwCl (b, jx_cell V sh' b I' G' R') H1
    rw [jx_cell_eq (hI b e) (hG b e) (hR b e)]
    exact (h.2 b sh' hb).kept (ho b e)
