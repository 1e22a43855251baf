/-! ===== the code of a method over the machine: each instruction, one step ===== -/
theorem jx_at_mem : ∀ (C : List jx_row) {pc : Nat} {t : Instr × Nat × Nat × Nat × Nat}, jx_at C pc = some t → (pc, t) ∈ C := by
  intro C
  induction C with
  | nil => intro pc t h; cases h
  | cons q l ih =>
    intro pc t h
    unfold jx_at at h
    cases hb : Nat.beq q.1 pc with
    | true =>
      rw [hb] at h
      have h' : q.2 = t := Option.some.inj h
      have e := Nat.eq_of_beq_eq_true hb
      rw [← h', ← e]
      exact List.mem_cons_self
    | false =>
      rw [hb] at h
      exact List.mem_cons_of_mem _ (ih h)
theorem jx_dec {cc : ByteArray} {pc k : Nat} {ins : Instr} (h : decode cc pc = .ok (ins, (pc + k) - pc)) : decode cc pc = .ok (ins, k) := by
  rw [Nat.add_sub_cancel_left] at h
  exact h
theorem jx_ki_i {st : List Value} {f : Int32 → List Value → Prop} (h : jx_ki st f) : ∃ x st', st = .int x :: st' ∧ f x st' := by
  unfold jx_ki at h
  split at h
  · exact ⟨_, _, rfl, h⟩
  · exact h.elim
theorem jx_kii_i {st : List Value} {f : Int32 → Int32 → List Value → Prop} (h : jx_kii st f) : ∃ x y st', st = .int y :: .int x :: st' ∧ f x y st' := by
  unfold jx_kii at h
  split at h
  · exact ⟨_, _, _, rfl, h⟩
  · exact h.elim
theorem jx_kl1_i {st : List Value} {f : Int64 → List Value → Prop} (h : jx_kl1 st f) : ∃ x st', st = .long x :: st' ∧ f x st' := by
  unfold jx_kl1 at h
  split at h
  · exact ⟨_, _, rfl, h⟩
  · exact h.elim
theorem jx_kll_i {st : List Value} {f : Int64 → Int64 → List Value → Prop} (h : jx_kll st f) : ∃ x y st', st = .long y :: .long x :: st' ∧ f x y st' := by
  unfold jx_kll at h
  split at h
  · exact ⟨_, _, _, rfl, h⟩
  · exact h.elim
theorem jx_kil_i {st : List Value} {f : Int64 → Int32 → List Value → Prop} (h : jx_kil st f) : ∃ x y st', st = .int y :: .long x :: st' ∧ f x y st' := by
  unfold jx_kil at h
  split at h
  · exact ⟨_, _, _, rfl, h⟩
  · exact h.elim
theorem jx_kr_i {st : List Value} {f : Nat → List Value → Prop} (h : jx_kr st f) : ∃ a st', st = .ref a :: st' ∧ f a st' := by
  unfold jx_kr at h
  split at h
  · exact ⟨_, _, rfl, h⟩
  · exact h.elim
theorem jx_kir_i {st : List Value} {f : Nat → Int32 → List Value → Prop} (h : jx_kir st f) : ∃ a i st', st = .int i :: .ref a :: st' ∧ f a i st' := by
  unfold jx_kir at h
  split at h
  · exact ⟨_, _, _, rfl, h⟩
  · exact h.elim
theorem jx_kiir_i {st : List Value} {f : Nat → Int32 → Int32 → List Value → Prop} (h : jx_kiir st f) : ∃ a i x st', st = .int x :: .int i :: .ref a :: st' ∧ f a i x st' := by
  unfold jx_kiir at h
  split at h
  · exact ⟨_, _, _, _, rfl, h⟩
  · exact h.elim
theorem jx_klir_i {st : List Value} {f : Nat → Int32 → Int64 → List Value → Prop} (h : jx_klir st f) : ∃ a i x st', st = .long x :: .int i :: .ref a :: st' ∧ f a i x st' := by
  unfold jx_klir at h
  split at h
  · exact ⟨_, _, _, _, rfl, h⟩
  · exact h.elim
theorem jx_krir_i {st : List Value} {f : Nat → Int32 → Nat → List Value → Prop} (h : jx_krir st f) : ∃ a i x st', st = .ref x :: .int i :: .ref a :: st' ∧ f a i x st' := by
  unfold jx_krir at h
  split at h
  · exact ⟨_, _, _, _, rfl, h⟩
  · exact h.elim
theorem jx_kcopy_i {st : List Value} {f : Nat → Int32 → Nat → Int32 → Int32 → List Value → Prop} (h : jx_kcopy st f) : ∃ a sp q dp n st', st = .int n :: .int dp :: .ref q :: .int sp :: .ref a :: st' ∧ f a sp q dp n st' := by
  unfold jx_kcopy at h
  split at h
  · exact ⟨_, _, _, _, _, _, rfl, h⟩
  · exact h.elim
theorem jx_drop_i {st : List Value} {n : Nat} {f : Nat → List Value → Prop} (h : match st.drop n with
    | .ref a :: rest => f a rest
    | _ => False) : ∃ a rest, st = (st.take n).reverse.reverse ++ .ref a :: rest ∧ f a rest := by
  split at h
  · next a rest he => exact ⟨a, rest, by rw [List.reverse_reverse, ← he, List.take_append_drop], h⟩
  · exact h.elim
theorem jx_cstw {o i r2 : Nat} (ho : o ≤ 18) (h1 : (jx_cst.getD r2 (99, 0, 0, 0)).1 = o) (h2 : (jx_cst.getD r2 (99, 0, 0, 0)).2.1 = i) : Cond.constant (jx_cn o) i (jx_cst.getD r2 (99, 0, 0, 0)).2.2.1 ∈ jx_good := by
  rw [List.getD_eq_getElem?_getD] at h1 h2 ⊢
  cases he : jx_cst[r2]? with
  | none =>
    rw [he] at h1
    have h1' : 99 = o := h1
    omega
  | some e =>
    rw [he] at h1 h2
    have h1' : e.1 = o := h1
    have h2' : e.2.1 = i := h2
    have h3 := jx_walk_ok _ _ jx_cst_ok (e.2.2.2, _) (List.mem_map.mpr ⟨e, List.mem_of_getElem? he, rfl⟩)
    rw [← h1', ← h2']
    exact jx_gw h3 rfl
theorem jx_lcstw {o i r2 : Nat} (ho : o ≤ 18) (h1 : (jx_lcst.getD r2 (99, 0, 0, 0)).1 = o) (h2 : (jx_lcst.getD r2 (99, 0, 0, 0)).2.1 = i) : Cond.constantLong (jx_cn o) i (jx_lcst.getD r2 (99, 0, 0, 0)).2.2.1 ∈ jx_good := by
  rw [List.getD_eq_getElem?_getD] at h1 h2 ⊢
  cases he : jx_lcst[r2]? with
  | none =>
    rw [he] at h1
    have h1' : 99 = o := h1
    omega
  | some e =>
    rw [he] at h1 h2
    have h1' : e.1 = o := h1
    have h2' : e.2.1 = i := h2
    have h3 := jx_walk_ok _ _ jx_lcst_ok (e.2.2.2, _) (List.mem_map.mpr ⟨e, List.mem_of_getElem? he, rfl⟩)
    rw [← h1', ← h2']
    exact jx_gw h3 rfl
theorem jx_strL : jx_str.length = 34 := by decide +kernel
theorem jx_strw {o r2 : Nat} (ho : o ≤ 18) (h1 : (jx_str.getD r2 (99, 0, "", 0)).1 = o) : r2 < 34 := by
  rw [List.getD_eq_getElem?_getD] at h1
  cases he : jx_str[r2]? with
  | none =>
    rw [he] at h1
    have h1' : 99 = o := h1
    omega
  | some e =>
    rw [← jx_strL]
    exact (List.getElem?_eq_some_iff.mp he).1
theorem jx_clt5 : jx_any3 jx_clt 0 9 5 = true ∧ jx_any3 jx_clt 11 20 7 = true := by decide +kernel
section JDISP
variable {V : jx_V} {p : Program} {e : Env} {Rm : Room} {s : State} {m : MethodId} {args : Array Value} {below : List Frame} {meth : Method} {c : Code} {Q : State → Prop} {A0 : Nat → Prop} {mcs : Nat × Nat} {cc : ByteArray} {o nL D : Nat}
variable {pc : Nat} {st : List Value} {L : List (Option Value)} {b : Nat × Nat} {X : jx_X} {I : jx_I} {R : jx_R}
variable {rt : Option FieldType} {hh : List (Nat × Nat × Nat × Nat)} {ini : Bool} {KR : Option Value → Nat × Nat → jx_X → jx_I → jx_R → Prop} {KX : String → Nat × Nat → jx_X → jx_I → jx_R → Prop}
theorem jx_r_putI (hC : jx_C V p Rm s m args meth c cc o nL D A0 mcs) {i ci k a : Nat} {x : Int32} (hd : decode cc pc = .ok (.putfield i, 3)) (hl : jx_flk o i ci k = true) (hci : ci ≤ 12) (hk : k < jx_fn ci) (hs : X.2.1 a = some (ci, 0)) (hx : jx_fk ci k = 0 ∨ (jx_fk ci k = 2 ∧ (x = 0 ∨ x = 1))) (kk : jx_J V p e Rm s m args below meth c Q A0 nL mcs (pc + 3) st L b X (jx_u I a k x) R) : jx_J V p e Rm s m args below meth c Q A0 nL mcs pc (.int x :: .ref a :: st) L b X I R := by
  have hf1 : jx_fk ci k ≠ 1 := by omega
  refine jx_r_put hC hd hl hci hk hs ?_ ?_ (fun h => absurd h (by rw [jx_ff_i ci hci k hk hf1]; decide)) (jx_fs_setI hf1) (fun b hb => jx_u_r _ _ _ hb) (fun _ _ => rfl) kk
  · rcases jx_ty_k ci hci k hk with ⟨h1, h2⟩ | ⟨h1, h2⟩ | ⟨h1, h2⟩
    · rw [h2]; rfl
    · rw [h2]
      rcases hx with hx | ⟨-, rfl | rfl⟩
      · omega
      · rfl
      · rfl
    · omega
  · rcases jx_ty_k ci hci k hk with ⟨h1, h2⟩ | ⟨h1, h2⟩ | ⟨h1, h2⟩
    · rw [h2]; rfl
    · rw [h2]
      rcases hx with hx | ⟨-, rfl | rfl⟩
      · omega
      · rfl
      · rfl
    · omega
theorem jx_r_putR (hC : jx_C V p Rm s m args meth c cc o nL D A0 mcs) {i ci k a : Nat} {q : Option Nat} (hd : decode cc pc = .ok (.putfield i, 3)) (hl : jx_flk o i ci k = true) (hci : ci ≤ 12) (hk : k < jx_fn ci) (hs : X.2.1 a = some (ci, 0)) (hf1 : jx_fk ci k = 1) (hfin : jx_ff ci k = true → meth.name = "<init>" ∧ o = ci) (kk : jx_J V p e Rm s m args below meth c Q A0 nL mcs (pc + 3) st L b X I (jx_u R a k q)) : jx_J V p e Rm s m args below meth c Q A0 nL mcs pc (va_rf q :: .ref a :: st) L b X I R := by
  refine jx_r_put hC hd hl hci hk hs ?_ ?_ hfin (jx_fs_setR hf1) (fun _ _ => rfl) (fun b hb => jx_u_r _ _ _ hb) kk
  · rcases jx_ty_k ci hci k hk with ⟨h1, h2⟩ | ⟨h1, h2⟩ | ⟨h1, ⟨t, h2⟩ | ⟨t, h2⟩⟩
    · omega
    · omega
    · rw [h2]; cases q <;> rfl
    · rw [h2]; cases q <;> rfl
  · rcases jx_ty_k ci hci k hk with ⟨h1, h2⟩ | ⟨h1, h2⟩ | ⟨h1, ⟨t, h2⟩ | ⟨t, h2⟩⟩
    · omega
    · omega
    · rw [h2]; cases q <;> rfl
    · rw [h2]; cases q <;> rfl
theorem jx_ci12 {ci n a : Nat} (h : ¬ ci ≤ 12) (h' : ci < 100) (hs : X.2.1 a = some (ci, n)) : jx_J V p e Rm s m args below meth c Q A0 nL mcs pc st L b X I R := by
  intro H locs cells slots ls h1 h2 h3 h4 h5 h6 h7
  exfalso
  have hat := h2.2 a _ hs
  rw [jx_cell_o h'] at hat
  obtain ⟨r, e1, -⟩ := hat
  exact h (Nat.le_of_lt_succ (List.getElem?_eq_some_iff.mp e1).1)

set_option maxHeartbeats 2000000 in
theorem jx_step (hC : jx_C V p Rm s m args meth c cc o nL D A0 mcs) (h18 : o ≤ 18) (hini : ini = true → meth.name = "<init>")
    (hI : ∀ pc x L b X I R, decode cc pc = .ok (.ireturn, 1) → jx_rok rt x → KR (some (.int x)) b X I R → jx_J V p e Rm s m args below meth c Q A0 nL mcs pc [.int x] L b X I R)
    (hLr : ∀ pc x L b X I R, decode cc pc = .ok (.lreturn, 1) → rt = some .long → KR (some (.long x)) b X I R → jx_J V p e Rm s m args below meth c Q A0 nL mcs pc [.long x] L b X I R)
    (hV : ∀ pc L b X I R, decode cc pc = .ok (.return_, 1) → rt = none → KR none b X I R → jx_J V p e Rm s m args below meth c Q A0 nL mcs pc [] L b X I R)
    (hT : ∀ (pc i : Nat) (st : List Value) (L : List (Option Value)) (b : Nat × Nat) (X : jx_X) (I : jx_I) (R : jx_R), i < 4 → o = 11 → hh = [] → decode cc pc = .ok (.new (jx_exe i).2.1, 3) → decode cc (pc + 3) = .ok (.dup, 1) → decode cc (pc + 4) = .ok (.ldc_w (jx_exe i).2.2.1, 3) → decode cc (pc + 7) = .ok (.invokespecial (jx_exe i).2.2.2.1, 3) → decode cc (pc + 10) = .ok (.athrow, 1) → 8 ≤ D → 1 ≤ b.1 → 6 ≤ b.2 → (st.map fun v => v.category).sum ≤ 8 →
      (∀ X' : jx_X, X.1 ≤ X'.1 → X'.2 = X.2 → KX (jx_exe i).1 (b.1 - 1, b.2 - 6) X' I R) → jx_J V p e Rm s m args below meth c Q A0 nL mcs pc st L b X I R)
    (hK : ∀ (pc : Nat) (L : List (Option Value)) (b : Nat × Nat) (E : String) (X : jx_X) (I : jx_I) (R : jx_R), jx_kx hh (jx_J V p e Rm s m args below meth c Q A0 nL mcs) KX pc L b E X I R → jx_Kx V p e Rm s m args below meth c Q A0 nL mcs pc L b E X I R)
    {ins : Instr} {nx r1 r2 r3 : Nat} (hk : jx_chk cc o (pc, ins, nx, r1, r2, r3) = true) (hk2 : jx_ck2 o (pc, ins, nx, r1, r2, r3) = true)
    (hw : jx_wp V D rt hh ini (jx_J V p e Rm s m args below meth c Q A0 nL mcs) KR KX pc ins nx r1 r2 r3 st L b X I R) : jx_J V p e Rm s m args below meth c Q A0 nL mcs pc st L b X I R := by
  have hC' := hC
  obtain ⟨hx, hb, hml, ho, ht, hE, hA, ⟨hrc, hrs, hfr, hlo⟩, hst', hlk⟩ := hC'
  simp only [jx_chk, Bool.and_eq_true, decide_eq_true_eq, Bool.or_eq_true] at hk
  obtain ⟨⟨⟨hd0, hsw0⟩, hle⟩, hlop⟩ := hk
  have hsw : jx_sw ins = true ∨ nx = pc + jx_len ins := hsw0.imp id Nat.eq_of_beq_eq_true
  cases ins with
  | iconst n =>
    obtain rfl : nx = pc + 1 := hsw.resolve_left (fun h => Bool.noConfusion (show false = true from h))
    have hd := jx_dec hd0
    intro H locs cells slots ls h1 h2 h3 h4 h5 h6 h7
    exact lv_iconst hx hb hd rfl (hw H locs cells slots ls h1 h2 h3 h4 h5 h6 h7)
  | bipush n =>
    obtain rfl : nx = pc + 2 := hsw.resolve_left (fun h => Bool.noConfusion (show false = true from h))
    have hd := jx_dec hd0
    intro H locs cells slots ls h1 h2 h3 h4 h5 h6 h7
    exact lv_bipush hx hb hd rfl (hw H locs cells slots ls h1 h2 h3 h4 h5 h6 h7)
  | sipush n =>
    obtain rfl : nx = pc + 3 := hsw.resolve_left (fun h => Bool.noConfusion (show false = true from h))
    have hd := jx_dec hd0
    intro H locs cells slots ls h1 h2 h3 h4 h5 h6 h7
    exact lv_sipush hx hb hd rfl (hw H locs cells slots ls h1 h2 h3 h4 h5 h6 h7)
  | lconst n =>
    obtain rfl : nx = pc + 1 := hsw.resolve_left (fun h => Bool.noConfusion (show false = true from h))
    have hd := jx_dec hd0
    intro H locs cells slots ls h1 h2 h3 h4 h5 h6 h7
    exact lv_lconst hx hb hd rfl (hw H locs cells slots ls h1 h2 h3 h4 h5 h6 h7)
  | ldc i =>
    obtain rfl : nx = pc + 2 := hsw.resolve_left (fun h => Bool.noConfusion (show false = true from h))
    have hd := jx_dec hd0
    simp only [jx_lop, Bool.or_eq_true, Bool.and_eq_true] at hlop
    rcases hw with ⟨rfl, hw⟩ | ⟨rfl, hw⟩
    · rcases hlop with ⟨⟨-, g1⟩, g2⟩ | ⟨⟨g0, -⟩, -⟩
      · intro H locs cells slots ls h1 h2 h3 h4 h5 h6 h7
        exact lv_ldc hx hb ho (ht _ (jx_cstw h18 (Nat.eq_of_beq_eq_true g1) (Nat.eq_of_beq_eq_true g2))) hd (hw H locs cells slots ls h1 h2 h3 h4 h5 h6 h7)
      · exact absurd (Nat.eq_of_beq_eq_true g0) (by decide)
    · rcases hlop with ⟨⟨g0, -⟩, -⟩ | ⟨⟨-, g1⟩, g2⟩
      · exact absurd (Nat.eq_of_beq_eq_true g0) (by decide)
      · exact jx_r_ldcS hC (jx_strw h18 (Nat.eq_of_beq_eq_true g1)) (Nat.eq_of_beq_eq_true g1) (Nat.eq_of_beq_eq_true g2) hd hw
  | ldc_w i =>
    obtain rfl : nx = pc + 3 := hsw.resolve_left (fun h => Bool.noConfusion (show false = true from h))
    have hd := jx_dec hd0
    simp only [jx_lop, Bool.and_eq_true] at hlop
    intro H locs cells slots ls h1 h2 h3 h4 h5 h6 h7
    exact lv_ldcw hx hb ho (ht _ (jx_cstw h18 (Nat.eq_of_beq_eq_true hlop.1.2) (Nat.eq_of_beq_eq_true hlop.2))) hd (hw H locs cells slots ls h1 h2 h3 h4 h5 h6 h7)
  | ldc2_w i =>
    obtain rfl : nx = pc + 3 := hsw.resolve_left (fun h => Bool.noConfusion (show false = true from h))
    have hd := jx_dec hd0
    simp only [jx_lop, Bool.and_eq_true] at hlop
    intro H locs cells slots ls h1 h2 h3 h4 h5 h6 h7
    exact lv_ldc2 hx hb ho (ht _ (jx_lcstw h18 (Nat.eq_of_beq_eq_true hlop.1) (Nat.eq_of_beq_eq_true hlop.2))) hd (hw H locs cells slots ls h1 h2 h3 h4 h5 h6 h7)
  | aconst_null =>
    obtain rfl : nx = pc + 1 := hsw.resolve_left (fun h => Bool.noConfusion (show false = true from h))
    have hd := jx_dec hd0
    intro H locs cells slots ls h1 h2 h3 h4 h5 h6 h7
    exact lv_null hx hb hd (hw H locs cells slots ls h1 h2 h3 h4 h5 h6 h7)
  | iload i =>
    obtain rfl : nx = pc + 2 := hsw.resolve_left (fun h => Bool.noConfusion (show false = true from h))
    have hd := jx_dec hd0
    obtain ⟨x, hL, hw⟩ := hw
    intro H locs cells slots ls h1 h2 h3 h4 h5 h6 h7
    exact lv_iload hx hb hd (h5.2.2 _ _ hL) (hw H locs cells slots ls h1 h2 h3 h4 h5 h6 h7)
  | iload_n i =>
    obtain rfl : nx = pc + 1 := hsw.resolve_left (fun h => Bool.noConfusion (show false = true from h))
    have hd := jx_dec hd0
    obtain ⟨x, hL, hw⟩ := hw
    intro H locs cells slots ls h1 h2 h3 h4 h5 h6 h7
    exact lv_iload_n hx hb hd rfl (h5.2.2 _ _ hL) (hw H locs cells slots ls h1 h2 h3 h4 h5 h6 h7)
  | lload i =>
    obtain rfl : nx = pc + 2 := hsw.resolve_left (fun h => Bool.noConfusion (show false = true from h))
    have hd := jx_dec hd0
    obtain ⟨x, hL, hw⟩ := hw
    intro H locs cells slots ls h1 h2 h3 h4 h5 h6 h7
    exact lv_lload hx hb hd (h5.2.2 _ _ hL) (hw H locs cells slots ls h1 h2 h3 h4 h5 h6 h7)
  | lload_n i =>
    obtain rfl : nx = pc + 1 := hsw.resolve_left (fun h => Bool.noConfusion (show false = true from h))
    have hd := jx_dec hd0
    obtain ⟨x, hL, hw⟩ := hw
    intro H locs cells slots ls h1 h2 h3 h4 h5 h6 h7
    exact lv_lload_n hx hb hd rfl (h5.2.2 _ _ hL) (hw H locs cells slots ls h1 h2 h3 h4 h5 h6 h7)
  | aload i =>
    obtain rfl : nx = pc + 2 := hsw.resolve_left (fun h => Bool.noConfusion (show false = true from h))
    have hd := jx_dec hd0
    obtain ⟨x, hL, hw⟩ := hw
    intro H locs cells slots ls h1 h2 h3 h4 h5 h6 h7
    exact lv_aload hx hb hd (h5.2.2 _ _ hL) (hw H locs cells slots ls h1 h2 h3 h4 h5 h6 h7)
  | aload_n i =>
    obtain rfl : nx = pc + 1 := hsw.resolve_left (fun h => Bool.noConfusion (show false = true from h))
    have hd := jx_dec hd0
    obtain ⟨x, hL, hw⟩ := hw
    intro H locs cells slots ls h1 h2 h3 h4 h5 h6 h7
    exact lv_aload_n hx hb hd rfl (h5.2.2 _ _ hL) (hw H locs cells slots ls h1 h2 h3 h4 h5 h6 h7)
  | istore i =>
    obtain rfl : nx = pc + 2 := hsw.resolve_left (fun h => Bool.noConfusion (show false = true from h))
    have hd := jx_dec hd0
    obtain ⟨x, st, rfl, hi, hw⟩ := jx_ki_i hw
    intro H locs cells slots ls h1 h2 h3 h4 h5 h6 h7
    exact lv_istore hx hb hd (jx_L_has h5) (by omega) rfl (fun ls9 h9 => hw H locs cells slots ls9 (by rw [jx_s1_len]; exact h1) h2 h3 h4 (jx_L_s1 h9) h6 h7)
  | istore_n i =>
    obtain rfl : nx = pc + 1 := hsw.resolve_left (fun h => Bool.noConfusion (show false = true from h))
    have hd := jx_dec hd0
    obtain ⟨x, st, rfl, hi, hw⟩ := jx_ki_i hw
    intro H locs cells slots ls h1 h2 h3 h4 h5 h6 h7
    exact lv_istore_n hx hb hd rfl (jx_L_has h5) (by omega) rfl (fun ls9 h9 => hw H locs cells slots ls9 (by rw [jx_s1_len]; exact h1) h2 h3 h4 (jx_L_s1 h9) h6 h7)
  | lstore i =>
    obtain rfl : nx = pc + 2 := hsw.resolve_left (fun h => Bool.noConfusion (show false = true from h))
    have hd := jx_dec hd0
    obtain ⟨x, st, rfl, hi, hw⟩ := jx_kl1_i hw
    intro H locs cells slots ls h1 h2 h3 h4 h5 h6 h7
    exact lv_lstore hx hb hd (jx_L_has h5) (by omega) rfl (fun ls9 h9 => hw H locs cells slots ls9 (by rw [jx_s2_len]; exact h1) h2 h3 h4 (jx_L_s2 h9) h6 h7)
  | lstore_n i =>
    obtain rfl : nx = pc + 1 := hsw.resolve_left (fun h => Bool.noConfusion (show false = true from h))
    have hd := jx_dec hd0
    obtain ⟨x, st, rfl, hi, hw⟩ := jx_kl1_i hw
    intro H locs cells slots ls h1 h2 h3 h4 h5 h6 h7
    exact lv_lstore_n hx hb hd rfl (jx_L_has h5) (by omega) rfl (fun ls9 h9 => hw H locs cells slots ls9 (by rw [jx_s2_len]; exact h1) h2 h3 h4 (jx_L_s2 h9) h6 h7)
  | astore i =>
    obtain rfl : nx = pc + 2 := hsw.resolve_left (fun h => Bool.noConfusion (show false = true from h))
    have hd := jx_dec hd0
    obtain ⟨x, st, rfl, hi, hw⟩ := jx_kr_i hw
    intro H locs cells slots ls h1 h2 h3 h4 h5 h6 h7
    exact lv_astore hx hb hd (jx_L_has h5) (by omega) rfl (fun ls9 h9 => hw H locs cells slots ls9 (by rw [jx_s1_len]; exact h1) h2 h3 h4 (jx_L_s1 h9) h6 h7)
  | astore_n i =>
    obtain rfl : nx = pc + 1 := hsw.resolve_left (fun h => Bool.noConfusion (show false = true from h))
    have hd := jx_dec hd0
    obtain ⟨x, st, rfl, hi, hw⟩ := jx_kr_i hw
    intro H locs cells slots ls h1 h2 h3 h4 h5 h6 h7
    exact lv_astore_n hx hb hd rfl (jx_L_has h5) (by omega) rfl (fun ls9 h9 => hw H locs cells slots ls9 (by rw [jx_s1_len]; exact h1) h2 h3 h4 (jx_L_s1 h9) h6 h7)
  | iinc i n =>
    obtain rfl : nx = pc + 3 := hsw.resolve_left (fun h => Bool.noConfusion (show false = true from h))
    have hd := jx_dec hd0
    obtain ⟨x, hL, hw⟩ := hw
    intro H locs cells slots ls h1 h2 h3 h4 h5 h6 h7
    obtain ⟨k, hk9⟩ := List.mem_iff_getElem?.mp (jx_toA_mem.mpr hL)
    exact lv_iinc hx hb hd (jx_L_has h5) hk9 rfl (by rw [← h1]; exact (List.getElem?_eq_some_iff.mp hL).1) rfl (fun ls9 h9 => hw H locs cells slots ls9 (by rw [jx_s1_len]; exact h1) h2 h3 h4 (jx_L_s1 h9) h6 h7)
  | iadd =>
    obtain rfl : nx = pc + 1 := hsw.resolve_left (fun h => Bool.noConfusion (show false = true from h))
    have hd := jx_dec hd0
    obtain ⟨x, y, st, rfl, hw⟩ := jx_kii_i hw
    intro H locs cells slots ls h1 h2 h3 h4 h5 h6 h7
    exact lv_iadd hx hb hd (hw H locs cells slots ls h1 h2 h3 h4 h5 h6 h7)
  | isub =>
    obtain rfl : nx = pc + 1 := hsw.resolve_left (fun h => Bool.noConfusion (show false = true from h))
    have hd := jx_dec hd0
    obtain ⟨x, y, st, rfl, hw⟩ := jx_kii_i hw
    intro H locs cells slots ls h1 h2 h3 h4 h5 h6 h7
    exact lv_isub hx hb hd (hw H locs cells slots ls h1 h2 h3 h4 h5 h6 h7)
  | imul =>
    obtain rfl : nx = pc + 1 := hsw.resolve_left (fun h => Bool.noConfusion (show false = true from h))
    have hd := jx_dec hd0
    obtain ⟨x, y, st, rfl, hw⟩ := jx_kii_i hw
    intro H locs cells slots ls h1 h2 h3 h4 h5 h6 h7
    exact lv_imul hx hb hd (hw H locs cells slots ls h1 h2 h3 h4 h5 h6 h7)
  | iand =>
    obtain rfl : nx = pc + 1 := hsw.resolve_left (fun h => Bool.noConfusion (show false = true from h))
    have hd := jx_dec hd0
    obtain ⟨x, y, st, rfl, hw⟩ := jx_kii_i hw
    intro H locs cells slots ls h1 h2 h3 h4 h5 h6 h7
    exact lv_iand hx hb hd (hw H locs cells slots ls h1 h2 h3 h4 h5 h6 h7)
  | ior =>
    obtain rfl : nx = pc + 1 := hsw.resolve_left (fun h => Bool.noConfusion (show false = true from h))
    have hd := jx_dec hd0
    obtain ⟨x, y, st, rfl, hw⟩ := jx_kii_i hw
    intro H locs cells slots ls h1 h2 h3 h4 h5 h6 h7
    exact lv_ior hx hb hd (hw H locs cells slots ls h1 h2 h3 h4 h5 h6 h7)
  | ixor =>
    obtain rfl : nx = pc + 1 := hsw.resolve_left (fun h => Bool.noConfusion (show false = true from h))
    have hd := jx_dec hd0
    obtain ⟨x, y, st, rfl, hw⟩ := jx_kii_i hw
    intro H locs cells slots ls h1 h2 h3 h4 h5 h6 h7
    exact lv_ixor hx hb hd (hw H locs cells slots ls h1 h2 h3 h4 h5 h6 h7)
  | ishl =>
    obtain rfl : nx = pc + 1 := hsw.resolve_left (fun h => Bool.noConfusion (show false = true from h))
    have hd := jx_dec hd0
    obtain ⟨x, y, st, rfl, hw⟩ := jx_kii_i hw
    intro H locs cells slots ls h1 h2 h3 h4 h5 h6 h7
    exact lv_ishl hx hb hd (hw H locs cells slots ls h1 h2 h3 h4 h5 h6 h7)
  | ishr =>
    obtain rfl : nx = pc + 1 := hsw.resolve_left (fun h => Bool.noConfusion (show false = true from h))
    have hd := jx_dec hd0
    obtain ⟨x, y, st, rfl, hw⟩ := jx_kii_i hw
    intro H locs cells slots ls h1 h2 h3 h4 h5 h6 h7
    exact lv_ishr hx hb hd (hw H locs cells slots ls h1 h2 h3 h4 h5 h6 h7)
  | iushr =>
    obtain rfl : nx = pc + 1 := hsw.resolve_left (fun h => Bool.noConfusion (show false = true from h))
    have hd := jx_dec hd0
    obtain ⟨x, y, st, rfl, hw⟩ := jx_kii_i hw
    intro H locs cells slots ls h1 h2 h3 h4 h5 h6 h7
    exact lv_iushr hx hb hd rfl (hw H locs cells slots ls h1 h2 h3 h4 h5 h6 h7)
  | idiv =>
    obtain rfl : nx = pc + 1 := hsw.resolve_left (fun h => Bool.noConfusion (show false = true from h))
    have hd := jx_dec hd0
    obtain ⟨x, y, st, rfl, hne, hw⟩ := jx_kii_i hw
    intro H locs cells slots ls h1 h2 h3 h4 h5 h6 h7
    exact lv_idiv hx hb hd hne (hw H locs cells slots ls h1 h2 h3 h4 h5 h6 h7)
  | irem =>
    obtain rfl : nx = pc + 1 := hsw.resolve_left (fun h => Bool.noConfusion (show false = true from h))
    have hd := jx_dec hd0
    obtain ⟨x, y, st, rfl, hne, hw⟩ := jx_kii_i hw
    intro H locs cells slots ls h1 h2 h3 h4 h5 h6 h7
    exact lv_irem hx hb hd hne (hw H locs cells slots ls h1 h2 h3 h4 h5 h6 h7)
  | ladd =>
    obtain rfl : nx = pc + 1 := hsw.resolve_left (fun h => Bool.noConfusion (show false = true from h))
    have hd := jx_dec hd0
    obtain ⟨x, y, st, rfl, hw⟩ := jx_kll_i hw
    intro H locs cells slots ls h1 h2 h3 h4 h5 h6 h7
    exact lv_ladd hx hb hd (hw H locs cells slots ls h1 h2 h3 h4 h5 h6 h7)
  | lsub =>
    obtain rfl : nx = pc + 1 := hsw.resolve_left (fun h => Bool.noConfusion (show false = true from h))
    have hd := jx_dec hd0
    obtain ⟨x, y, st, rfl, hw⟩ := jx_kll_i hw
    intro H locs cells slots ls h1 h2 h3 h4 h5 h6 h7
    exact lv_lsub hx hb hd (hw H locs cells slots ls h1 h2 h3 h4 h5 h6 h7)
  | lmul =>
    obtain rfl : nx = pc + 1 := hsw.resolve_left (fun h => Bool.noConfusion (show false = true from h))
    have hd := jx_dec hd0
    obtain ⟨x, y, st, rfl, hw⟩ := jx_kll_i hw
    intro H locs cells slots ls h1 h2 h3 h4 h5 h6 h7
    exact lv_lmul hx hb hd (hw H locs cells slots ls h1 h2 h3 h4 h5 h6 h7)
  | land =>
    obtain rfl : nx = pc + 1 := hsw.resolve_left (fun h => Bool.noConfusion (show false = true from h))
    have hd := jx_dec hd0
    obtain ⟨x, y, st, rfl, hw⟩ := jx_kll_i hw
    intro H locs cells slots ls h1 h2 h3 h4 h5 h6 h7
    exact lv_land hx hb hd (hw H locs cells slots ls h1 h2 h3 h4 h5 h6 h7)
  | lor =>
    obtain rfl : nx = pc + 1 := hsw.resolve_left (fun h => Bool.noConfusion (show false = true from h))
    have hd := jx_dec hd0
    obtain ⟨x, y, st, rfl, hw⟩ := jx_kll_i hw
    intro H locs cells slots ls h1 h2 h3 h4 h5 h6 h7
    exact lv_lor hx hb hd (hw H locs cells slots ls h1 h2 h3 h4 h5 h6 h7)
  | ldiv =>
    obtain rfl : nx = pc + 1 := hsw.resolve_left (fun h => Bool.noConfusion (show false = true from h))
    have hd := jx_dec hd0
    obtain ⟨x, y, st, rfl, hne, hw⟩ := jx_kll_i hw
    intro H locs cells slots ls h1 h2 h3 h4 h5 h6 h7
    exact lv_ldiv hx hb hd hne (hw H locs cells slots ls h1 h2 h3 h4 h5 h6 h7)
  | lrem =>
    obtain rfl : nx = pc + 1 := hsw.resolve_left (fun h => Bool.noConfusion (show false = true from h))
    have hd := jx_dec hd0
    obtain ⟨x, y, st, rfl, hne, hw⟩ := jx_kll_i hw
    intro H locs cells slots ls h1 h2 h3 h4 h5 h6 h7
    exact lv_lrem hx hb hd hne (hw H locs cells slots ls h1 h2 h3 h4 h5 h6 h7)
  | lshl =>
    obtain rfl : nx = pc + 1 := hsw.resolve_left (fun h => Bool.noConfusion (show false = true from h))
    have hd := jx_dec hd0
    obtain ⟨x, y, st, rfl, hw⟩ := jx_kil_i hw
    intro H locs cells slots ls h1 h2 h3 h4 h5 h6 h7
    exact lv_lshl hx hb hd rfl (hw H locs cells slots ls h1 h2 h3 h4 h5 h6 h7)
  | lcmp =>
    obtain rfl : nx = pc + 1 := hsw.resolve_left (fun h => Bool.noConfusion (show false = true from h))
    have hd := jx_dec hd0
    obtain ⟨x, y, st, rfl, hw⟩ := jx_kll_i hw
    intro H locs cells slots ls h1 h2 h3 h4 h5 h6 h7
    exact W.lcmp hx hb hd (hw H locs cells slots ls h1 h2 h3 h4 h5 h6 h7)
  | i2l =>
    obtain rfl : nx = pc + 1 := hsw.resolve_left (fun h => Bool.noConfusion (show false = true from h))
    have hd := jx_dec hd0
    obtain ⟨x, st, rfl, hw⟩ := jx_ki_i hw
    intro H locs cells slots ls h1 h2 h3 h4 h5 h6 h7
    exact lv_i2l hx hb hd rfl (hw H locs cells slots ls h1 h2 h3 h4 h5 h6 h7)
  | l2i =>
    obtain rfl : nx = pc + 1 := hsw.resolve_left (fun h => Bool.noConfusion (show false = true from h))
    have hd := jx_dec hd0
    obtain ⟨x, st, rfl, hw⟩ := jx_kl1_i hw
    intro H locs cells slots ls h1 h2 h3 h4 h5 h6 h7
    exact lv_l2i hx hb hd rfl (hw H locs cells slots ls h1 h2 h3 h4 h5 h6 h7)
  | i2c =>
    obtain rfl : nx = pc + 1 := hsw.resolve_left (fun h => Bool.noConfusion (show false = true from h))
    have hd := jx_dec hd0
    obtain ⟨x, st, rfl, hw⟩ := jx_ki_i hw
    intro H locs cells slots ls h1 h2 h3 h4 h5 h6 h7
    exact lv_i2c hx hb hd rfl (hw H locs cells slots ls h1 h2 h3 h4 h5 h6 h7)
  | dup =>
    obtain rfl : nx = pc + 1 := hsw.resolve_left (fun h => Bool.noConfusion (show false = true from h))
    have hd := jx_dec hd0
    cases st with
    | nil => exact hw.elim
    | cons v st =>
      obtain ⟨hv, hw⟩ := hw
      intro H locs cells slots ls h1 h2 h3 h4 h5 h6 h7
      exact lv_dup hx hb hd hv (hw H locs cells slots ls h1 h2 h3 h4 h5 h6 h7)
  | pop =>
    obtain rfl : nx = pc + 1 := hsw.resolve_left (fun h => Bool.noConfusion (show false = true from h))
    have hd := jx_dec hd0
    cases st with
    | nil => exact hw.elim
    | cons v st =>
      obtain ⟨hv, hw⟩ := hw
      intro H locs cells slots ls h1 h2 h3 h4 h5 h6 h7
      exact lv_pop hx hb hd hv (hw H locs cells slots ls h1 h2 h3 h4 h5 h6 h7)
  | dup2 =>
    obtain rfl : nx = pc + 1 := hsw.resolve_left (fun h => Bool.noConfusion (show false = true from h))
    have hd := jx_dec hd0
    match st, hw with
    | v :: w :: st, hw =>
      obtain ⟨hv, hv2, hw⟩ := hw
      intro H locs cells slots ls h1 h2 h3 h4 h5 h6 h7
      exact lv_dup2_11 hx hb hd hv hv2 (hw H locs cells slots ls h1 h2 h3 h4 h5 h6 h7)
    | [], hw => exact hw.elim
    | [_], hw => exact hw.elim
  | ifCond cnd off =>
    obtain rfl : nx = pc + 3 := hsw.resolve_left (fun h => Bool.noConfusion (show false = true from h))
    have hd := jx_dec hd0
    obtain ⟨x, st, rfl, hw1, hw2⟩ := jx_ki_i hw
    have htg := of_decide_eq_true hlop
    intro H locs cells slots ls h1 h2 h3 h4 h5 h6 h7
    cases cnd with
    | eq => exact lv_if_eq hx hb hd htg (fun h => hw1 h H locs cells slots ls h1 h2 h3 h4 h5 h6 h7) (fun h => hw2 h H locs cells slots ls h1 h2 h3 h4 h5 h6 h7)
    | ne => exact lv_if_ne hx hb hd htg (fun h => hw1 h H locs cells slots ls h1 h2 h3 h4 h5 h6 h7) (fun h => hw2 (fun q => q h) H locs cells slots ls h1 h2 h3 h4 h5 h6 h7)
    | lt => exact lv_if_lt hx hb hd htg (fun h => hw1 h H locs cells slots ls h1 h2 h3 h4 h5 h6 h7) (fun h => hw2 h H locs cells slots ls h1 h2 h3 h4 h5 h6 h7)
    | ge => exact lv_if_ge hx hb hd htg (fun h => hw1 h H locs cells slots ls h1 h2 h3 h4 h5 h6 h7) (fun h => hw2 h H locs cells slots ls h1 h2 h3 h4 h5 h6 h7)
    | gt => exact lv_if_gt hx hb hd htg (fun h => hw1 h H locs cells slots ls h1 h2 h3 h4 h5 h6 h7) (fun h => hw2 h H locs cells slots ls h1 h2 h3 h4 h5 h6 h7)
    | le => exact lv_if_le hx hb hd htg (fun h => hw1 h H locs cells slots ls h1 h2 h3 h4 h5 h6 h7) (fun h => hw2 h H locs cells slots ls h1 h2 h3 h4 h5 h6 h7)
  | if_icmp cnd off =>
    obtain rfl : nx = pc + 3 := hsw.resolve_left (fun h => Bool.noConfusion (show false = true from h))
    have hd := jx_dec hd0
    obtain ⟨x, y, st, rfl, hw1, hw2⟩ := jx_kii_i hw
    have htg := of_decide_eq_true hlop
    intro H locs cells slots ls h1 h2 h3 h4 h5 h6 h7
    cases cnd with
    | eq => exact lv_icmp_eq hx hb hd htg (fun h => hw1 h H locs cells slots ls h1 h2 h3 h4 h5 h6 h7) (fun h => hw2 h H locs cells slots ls h1 h2 h3 h4 h5 h6 h7)
    | ne => exact lv_icmp_ne hx hb hd htg (fun h => hw1 h H locs cells slots ls h1 h2 h3 h4 h5 h6 h7) (fun h => hw2 (fun q => q h) H locs cells slots ls h1 h2 h3 h4 h5 h6 h7)
    | lt => exact lv_icmp_lt hx hb hd htg (fun h => hw1 h H locs cells slots ls h1 h2 h3 h4 h5 h6 h7) (fun h => hw2 h H locs cells slots ls h1 h2 h3 h4 h5 h6 h7)
    | ge => exact lv_icmp_ge hx hb hd htg (fun h => hw1 h H locs cells slots ls h1 h2 h3 h4 h5 h6 h7) (fun h => hw2 h H locs cells slots ls h1 h2 h3 h4 h5 h6 h7)
    | gt => exact lv_icmp_gt hx hb hd htg (fun h => hw1 h H locs cells slots ls h1 h2 h3 h4 h5 h6 h7) (fun h => hw2 h H locs cells slots ls h1 h2 h3 h4 h5 h6 h7)
    | le => exact lv_icmp_le hx hb hd htg (fun h => hw1 h H locs cells slots ls h1 h2 h3 h4 h5 h6 h7) (fun h => hw2 h H locs cells slots ls h1 h2 h3 h4 h5 h6 h7)
  | goto off =>
    obtain rfl : nx = pc + 3 := hsw.resolve_left (fun h => Bool.noConfusion (show false = true from h))
    have hd := jx_dec hd0
    have htg := of_decide_eq_true hlop
    intro H locs cells slots ls h1 h2 h3 h4 h5 h6 h7
    exact lv_goto hx hb hd htg (hw H locs cells slots ls h1 h2 h3 h4 h5 h6 h7)
  | tableswitch dflt lo hi offs =>
    obtain ⟨x, st, rfl, hw1, hw2⟩ := jx_ki_i hw
    intro H locs cells slots ls h1 h2 h3 h4 h5 h6 h7
    by_cases g : x.toInt < lo ∨ hi < x.toInt
    · obtain ⟨g1, g2⟩ := hw1 g
      exact lv_tableOut hx hb hd0 g (Int.toNat_of_nonneg g1).symm (g2 H locs cells slots ls h1 h2 h3 h4 h5 h6 h7)
    · obtain ⟨off, g0, g1, g2⟩ := hw2 (fun q => g (Or.inl q)) (fun q => g (Or.inr q))
      exact lv_tableIn hx hb hd0 (fun q => g (Or.inl q)) (fun q => g (Or.inr q)) g0 (Int.toNat_of_nonneg g1).symm (g2 H locs cells slots ls h1 h2 h3 h4 h5 h6 h7)
  | lookupswitch dflt ps =>
    obtain ⟨x, st, rfl, g1, g2⟩ := jx_ki_i hw
    intro H locs cells slots ls h1 h2 h3 h4 h5 h6 h7
    exact lv_lookup hx hb hd0 hlop rfl (Int.toNat_of_nonneg g1).symm (g2 H locs cells slots ls h1 h2 h3 h4 h5 h6 h7)
  | getfield i =>
    obtain rfl : nx = pc + 3 := hsw.resolve_left (fun h => Bool.noConfusion (show false = true from h))
    have hd := jx_dec hd0
    obtain ⟨a, st, rfl, hw⟩ := jx_kr_i hw
    simp only [jx_lop, Bool.or_eq_true, Bool.and_eq_true] at hlop
    rcases hlop with ⟨g0, g1, g2⟩ | ⟨⟨g0, g1⟩, g2⟩
    · have e0 := Nat.eq_of_beq_eq_true g0
      subst e0
      rcases hw with ⟨-, j, hj, rfl, w9⟩ | ⟨hs, -⟩
      · rcases g2 with ⟨g2, g3⟩ | ⟨g2, g3⟩
        · have e2 := Nat.eq_of_beq_eq_true g2
          have e3 := Nat.eq_of_beq_eq_true g3
          subst e2
          subst e3
          rcases w9 with ⟨-, w9⟩ | ⟨w9, -⟩
          · exact jx_r_strV hC (Nat.eq_of_beq_eq_true g1) hj hd w9
          · exact absurd w9 (by decide)
        · have e2 := Nat.eq_of_beq_eq_true g2
          have e3 := Nat.eq_of_beq_eq_true g3
          subst e2
          subst e3
          rcases w9 with ⟨w9, -⟩ | ⟨-, w9⟩
          · exact absurd w9 (by decide)
          · exact jx_r_strC hC (Nat.eq_of_beq_eq_true g1) hj hd w9
      · exact jx_ci12 (by decide) (by decide) hs
    · have hci := Nat.le_of_ble_eq_true g0
      have hk9 := Nat.le_of_ble_eq_true g2
      rcases hw with ⟨hr, -⟩ | ⟨hs, ⟨hf, hw⟩ | ⟨hf, q, hq, hw⟩⟩
      · omega
      · exact jx_r_getf hC hd g1 hci hk9 hs (by rw [if_neg hf]) hw
      · exact jx_r_getf hC hd g1 hci hk9 hs (by rw [if_pos hf, hq]; rfl) hw
  | putfield i =>
    obtain rfl : nx = pc + 3 := hsw.resolve_left (fun h => Bool.noConfusion (show false = true from h))
    have hd := jx_dec hd0
    simp only [jx_lop, Bool.and_eq_true] at hlop
    have hci := Nat.le_of_ble_eq_true hlop.1.1
    have hk9 : r2 < jx_fn r1 := Nat.le_of_ble_eq_true hlop.2
    have hfo : jx_ff r1 r2 = true → o = r1 := by
      intro h
      have h2 := hk2
      simp only [jx_ck2, Bool.or_eq_true, Bool.not_eq_true'] at h2
      exact h2.elim (fun q => by rw [q] at h; cases h) Nat.eq_of_beq_eq_true
    match st, hw with
    | .int x :: .ref a :: st, hw => exact jx_r_putI hC hd hlop.1.2 hci hk9 hw.1 hw.2.1 hw.2.2
    | .ref q :: .ref a :: st, hw => exact jx_r_putR (q := some q) hC hd hlop.1.2 hci hk9 hw.1 hw.2.1 (fun h => ⟨hini (hw.2.2.1 h), hfo h⟩) hw.2.2.2
    | .null :: .ref a :: st, hw => exact jx_r_putR (q := none) hC hd hlop.1.2 hci hk9 hw.1 hw.2.1 (fun h => ⟨hini (hw.2.2.1 h), hfo h⟩) hw.2.2.2
  | getstatic i =>
    obtain rfl : nx = pc + 3 := hsw.resolve_left (fun h => Bool.noConfusion (show false = true from h))
    have hd := jx_dec hd0
    simp only [jx_lop, Bool.or_eq_true, Bool.and_eq_true] at hlop
    obtain ⟨g0, ⟨g1, g2⟩ | ⟨g1, g2⟩⟩ := hlop
    · have e1 := Nat.eq_of_beq_eq_true g1
      have e2 := Nat.eq_of_beq_eq_true g2
      subst e1
      subst e2
      rcases hw with ⟨-, hw⟩ | ⟨hw, -⟩
      · exact jx_r_stat0 hC (Nat.eq_of_beq_eq_true g0) hd hw
      · exact absurd hw (by decide)
    · have e1 := Nat.eq_of_beq_eq_true g1
      have e2 := Nat.eq_of_beq_eq_true g2
      subst e1
      subst e2
      rcases hw with ⟨hw, -⟩ | ⟨-, hw⟩
      · exact absurd hw (by decide)
      · exact jx_r_stat1 hC (Nat.eq_of_beq_eq_true g0) hd hw
  | iaload =>
    obtain rfl : nx = pc + 1 := hsw.resolve_left (fun h => Bool.noConfusion (show false = true from h))
    have hd := jx_dec hd0
    obtain ⟨a, i, st, rfl, ⟨n, hs, hin, w9⟩ | ⟨rfl, hin, w9⟩⟩ := jx_kir_i hw
    · exact jx_r_iald hC hd hs hin w9
    · exact jx_r_sld hC hd hin w9
  | laload =>
    obtain rfl : nx = pc + 1 := hsw.resolve_left (fun h => Bool.noConfusion (show false = true from h))
    have hd := jx_dec hd0
    obtain ⟨a, i, st, rfl, n, hs, hin, hw⟩ := jx_kir_i hw
    exact jx_r_lald hC hd hs hin hw
  | aaload =>
    obtain rfl : nx = pc + 1 := hsw.resolve_left (fun h => Bool.noConfusion (show false = true from h))
    have hd := jx_dec hd0
    obtain ⟨a, i, st, rfl, k, n, hs, hk9, hin, q, hq, hw⟩ := jx_kir_i hw
    exact jx_r_aald hC hd hs hk9 hin hq hw
  | baload =>
    obtain rfl : nx = pc + 1 := hsw.resolve_left (fun h => Bool.noConfusion (show false = true from h))
    have hd := jx_dec hd0
    obtain ⟨a, i, st, rfl, j, hj, rfl, hin, w9⟩ := jx_kir_i hw
    exact jx_r_bald hC hj hin hd w9
  | iastore =>
    obtain rfl : nx = pc + 1 := hsw.resolve_left (fun h => Bool.noConfusion (show false = true from h))
    have hd := jx_dec hd0
    obtain ⟨a, i, x, st, rfl, n, hs, hin, hw⟩ := jx_kiir_i hw
    exact jx_r_iast hC hd hs hin hw
  | lastore =>
    obtain rfl : nx = pc + 1 := hsw.resolve_left (fun h => Bool.noConfusion (show false = true from h))
    have hd := jx_dec hd0
    obtain ⟨a, i, x, st, rfl, n, hs, hin, hw⟩ := jx_klir_i hw
    exact jx_r_last hC hd hs hin hw
  | aastore =>
    obtain rfl : nx = pc + 1 := hsw.resolve_left (fun h => Bool.noConfusion (show false = true from h))
    have hd := jx_dec hd0
    obtain ⟨a, i, q, st, rfl, k, n, ci, hs, hk9, hin, hq, hw⟩ := jx_krir_i hw
    exact jx_r_aast hC hd hs hk9 hin hq hw
  | arraylength =>
    obtain rfl : nx = pc + 1 := hsw.resolve_left (fun h => Bool.noConfusion (show false = true from h))
    have hd := jx_dec hd0
    obtain ⟨a, st, rfl, ⟨k, n, hs, g1, g2, w9⟩ | ⟨rfl, w9⟩ | ⟨j, hj, rfl, w9⟩⟩ := jx_kr_i hw
    · exact jx_r_alen hC hd hs ⟨g1, g2⟩ w9
    · exact jx_r_slen hC hd w9
    · exact jx_r_blen hC hj hd w9
  | ireturn =>
    obtain rfl : nx = pc + 1 := hsw.resolve_left (fun h => Bool.noConfusion (show false = true from h))
    have hd := jx_dec hd0
    match st, hw with
    | [.int x], hw => exact hI pc x L b X I R hd hw.1 hw.2
  | lreturn =>
    obtain rfl : nx = pc + 1 := hsw.resolve_left (fun h => Bool.noConfusion (show false = true from h))
    have hd := jx_dec hd0
    match st, hw with
    | [.long x], hw => exact hLr pc x L b X I R hd hw.1 hw.2
  | return_ =>
    obtain rfl : nx = pc + 1 := hsw.resolve_left (fun h => Bool.noConfusion (show false = true from h))
    have hd := jx_dec hd0
    obtain ⟨rfl, hr, hw⟩ := hw
    exact hV pc L b X I R hd hr hw
  | new i =>
    obtain rfl : nx = pc + 3 := hsw.resolve_left (fun h => Bool.noConfusion (show false = true from h))
    have hd := jx_dec hd0
    simp only [jx_lop, Bool.or_eq_true, Bool.and_eq_true, decide_eq_true_eq] at hlop
    rcases hlop with ⟨⟨g0, g1⟩, g2⟩ | ⟨⟨⟨⟨⟨⟨g0, g1⟩, g2⟩, g3⟩, g4⟩, g5⟩, g6⟩
    · have hci := Nat.le_of_ble_eq_true g0
      rcases hw with ⟨-, hb1, hb2, hw⟩ | ⟨hr, -⟩
      · exact jx_r_new hC hd hci g1 hb1 hb2 hw
      · omega
    · have hr9 := Nat.le_of_ble_eq_true g0
      rcases hw with ⟨hr, -⟩ | ⟨-, hr, hh0, h8, hb1, hb2, hsum, hw⟩
      · omega
      · have e2 := Nat.eq_of_beq_eq_true g2
        exact hT pc (r1 - 100) st L b X I R (by omega) (Nat.eq_of_beq_eq_true g1) hh0 (by rw [e2]; exact hd) g3 g4 g5 g6 h8 hb1 hb2 hsum hw
  | newarray t =>
    obtain rfl : nx = pc + 2 := hsw.resolve_left (fun h => Bool.noConfusion (show false = true from h))
    have hd := jx_dec hd0
    obtain ⟨n, st, rfl, g1, g2, hb1, hb2, w9⟩ := jx_ki_i hw
    cases t with
    | int =>
      have e := Nat.eq_of_beq_eq_true (show Nat.beq r1 100 = true from hlop)
      subst e
      exact jx_r_newaI hC hd g1 g2 hb1 hb2 w9
    | long =>
      have e := Nat.eq_of_beq_eq_true (show Nat.beq r1 101 = true from hlop)
      subst e
      exact jx_r_newaL hC hd g1 g2 hb1 hb2 w9
    | _ => exact Bool.noConfusion (show false = true from hlop)
  | anewarray i =>
    obtain rfl : nx = pc + 3 := hsw.resolve_left (fun h => Bool.noConfusion (show false = true from h))
    have hd := jx_dec hd0
    obtain ⟨n, st, rfl, g1, g2, hb1, hb2, w9⟩ := jx_ki_i hw
    simp only [jx_lop, Bool.or_eq_true, Bool.and_eq_true] at hlop
    rcases hlop with ⟨⟨e0, e1⟩, e2⟩ | ⟨⟨e0, e1⟩, e2⟩
    · have e0 := Nat.eq_of_beq_eq_true e0
      have e1 := Nat.eq_of_beq_eq_true e1
      have e2 := Nat.eq_of_beq_eq_true e2
      subst e0
      subst e1
      subst e2
      exact jx_r_anew hC hd (Or.inl ⟨rfl, rfl⟩) jx_clt5.1 g1 g2 hb1 hb2 w9
    · have e0 := Nat.eq_of_beq_eq_true e0
      have e1 := Nat.eq_of_beq_eq_true e1
      have e2 := Nat.eq_of_beq_eq_true e2
      subst e0
      subst e1
      subst e2
      exact jx_r_anew hC hd (Or.inr ⟨rfl, rfl⟩) jx_clt5.2 g1 g2 hb1 hb2 w9
  | multianewarray i dm =>
    obtain rfl : nx = pc + 4 := hsw.resolve_left (fun h => Bool.noConfusion (show false = true from h))
    have hd := jx_dec hd0
    obtain ⟨n, k, st, rfl, g1, g2, g3, g4, hb1, hb2, w9⟩ := jx_kii_i hw
    have h9 := hk2
    simp only [jx_ck2, Bool.and_eq_true, decide_eq_true_eq] at h9
    obtain ⟨e0, rfl, rfl⟩ := h9
    exact jx_r_manew hC (Nat.eq_of_beq_eq_true e0) hd g1 g2 g3 g4 hb1 hb2 w9
  | invokevirtual i =>
    obtain rfl : nx = pc + 3 := hsw.resolve_left (fun h => Bool.noConfusion (show false = true from h))
    have hd := jx_dec hd0
    obtain ⟨a, rest, hst, hrv, hlen, d', b', Post, PX, hd', hM, hb1, hb2, hsum, hkk, hkx⟩ := jx_drop_i hw
    have h9 := hk2
    simp only [jx_ck2, Bool.and_eq_true] at h9
    obtain ⟨z1, z2, z3, z4⟩ := h9
    have hz : r1 < 377 := Nat.le_of_ble_eq_true z1
    have hh0 : jx_hz r1 = [] := List.isEmpty_iff.mp z4
    simp only [jx_lop, Bool.or_eq_true, Bool.and_eq_true] at hlop
    have hn : (st.take r2).reverse.length = jx_na r1 := by rw [List.length_reverse, List.length_take, Nat.min_eq_left hlen]; exact Nat.eq_of_beq_eq_true hlop.2
    rcases hlop.1 with ⟨-, hl⟩ | ⟨-, hl⟩
    · exact jx_r_callV hC hd hz hl z2 z3 hh0 hn hst hrv hd' hM hb1 hb2 hsum hkk (fun E X' I' R' hp => hK _ _ _ _ _ _ _ (hkx E X' I' R' hp))
    · exact jx_r_callVN hC hd hz hl z2 z3 hh0 hn hst hrv hd' hM hb1 hb2 hsum hkk (fun E X' I' R' hp => hK _ _ _ _ _ _ _ (hkx E X' I' R' hp))
  | invokestatic i =>
    obtain rfl : nx = pc + 3 := hsw.resolve_left (fun h => Bool.noConfusion (show false = true from h))
    have hd := jx_dec hd0
    rcases hw with ⟨rfl, hlen, d', b', Post, PX, hd', hM, hb1, hb2, hsum, hkk, hkx⟩ | ⟨rfl, h1D, hw⟩
    · have h9 := hk2
      simp only [jx_ck2, Bool.or_eq_true, Bool.and_eq_true, Bool.not_eq_true'] at h9
      obtain ⟨z1, z2⟩ := h9.resolve_left (fun q => Bool.noConfusion (show true = false from q))
      simp only [jx_lop, Bool.or_eq_true, Bool.and_eq_true] at hlop
      have hl : jx_any3 jx_mlt o i r1 = true ∧ Nat.beq r2 (jx_na r1) = true := by
        rcases hlop with (⟨⟨-, q1⟩, q2⟩ | ⟨q, -⟩) | q
        · exact ⟨q1, q2⟩
        · exact absurd (Nat.eq_of_beq_eq_true q) (by decide)
        · exact absurd (Nat.eq_of_beq_eq_true q) (by decide)
      exact jx_r_callS hC hd (Nat.le_of_ble_eq_true z1) hl.1 z2 (by rw [List.length_reverse, List.length_take, Nat.min_eq_left hlen]; exact Nat.eq_of_beq_eq_true hl.2) (by rw [List.reverse_reverse, List.take_append_drop]) hd' hM hb1 hb2 hsum hkk (fun E X' I' R' hp => hK _ _ _ _ _ _ _ (hkx E X' I' R' hp))
    · obtain ⟨a, sp, q, dp, n, st, rfl, n0, n1, hs, hq, g1, g2, g3, g4, g5, hsum, hw⟩ := jx_kcopy_i hw
      simp only [jx_lop, Bool.or_eq_true, Bool.and_eq_true] at hlop
      have hl : jx_ac.any (fun e => Nat.beq e.1 o && Nat.beq e.2.1 i) = true := by
        rcases hlop with (⟨⟨q, -⟩, -⟩ | ⟨-, q⟩) | q
        · exact absurd (Nat.eq_of_beq_eq_true q) (by decide)
        · exact q
        · exact absurd (Nat.eq_of_beq_eq_true q) (by decide)
      exact jx_r_copy hC hd hl h1D hs hq g1 g2 g3 g4 g5 hsum hw
  | invokespecial i =>
    obtain rfl : nx = pc + 3 := hsw.resolve_left (fun h => Bool.noConfusion (show false = true from h))
    have hd := jx_dec hd0
    rcases hw with ⟨rfl, h1D, hw⟩ | ⟨hne, hw⟩
    · obtain ⟨a, st, rfl, hsum, hw⟩ := jx_kr_i hw
      simp only [jx_lop, Bool.or_eq_true, Bool.and_eq_true] at hlop
      have hl : jx_oi.any (fun e => Nat.beq e.1 o && Nat.beq e.2.1 i) = true := by
        rcases hlop with (⟨⟨q, -⟩, -⟩ | ⟨⟨q, -⟩, -⟩) | ⟨-, q⟩
        · exact absurd (Nat.eq_of_beq_eq_true q) (by decide)
        · exact absurd (Nat.eq_of_beq_eq_true q) (by decide)
        · exact q
      exact jx_r_oi hC hd hl h1D hsum hw
    · obtain ⟨a, rest, hst, hs, hlen, d', b', Post, PX, hd', hM, hb1, hb2, hsum, hkk, hkx⟩ := jx_drop_i hw
      have h9 := hk2
      simp only [jx_ck2, Bool.or_eq_true, Bool.and_eq_true, decide_eq_true_eq] at h9
      obtain ⟨z1, z2, z3, z4, z5⟩ := h9.resolve_left (fun q => hne (Nat.eq_of_beq_eq_true q))
      simp only [jx_lop, Bool.or_eq_true, Bool.and_eq_true] at hlop
      have hl : (jx_any3 jx_mlt o i r1 = true ∨ jx_any3 jx_mln o i r1 = true) ∧ Nat.beq r2 (jx_na r1) = true := by
        rcases hlop with (⟨⟨-, q1⟩, q2⟩ | ⟨⟨-, q1⟩, q2⟩) | ⟨q, -⟩
        · exact ⟨Or.inl q1, q2⟩
        · exact ⟨Or.inr q1, q2⟩
        · exact absurd (Nat.eq_of_beq_eq_true q) hne
      exact jx_r_callI hC hd (Nat.le_of_ble_eq_true z1) hl.1 z2 (List.isEmpty_iff.mp z3) z4 (Option.isNone_iff_eq_none.mp z5) (by rw [List.length_reverse, List.length_take, Nat.min_eq_left hlen]; exact Nat.eq_of_beq_eq_true hl.2) hst hd' hM hb1 hb2 hsum hkk (fun E X' I' R' hp => hK _ _ _ _ _ _ _ (hkx E X' I' R' hp))
  | _ => exact hw.elim
end JDISP
