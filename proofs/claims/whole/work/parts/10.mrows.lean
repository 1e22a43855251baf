/-! ===== rows that read or write the objects ===== -/
theorem jx_ffAll : (List.range 13).all (fun ci => (List.range (jx_fn ci)).all (fun k => Nat.beq (jx_fk ci k) 1 || !jx_ff ci k)) = true := by decide +kernel
theorem jx_ff_i (ci : Nat) (h : ci ≤ 12) (k : Nat) (hk : k < jx_fn ci) (hf : jx_fk ci k ≠ 1) : jx_ff ci k = false := by
  have h1 := List.all_eq_true.mp (List.all_eq_true.mp jx_ffAll ci (List.mem_range.mpr (by omega))) k (List.mem_range.mpr hk)
  simp only [Bool.or_eq_true, Bool.not_eq_true'] at h1
  exact h1.resolve_left (fun q => hf (Nat.eq_of_beq_eq_true q))
section JROWM
variable {V : jx_V} {p : Program} {e : Env} {Rm : Room} {s : State} {m : MethodId} {args : Array Value} {below : List Frame} {meth : Method} {c : Code} {Q : State → Prop} {A0 : Nat → Prop} {mcs : Nat × Nat} {cc : ByteArray} {o nL D : Nat}
variable {pc : Nat} {st : List Value} {L : List (Option Value)} {b : Nat × Nat} {X : jx_X} {I : jx_I} {R : jx_R}
theorem jx_r_getf (C : jx_C V p Rm s m args meth c cc o nL D A0 mcs) {i ci k a : Nat} (hd : decode cc pc = .ok (.getfield i, 3)) (hl : jx_flk o i ci k = true) (hci : ci ≤ 12) (hk : k < jx_fn ci) (hs : X.2.1 a = some (ci, 0)) {v : Value} (hv : v = if jx_fk ci k = 1 then va_rf (R a k) else .int (I a k))
    (kk : jx_J V p e Rm s m args below meth c Q A0 nL mcs (pc + 3) (v :: st) L b X I R) : jx_J V p e Rm s m args below meth c Q A0 nL mcs pc (.ref a :: st) L b X I R := by
  intro H locs cells slots ls h1 h2 h3 h4 h5 h6 h7
  obtain ⟨hx, hb, hml, hown, hts, hE, -⟩ := C
  have hP := jx_P1 h2 hs
  rw [jx_cell_o (show ci < 100 by omega)] at hP
  exact va_get (ref := (jx_T ci k).1) (index := i) hx hb hts (jx_lays ci hci) hown hE.1 hP 0 rfl (jx_cl ci hci) k hk (hts _ (jx_flw hl)) (fun x h => h) (by rw [jx_fs_get hk, hv]) hd (kk H locs cells slots ls h1 h2 h3 h4 h5 h6 h7)
theorem jx_r_put (C : jx_C V p Rm s m args meth c cc o nL D A0 mcs) {i ci k a : Nat} {v : Value} {I' : jx_I} {R' : jx_R} (hd : decode cc pc = .ok (.putfield i, 3)) (hl : jx_flk o i ci k = true) (hci : ci ≤ 12) (hk : k < jx_fn ci) (hs : X.2.1 a = some (ci, 0)) (hn : narrow (jx_ty ci k) v = v) (hf : fits (jx_ty ci k) v = true)
    (hfin : jx_ff ci k = true → meth.name = "<init>" ∧ o = ci) (hset : (jx_fs ci a I R).set k v = jx_fs ci a I' R') (hI : ∀ b, b ≠ a → I' b = I b) (hR : ∀ b, b ≠ a → R' b = R b) (kk : jx_J V p e Rm s m args below meth c Q A0 nL mcs (pc + 3) st L b X I' R') : jx_J V p e Rm s m args below meth c Q A0 nL mcs pc (v :: .ref a :: st) L b X I R := by
  intro H locs cells slots ls h1 h2 h3 h4 h5 h6 h7
  obtain ⟨hx, hb, hml, hown, hts, hE, -⟩ := C
  have hK := hE.1
  have hc := jx_cl ci hci
  have hin := jx_lays ci hci
  have hap := va_apart (own := jx_cn o) hts hin (jx_ty ci) (jx_tys_ok ci hci) (jx_nms_ok ci hci) hK hc
  have hat := h2.2 a _ hs
  rw [jx_cell_o (show ci < 100 by omega)] at hat
  obtain ⟨r, e1, cell, q1, q2, q3, q4⟩ := hat
  have hr : r = (jx_cn ci, jx_T ci, jx_fn ci) := Option.some.inj (e1.symm.trans hc)
  subst hr
  obtain ⟨hS, hfc, kC, hkC, hkind⟩ := hK.1 ci _ hc
  obtain ⟨cf, kf, fi, f, hi, hsl⟩ := hS k hk
  have hst := (u_facts hfc hkC (u_lays hts hin hk) hi).1
  have fin : ∀ H' : Heap, H'[a]? = some (cell.setSlot f.slot v) → H'.size = H.size → (∀ q, q ≠ a → H'[q]? = H[q]?) → W p V.1 e Rm s m args below meth c H' (locs ++ [⟨a, f.slot⟩]) cells slots Q (F0 m (pc + 3) ls st) := by
    intro H' w1 w2 w3
    rw [hsl] at w1 ⊢
    refine kk H' _ cells slots ls h1 (jx_Ra_set h2 hs w2 w3 hI (fun _ _ => rfl) hR ?_) h3 (h4.put w2 w3 (h3 a (by rw [hs]; exact fun h => by cases h))) h5 h6 h7
    rw [jx_cell_o (show ci < 100 by omega), ← hset]
    exact ⟨_, hc, t_OB.to (V := updV (vp_V (jx_fs ci a I R)) k v) ⟨_, w1, q2, q3, t_set q4 hap hk v⟩ (fun j _ => vp_updV_set (by rw [jx_fs_len]; exact hk) v j)⟩
  cases hfb : jx_ff ci k with
  | false =>
    have hlay := hts _ (hin _ (u_in_lay hk))
    unfold u_lay at hlay
    rw [if_neg (show ¬ (jx_T ci k).2.2.2 = true by rw [show (jx_T ci k).2.2.2 = false from hfb]; decide)] at hlay
    have h6' := u_store hfc hkC hkind hlay hi (jx_tys_ok ci hci k hk) hn hf
    exact W.putK (index := i) hx hb (f := f) ⟨hown, hts _ (jx_flw hl), ⟨_, _, _, hi⟩, hst⟩ (by rw [q2]; exact h6') q1 q3 (by rw [hsl]; exact k2_hasslot (q4 k hk)) rfl rfl hd fin
  | true =>
    obtain ⟨hin2, hoc⟩ := hfin hfb
    obtain ⟨n1, n2⟩ := u_fits hfc hkC hkind (u_lays hts hin hk) hi (jx_tys_ok ci hci k hk) hn hf
    have hcf : m.cls = cf := by
      have hlay := hts _ (hin _ (u_in_lay hk))
      unfold u_lay at hlay
      rw [if_pos (show (jx_T ci k).2.2.2 = true from hfb)] at hlay
      obtain ⟨_, _, c', _, _, _, -, -, hf', -, -, -, hown2, -⟩ := Cond.laysFinal_spec hlay
      have e1 : c' = cf := by have := hi.symm.trans hf'; simp at this; exact this.1.symm
      rw [jx_own_ok ci hci k hk, ← hoc] at hown2
      rw [← e1]; exact Option.some.inj (hown.symm.trans hown2)
    exact W.putFinK (index := i) hx hb hown (hts _ (jx_flw hl)) hi hst hcf hin2 ⟨n1, by rw [q2]; exact n2⟩ q1 q3 (by rw [hsl]; exact k2_hasslot (q4 k hk)) rfl rfl hd fin
theorem jx_r_iald (C : jx_C V p Rm s m args meth c cc o nL D A0 mcs) {a n : Nat} {i : Int32} (hd : decode cc pc = .ok (.iaload, 1)) (hs : X.2.1 a = some (100, n)) (hin : vp_in i n) (kk : jx_J V p e Rm s m args below meth c Q A0 nL mcs (pc + 1) (.int (I a i.toNatClampNeg) :: st) L b X I R) : jx_J V p e Rm s m args below meth c Q A0 nL mcs pc (.int i :: .ref a :: st) L b X I R := by
  intro H locs cells slots ls h1 h2 h3 h4 h5 h6 h7
  obtain ⟨hx, hb, hml, hown, hts, hE, -⟩ := C
  exact va_iald hx hb hE.1 (jx_P1 h2 hs) 0 0 (cA := V.2.2.1 0) rfl rfl hin hd (kk H locs cells slots ls h1 h2 h3 h4 h5 h6 h7)
theorem jx_r_sld (C : jx_C V p Rm s m args meth c cc o nL D A0 mcs) {i : Int32} (hd : decode cc pc = .ok (.iaload, 1)) (hin : vp_in i V.2.2.2.2.2.2.1) (kk : jx_J V p e Rm s m args below meth c Q A0 nL mcs (pc + 1) (.int (V.2.2.2.2.2.2.2 i.toNatClampNeg) :: st) L b X I R) : jx_J V p e Rm s m args below meth c Q A0 nL mcs pc (.int i :: .ref V.2.2.2.2.2.1 :: st) L b X I R := by
  intro H locs cells slots ls h1 h2 h3 h4 h5 h6 h7
  obtain ⟨hx, hb, hml, hown, hts, hE, -⟩ := C
  obtain ⟨-, -, -, -, -, -, -, -, hX, hA, hl⟩ := hE
  exact va_sld hx hb hX hl hA h4 hin hd (kk H locs cells slots ls h1 h2 h3 h4 h5 h6 h7)
theorem jx_r_lald (C : jx_C V p Rm s m args meth c cc o nL D A0 mcs) {a n : Nat} {i : Int32} (hd : decode cc pc = .ok (.laload, 1)) (hs : X.2.1 a = some (101, n)) (hin : vp_in i n) (kk : jx_J V p e Rm s m args below meth c Q A0 nL mcs (pc + 1) (.long (X.2.2 a i.toNatClampNeg) :: st) L b X I R) : jx_J V p e Rm s m args below meth c Q A0 nL mcs pc (.int i :: .ref a :: st) L b X I R := by
  intro H locs cells slots ls h1 h2 h3 h4 h5 h6 h7
  obtain ⟨hx, hb, hml, hown, hts, hE, -⟩ := C
  exact va_lald hx hb hE.1 (jx_P1 h2 hs) 0 1 (cA := V.2.2.1 1) rfl rfl hin hd (kk H locs cells slots ls h1 h2 h3 h4 h5 h6 h7)
theorem jx_cell_q {k n a : Nat} {G : Nat → Nat → Int64} (h : k = 102 ∨ k = 103 ∨ k = 104) : jx_cell V (k, n) a I G R = .inl (V.2.2.1 (k - 100), n, .inr (.inr (.inr (.inr (R a))))) := by
  rcases h with rfl | rfl | rfl <;> rfl
theorem jx_r_aald (C : jx_C V p Rm s m args meth c cc o nL D A0 mcs) {a n k : Nat} {i : Int32} {q : Nat} (hd : decode cc pc = .ok (.aaload, 1)) (hs : X.2.1 a = some (k, n)) (hk : k = 102 ∨ k = 103 ∨ k = 104) (hin : vp_in i n) (hq : R a i.toNatClampNeg = some q) (kk : jx_J V p e Rm s m args below meth c Q A0 nL mcs (pc + 1) (.ref q :: st) L b X I R) : jx_J V p e Rm s m args below meth c Q A0 nL mcs pc (.int i :: .ref a :: st) L b X I R := by
  intro H locs cells slots ls h1 h2 h3 h4 h5 h6 h7
  obtain ⟨hx, hb, hml, hown, hts, hE, -⟩ := C
  have hlt : i.toNatClampNeg < n := Nat.not_le.mp fun q => hin (Or.inr q)
  have hat := h2.2 a _ hs
  rw [jx_cell_q hk] at hat
  have hc : H[a]? = some (vp_cell (V.2.2.1 (k - 100)) (n, .inr (.inr (.inr (.inr (R a)))))) := hat
  have hty : ∃ ty : FieldType, ty.isReference = true ∧ ArrOfT s (V.2.2.1 (k - 100)) ty := by
    rcases hk with rfl | rfl | rfl
    · exact ⟨_, rfl, (hE.1.2 2 _ rfl).1⟩
    · exact ⟨_, rfl, (hE.1.2 3 _ rfl).1⟩
    · exact ⟨_, rfl, (hE.1.2 4 _ rfl).1⟩
  obtain ⟨ty, hr, hA⟩ := hty
  exact W.aald (v := .ref q) hx hb hc (hA n (fun j => va_rf (R a j))) hr (fun q => by cases q) (by show ¬ (i < 0 ∨ (arrV _ _ _).slots.size ≤ _); rw [arrV_size]; exact hin) (by show (arrV _ _ _).slots[_]? = _; rw [arrV_read _ _ hlt, hq]; rfl) rfl rfl hd (kk H locs cells slots ls h1 h2 h3 h4 h5 h6 h7)
theorem jx_r_iast (C : jx_C V p Rm s m args meth c cc o nL D A0 mcs) {a n : Nat} {i x : Int32} (hd : decode cc pc = .ok (.iastore, 1)) (hs : X.2.1 a = some (100, n)) (hin : vp_in i n) (kk : jx_J V p e Rm s m args below meth c Q A0 nL mcs (pc + 1) st L b X (jx_u I a i.toNatClampNeg x) R) : jx_J V p e Rm s m args below meth c Q A0 nL mcs pc (.int x :: .int i :: .ref a :: st) L b X I R := by
  intro H locs cells slots ls h1 h2 h3 h4 h5 h6 h7
  obtain ⟨hx, hb, hml, hown, hts, hE, -⟩ := C
  have hc : H[a]? = some (vp_cell (V.2.2.1 0) (n, .inl (I a))) := h2.2 a _ hs
  refine W.iast hx hb hc ((hE.1.2 0 _ rfl).1 n (fun j => .int (I a j))) (fun q => by cases q) (by show ¬ (i < 0 ∨ (arrV _ _ _).slots.size ≤ _); rw [arrV_size]; exact hin) rfl rfl hd fun H1 w1 w2 w3 => ?_
  refine kk H1 _ cells slots ls h1 (jx_Ra_set h2 hs w2 w3 (fun q hq => jx_u_r _ _ _ hq) (fun _ _ => rfl) (fun _ _ => rfl) ?_) h3 (h4.put w2 w3 (h3 a (by rw [hs]; exact fun h => by cases h))) h5 h6 h7
  show H1[a]? = some (vp_cell _ _)
  rw [w1, vp_cell_i, vp_cell_i, arrV_store]
  congr 2
  funext q
  by_cases hq : q = i.toNatClampNeg
  · subst hq
    simp [updV, jx_u]
  · simp [updV, jx_u, hq]
theorem jx_r_last (C : jx_C V p Rm s m args meth c cc o nL D A0 mcs) {a n : Nat} {i : Int32} {x : Int64} (hd : decode cc pc = .ok (.lastore, 1)) (hs : X.2.1 a = some (101, n)) (hin : vp_in i n) (kk : jx_J V p e Rm s m args below meth c Q A0 nL mcs (pc + 1) st L b (X.1, X.2.1, jx_u X.2.2 a i.toNatClampNeg x) I R) : jx_J V p e Rm s m args below meth c Q A0 nL mcs pc (.long x :: .int i :: .ref a :: st) L b X I R := by
  intro H locs cells slots ls h1 h2 h3 h4 h5 h6 h7
  obtain ⟨hx, hb, hml, hown, hts, hE, -⟩ := C
  have hc : H[a]? = some (vp_cell (V.2.2.1 1) (n, .inr (.inl (X.2.2 a)))) := h2.2 a _ hs
  refine W.last hx hb hc ((hE.1.2 1 _ rfl).1 n (fun j => .long (X.2.2 a j))) (fun q => by cases q) (by show ¬ (i < 0 ∨ (arrV _ _ _).slots.size ≤ _); rw [arrV_size]; exact hin) rfl rfl hd fun H1 w1 w2 w3 => ?_
  refine kk H1 _ cells slots ls h1 (jx_Ra_set (G' := jx_u X.2.2 a i.toNatClampNeg x) h2 hs w2 w3 (fun _ _ => rfl) (fun q hq => jx_u_r _ _ _ hq) (fun _ _ => rfl) ?_) h3 (h4.put w2 w3 (h3 a (by rw [hs]; exact fun h => by cases h))) h5 h6 h7
  show H1[a]? = some (vp_cell _ _)
  rw [w1, vp_cell_l, vp_cell_l, arrV_store]
  congr 2
  funext q
  by_cases hq : q = i.toNatClampNeg
  · subst hq
    simp [updV, jx_u]
  · simp [updV, jx_u, hq]
theorem jx_r_aast (C : jx_C V p Rm s m args meth c cc o nL D A0 mcs) {a n k ci q : Nat} {i : Int32} (hd : decode cc pc = .ok (.aastore, 1)) (hs : X.2.1 a = some (k, n)) (hk : (k = 102 ∧ ci = 5) ∨ (k = 103 ∧ ci = 7)) (hin : vp_in i n) (hq : X.2.1 q = some (ci, 0)) (kk : jx_J V p e Rm s m args below meth c Q A0 nL mcs (pc + 1) st L b X I (jx_u R a i.toNatClampNeg (some q))) : jx_J V p e Rm s m args below meth c Q A0 nL mcs pc (.ref q :: .int i :: .ref a :: st) L b X I R := by
  intro H locs cells slots ls h1 h2 h3 h4 h5 h6 h7
  obtain ⟨hx, hb, hml, hown, hts, hE, -⟩ := C
  have hk3 : k = 102 ∨ k = 103 ∨ k = 104 := by omega
  have hci : ci ≤ 12 := by omega
  have hat := h2.2 a _ hs
  rw [jx_cell_q hk3] at hat
  have hc : H[a]? = some (vp_cell (V.2.2.1 (k - 100)) (n, .inr (.inr (.inr (.inr (R a)))))) := hat
  have hty : ∃ (kA : Class) (comp : ClassId), s.vm.classes[V.2.2.1 (k - 100)]? = some kA ∧ kA.kind = .array comp (.object (jx_cn ci)) ∧ s.vm.findClass (jx_cn ci) = some comp := by
    rcases hk with ⟨rfl, rfl⟩ | ⟨rfl, rfl⟩
    · obtain ⟨kA, comp, e1, e2, e3, -⟩ := (hE.1.2 2 _ rfl).2
      exact ⟨kA, comp, e1, e2, e3⟩
    · obtain ⟨kA, comp, e1, e2, e3, -⟩ := (hE.1.2 3 _ rfl).2
      exact ⟨kA, comp, e1, e2, e3⟩
  obtain ⟨kA, comp, e1, e2, e3⟩ := hty
  have hqat := h2.2 q _ hq
  rw [jx_cell_o (show ci < 100 by omega)] at hqat
  obtain ⟨r, f1, cell, q1, q2, q3, -⟩ := hqat
  have hr : r = (jx_cn ci, jx_T ci, jx_fn ci) := Option.some.inj (f1.symm.trans (jx_cl ci hci))
  subst hr
  obtain ⟨hS, hfc, kC, hkC, hkind⟩ := hE.1.1 ci _ (jx_cl ci hci)
  have hcc : cell.cls = comp := by rw [q2]; exact Option.some.inj (hfc.symm.trans e3)
  have hlt : i.toNatClampNeg < n := Nat.not_le.mp fun q => hin (Or.inr q)
  have hcl : comp = V.2.1.1 ci := Option.some.inj (e3.symm.trans hfc)
  refine W.aast (t := .object (jx_cn ci)) (k := kA) (kv := kC) (kcomp := kC) (comp := comp) hx hb hc (fun z h => by cases h) (fun h => by cases h) e1 e2 rfl (by rw [hcl]; exact hkC) ⟨fun h => hin (Or.inl h), by show _ < (arrV _ _ _).slots.size; rw [arrV_size]; exact hlt⟩ q1 (fun z h => by rw [q3] at h; cases h) (by rw [q2]; exact hkC) (by rw [hcc]; exact va_asg _ _) rfl rfl hd fun H1 w1 w2 w3 => ?_
  refine kk H1 _ cells slots ls h1 (jx_Ra_set h2 hs w2 w3 (fun _ _ => rfl) (fun _ _ => rfl) (fun q hq => jx_u_r _ _ _ hq) ?_) h3 (h4.put w2 w3 (h3 a (by rw [hs]; exact fun h => by cases h))) h5 h6 h7
  rw [jx_cell_q hk3]
  show H1[a]? = some (vp_cell _ _)
  rw [w1, vp_cell_q, vp_cell_q, arrV_store]
  congr 2
  funext z
  by_cases hz : z = i.toNatClampNeg
  · subst hz
    simp [updV, jx_u, va_rf]
  · simp [updV, jx_u, hz]
theorem jx_r_alen (C : jx_C V p Rm s m args meth c cc o nL D A0 mcs) {a n k : Nat} (hd : decode cc pc = .ok (.arraylength, 1)) (hs : X.2.1 a = some (k, n)) (hk : 100 ≤ k ∧ k ≤ 104) (kk : jx_J V p e Rm s m args below meth c Q A0 nL mcs (pc + 1) (.int (nI n) :: st) L b X I R) : jx_J V p e Rm s m args below meth c Q A0 nL mcs pc (.ref a :: st) L b X I R := by
  intro H locs cells slots ls h1 h2 h3 h4 h5 h6 h7
  obtain ⟨hx, hb, hml, hown, hts, hE, -⟩ := C
  have hP := jx_P1 h2 hs
  rcases (show k = 100 ∨ k = 101 ∨ (k = 102 ∨ k = 103 ∨ k = 104) by omega) with rfl | rfl | hk3
  · exact va_alen hx hb hE.1 hP 0 0 (cA := V.2.2.1 0) rfl (ty := .int) rfl rfl hd (kk H locs cells slots ls h1 h2 h3 h4 h5 h6 h7)
  · exact va_alen hx hb hE.1 hP 0 1 (cA := V.2.2.1 1) rfl (ty := .long) rfl rfl hd (kk H locs cells slots ls h1 h2 h3 h4 h5 h6 h7)
  · rw [jx_cell_q hk3] at hP
    rcases hk3 with rfl | rfl | rfl
    · exact va_alen hx hb hE.1 hP 0 2 (cA := V.2.2.1 2) rfl (ty := .object RX5) rfl rfl hd (kk H locs cells slots ls h1 h2 h3 h4 h5 h6 h7)
    · exact va_alen hx hb hE.1 hP 0 3 (cA := V.2.2.1 3) rfl (ty := .object RX7) rfl rfl hd (kk H locs cells slots ls h1 h2 h3 h4 h5 h6 h7)
    · exact va_alen hx hb hE.1 hP 0 4 (cA := V.2.2.1 4) rfl (ty := .array .int) rfl rfl hd (kk H locs cells slots ls h1 h2 h3 h4 h5 h6 h7)
theorem jx_r_slen (C : jx_C V p Rm s m args meth c cc o nL D A0 mcs) (hd : decode cc pc = .ok (.arraylength, 1)) (kk : jx_J V p e Rm s m args below meth c Q A0 nL mcs (pc + 1) (.int (nI V.2.2.2.2.2.2.1) :: st) L b X I R) : jx_J V p e Rm s m args below meth c Q A0 nL mcs pc (.ref V.2.2.2.2.2.1 :: st) L b X I R := by
  intro H locs cells slots ls h1 h2 h3 h4 h5 h6 h7
  obtain ⟨hx, hb, hml, hown, hts, hE, -⟩ := C
  obtain ⟨-, -, -, -, -, -, -, -, hX, hA, hl⟩ := hE
  exact va_slen hx hb hX hl hA h4 hd (kk H locs cells slots ls h1 h2 h3 h4 h5 h6 h7)
end JROWM
