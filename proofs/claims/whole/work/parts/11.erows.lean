/-! ===== the environment: warm, kept, narrow; Strings and statics ===== -/
theorem jx_ao_moved {t : FieldType} {u U : State} (hvm : u.vm.Alike U.vm) (h : (Cond.arrayOver (.array t)).before #[] u = true) : (Cond.arrayOver (.array t)).before #[] U = true := arrayOver_alikeB hvm h
theorem jx_E_warm {V : jx_V} {A : Nat → Prop} {s U : State} {H : Heap} (hW : s.WarmedH U.vm) (h : jx_E V A s H) : jx_E V A U H := by
  obtain ⟨h1, ⟨h2, h3, h4, h5, h15⟩, h6, h7, h8, h9, h10, h11, h12, h13, h14⟩ := h
  refine ⟨h1.moved hW.alike, ⟨fun w hw => ?_, h3.moved hW.alike, h4.moved hW.alike, jx_ao_moved hW.alike h5, fun i j hi hj hij => (h15 i j hi hj hij).moved hW.alike⟩, fun e he => (h6 e he).warmM hW, fun i hi => ⟨(h7 i hi).1.moved hW.alike, (h7 i hi).2.warm hW⟩, va_Z.moved hW.alike h8, va_Zq.moved hW.alike h9, h10.moved hW.alike, h11.moved hW.alike, h12.moved hW.alike, h13, h14⟩
  have hk := (List.mem_filter.mp hw).2
  simp only [Bool.and_eq_true] at hk
  exact va_tabs hk.1 (rfl : (s.setVm U.vm).vm = U.vm) (Cond.before_shiftedFace (State.Shifted.of_warmed hW) w hk.2 (h2 w hw))
theorem jx_E_kept {V : jx_V} {A : Nat → Prop} {s : State} {H H1 : Heap} (hz : H.size ≤ H1.size) (hq : ∀ a : Nat, a < H.size → ¬ A a → H1[a]? = H[a]?) (h : jx_E V A s H) : jx_E V A s H1 := by
  obtain ⟨h1, h2, h6, h7, h8, h9, h10, h11, h12, h13, h14⟩ := h
  exact ⟨h1, h2, h6, fun i hi => ⟨(h7 i hi).1.kept hq, (h7 i hi).2⟩, va_Z.kept h8 hq, va_Zq.kept h9 hq, h10.kept hq, h11.kept hq, h12.kept (hq _ h14 h13), h13, Nat.lt_of_lt_of_le h14 hz⟩
theorem jx_E_narrow {V : jx_V} {A B : Nat → Prop} {s : State} {H : Heap} (hAB : ∀ q, B q → A q) (h : jx_E V A s H) : jx_E V B s H := by
  obtain ⟨h1, h2, h6, h7, h8, h9, h10, h11, h12, h13, h14⟩ := h
  exact ⟨h1, h2, h6, fun i hi => ⟨(h7 i hi).1.narrow hAB, (h7 i hi).2⟩, va_Z.narrow h8 hAB, va_Zq.narrow h9 hAB, h10.narrow hAB, h11.narrow hAB, h12, fun q => h13 (hAB _ q), h14⟩
section JROWE
variable {V : jx_V} {p : Program} {e : Env} {Rm : Room} {s : State} {m : MethodId} {args : Array Value} {below : List Frame} {meth : Method} {c : Code} {Q : State → Prop} {A0 : Nat → Prop} {mcs : Nat × Nat} {cc : ByteArray} {o nL D : Nat}
variable {pc : Nat} {st : List Value} {L : List (Option Value)} {b : Nat × Nat} {X : jx_X} {I : jx_I} {R : jx_R}
theorem jx_r_strV (C : jx_C V p Rm s m args meth c cc o nL D A0 mcs) (ho : o = 16) {i : Nat} (hi : i < 34) (hd : decode cc pc = .ok (.getfield 9, 3)) (kk : jx_J V p e Rm s m args below meth c Q A0 nL mcs (pc + 3) (.ref (V.2.2.2.2.1 i) :: st) L b X I R) : jx_J V p e Rm s m args below meth c Q A0 nL mcs pc (.ref (V.2.2.2.1 i) :: st) L b X I R := by
  intro H locs cells slots ls h1 h2 h3 h4 h5 h6 h7
  subst ho
  obtain ⟨hx, hb, hml, hown, hts, hE, -⟩ := C
  exact vk_getf (own := "java/lang/String") (ref := "java/lang/String") (index := 9) hx hb ((hE.2.2.2.1 i hi).1.1 0 Nat.one_pos).2.2.1 h4 hown (hts _ (jx_gw jx_xw_fv rfl)) (fun x h => h) hd (kk H locs cells slots ls h1 h2 h3 h4 h5 h6 h7)
theorem jx_r_strC (C : jx_C V p Rm s m args meth c cc o nL D A0 mcs) (ho : o = 16) {i : Nat} (hi : i < 34) (hd : decode cc pc = .ok (.getfield 15, 3)) (kk : jx_J V p e Rm s m args below meth c Q A0 nL mcs (pc + 3) (.int 0 :: st) L b X I R) : jx_J V p e Rm s m args below meth c Q A0 nL mcs pc (.ref (V.2.2.2.1 i) :: st) L b X I R := by
  intro H locs cells slots ls h1 h2 h3 h4 h5 h6 h7
  subst ho
  obtain ⟨hx, hb, hml, hown, hts, hE, -⟩ := C
  exact vk_getf (own := "java/lang/String") (ref := "java/lang/String") (index := 15) hx hb ((hE.2.2.2.1 i hi).1.1 0 Nat.one_pos).2.1 h4 hown (hts _ (jx_gw jx_xw_fc rfl)) (fun x h => h) hd (kk H locs cells slots ls h1 h2 h3 h4 h5 h6 h7)
theorem jx_r_stat0 (C : jx_C V p Rm s m args meth c cc o nL D A0 mcs) (ho : o = 16) (hd : decode cc pc = .ok (.getstatic 38, 3)) (kk : jx_J V p e Rm s m args below meth c Q A0 nL mcs (pc + 3) (.int 1 :: st) L b X I R) : jx_J V p e Rm s m args below meth c Q A0 nL mcs pc st L b X I R := by
  intro H locs cells slots ls h1 h2 h3 h4 h5 h6 h7
  subst ho
  obtain ⟨hx, hb, hml, hown, hts, hE, -⟩ := C
  exact va_gets (own := "java/lang/String") (ref := "java/lang/String") (index := 38) hx hb hE.2.2.2.2.1 h4 hown (hts _ (jx_gw jx_xw_sC rfl)) (fun x h => h) hd (kk H locs cells slots ls h1 h2 h3 h4 h5 h6 h7)
theorem jx_r_stat1 (C : jx_C V p Rm s m args meth c cc o nL D A0 mcs) (ho : o = 16) (hd : decode cc pc = .ok (.getstatic 1053, 3)) (kk : ∀ q : Option Nat, jx_J V p e Rm s m args below meth c Q A0 nL mcs (pc + 3) (va_rf q :: st) L b X I R) : jx_J V p e Rm s m args below meth c Q A0 nL mcs pc st L b X I R := by
  intro H locs cells slots ls h1 h2 h3 h4 h5 h6 h7
  subst ho
  obtain ⟨hx, hb, hml, hown, hts, hE, -⟩ := C
  rcases hE.2.2.2.2.2.1 with hz | ⟨t, hz⟩
  · exact va_gets (own := "java/lang/String") (ref := "jdk/internal/util/Preconditions") (index := 1053) hx hb hz h4 hown (hts _ (jx_gw jx_xw_sP rfl)) (fun x h => h) hd (kk none H locs cells slots ls h1 h2 h3 h4 h5 h6 h7)
  · exact va_gets (own := "java/lang/String") (ref := "jdk/internal/util/Preconditions") (index := 1053) hx hb hz h4 hown (hts _ (jx_gw jx_xw_sP rfl)) (fun x h => h) hd (kk (some t) H locs cells slots ls h1 h2 h3 h4 h5 h6 h7)
theorem jx_r_blen (C : jx_C V p Rm s m args meth c cc o nL D A0 mcs) {i : Nat} (hi : i < 34) (hd : decode cc pc = .ok (.arraylength, 1)) (kk : jx_J V p e Rm s m args below meth c Q A0 nL mcs (pc + 1) (.int (nI (jx_sb i).length) :: st) L b X I R) : jx_J V p e Rm s m args below meth c Q A0 nL mcs pc (.ref (V.2.2.2.2.1 i) :: st) L b X I R := by
  intro H locs cells slots ls h1 h2 h3 h4 h5 h6 h7
  obtain ⟨hx, hb, hml, hown, hts, hE, -⟩ := C
  obtain ⟨cell, g1, g2, g3, g4, g5, -⟩ := ((hE.2.2.2.1 i hi).1.1 0 Nat.one_pos).2.2.2.kept h4.2.1
  exact W.alen (n := nI (jx_sb i).length) hx hb g1 g2 g5 rfl rfl hd (kk H locs cells slots ls h1 h2 h3 h4 h5 h6 h7)
theorem jx_r_bald (C : jx_C V p Rm s m args meth c cc o nL D A0 mcs) {i : Nat} {j : Int32} (hi : i < 34) (hj : vp_in j (jx_sb i).length) (hd : decode cc pc = .ok (.baload, 1)) (kk : jx_J V p e Rm s m args below meth c Q A0 nL mcs (pc + 1) (.int ((jx_sb i).getD j.toNatClampNeg 0) :: st) L b X I R) : jx_J V p e Rm s m args below meth c Q A0 nL mcs pc (.int j :: .ref (V.2.2.2.2.1 i) :: st) L b X I R := by
  intro H locs cells slots ls h1 h2 h3 h4 h5 h6 h7
  obtain ⟨hx, hb, hml, hown, hts, hE, -⟩ := C
  obtain ⟨cell, g1, g2, g3, g4, g5, g6, -⟩ := ((hE.2.2.2.1 i hi).1.1 0 Nat.one_pos).2.2.2.kept h4.2.1
  have hlt : j.toNatClampNeg < (jx_sb i).length := Nat.not_le.mp fun q => hj (Or.inr q)
  have hl : (jx_sb i).length < 2 ^ 31 := by
    have h := List.all_eq_true.mp (show (List.range 34).all (fun i => decide ((jx_sb i).length < 2 ^ 31)) = true by decide +kernel) i (List.mem_range.mpr hi)
    exact of_decide_eq_true h
  exact W.bald (v := .int ((jx_sb i).getD j.toNatClampNeg 0)) hx hb g1 g2 g3 (fun q => hj (q.imp id (fun q => Nat.le_trans g4 q))) (g6 _ hlt) rfl rfl hd (kk H locs cells slots ls h1 h2 h3 h4 h5 h6 h7)
theorem jx_r_ldcS (C : jx_C V p Rm s m args meth c cc o nL D A0 mcs) {i ix : Nat} (hi : i < 34) (ho : (jx_ss i).1 = o) (hix : (jx_ss i).2.1 = ix) (hd : decode cc pc = .ok (.ldc ix, 2)) (kk : jx_J V p e Rm s m args below meth c Q A0 nL mcs (pc + 2) (.ref (V.2.2.2.1 i) :: st) L b X I R) : jx_J V p e Rm s m args below meth c Q A0 nL mcs pc st L b X I R := by
  intro H locs cells slots ls h1 h2 h3 h4 h5 h6 h7
  subst ho
  subst hix
  obtain ⟨hx, hb, hml, hown, hts, hE, -⟩ := C
  exact va_ldcS hx hb hown (hE.2.2.2.1 i hi).2 hd (kk H locs cells slots ls h1 h2 h3 h4 h5 h6 h7)
end JROWE
