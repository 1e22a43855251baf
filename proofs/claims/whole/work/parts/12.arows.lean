/-! ===== rows that make objects, copy, call, throw ===== -/
theorem jx_Ra_lt {V : jx_V} {X : jx_X} {I : jx_I} {R : jx_R} {H : Heap} (h : jx_Ra V X I R H) {a : Nat} {sh : Nat × Nat} (hs : X.2.1 a = some sh) : a < X.1 := by
  rw [← h.1]
  exact (h.2 a sh hs).lt
/-- one cell more -/
theorem jx_Ra_new {V : jx_V} {X : jx_X} {I I' : jx_I} {G' : Nat → Nat → Int64} {R R' : jx_R} {H H1 : Heap} {sh : Nat × Nat} (h : jx_Ra V X I R H) (hz : H1.size = H.size + 1) (ho : ∀ q : Nat, q < H.size → H1[q]? = H[q]?)
    (hI : ∀ b, b ≠ X.1 → I' b = I b) (hG : ∀ b, b ≠ X.1 → G' b = X.2.2 b) (hR : ∀ b, b ≠ X.1 → R' b = R b) (hc : va_at V.2.1 vwCl (X.1, jx_cell V sh X.1 I' G' R') H1) : jx_Ra V (X.1 + 1, jx_up X.2.1 X.1 sh, G') I' R' H1 := by
  refine ⟨by rw [hz, h.1], fun b sh' hb => ?_⟩
  have hb' : (if b = X.1 then some sh else X.2.1 b) = some sh' := hb
  by_cases e : b = X.1
  · rw [if_pos e] at hb'
    cases hb'
    rw [e]
    exact hc
  · rw [if_neg e] at hb'
    show va_at V.2.1 vwCl (b, jx_cell V sh' b I' G' R') H1
    rw [jx_cell_eq (hI b e) (hG b e) (hR b e)]
    exact (h.2 b sh' hb').kept (ho b (by rw [h.1]; exact jx_Ra_lt h hb'))
theorem jx_z_ne (I : jx_I) {a b : Nat} (h : b ≠ a) : jx_z I a b = I b := funext fun k => if_neg h
theorem jx_z_eq (I : jx_I) (a : Nat) : jx_z I a a = fun _ => 0 := funext fun k => if_pos rfl
theorem jx_z8_ne (G : Nat → Nat → Int64) {a b : Nat} (h : b ≠ a) : jx_z8 G a b = G b := funext fun k => if_neg h
theorem jx_z8_eq (G : Nat → Nat → Int64) (a : Nat) : jx_z8 G a a = fun _ => 0 := funext fun k => if_pos rfl
theorem jx_n_ne (R : jx_R) {a b : Nat} (h : b ≠ a) : jx_n R a b = R b := funext fun k => if_neg h
theorem jx_n_eq (R : jx_R) (a : Nat) : jx_n R a a = fun _ => none := funext fun k => if_pos rfl
theorem jx_i0 {n : Int32} (h : 0 ≤ n) : ¬ n < 0 := Int32.not_lt.mpr h
section JROWA
variable {V : jx_V} {p : Program} {e : Env} {Rm : Room} {s : State} {m : MethodId} {args : Array Value} {below : List Frame} {meth : Method} {c : Code} {Q : State → Prop} {A0 : Nat → Prop} {mcs : Nat × Nat} {cc : ByteArray} {o nL D : Nat}
variable {pc : Nat} {st : List Value} {L : List (Option Value)} {b : Nat × Nat} {X : jx_X} {I : jx_I} {R : jx_R}
theorem jx_dom {S : Nat → Option (Nat × Nat)} {z : Nat} {sh : Nat × Nat} {H : Heap} {locs : List Loc} (hA : ∀ q, s.heap.size ≤ q → A0 q) (h3 : ∀ q, S q ≠ none → A0 q) (h4 : va_S A0 s.heap H locs) (hz : H.size = z) : ∀ q, jx_up S z sh q ≠ none → A0 q := by
  intro q hq
  by_cases e : q = z
  · exact hA q (by rw [e, ← hz]; exact h4.1)
  · exact h3 q (fun h => hq (by show (if q = z then some sh else S q) = none; rw [if_neg e]; exact h))
theorem jx_Sn {H H1 : Heap} {locs : List Loc} (h4 : va_S A0 s.heap H locs) (hz : H.size ≤ H1.size) (ho : ∀ q : Nat, q < H.size → H1[q]? = H[q]?) : va_S A0 s.heap H1 locs :=
  ⟨Nat.le_trans h4.1 hz, fun x h1 h2 => (ho x (Nat.lt_of_lt_of_le h1 h4.1)).trans (h4.2.1 x h1 h2), h4.2.2⟩
theorem jx_r_new (C : jx_C V p Rm s m args meth c cc o nL D A0 mcs) {i ci : Nat} (hd : decode cc pc = .ok (.new i, 3)) (hci : ci ≤ 12) (hcl : jx_any3 jx_clt o i ci = true) (hb1 : 1 ≤ b.1) (hb2 : jx_fn ci ≤ b.2)
    (kk : jx_J V p e Rm s m args below meth c Q A0 nL mcs (pc + 3) (.ref X.1 :: st) L (b.1 - 1, b.2 - jx_fn ci) (X.1 + 1, jx_up X.2.1 X.1 (ci, 0), X.2.2) (jx_z I X.1) (jx_n R X.1)) : jx_J V p e Rm s m args below meth c Q A0 nL mcs pc st L b X I R := by
  intro H locs cells slots ls h1 h2 h3 h4 h5 h6 h7
  obtain ⟨hx, hb, hml, hown, hts, hE, hA, ⟨hR1, hR2, -, -⟩, -⟩ := C
  have w1 : Cond.classLink (jx_cn o) i (jx_cn ci) ∈ jx_good := by
    obtain ⟨e, he, h2⟩ := List.any_eq_true.mp hcl
    simp only [Bool.and_eq_true] at h2
    have e1 := Nat.eq_of_beq_eq_true h2.1
    have e2 := Nat.eq_of_beq_eq_true h2.2.1
    have e3 := Nat.eq_of_beq_eq_true h2.2.2
    have h3 := jx_walk_ok _ _ jx_clt_ok (e.2.2.2, _) (List.mem_map.mpr ⟨e, he, rfl⟩)
    rw [e1, e2, e3] at h3
    exact jx_gw h3 rfl
  have w2 : Cond.instantiable (jx_cn ci) (jx_fn ci) ∈ jx_good := by
    have h1 := List.all_eq_true.mp (show (List.range 13).all (fun ci => jx_ins.any (fun e => Nat.beq e.1 ci)) = true by decide +kernel) ci (List.mem_range.mpr (by omega))
    obtain ⟨e, he, h2⟩ := List.any_eq_true.mp h1
    have h3 := jx_walk_ok _ _ jx_ins_ok (e.2, _) (List.mem_map.mpr ⟨e, he, rfl⟩)
    rw [Nat.eq_of_beq_eq_true h2] at h3
    exact jx_gw h3 rfl
  have w3 : Cond.initialized (jx_cn ci) ∈ jx_good := by
    have h1 := List.all_eq_true.mp (show (List.range 13).all (fun ci => jx_ini.any (fun e => Nat.beq e.1 ci)) = true by decide +kernel) ci (List.mem_range.mpr (by omega))
    obtain ⟨e, he, h2⟩ := List.any_eq_true.mp h1
    have h3 := jx_walk_ok _ _ jx_ini_ok (e.2, _) (List.mem_map.mpr ⟨e, he, rfl⟩)
    rw [Nat.eq_of_beq_eq_true h2] at h3
    exact jx_gw h3 rfl
  have hKn := hE.1.1 ci _ (jx_cl ci hci)
  refine W.newcK (index := i) (n := jx_fn ci) hx hb hown (hts _ w1) (hts _ w2) (hts _ w3) rfl hd (by rw [hR1]; omega) (by rw [hR2]; omega) hKn.2.1 h2.1 fun H1 kC hkC e1 z1 o1 => ?_
  have z1' : H1.size = H.size + 1 := by rw [z1, h2.1]
  have o1' : ∀ q : Nat, q < H.size → H1[q]? = H[q]? := fun q hq => o1 q (by rw [← h2.1]; exact hq)
  refine kk H1 locs (cells + 1) (slots + jx_fn ci) ls h1 (jx_Ra_new h2 z1' o1' (fun q hq => jx_z_ne I hq) (fun _ _ => rfl) (fun q hq => jx_n_ne R hq) ?_) (jx_dom hA h3 h4 h2.1) (jx_Sn h4 (by omega) o1') h5 (by show cells + 1 + (b.1 - 1) ≤ _; omega) (by show slots + jx_fn ci + (b.2 - jx_fn ci) ≤ _; omega)
  rw [jx_cell_o (show ci < 100 by omega)]
  refine ⟨_, jx_cl ci hci, (u_born (jx_ty ci) hts (jx_lays ci hci) hKn hkC e1 (jx_tys_ok ci hci)).to fun k hk => ?_⟩
  show defaultValue (jx_ty ci k) = vp_V (jx_fs ci X.1 (jx_z I X.1) (jx_n R X.1)) k
  have hg := jx_fs_get (ci := ci) (a := X.1) (I := jx_z I X.1) (R := jx_n R X.1) hk
  rw [jx_z_eq, jx_n_eq] at hg
  unfold vp_V
  rw [List.getD_eq_getElem?_getD, hg]
  rcases jx_ty_k ci hci k hk with ⟨f1, f2⟩ | ⟨f1, f2⟩ | ⟨f1, ⟨t, f2⟩ | ⟨t, f2⟩⟩ <;> rw [f1, f2] <;> rfl
theorem jx_r_newaI (C : jx_C V p Rm s m args meth c cc o nL D A0 mcs) {n : Int32} (hd : decode cc pc = .ok (.newarray .int, 2)) (hn : 0 ≤ n) (hn2 : n.toNatClampNeg ≤ 100000) (hb1 : 1 ≤ b.1) (hb2 : n.toNatClampNeg ≤ b.2)
    (kk : jx_J V p e Rm s m args below meth c Q A0 nL mcs (pc + 2) (.ref X.1 :: st) L (b.1 - 1, b.2 - n.toNatClampNeg) (X.1 + 1, jx_up X.2.1 X.1 (100, n.toNatClampNeg), jx_z8 X.2.2 X.1) (jx_z I X.1) (jx_n R X.1)) : jx_J V p e Rm s m args below meth c Q A0 nL mcs pc (.int n :: st) L b X I R := by
  intro H locs cells slots ls h1 h2 h3 h4 h5 h6 h7
  obtain ⟨hx, hb, hml, hown, hts, hE, hA, ⟨hR1, hR2, -, -⟩, -⟩ := C
  refine va_newaK (atype := .int) hx hb (hts _ (jx_gw jx_xw_acIc rfl)) rfl hd rfl (jx_i0 hn) rfl (by show _ * 4 ≤ _; omega) (by rw [hR1]; omega) (by rw [hR2]; omega) h2.1 fun H1 cA e1 z1 o1 hAr hNm => ?_
  have z1' : H1.size = H.size + 1 := by rw [z1, h2.1]
  have o1' : ∀ q : Nat, q < H.size → H1[q]? = H[q]? := fun q hq => o1 q (by rw [← h2.1]; exact hq)
  have hc : cA = V.2.2.1 0 := Option.some.inj (hNm.symm.trans (hE.1.2 0 _ rfl).2)
  refine kk H1 locs (cells + 1) _ ls h1 (jx_Ra_new h2 z1' o1' (fun q hq => jx_z_ne I hq) (fun q hq => jx_z8_ne _ hq) (fun q hq => jx_n_ne R hq) ?_) (jx_dom hA h3 h4 h2.1) (jx_Sn h4 (by omega) o1') h5 (by show cells + 1 + (b.1 - 1) ≤ _; omega) (by show slots + n.toNatClampNeg + (b.2 - n.toNatClampNeg) ≤ _; omega)
  show H1[X.1]? = some (vp_cell (V.2.2.1 0) (n.toNatClampNeg, .inl (jx_z I X.1 X.1)))
  rw [e1, vp_cell_i, jx_z_eq, hc]
  rfl
theorem jx_r_newaL (C : jx_C V p Rm s m args meth c cc o nL D A0 mcs) {n : Int32} (hd : decode cc pc = .ok (.newarray .long, 2)) (hn : 0 ≤ n) (hn2 : n.toNatClampNeg ≤ 100000) (hb1 : 1 ≤ b.1) (hb2 : n.toNatClampNeg ≤ b.2)
    (kk : jx_J V p e Rm s m args below meth c Q A0 nL mcs (pc + 2) (.ref X.1 :: st) L (b.1 - 1, b.2 - n.toNatClampNeg) (X.1 + 1, jx_up X.2.1 X.1 (101, n.toNatClampNeg), jx_z8 X.2.2 X.1) (jx_z I X.1) (jx_n R X.1)) : jx_J V p e Rm s m args below meth c Q A0 nL mcs pc (.int n :: st) L b X I R := by
  intro H locs cells slots ls h1 h2 h3 h4 h5 h6 h7
  obtain ⟨hx, hb, hml, hown, hts, hE, hA, ⟨hR1, hR2, -, -⟩, -⟩ := C
  refine va_newaK (atype := .long) hx hb (hts _ (jx_gw jx_xw_acLc rfl)) rfl hd rfl (jx_i0 hn) rfl (by show _ * 8 ≤ _; omega) (by rw [hR1]; omega) (by rw [hR2]; omega) h2.1 fun H1 cA e1 z1 o1 hAr hNm => ?_
  have z1' : H1.size = H.size + 1 := by rw [z1, h2.1]
  have o1' : ∀ q : Nat, q < H.size → H1[q]? = H[q]? := fun q hq => o1 q (by rw [← h2.1]; exact hq)
  have hc : cA = V.2.2.1 1 := Option.some.inj (hNm.symm.trans (hE.1.2 1 _ rfl).2)
  refine kk H1 locs (cells + 1) _ ls h1 (jx_Ra_new h2 z1' o1' (fun q hq => jx_z_ne I hq) (fun q hq => jx_z8_ne _ hq) (fun q hq => jx_n_ne R hq) ?_) (jx_dom hA h3 h4 h2.1) (jx_Sn h4 (by omega) o1') h5 (by show cells + 1 + (b.1 - 1) ≤ _; omega) (by show slots + n.toNatClampNeg + (b.2 - n.toNatClampNeg) ≤ _; omega)
  show H1[X.1]? = some (vp_cell (V.2.2.1 1) (n.toNatClampNeg, .inr (.inl (jx_z8 X.2.2 X.1 X.1))))
  rw [e1, vp_cell_l, jx_z8_eq, hc]
  rfl
theorem jx_r_anew (C : jx_C V p Rm s m args meth c cc o nL D A0 mcs) {n : Int32} {i k ci : Nat} (hd : decode cc pc = .ok (.anewarray i, 3)) (hk : (k = 102 ∧ ci = 5) ∨ (k = 103 ∧ ci = 7)) (hcl : jx_any3 jx_clt o i ci = true) (hn : 0 ≤ n) (hn2 : n.toNatClampNeg ≤ 100000) (hb1 : 1 ≤ b.1) (hb2 : n.toNatClampNeg ≤ b.2)
    (kk : jx_J V p e Rm s m args below meth c Q A0 nL mcs (pc + 3) (.ref X.1 :: st) L (b.1 - 1, b.2 - n.toNatClampNeg) (X.1 + 1, jx_up X.2.1 X.1 (k, n.toNatClampNeg), X.2.2) (jx_z I X.1) (jx_n R X.1)) : jx_J V p e Rm s m args below meth c Q A0 nL mcs pc (.int n :: st) L b X I R := by
  intro H locs cells slots ls h1 h2 h3 h4 h5 h6 h7
  obtain ⟨hx, hb, hml, hown, hts, hE, hA, ⟨hR1, hR2, -, -⟩, -⟩ := C
  have w1 : Cond.classLink (jx_cn o) i (jx_cn ci) ∈ jx_good := by
    obtain ⟨e, he, h2⟩ := List.any_eq_true.mp hcl
    simp only [Bool.and_eq_true] at h2
    have e1 := Nat.eq_of_beq_eq_true h2.1
    have e2 := Nat.eq_of_beq_eq_true h2.2.1
    have e3 := Nat.eq_of_beq_eq_true h2.2.2
    have h3 := jx_walk_ok _ _ jx_clt_ok (e.2.2.2, _) (List.mem_map.mpr ⟨e, he, rfl⟩)
    rw [e1, e2, e3] at h3
    exact jx_gw h3 rfl
  have hao : va_AO (jx_cn ci) s ∧ s.vm.findClass ("[" ++ (FieldType.object (jx_cn ci)).toString) = some (V.2.2.1 (k - 100)) := by
    rcases hk with ⟨rfl, rfl⟩ | ⟨rfl, rfl⟩
    · obtain ⟨_, _, _, _, _, f4⟩ := (hE.1.2 2 _ rfl).2
      exact ⟨hE.2.1.2.1, f4⟩
    · obtain ⟨_, _, _, _, _, f4⟩ := (hE.1.2 3 _ rfl).2
      exact ⟨hE.2.1.2.2.1, f4⟩
  refine W.anew (C := jx_cn ci) (index := i) hx hb hown (hts _ w1) (va_AO.use hao.1) rfl hd rfl (jx_i0 hn) (by omega) (by rw [hR1]; omega) (by rw [hR2]; omega) fun cA kA comp f1 f2 f3 f4 => ?_
  rw [show (F0 m pc ls (.int n :: st)).pc = pc from rfl]
  generalize hH1 : H.push ({ cls := cA, slots := Array.replicate n.toNatClampNeg .null, vm := .none } : Cell) = H1
  have z1 : H1.size = H.size + 1 := by rw [← hH1, Array.size_push]
  have e1 : H1[H.size]? = some (arrV cA n.toNatClampNeg (fun _ => .null)) := by rw [← hH1, Array.getElem?_push_size, ← arrV_new]
  have o1 : ∀ q : Nat, q < H.size → H1[q]? = H[q]? := fun q hq => by rw [← hH1, Array.getElem?_push, if_neg (Nat.ne_of_lt hq)]
  have hc : cA = V.2.2.1 (k - 100) := Option.some.inj (f1.symm.trans hao.2)
  have hk3 : k = 102 ∨ k = 103 ∨ k = 104 := by omega
  have hh := h2.1
  rw [hh] at e1 ⊢
  refine kk H1 locs (cells + 1) _ ls h1 (jx_Ra_new h2 z1 o1 (fun q hq => jx_z_ne I hq) (fun _ _ => rfl) (fun q hq => jx_n_ne R hq) ?_) (jx_dom hA h3 h4 h2.1) (jx_Sn h4 (by omega) o1) h5 (by show cells + 1 + (b.1 - 1) ≤ _; omega) (by show slots + n.toNatClampNeg + (b.2 - n.toNatClampNeg) ≤ _; omega)
  rw [jx_cell_q hk3]
  show H1[X.1]? = some (vp_cell (V.2.2.1 (k - 100)) (n.toNatClampNeg, .inr (.inr (.inr (.inr (jx_n R X.1 X.1))))))
  rw [e1, vp_cell_q, jx_n_eq, hc]
  rfl
end JROWA
