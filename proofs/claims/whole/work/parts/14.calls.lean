/-! ===== rows: calls ===== -/
def jx_inl (l : List (Nat × Nat)) (z : Nat) : Bool := l.any (fun e => Nat.beq e.1 z)
def jx_ck2 (o : Nat) (q : jx_row) : Bool := match q.2.1 with
  | .putfield _ => !(jx_ff q.2.2.2.1 q.2.2.2.2.1) || Nat.beq o q.2.2.2.1
  | .multianewarray i d => Nat.beq o 12 && (decide (i = 50) && decide (d = 2))
  | .invokevirtual _ => Nat.ble (q.2.2.2.1 + 1) 377 && (jx_inl jx_w0 q.2.2.2.1 && (jx_inl jx_w3 q.2.2.2.1 && (jx_hz q.2.2.2.1).isEmpty))
  | .invokestatic _ => !(Nat.beq q.2.2.2.2.2 2) || (Nat.ble (q.2.2.2.1 + 1) 377 && jx_inl jx_w1 q.2.2.2.1)
  | .invokespecial _ => Nat.beq q.2.2.2.2.2 5 || (Nat.ble (q.2.2.2.1 + 1) 377 && (jx_inl jx_w0 q.2.2.2.1 && ((jx_hz q.2.2.2.1).isEmpty && (decide ((jx_nm q.2.2.2.1).name = "<init>") && (jx_rt q.2.2.2.1).isNone))))
  | _ => true
theorem jx_ck2All : (List.range 377).all (fun z => (jx_code z).all (jx_ck2 (jx_ow z))) = true := by decide +kernel
theorem jx_ck2L : jx_c377.all (jx_ck2 13) = true := by decide +kernel
theorem jx_mlAll : (List.range 377).all (fun z => Nat.ble (jx_ml z) 45 && decide (jx_ml z = jx_mlO (jx_w z))) = true := by decide +kernel
theorem jx_cnAll : (List.range 19).all (fun o => decide (jx_cn o ≠ "java/lang/invoke/MethodHandle") && decide (jx_cn o ≠ "java/lang/invoke/VarHandle") && jx_ini.any (fun e => Nat.beq e.1 o)) = true := by decide +kernel
theorem jx_cls_z {z : Nat} (h : z < 377) : (jx_nm z).cls = jx_cn (jx_ow z) ∧ jx_ow z ≤ 18 := by
  have h1 := List.all_eq_true.mp jx_cls_ok z (List.mem_range.mpr h)
  simp only [Bool.and_eq_true, decide_eq_true_eq] at h1
  exact ⟨h1.1, Nat.le_of_ble_eq_true h1.2⟩
theorem jx_ml_z {z : Nat} (h : z < 377) : jx_ml z ≤ 45 := by
  have h1 := List.all_eq_true.mp jx_mlAll z (List.mem_range.mpr h)
  simp only [Bool.and_eq_true] at h1
  exact Nat.le_of_ble_eq_true h1.1
theorem jx_cn_z {o : Nat} (h : o ≤ 18) : jx_cn o ≠ "java/lang/invoke/MethodHandle" ∧ jx_cn o ≠ "java/lang/invoke/VarHandle" ∧ Cond.initialized (jx_cn o) ∈ jx_good := by
  have h1 := List.all_eq_true.mp jx_cnAll o (List.mem_range.mpr (by omega))
  simp only [Bool.and_eq_true, decide_eq_true_eq] at h1
  obtain ⟨⟨a1, a2⟩, a4⟩ := h1
  refine ⟨a1, a2, ?_⟩
  obtain ⟨e, he, h2⟩ := List.any_eq_true.mp a4
  have h3 := jx_walk_ok _ _ jx_ini_ok (e.2, _) (List.mem_map.mpr ⟨e, he, rfl⟩)
  rw [Nat.eq_of_beq_eq_true h2] at h3
  exact jx_gw h3 rfl
theorem jx_na_z {z : Nat} (h : z < 377) : (parseMethodDescriptor (jx_nm z).desc).map (fun d => d.parameters.length) = some (jx_na z) := by
  by_cases h0 : z < 64
  · exact of_decide_eq_true (List.all_eq_true.mp jx_na_ok_0 z (List.mem_range'_1.mpr ⟨by omega, by omega⟩))
  by_cases h1 : z < 128
  · exact of_decide_eq_true (List.all_eq_true.mp jx_na_ok_1 z (List.mem_range'_1.mpr ⟨by omega, by omega⟩))
  by_cases h2 : z < 192
  · exact of_decide_eq_true (List.all_eq_true.mp jx_na_ok_2 z (List.mem_range'_1.mpr ⟨by omega, by omega⟩))
  by_cases h3 : z < 256
  · exact of_decide_eq_true (List.all_eq_true.mp jx_na_ok_3 z (List.mem_range'_1.mpr ⟨by omega, by omega⟩))
  by_cases h4 : z < 320
  · exact of_decide_eq_true (List.all_eq_true.mp jx_na_ok_4 z (List.mem_range'_1.mpr ⟨by omega, by omega⟩))
  exact of_decide_eq_true (List.all_eq_true.mp jx_na_ok_5 z (List.mem_range'_1.mpr ⟨by omega, by omega⟩))
theorem jx_w_get {z : Nat} (h : z < 377) : jx_w z ∈ jx_cw := by
  have hl : jx_cw.length = 377 := jx_wk_ok.2.1
  unfold jx_w
  rw [List.getD_eq_getElem?_getD, List.getElem?_eq_getElem (by omega)]
  exact List.getElem_mem _
theorem jx_w_code {z : Nat} (h : z < 377) (hz : jx_hz z = []) : jx_w z = .code (jx_nm z) (jx_by z) (jx_ml z) (jx_rt z) := by
  have h1 := List.all_eq_true.mp jx_wk_ok.1 _ (jx_w_get h)
  unfold jx_hz at hz
  unfold jx_nm jx_by jx_ml jx_rt
  revert h1 hz
  generalize jx_w z = w
  intro hz h1
  cases w with
  | code y b n r => rfl
  | codeWith y b n r hh =>
    have hz' : hh = [] := hz
    subst hz'
    cases h1
  | _ => cases h1
theorem jx_w_codeWith {z : Nat} (h : z < 377) (hz : jx_hz z ≠ []) : jx_w z = .codeWith (jx_nm z) (jx_by z) (jx_ml z) (jx_rt z) (jx_hz z) := by
  have h1 := List.all_eq_true.mp jx_wk_ok.1 _ (jx_w_get h)
  unfold jx_hz at hz ⊢
  unfold jx_nm jx_by jx_ml jx_rt
  revert h1 hz
  generalize jx_w z = w
  intro hz h1
  cases w with
  | code y b n r => exact absurd rfl hz
  | codeWith y b n r hh => rfl
  | _ => cases h1
theorem jx_w_good {z : Nat} (h : z < 377) : jx_w z ∈ jx_good := by
  refine jx_gw (jx_cw_in _ (jx_w_get h)) ?_
  by_cases hz : jx_hz z = []
  · rw [jx_w_code h hz]
    rfl
  · rw [jx_w_codeWith h hz]
    rfl
theorem jx_goodIn {ws : List Cond} (h : ∀ w ∈ ws, w ∈ jx_good) : GoodIn jx_good ws := fun w hw => ⟨h w hw, good_of_word (List.mem_filter.mp (h w hw)).2⟩
theorem jx_ws_good {z : Nat} (h : z < 377) : ∀ w ∈ jx_ws z, w ∈ jx_good := fun w hw => (List.mem_cons.mp hw).elim (fun q => by rw [q]; exact jx_w_good h) id
theorem jx_inl_ok {l : List (Nat × Nat)} {f : Nat → Cond} {z : Nat} (hw : jx_walk lw_tbl (l.map (fun e => (e.2, f e.1))) = true) (h : jx_inl l z = true) : f z ∈ lw_tbl := by
  obtain ⟨e, he, h2⟩ := List.any_eq_true.mp h
  have h3 := jx_walk_ok _ _ hw (e.2, f e.1) (List.mem_map.mpr ⟨e, he, rfl⟩)
  rw [Nat.eq_of_beq_eq_true h2] at h3
  exact h3
theorem jx_mlw {o i z : Nat} (h : jx_any3 jx_mlt o i z = true) : Cond.methodLink (jx_cn o) i (jx_nm z) ∈ jx_good := by
  obtain ⟨e, he, h2⟩ := List.any_eq_true.mp h
  simp only [Bool.and_eq_true] at h2
  have h3 := jx_walk_ok _ _ jx_mlt_ok (e.2.2.2, _) (List.mem_map.mpr ⟨e, he, rfl⟩)
  rw [Nat.eq_of_beq_eq_true h2.1, Nat.eq_of_beq_eq_true h2.2.1, Nat.eq_of_beq_eq_true h2.2.2] at h3
  exact jx_gw h3 rfl
theorem jx_blind {V : jx_V} {As : List Value} {X : jx_X} {I : jx_I} {R : jx_R} : FrameBlind (va_Pc As (fun U => jx_Ra V X I R U.heap ∧ jx_E V (jx_A X) U U.heap)) := fun a U g mk h => ⟨h.1, h.2.1, jx_E_warm (s := U) (U := U.calling g mk a) (State.WarmedH.refl U) h.2.2⟩
section JROWK
variable {V : jx_V} {p : Program} {e : Env} {Rm : Room} {s : State} {m : MethodId} {args : Array Value} {below : List Frame} {meth : Method} {c : Code} {Q : State → Prop} {A0 : Nat → Prop} {mcs : Nat × Nat} {cc : ByteArray} {o nL D : Nat}
variable {pc : Nat} {st : List Value} {L : List (Option Value)} {b : Nat × Nat} {X : jx_X} {I : jx_I} {R : jx_R}
theorem jx_Enow {H : Heap} {locs : List Loc} (hE : jx_E V A0 s s.heap) (hA : ∀ q, s.heap.size ≤ q → A0 q) (h2 : jx_Ra V X I R H) (h3 : ∀ q, X.2.1 q ≠ none → A0 q) (h4 : va_S A0 s.heap H locs) : (∀ q, jx_A X q → A0 q) ∧ jx_E V (jx_A X) s H := by
  have hsub : ∀ q, jx_A X q → A0 q := fun q h => h.elim (h3 q) (fun h => hA q (Nat.le_trans h4.1 (by rw [h2.1]; exact h)))
  exact ⟨hsub, jx_E_narrow hsub (jx_E_kept h4.1 h4.2.1 hE)⟩
/-- behind a call -/
theorem jx_run (hE : jx_E V A0 s s.heap) (hA : ∀ q, s.heap.size ≤ q → A0 q) {H : Heap} {locs : List Loc} {cells slots : Nat} {ls : Array Slot} {b' : Nat × Nat} {st0 rest : List Value} {Post : Option Value → jx_X → jx_I → jx_R → Prop} {PX : String → jx_X → jx_I → jx_R → Prop}
    (h1 : L.length = nL) (h2 : jx_Ra V X I R H) (h3 : ∀ q, X.2.1 q ≠ none → A0 q) (h4 : va_S A0 s.heap H locs) (h5 : jx_L ls nL L) (h6 : cells + b.1 ≤ mcs.1) (h7 : slots + b.2 ≤ mcs.2) (hb1 : b'.1 ≤ b.1) (hb2 : b'.2 ≤ b.2)
    (hr : vx_Run p V.1 e Rm s m args below meth c H locs cells slots b'.1 b'.2 (F0 m pc ls st0) rest (fun st o t => ∃ (rv : Option Value) (X' : jx_X) (I' : jx_I) (R' : jx_R), o = .returned rv ∧ Post rv X' I' R' ∧ jx_Ra V X' I' R' t.heap ∧ (∀ q, X'.2.1 q ≠ none → jx_A X q) ∧ va_F (jx_A X) st t)
      (fun E st t => ∃ (X' : jx_X) (I' : jx_I) (R' : jx_R), PX E X' I' R' ∧ jx_Ra V X' I' R' t.heap ∧ (∀ q, X'.2.1 q ≠ none → jx_A X q) ∧ va_F (jx_A X) st t) (jx_A X))
    (kk : ∀ rv X' I' R', Post rv X' I' R' → jx_J V p e Rm s m args below meth c Q A0 nL mcs (pc + 3) (rv.toList ++ rest) L (b.1 - b'.1, b.2 - b'.2) X' I' R')
    (kx : ∀ E X' I' R', PX E X' I' R' → ∀ (H1 : Heap) (locs1 : List Loc) (q : Addr) (ce : Cell), jx_Ra V X' I' R' H1 → (∀ q, X'.2.1 q ≠ none → A0 q) → va_S A0 s.heap H1 locs1 → H1[q]? = some ce → ce.vm = .none → s.vm.findClass E = some ce.cls → vx_W p V.1 e Rm s m args below meth c H1 locs1 (cells + b'.1) (slots + b'.2) Q (F0 m pc ls rest) q) :
    W p V.1 e Rm s m args below meth c H locs cells slots Q (F0 m pc ls st0) := by
  have hsub := (jx_Enow hE hA h2 h3 h4).1
  intro T hT Xs
  rcases hr T hT Xs with ⟨v, st₀, t, T', Lc, h0, X', hL, e1, e2, ⟨rv, X2, I2, R2, hv, hp, hra, hdm, hF⟩, stp⟩ | ⟨q, st₀, t, T', Lc, E, ce, h0, X', hL, e1, e2, ⟨X2, I2, R2, hp, hra, hdm, hF⟩, hce, hcv, hcl, stp⟩
  · cases hv
    obtain ⟨k1, k2, k3⟩ := vx_keep h0 e1 h4 (fun q _ h => hsub q h) hsub hL hF
    obtain ⟨t2, a1, b1⟩ := kk v X2 I2 R2 hp T'.heap (locs ++ Lc) (cells + b'.1) (slots + b'.2) ls h1 (by rw [e1]; exact hra) (fun q hq => hsub q (hdm q hq)) k3 h5 (by show cells + b'.1 + (b.1 - b'.1) ≤ _; omega) (by show slots + b'.2 + (b.2 - b'.2) ≤ _; omega) T' rfl X'
    exact ⟨t2, stp t2 a1, b1⟩
  · obtain ⟨k1, k2, k3⟩ := vx_keep h0 e1 h4 (fun q _ h => hsub q h) hsub hL hF
    obtain ⟨t2, a1, b1⟩ := kx E X2 I2 R2 hp T'.heap (locs ++ Lc) q ce (by rw [e1]; exact hra) (fun q hq => hsub q (hdm q hq)) k3 (by rw [e1]; exact hce) hcv hcl T' rfl X'
    exact ⟨t2, stp.trans a1, b1⟩
/-- what a call asks of an exception that comes back -/
def jx_Kx (V : jx_V) (p : Program) (e : Env) (Rm : Room) (s : State) (m : MethodId) (args : Array Value) (below : List Frame) (meth : Method) (c : Code) (Q : State → Prop) (A0 : Nat → Prop) (nL : Nat) (mcs : Nat × Nat) (pc : Nat) (L : List (Option Value)) (b : Nat × Nat) (E : String) (X : jx_X) (I : jx_I) (R : jx_R) : Prop :=
  ∀ (rest : List Value) (H : Heap) (locs : List Loc) (cells slots : Nat) (ls : Array Slot) (q : Addr) (ce : Cell), L.length = nL → jx_Ra V X I R H → (∀ q, X.2.1 q ≠ none → A0 q) → va_S A0 s.heap H locs → jx_L ls nL L → cells + b.1 ≤ mcs.1 → slots + b.2 ≤ mcs.2 → H[q]? = some ce → ce.vm = .none → s.vm.findClass E = some ce.cls →
    vx_W p V.1 e Rm s m args below meth c H locs cells slots Q (F0 m pc ls rest) q
theorem jx_PreS {H : Heap} {locs : List Loc} {As : List Value} (hE : jx_E V A0 s s.heap) (hA : ∀ q, s.heap.size ≤ q → A0 q) (h2 : jx_Ra V X I R H) (h3 : ∀ q, X.2.1 q ≠ none → A0 q) (h4 : va_S A0 s.heap H locs) : PreS s H (va_Pc As (fun U => jx_Ra V X I R U.heap ∧ jx_E V (jx_A X) U U.heap)) As :=
  ⟨jx_blind, fun U hU hW => ⟨rfl, by rw [hU]; exact h2, by rw [hU]; exact jx_E_warm hW (jx_Enow hE hA h2 h3 h4).2⟩⟩
theorem jx_PreV {H : Heap} {locs : List Loc} {As : List Value} {a : Nat} {Cn : String} (hE : jx_E V A0 s s.heap) (hA : ∀ q, s.heap.size ≤ q → A0 q) (h2 : jx_Ra V X I R H) (h3 : ∀ q, X.2.1 q ≠ none → A0 q) (h4 : va_S A0 s.heap H locs) (hr : ∃ cell : Cell, H[a]? = some cell ∧ cell.vm.isStatics = false ∧ s.vm.findClass Cn = some cell.cls) :
    PreV s H Cn a (va_Pc (.ref a :: As) (fun U => jx_Ra V X I R U.heap ∧ jx_E V (jx_A X) U U.heap)) As :=
  ⟨jx_blind, hr, fun U hU hW => ⟨rfl, by rw [hU]; exact h2, by rw [hU]; exact jx_E_warm hW (jx_Enow hE hA h2 h3 h4).2⟩⟩
theorem jx_recv {H : Heap} {locs : List Loc} {a z : Nat} (hE : jx_E V A0 s s.heap) (h2 : jx_Ra V X I R H) (h4 : va_S A0 s.heap H locs) (hs : X.2.1 a = some (z, 0) ∨ (z = 16 ∧ ∃ i, i < 34 ∧ a = V.2.2.2.1 i)) (hz : z ≤ 18) : ∃ cell : Cell, H[a]? = some cell ∧ cell.vm.isStatics = false ∧ s.vm.findClass (jx_cn z) = some cell.cls := by
  rcases hs with hs | ⟨rfl, i, hi, rfl⟩
  · have hat := h2.2 a _ hs
    rw [jx_cell_o (show z < 100 by omega)] at hat
    obtain ⟨r, e1, cell, q1, q2, q3, -⟩ := hat
    have hz12 : z < 13 := (List.getElem?_eq_some_iff.mp e1).1
    have hc := jx_cl z (by omega)
    have hr : r = (jx_cn z, jx_T z, jx_fn z) := Option.some.inj (e1.symm.trans hc)
    subst hr
    exact ⟨cell, q1, by rw [q3]; rfl, by rw [q2]; exact (hE.1.1 z _ hc).2.1⟩
  · obtain ⟨cell, g1, g2, g3, -⟩ := ((hE.2.2.2.1 i hi).1.1 0 Nat.one_pos).1.kept h4.2.1
    exact ⟨cell, g1, g2, g3⟩
theorem jx_wsV_in {z i : Nat} (hz : z < 377) (hl : jx_any3 jx_mlt o i z = true) (h0 : jx_inl jx_w0 z = true) (h3 : jx_inl jx_w3 z = true) : ∀ w ∈ wsV (jx_cn o) i (jx_cn (jx_ow z)) (jx_nm z) (jx_ws z), w ∈ jx_good := by
  intro w hw
  rcases List.mem_append.mp hw with hw | hw
  · rcases List.mem_cons.mp hw with rfl | hw
    · exact jx_mlw hl
    rcases List.mem_cons.mp hw with rfl | hw
    · exact jx_gw (jx_inl_ok (f := fun z => Cond.instanceMethod (jx_nm z)) jx_w0_ok h0) rfl
    rcases List.mem_cons.mp hw with rfl | hw
    · exact jx_gw (jx_inl_ok (f := fun z => Cond.selects (jx_cn (jx_ow z)) (jx_nm z) (jx_nm z)) jx_w3_ok h3) rfl
    rcases List.mem_cons.mp hw with rfl | hw
    · exact (jx_cn_z (jx_cls_z hz).2).2.2
    · cases hw
  · exact jx_ws_good hz w hw
theorem jx_nd {z : Nat} (hz : z < 377) : (jx_nm z).cls ≠ "java/lang/invoke/MethodHandle" ∧ (jx_nm z).cls ≠ "java/lang/invoke/VarHandle" ∧ (parseMethodDescriptor (jx_nm z).desc).map (fun d => d.parameters.length) = some (jx_na z) := by
  rw [(jx_cls_z hz).1]
  exact ⟨(jx_cn_z (jx_cls_z hz).2).1, (jx_cn_z (jx_cls_z hz).2).2.1, jx_na_z hz⟩
theorem jx_mr {st0 : List Value} {ls : Array Slot} : (F0 m pc ls st0).monitorRoom = 0 := rfl
theorem jx_r_callV (hC : jx_C V p Rm s m args meth c cc o nL D A0 mcs) {i z d' a : Nat} {As rest : List Value} {b' : Nat × Nat} {Post : Option Value → jx_X → jx_I → jx_R → Prop} {PX : String → jx_X → jx_I → jx_R → Prop}
    (hdg : decode cc pc = .ok (.invokevirtual i, 3)) (hz : z < 377) (hl : jx_any3 jx_mlt o i z = true) (h0 : jx_inl jx_w0 z = true) (h3' : jx_inl jx_w3 z = true) (he : jx_hz z = []) (hn : As.length = jx_na z) (hst : st = As.reverse ++ .ref a :: rest)
    (hrv : X.2.1 a = some (jx_ow z, 0) ∨ (jx_ow z = 16 ∧ ∃ i, i < 34 ∧ a = V.2.2.2.1 i)) (hd' : d' < D) (hM : jx_Met V d' z b' (.ref a :: As) X I R Post PX) (hb1 : b'.1 ≤ b.1) (hb2 : b'.2 ≤ b.2) (hsum : (rest.map fun v => v.category).sum ≤ 8)
    (kk : ∀ rv X' I' R', Post rv X' I' R' → jx_J V p e Rm s m args below meth c Q A0 nL mcs (pc + 3) (rv.toList ++ rest) L (b.1 - b'.1, b.2 - b'.2) X' I' R') (kx : ∀ E X' I' R', PX E X' I' R' → jx_Kx V p e Rm s m args below meth c Q A0 nL mcs pc L (b.1 - b'.1, b.2 - b'.2) E X' I' R') : jx_J V p e Rm s m args below meth c Q A0 nL mcs pc st L b X I R := by
  obtain ⟨hx, hb, hml, ho, ht, hE, hA, ⟨hrc, hrs, hfr, hlo⟩, hst', hlk⟩ := hC
  intro H locs cells slots ls h1 h2 h3 h4 h5 h6 h7
  subst hst
  have hcz := jx_cls_z hz
  have hmz := jx_ml_z hz
  have cw : CallW Rm s args (jx_cn o) (jx_cn (jx_ow z)) i (jx_nm z) (jx_by z) (jx_ml z) (jx_rt z) (jx_ws z) (jx_rm d' b') b'.1 b'.2 (jx_na z) :=
    cwV (Ts := jx_good) (jx_na z) ht (jx_goodIn (jx_wsV_in hz hl h0 h3')) (show jx_ws z = Cond.code (jx_nm z) (jx_by z) (jx_ml z) (jx_rt z) :: jx_good by unfold jx_ws; rw [jx_w_code hz he]) rfl rfl ⟨hcz.1, jx_nd hz⟩ ⟨show d' + 1 ≤ _ by omega, show 8 + (jx_ml z + 11) + 64 * d' ≤ _ by omega⟩
  refine jx_run hE hA h1 h2 h3 h4 h5 h6 h7 hb1 hb2 (vx_runV (g := F0 m pc ls (As.reverse ++ .ref a :: rest)) ⟨hx, hb, hml, ho, ht⟩ hM cw (jx_PreV hE hA h2 h3 h4 (jx_recv hE h2 h4 hrv hcz.2)) rfl hn h5.1 rfl (by rw [jx_mr]; omega) hdg ⟨by omega, by omega⟩) kk ?_
  intro E X' I' R' hp H1 locs1 q ce g1 g2 g3 g4 g5 g6
  exact kx E X' I' R' hp rest H1 locs1 (cells + b'.1) (slots + b'.2) ls q ce h1 g1 g2 g3 h5 (by show cells + b'.1 + (b.1 - b'.1) ≤ _; omega) (by show slots + b'.2 + (b.2 - b'.2) ≤ _; omega) g4 g5 g6
theorem jx_nest (hE : jx_E V A0 s s.heap) {i z : Nat} (h : jx_any3 jx_mln o i z = true) : va_Nw (.methodLinkNest (jx_cn o) i (jx_nm z) RX11) s := by
  obtain ⟨e, he, h2⟩ := List.any_eq_true.mp h
  simp only [Bool.and_eq_true] at h2
  have h3 := hE.2.2.1 e he
  rw [Nat.eq_of_beq_eq_true h2.1, Nat.eq_of_beq_eq_true h2.2.1, Nat.eq_of_beq_eq_true h2.2.2] at h3
  exact h3
theorem jx_iniw {z : Nat} (hz : z < 377) (ht : ∀ w ∈ jx_good, w.before args s = true) : (Cond.initialized (jx_nm z).cls).before args s = true := by
  rw [(jx_cls_z hz).1]
  exact ht _ (jx_cn_z (jx_cls_z hz).2).2.2
theorem jx_r_callVN (hC : jx_C V p Rm s m args meth c cc o nL D A0 mcs) {i z d' a : Nat} {As rest : List Value} {b' : Nat × Nat} {Post : Option Value → jx_X → jx_I → jx_R → Prop} {PX : String → jx_X → jx_I → jx_R → Prop}
    (hdg : decode cc pc = .ok (.invokevirtual i, 3)) (hz : z < 377) (hl : jx_any3 jx_mln o i z = true) (h0 : jx_inl jx_w0 z = true) (h3' : jx_inl jx_w3 z = true) (he : jx_hz z = []) (hn : As.length = jx_na z) (hst : st = As.reverse ++ .ref a :: rest)
    (hrv : X.2.1 a = some (jx_ow z, 0) ∨ (jx_ow z = 16 ∧ ∃ i, i < 34 ∧ a = V.2.2.2.1 i)) (hd' : d' < D) (hM : jx_Met V d' z b' (.ref a :: As) X I R Post PX) (hb1 : b'.1 ≤ b.1) (hb2 : b'.2 ≤ b.2) (hsum : (rest.map fun v => v.category).sum ≤ 8)
    (kk : ∀ rv X' I' R', Post rv X' I' R' → jx_J V p e Rm s m args below meth c Q A0 nL mcs (pc + 3) (rv.toList ++ rest) L (b.1 - b'.1, b.2 - b'.2) X' I' R') (kx : ∀ E X' I' R', PX E X' I' R' → jx_Kx V p e Rm s m args below meth c Q A0 nL mcs pc L (b.1 - b'.1, b.2 - b'.2) E X' I' R') : jx_J V p e Rm s m args below meth c Q A0 nL mcs pc st L b X I R := by
  obtain ⟨hx, hb, hml, ho, ht, hE, hA, ⟨hrc, hrs, hfr, hlo⟩, hst', hlk⟩ := hC
  intro H locs cells slots ls h1 h2 h3 h4 h5 h6 h7
  subst hst
  have hcz := jx_cls_z hz
  have hmz := jx_ml_z hz
  have cn : va_CN Rm s args (jx_cn o) i (jx_nm z) RX11 (jx_by z) (jx_ml z) (jx_rt z) (jx_ws z) (jx_rm d' b') b'.1 b'.2 (jx_na z) :=
    va_cnB (Ts := jx_good) (jx_na z) ht (jx_goodIn (jx_ws_good hz)) (show jx_ws z = Cond.code (jx_nm z) (jx_by z) (jx_ml z) (jx_rt z) :: jx_good by unfold jx_ws; rw [jx_w_code hz he]) rfl rfl (jx_nest hE hl) (jx_iniw hz ht) (jx_nd hz) ⟨show d' + 1 ≤ _ by omega, show 8 + (jx_ml z + 11) + 64 * d' ≤ _ by omega⟩
  refine jx_run hE hA h1 h2 h3 h4 h5 h6 h7 hb1 hb2 (vx_runVN (g := F0 m pc ls (As.reverse ++ .ref a :: rest)) (C := jx_cn (jx_ow z)) ⟨hx, hb, hml, ho, ht⟩ hM ⟨cn, ht _ (jx_gw (jx_inl_ok (f := fun z => Cond.instanceMethod (jx_nm z)) jx_w0_ok h0) rfl), ht _ (jx_gw (jx_inl_ok (f := fun z => Cond.selects (jx_cn (jx_ow z)) (jx_nm z) (jx_nm z)) jx_w3_ok h3') rfl)⟩ (jx_PreV hE hA h2 h3 h4 (jx_recv hE h2 h4 hrv hcz.2)) rfl hn h5.1 rfl (by rw [jx_mr]; omega) hdg ⟨by omega, by omega⟩) kk ?_
  intro E X' I' R' hp H1 locs1 q ce g1 g2 g3 g4 g5 g6
  exact kx E X' I' R' hp rest H1 locs1 (cells + b'.1) (slots + b'.2) ls q ce h1 g1 g2 g3 h5 (by show cells + b'.1 + (b.1 - b'.1) ≤ _; omega) (by show slots + b'.2 + (b.2 - b'.2) ≤ _; omega) g4 g5 g6
theorem jx_wsS_in {z i : Nat} (hz : z < 377) (hl : jx_any3 jx_mlt o i z = true) (h0 : jx_inl jx_w1 z = true) : ∀ w ∈ va_wsS (jx_cn o) i (jx_nm z) (jx_ws z), w ∈ jx_good := by
  intro w hw
  rcases List.mem_append.mp hw with hw | hw
  · rcases List.mem_cons.mp hw with rfl | hw
    · exact jx_mlw hl
    rcases List.mem_cons.mp hw with rfl | hw
    · exact jx_gw (jx_inl_ok (f := fun z => Cond.static (jx_nm z)) jx_w1_ok h0) rfl
    rcases List.mem_cons.mp hw with rfl | hw
    · rw [(jx_cls_z hz).1]
      exact (jx_cn_z (jx_cls_z hz).2).2.2
    · cases hw
  · exact jx_ws_good hz w hw
theorem jx_r_callS (hC : jx_C V p Rm s m args meth c cc o nL D A0 mcs) {i z d' : Nat} {As rest : List Value} {b' : Nat × Nat} {Post : Option Value → jx_X → jx_I → jx_R → Prop} {PX : String → jx_X → jx_I → jx_R → Prop}
    (hdg : decode cc pc = .ok (.invokestatic i, 3)) (hz : z < 377) (hl : jx_any3 jx_mlt o i z = true) (h0 : jx_inl jx_w1 z = true) (hn : As.length = jx_na z) (hst : st = As.reverse ++ rest)
    (hd' : d' < D) (hM : jx_Met V d' z b' As X I R Post PX) (hb1 : b'.1 ≤ b.1) (hb2 : b'.2 ≤ b.2) (hsum : (rest.map fun v => v.category).sum ≤ 8)
    (kk : ∀ rv X' I' R', Post rv X' I' R' → jx_J V p e Rm s m args below meth c Q A0 nL mcs (pc + 3) (rv.toList ++ rest) L (b.1 - b'.1, b.2 - b'.2) X' I' R') (kx : ∀ E X' I' R', PX E X' I' R' → jx_Kx V p e Rm s m args below meth c Q A0 nL mcs pc L (b.1 - b'.1, b.2 - b'.2) E X' I' R') : jx_J V p e Rm s m args below meth c Q A0 nL mcs pc st L b X I R := by
  obtain ⟨hx, hb, hml, ho, ht, hE, hA, ⟨hrc, hrs, hfr, hlo⟩, hst', hlk⟩ := hC
  intro H locs cells slots ls h1 h2 h3 h4 h5 h6 h7
  subst hst
  have hmz := jx_ml_z hz
  have hkx : ∀ E X' I' R', PX E X' I' R' → ∀ (H1 : Heap) (locs1 : List Loc) (q : Addr) (ce : Cell), jx_Ra V X' I' R' H1 → (∀ q, X'.2.1 q ≠ none → A0 q) → va_S A0 s.heap H1 locs1 → H1[q]? = some ce → ce.vm = .none → s.vm.findClass E = some ce.cls → vx_W p V.1 e Rm s m args below meth c H1 locs1 (cells + b'.1) (slots + b'.2) Q (F0 m pc ls rest) q := by
    intro E X' I' R' hp H1 locs1 q ce g1 g2 g3 g4 g5 g6
    exact kx E X' I' R' hp rest H1 locs1 (cells + b'.1) (slots + b'.2) ls q ce h1 g1 g2 g3 h5 (by show cells + b'.1 + (b.1 - b'.1) ≤ _; omega) (by show slots + b'.2 + (b.2 - b'.2) ≤ _; omega) g4 g5 g6
  by_cases he : jx_hz z = []
  · have cw : CallB Rm s args (jx_cn o) i (jx_nm z) (jx_by z) (jx_ml z) (jx_rt z) (jx_ws z) (jx_rm d' b') b'.1 b'.2 (jx_na z) ∧ (Cond.static (jx_nm z)).before args s = true :=
      va_cwS (Ts := jx_good) (jx_na z) ht (jx_goodIn (jx_wsS_in hz hl h0)) (show jx_ws z = Cond.code (jx_nm z) (jx_by z) (jx_ml z) (jx_rt z) :: jx_good by unfold jx_ws; rw [jx_w_code hz he]) rfl rfl (jx_nd hz) ⟨show d' + 1 ≤ _ by omega, show 8 + (jx_ml z + 11) + 64 * d' ≤ _ by omega⟩
    exact jx_run hE hA h1 h2 h3 h4 h5 h6 h7 hb1 hb2 (vx_runS (g := F0 m pc ls (As.reverse ++ rest)) ⟨hx, hb, hml, ho, ht⟩ hM cw (jx_PreS hE hA h2 h3 h4) rfl hn h5.1 rfl (by rw [jx_mr]; omega) hdg ⟨by omega, by omega⟩) kk hkx
  · have cw : vx_CSW Rm s args (jx_cn o) i (jx_nm z) (jx_by z) (jx_ml z) (jx_rt z) (jx_hz z) (jx_ws z) (jx_rm d' b') b'.1 b'.2 (jx_na z) :=
      vx_cwSW (Ts := jx_good) (jx_na z) ht (jx_goodIn (jx_wsS_in hz hl h0)) (show jx_ws z = Cond.codeWith (jx_nm z) (jx_by z) (jx_ml z) (jx_rt z) (jx_hz z) :: jx_good by unfold jx_ws; rw [jx_w_codeWith hz he]) rfl rfl (jx_nd hz) ⟨show d' + 1 ≤ _ by omega, show 8 + (jx_ml z + 11) + 64 * d' ≤ _ by omega⟩
    exact jx_run hE hA h1 h2 h3 h4 h5 h6 h7 hb1 hb2 (vx_runSX (g := F0 m pc ls (As.reverse ++ rest)) ⟨hx, hb, hml, ho, ht⟩ hM cw (jx_PreS hE hA h2 h3 h4) rfl hn h5.1 rfl (by rw [jx_mr]; omega) hdg ⟨by omega, by omega⟩) kk hkx
theorem jx_r_callI (hC : jx_C V p Rm s m args meth c cc o nL D A0 mcs) {i z d' a : Nat} {As rest : List Value} {b' : Nat × Nat} {Post : Option Value → jx_X → jx_I → jx_R → Prop} {PX : String → jx_X → jx_I → jx_R → Prop}
    (hdg : decode cc pc = .ok (.invokespecial i, 3)) (hz : z < 377) (hl : jx_any3 jx_mlt o i z = true ∨ jx_any3 jx_mln o i z = true) (h0 : jx_inl jx_w0 z = true) (he : jx_hz z = []) (hnm : (jx_nm z).name = "<init>") (hrt : jx_rt z = none) (hn : As.length = jx_na z) (hst : st = As.reverse ++ .ref a :: rest)
    (hd' : d' < D) (hM : jx_Met V d' z b' (.ref a :: As) X I R Post PX) (hb1 : b'.1 ≤ b.1) (hb2 : b'.2 ≤ b.2) (hsum : (rest.map fun v => v.category).sum ≤ 8)
    (kk : ∀ rv X' I' R', Post rv X' I' R' → jx_J V p e Rm s m args below meth c Q A0 nL mcs (pc + 3) (rv.toList ++ rest) L (b.1 - b'.1, b.2 - b'.2) X' I' R') (kx : ∀ E X' I' R', PX E X' I' R' → jx_Kx V p e Rm s m args below meth c Q A0 nL mcs pc L (b.1 - b'.1, b.2 - b'.2) E X' I' R') : jx_J V p e Rm s m args below meth c Q A0 nL mcs pc st L b X I R := by
  obtain ⟨hx, hb, hml, ho, ht, hE, hA, ⟨hrc, hrs, hfr, hlo⟩, hst', hlk⟩ := hC
  intro H locs cells slots ls h1 h2 h3 h4 h5 h6 h7
  subst hst
  have hmz := jx_ml_z hz
  have hkx : ∀ E X' I' R', PX E X' I' R' → ∀ (H1 : Heap) (locs1 : List Loc) (q : Addr) (ce : Cell), jx_Ra V X' I' R' H1 → (∀ q, X'.2.1 q ≠ none → A0 q) → va_S A0 s.heap H1 locs1 → H1[q]? = some ce → ce.vm = .none → s.vm.findClass E = some ce.cls → vx_W p V.1 e Rm s m args below meth c H1 locs1 (cells + b'.1) (slots + b'.2) Q (F0 m pc ls rest) q := by
    intro E X' I' R' hp H1 locs1 q ce g1 g2 g3 g4 g5 g6
    exact kx E X' I' R' hp rest H1 locs1 (cells + b'.1) (slots + b'.2) ls q ce h1 g1 g2 g3 h5 (by show cells + b'.1 + (b.1 - b'.1) ≤ _; omega) (by show slots + b'.2 + (b.2 - b'.2) ≤ _; omega) g4 g5 g6
  have hwz : jx_ws z = Cond.code (jx_nm z) (jx_by z) (jx_ml z) none :: jx_good := by unfold jx_ws; rw [jx_w_code hz he, hrt]
  have hin : (Cond.instanceMethod (jx_nm z)).before args s = true := ht _ (jx_gw (jx_inl_ok (f := fun z => Cond.instanceMethod (jx_nm z)) jx_w0_ok h0) rfl)
  rcases hl with hl | hl
  · have cw := cwI (R := Rm) (bytes := jx_by z) (maxL := jx_ml z) (rm := jx_rm d' b') (ws := jx_ws z) (Ts := jx_good) (mc := b'.1) (ms := b'.2) (jx_na z) ht (jx_goodIn (jx_ws_good hz)) hwz rfl rfl (jx_iniw hz ht) (ht _ (jx_mlw hl)) hin hnm (jx_nd hz) ⟨show d' + 1 ≤ _ by omega, show 8 + (jx_ml z + 11) + 64 * d' ≤ _ by omega⟩
    exact jx_run hE hA h1 h2 h3 h4 h5 h6 h7 hb1 hb2 (vx_runI (g := F0 m pc ls (As.reverse ++ .ref a :: rest)) (b := a) ⟨hx, hb, hml, ho, ht⟩ hM cw (jx_PreS hE hA h2 h3 h4) rfl hn h5.1 rfl (by rw [jx_mr]; omega) hdg ⟨by omega, by omega⟩) kk hkx
  · have cn : va_CN Rm s args (jx_cn o) i (jx_nm z) RX11 (jx_by z) (jx_ml z) none (jx_ws z) (jx_rm d' b') b'.1 b'.2 (jx_na z) :=
      va_cnB (Ts := jx_good) (jx_na z) ht (jx_goodIn (jx_ws_good hz)) hwz rfl rfl (jx_nest hE hl) (jx_iniw hz ht) (jx_nd hz) ⟨show d' + 1 ≤ _ by omega, show 8 + (jx_ml z + 11) + 64 * d' ≤ _ by omega⟩
    exact jx_run hE hA h1 h2 h3 h4 h5 h6 h7 hb1 hb2 (vx_runIN (g := F0 m pc ls (As.reverse ++ .ref a :: rest)) (b := a) ⟨hx, hb, hml, ho, ht⟩ hM ⟨cn, hnm, hin⟩ (jx_PreS hE hA h2 h3 h4) rfl hn h5.1 rfl (by rw [jx_mr]; omega) hdg ⟨by omega, by omega⟩) kk hkx
theorem jx_oiw {i : Nat} (h : jx_oi.any (fun e => Nat.beq e.1 o && Nat.beq e.2.1 i) = true) : Cond.methodLink (jx_cn o) i objectInit ∈ jx_good := by
  obtain ⟨e, he, h2⟩ := List.any_eq_true.mp h
  simp only [Bool.and_eq_true] at h2
  have h3 := jx_walk_ok _ _ jx_oi_ok (e.2.2, _) (List.mem_map.mpr ⟨e, he, rfl⟩)
  rw [Nat.eq_of_beq_eq_true h2.1, Nat.eq_of_beq_eq_true h2.2] at h3
  exact jx_gw h3 rfl
theorem jx_r_oi (hC : jx_C V p Rm s m args meth c cc o nL D A0 mcs) {i a : Nat} {rest : List Value} (hdg : decode cc pc = .ok (.invokespecial i, 3)) (hl : jx_oi.any (fun e => Nat.beq e.1 o && Nat.beq e.2.1 i) = true) (hD : 1 ≤ D) (hsum : (rest.map fun v => v.category).sum ≤ 8) (kk : jx_J V p e Rm s m args below meth c Q A0 nL mcs (pc + 3) rest L b X I R) : jx_J V p e Rm s m args below meth c Q A0 nL mcs pc (.ref a :: rest) L b X I R := by
  obtain ⟨hx, hb, hml, ho, ht, hE, hA, ⟨hrc, hrs, hfr, hlo⟩, hst', hlk⟩ := hC
  intro H locs cells slots ls h1 h2 h3 h4 h5 h6 h7
  exact W.objInit hx hb ho (ht _ (jx_oiw hl)) (ht _ (jx_gw jx_xw_oi rfl)) (ht _ (jx_gw jx_xw_oc rfl)) (g := F0 m pc ls (.ref a :: rest)) rfl (h5.1.trans hml.symm) rfl hdg (by omega) (by rw [jx_mr]; omega) (kk H locs cells slots ls h1 h2 h3 h4 h5 h6 h7)
end JROWK
