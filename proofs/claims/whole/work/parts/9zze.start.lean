/-! ===== what a start of the law gives ===== -/
def sw_pos : List Nat := [111, 131, 140, 148, 157, 165, 173, 184, 191, 199, 206, 215, 223, 231, 248, 265, 288, 294, 302, 310, 320, 328, 336, 344, 353, 362, 368, 376, 385, 393, 400, 408, 417, 426]
def sw_T : Cond := Jvm.Cond.and given_1 narrow_1
def sw_t (i : Nat) : Term := Term.string (jx_cn (jx_ss i).1) (jx_ss i).2.1
/-- what is said of a String constant -/
def sw_w (i : Nat) : List Cond := [Cond.exactly (sw_t i) "java/lang/String", Cond.eq (Term.field (sw_t i) "java/lang/String" "coder" "B") (Term.int 0), Cond.arrayOf (Term.field (sw_t i) "java/lang/String" "value" "[B") .byte, Cond.eq (Term.length (Term.field (sw_t i) "java/lang/String" "value" "[B")) (Term.int (Int32.ofNat (jx_sb i).length))] ++ (List.range (jx_sb i).length).map (fun j => Cond.eq (Term.elem (Term.field (sw_t i) "java/lang/String" "value" "[B") (Term.int (Int32.ofNat j))) (Term.int ((jx_sb i).getD j 0)))
theorem sw_ok : (List.range 34).all (fun i => decide (((flatC sw_T).drop (sw_pos.getD i 0)).take (sw_w i).length = sw_w i)) = true := by decide +kernel
theorem sw_len : (List.range 34).all (fun i => decide ((jx_sb i).length < 2 ^ 31)) = true := by decide +kernel
theorem sw_in {i : Nat} (hi : i < 34) : ∀ w ∈ sw_w i, w ∈ flatC sw_T := by
  intro w hw
  have h := of_decide_eq_true (List.all_eq_true.mp sw_ok i (List.mem_range.mpr hi))
  rw [← h] at hw
  exact List.mem_of_mem_drop (List.mem_of_mem_take hw)
theorem sw_1 (i : Nat) : Cond.exactly (sw_t i) "java/lang/String" ∈ sw_w i := by unfold sw_w; simp
theorem sw_2 (i : Nat) : Cond.eq (Term.field (sw_t i) "java/lang/String" "coder" "B") (Term.int 0) ∈ sw_w i := by unfold sw_w; simp
theorem sw_3 (i : Nat) : Cond.arrayOf (Term.field (sw_t i) "java/lang/String" "value" "[B") .byte ∈ sw_w i := by unfold sw_w; simp
theorem sw_4 (i : Nat) : Cond.eq (Term.length (Term.field (sw_t i) "java/lang/String" "value" "[B")) (Term.int (Int32.ofNat (jx_sb i).length)) ∈ sw_w i := by unfold sw_w; simp
theorem sw_5 (i : Nat) {j : Nat} (hj : j < (jx_sb i).length) : Cond.eq (Term.elem (Term.field (sw_t i) "java/lang/String" "value" "[B") (Term.int (Int32.ofNat j))) (Term.int ((jx_sb i).getD j 0)) ∈ sw_w i := by
  unfold sw_w
  exact List.mem_append_right _ (List.mem_map.mpr ⟨j, List.mem_range.mpr hj, rfl⟩)
theorem sw_str {i : Nat} (hi : i < 34) : Cond.stringRef (jx_cn (jx_ss i).1) (jx_ss i).2.1 (jx_ss i).2.2.1 ∈ lw_tbl := by
  have hl : jx_str.length = 34 := by decide +kernel
  have h1 : jx_str[i]? = some (jx_ss i) := by
    unfold jx_ss
    rw [List.getD_eq_getElem?_getD]
    have h2 := List.getElem?_eq_getElem (l := jx_str) (i := i) (by omega)
    rw [h2]
    rfl
  exact jx_walk_ok _ _ jx_str_ok ((jx_ss i).2.2.2, .stringRef (jx_cn (jx_ss i).1) (jx_ss i).2.1 (jx_ss i).2.2.1) (List.mem_map.mpr ⟨jx_ss i, List.mem_of_getElem? h1, rfl⟩)
/-- a String constant at the start -/
theorem sw_S {b : Nat} {s : State} {A : Nat → Prop} (hA : ∀ a : Nat, a < s.heap.size → ¬ A a) (hts : ∀ w ∈ lw_tbl, w.before #[Value.ref b] s = true) (hs : ∀ w ∈ flatC sw_T, w.before #[Value.ref b] s = true) {i : Nat} (hi : i < 34) : ∃ k v : Nat, vk_S 1 [(jx_sb i).length] [jx_sb i] (fun _ => k) (fun _ => v) A s s.heap ∧ vk_R (jx_cn (jx_ss i).1) (jx_ss i).2.1 (jx_ss i).2.2.1 k s := by
  have hin := sw_in hi
  have hl := of_decide_eq_true (List.all_eq_true.mp sw_len i (List.mem_range.mpr hi))
  obtain ⟨adK, adV, h1, h2⟩ := vk_Sof (args := #[Value.ref b]) (s := s) (N := 1) (tm := fun _ => sw_t i) (len := [(jx_sb i).length]) (byt := [jx_sb i]) (A := A) (fun j hj => by rw [show j = 0 by omega]; exact hl) (fun j hj => hs _ (hin _ (sw_1 i))) (fun j hj => hs _ (hin _ (sw_2 i))) (fun j hj => hs _ (hin _ (sw_3 i))) (fun j hj => by rw [show j = 0 by omega]; exact hs _ (hin _ (sw_4 i))) (fun j hj q hq => by rw [show j = 0 by omega] at hq ⊢; exact hs _ (hin _ (sw_5 i hq))) (fun j q hj hq hne => absurd (show j = q by omega) hne) hA
  refine ⟨adK 0, adV 0, ⟨fun j hj => ?_, fun j q hj hq _ => by omega⟩, ?_⟩
  · rw [show j = 0 by omega]
    exact h1.1 0 (by omega)
  · exact vk_R.of (hts _ (sw_str hi)) (h2 0 (by omega))
theorem st_ac {s : State} {A : Array Value} {t : FieldType} (h : (Cond.arrayClass t).before A s = true) : ∃ cA, ArrOfT s cA t ∧ s.vm.findClass ("[" ++ t.toString) = some cA := by
  obtain ⟨cA, kA, comp, h1, h2, h3⟩ := Cond.arrayClass_spec h
  exact ⟨cA, fun n z => ⟨(fun k h => by cases h), kA, h2, comp, h3⟩, h1⟩
theorem st_ao {s : State} {A : Array Value} {C : String} (h : (Cond.arrayOver (.object C)).before A s = true) : ∃ cA, ArrOfT s cA (.object C) ∧ va_RA s cA (.object C) := by
  obtain ⟨comp, cA, kA, h1, h2, h3, h4, h5⟩ := Cond.arrayOver_spec h
  exact ⟨cA, fun n z => ⟨(fun k h => by cases h), kA, h3, comp, h4⟩, kA, comp, h3, h4, h1, h5⟩
theorem st_aa {s : State} {A : Array Value} (h : (Cond.arrayOver (.array .int)).before A s = true) : ∃ cA, ArrOfT s cA (.array .int) ∧ va_RA s cA (.array .int) := by
  obtain ⟨comp, cA, kA, h1, h3, h4, h5⟩ := Cond.arrayOver_specA h
  exact ⟨cA, fun n z => ⟨(fun k h => by cases h), kA, h3, comp, h4⟩, h5⟩
theorem st_inst : (List.range 13).all (fun ci => decide (Cond.instantiable (jx_cn ci) (jx_fn ci) ∈ lw_tbl)) = true := by decide +kernel
theorem st_mln : jx_mln.all (fun e => decide (Cond.methodLinkNest (jx_cn e.1) e.2.1 (jx_nm e.2.2.1) RX11 ∈ lw_tbl)) = true := by decide +kernel
theorem st_nc : (List.range 4).all (fun i => (List.range 4).all (fun j => Nat.beq i j || decide (Cond.not (Cond.castable (jx_exe i).1 (jx_exe j).1) ∈ flatC sw_T))) = true := by decide +kernel
theorem st_w : Cond.isRef (Term.static "java/lang/Throwable" "UNASSIGNED_STACK" "[Ljava/lang/StackTraceElement;") ∈ flatC sw_T ∧ Cond.isRef (Term.static "java/lang/Throwable" "SUPPRESSED_SENTINEL" "Ljava/util/List;") ∈ flatC sw_T ∧ Cond.eq (Term.static "java/lang/String" "COMPACT_STRINGS" "Z") (Term.int 1) ∈ flatC sw_T ∧ Cond.isRef (Term.static "jdk/internal/util/Preconditions" "SIOOBE_FORMATTER" "Ljava/util/function/BiFunction;") ∈ flatC sw_T := by decide +kernel
/-- all that holds wherever the machine is, at the law's start -/
theorem st_E {p : Program} {s : State} {m : MethodId} {meth : Method} {c : Code} (l : Launch) {b L : Nat} {xs : Nat → Int32} (C0 : lw_At p s m meth c b L xs) : ∃ V : jx_V, V.1 = l ∧ V.2.2.2.2.2.1 = b ∧ V.2.2.2.2.2.2.1 = L ∧ jx_E V (fun q => s.heap.size ≤ q) s s.heap := by
  obtain ⟨hx, hb, hr, hml, hown, hts, hX, hbl, hlocks, hgv⟩ := id C0
  have hs : ∀ w ∈ flatC sw_T, w.before #[Value.ref b] s = true := flat_of_before sw_T hgv
  have hA : ∀ a : Nat, a < s.heap.size → ¬ (fun q : Nat => s.heap.size ≤ q) a := fun a ha => Nat.not_le.mpr ha
  have hcl : ∀ ci : Nat, ∃ q : ClassId × (Nat → Nat), ci < 13 → u_Kn s (jx_cn ci) (jx_T ci) (jx_fn ci) q.1 q.2 := by
    intro ci
    by_cases h : ci < 13
    · obtain ⟨c0, i0, hk⟩ := u_known (C := jx_cn ci) (T := jx_T ci) (N := jx_fn ci) (n := jx_fn ci) hts (fun w hw => (List.mem_filter.mp (jx_lays ci (by omega) w hw)).1) (hts _ (of_decide_eq_true (List.all_eq_true.mp st_inst ci (List.mem_range.mpr h))))
      exact ⟨(c0, i0), fun _ => hk⟩
    · exact ⟨(m.cls, fun _ => 0), fun h2 => absurd h2 h⟩
  obtain ⟨cD, hcD⟩ := Classical.axiomOfChoice hcl
  obtain ⟨cI, a1, a2⟩ := st_ac (hts _ jx_xw_acIc)
  obtain ⟨cL, a3, a4⟩ := st_ac (hts _ jx_xw_acLc)
  obtain ⟨cR, a5, a6⟩ := st_ao (hts _ jx_xw_aoR)
  obtain ⟨cS, a7, a8⟩ := st_ao (hts _ jx_xw_aoS)
  obtain ⟨cA, a9, a10⟩ := st_aa (hts _ jx_xw_aoI)
  have hst : ∀ i : Nat, ∃ q : Nat × Nat, i < 34 → vk_S 1 [(jx_sb i).length] [jx_sb i] (fun _ => q.1) (fun _ => q.2) (fun q => s.heap.size ≤ q) s s.heap ∧ vk_R (jx_cn (jx_ss i).1) (jx_ss i).2.1 (jx_ss i).2.2.1 q.1 s := by
    intro i
    by_cases h : i < 34
    · obtain ⟨k, v, h1, h2⟩ := sw_S hA hts hs h
      exact ⟨(k, v), fun _ => ⟨h1, h2⟩⟩
    · exact ⟨(0, 0), fun h2 => absurd h2 h⟩
  obtain ⟨sD, hsD⟩ := Classical.axiomOfChoice hst
  obtain ⟨w1, w2, w3, w4⟩ := st_w
  refine ⟨(l, ((fun k => (cD k).1, fun k => (cD k).2) : va_G), (fun i => match i with
    | 0 => cI
    | 1 => cL
    | 2 => cR
    | 3 => cS
    | _ => cA), fun i => (sD i).1, fun i => (sD i).2, b, L, xs), rfl, rfl, rfl, ?_⟩
  refine ⟨⟨fun ci q hq => ?_, fun k q hq => ?_⟩, ⟨fun w hw => ?_, va_AO.of (hts _ jx_xw_aoR), va_AO.of (hts _ jx_xw_aoS), hts _ jx_xw_aoI, fun i j hi hj hij => ?_⟩, fun e he => ?_, fun i hi => hsD i hi, ?_, ?_, ?_, ?_, hX, Nat.not_le.mpr hbl, hbl⟩
  · have h13 : ci < 13 := gi_lt hq
    rw [jx_cl ci (by omega)] at hq
    cases hq
    exact hcD ci h13
  · have h5 : k < 5 := gi_lt hq
    rcases (by omega : k = 0 ∨ k = 1 ∨ k = 2 ∨ k = 3 ∨ k = 4) with rfl | rfl | rfl | rfl | rfl
    · cases hq; exact ⟨a1, a2⟩
    · cases hq; exact ⟨a3, a4⟩
    · cases hq; exact ⟨a5, a6⟩
    · cases hq; exact ⟨a7, a8⟩
    · cases hq; exact ⟨a9, a10⟩
  · have h := List.mem_filter.mp hw
    have h2 := h.2
    simp only [Bool.and_eq_true] at h2
    exact va_Nw.of h2.1 (hts w h.1)
  · have h := List.all_eq_true.mp (List.all_eq_true.mp st_nc i (List.mem_range.mpr hi)) j (List.mem_range.mpr hj)
    simp only [Bool.or_eq_true] at h
    rcases h with h | h
    · exact absurd (Nat.eq_of_beq_eq_true h) hij
    · exact va_Nc.of (hs _ (of_decide_eq_true h))
  · exact va_Nw.of rfl (hts _ (of_decide_eq_true (List.all_eq_true.mp st_mln e he)))
  · exact va_Zof (hts _ (jx_in_4 _ (List.mem_of_getElem? (i := 97) rfl))) (hts _ (jx_in_1 _ (List.mem_of_getElem? (i := 19) rfl))) (va_eqt (hs _ w3)) hA
  · exact va_Zqof (hts _ (jx_in_4 _ (List.mem_of_getElem? (i := 113) rfl))) (hts _ (jx_in_1 _ (List.mem_of_getElem? (i := 21) rfl))) (hs _ w4) hA
  · exact vx_Zqof (hts _ (jx_in_3 _ (List.mem_of_getElem? (i := 239) rfl))) (hts _ (jx_in_1 _ (List.mem_of_getElem? (i := 14) rfl))) (hs _ w1) hA
  · exact vx_Zqof (hts _ (jx_in_4 _ (List.mem_of_getElem? (i := 1) rfl))) (hts _ (jx_in_1 _ (List.mem_of_getElem? (i := 14) rfl))) (hs _ w2) hA
theorem st_fl {l : Launch} (h : l.flags = flags0) : l.stackTraces = false := by
  unfold Launch.stackTraces
  rw [h]
  decide +kernel
theorem jx_ck2_law : jx_c377.all (jx_ck2 13) = true := by decide +kernel
/-- the law's own code, over the machine -/
theorem law_snd {V : jx_V} {p : Program} {e : Env} {s : State} {m : MethodId} {below : List Frame} {meth : Method} {c : Code} {b0 : Nat} (hC : jx_C V p room_1 s m #[Value.ref b0] meth c code 13 8 205 (fun q => s.heap.size ≤ q) (601024, 7293034)) (hr : meth.sig.returnType = ret) :
    jx_Snd V 205 (some .boolean) [] false jx_c377 (jx_J V p e room_1 s m #[Value.ref b0] below meth c (lw_Z below #[Value.ref b0] s) (fun q => s.heap.size ≤ q) 8 (601024, 7293034)) (fun rv _ _ _ _ => rv = some (.int 1)) (fun _ _ _ _ _ => False) := by
  refine ⟨?_, ?_⟩
  · intro pc st L L' b X I R hlen hsub hJ H locs cells slots ls h1 h2 h3 h4 h5 h6 h7
    exact hJ H locs cells slots ls (hlen.trans h1) h2 h3 h4 ⟨h5.1, h5.2.1, fun i v hi => h5.2.2 i v (hsub i v hi)⟩ h6 h7
  · intro pc ins nx r1 r2 r3 st L b X I R hat hw
    have hm := jx_at_in _ hat
    refine jx_step hC (by decide) (ini := false) (fun h => by cases h) (fun pc x L b X I R hd hn hp => ?_) (fun pc x L b X I R hd hn hp => ?_) (fun pc L b X I R hd hn hp => ?_) (fun pc i st L b X I R hi h11 => absurd h11 (by decide)) ?_ (List.all_eq_true.mp jx_ok_law _ hm) (List.all_eq_true.mp jx_ck2_law _ hm) hw
    · intro H locs cells slots ls h1 h2 h3 h4 h5 h6 h7
      cases hp
      obtain ⟨hx, hb, -, -, -, -, -, -, -, hlk⟩ := hC
      refine va_forget (fun q hq => h4.2.2 q hq) ?_
      refine W.widen (show cells ≤ 601024 by have h8 : cells + b.1 ≤ 601024 := h6; omega) (show slots ≤ 7293034 by have h8 : slots + b.2 ≤ 7293034 := h7; omega) ?_
      exact lw_ret hx hb hr hlk hd
    · cases hn
    · cases hn
    · intro pc L b E X I R hkx
      exact (show False from hkx).elim
