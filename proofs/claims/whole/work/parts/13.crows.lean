/-! ===== rows: arrays of arrays, copies, calls ===== -/
section JROWC
variable {V : jx_V} {p : Program} {e : Env} {Rm : Room} {s : State} {m : MethodId} {args : Array Value} {below : List Frame} {meth : Method} {c : Code} {Q : State → Prop} {A0 : Nat → Prop} {mcs : Nat × Nat} {cc : ByteArray} {o nL D : Nat}
variable {pc : Nat} {st : List Value} {L : List (Option Value)} {b : Nat × Nat} {X : jx_X} {I : jx_I} {R : jx_R}
theorem jx_outer (cc9 : ClassId) (N h0 : Nat) : ∀ i : Nat, Jvm.Free.Multi.outerC cc9 N h0 i = arrV cc9 N (fun j => va_rf (if j < i then some (h0 + 1 + j) else none))
  | 0 => by
    show ({ cls := cc9, slots := Array.replicate N .null, vm := .none } : Cell) = _
    rw [arrV_new]
    refine congrArg (arrV cc9 N) (funext fun j => ?_)
    simp [va_rf]
  | i + 1 => by
    show (Jvm.Free.Multi.outerC cc9 N h0 i).setSlot i (.ref (h0 + 1 + i)) = _
    rw [jx_outer cc9 N h0 i, arrV_store]
    refine congrArg (arrV cc9 N) (funext fun j => ?_)
    by_cases h1 : j = i
    · subst h1
      simp [updV, va_rf]
    · by_cases h : j < i
      · simp [updV, h1, h, Nat.lt_succ_of_lt h]
      · simp [updV, h1, h, show ¬ j < i + 1 by omega]
theorem jx_r_manew (C : jx_C V p Rm s m args meth c cc o nL D A0 mcs) (ho : o = 12) {n k : Int32} (hd : decode cc pc = .ok (.multianewarray 50 2, 4)) (hn : 0 ≤ n) (hn2 : n.toNatClampNeg ≤ 100000) (hk : 0 ≤ k) (hk2 : k.toNatClampNeg ≤ 100000) (hb1 : 1 + n.toNatClampNeg ≤ b.1) (hb2 : n.toNatClampNeg + n.toNatClampNeg * k.toNatClampNeg ≤ b.2)
    (kk : jx_J V p e Rm s m args below meth c Q A0 nL mcs (pc + 4) (.ref X.1 :: st) L (b.1 - (1 + n.toNatClampNeg), b.2 - (n.toNatClampNeg + n.toNatClampNeg * k.toNatClampNeg)) (X.1 + 1 + n.toNatClampNeg, jx_ups X.2.1 X.1 n.toNatClampNeg k.toNatClampNeg, X.2.2) (jx_zs I X.1) (jx_ns R X.1 n.toNatClampNeg)) : jx_J V p e Rm s m args below meth c Q A0 nL mcs pc (.int k :: .int n :: st) L b X I R := by
  intro H locs cells slots ls h1 h2 h3 h4 h5 h6 h7
  subst ho
  obtain ⟨hx, hb, hml, hown, hts, hE, hA, ⟨hR1, hR2, -, -⟩, -⟩ := C
  generalize hN : n.toNatClampNeg = N at *
  generalize hM : k.toNatClampNeg = M at *
  intro T hT Xs
  obtain ⟨vm₁, cA, comp, -, fA, fC, -, -, X', step⟩ := Xs.multianewarray2F hx (own := RX12) (index := 50) (ty := .int) hown (hts _ (jx_gw jx_xw_clI rfl)) hE.2.1.2.2.2.1 (hts _ (jx_gw jx_xw_acIc rfl)) (g := F0 m pc ls (.int k :: .int n :: st)) rfl (by rw [hb]; exact hd) rfl (jx_i0 hn) (jx_i0 hk) (by omega) (by show k.toNatClampNeg * 4 ≤ _; omega) (by omega) rfl rfl (by rw [hR1, hN]; omega) (by rw [hR2, hN, hM]; omega)
  rw [hN, hM] at X' step
  generalize hF : Jvm.Free.Multi.fill (T.setVm vm₁) cA comp N M (defaultValue .int) N = F at X' step
  have hTh : (T.setVm vm₁).heap = H := hT
  obtain ⟨f1, f2, -, -⟩ := Jvm.Free.Multi.fill_facts (T.setVm vm₁) cA comp N M (defaultValue .int) N
  rw [hF, hTh] at f1 f2
  have hold : ∀ x : Nat, x < H.size → F.heap[x]? = H[x]? := fun x hx => by
    have := Jvm.Free.Multi.fill_old (T.setVm vm₁) cA comp N M (defaultValue .int) (a := x) (by rw [hTh]; exact hx) N
    rw [hF, hTh] at this
    exact this
  have hrow : ∀ j : Nat, j < N → F.heap[H.size + 1 + j]? = some (vp_cell comp (M, .inl (fun _ => 0))) := fun j hj => by
    have := Jvm.Free.Multi.fill_inner (T.setVm vm₁) cA comp N M (defaultValue .int) N j hj
    rw [hF, hTh] at this
    rw [this, vp_cell_i]
    show some ({ cls := comp, slots := Array.replicate M (.int 0), vm := .none } : Cell) = _
    rw [arrV_new]
  rw [jx_outer] at f2
  have hcA : cA = V.2.2.1 4 := Option.some.inj (fA.symm.trans (hE.1.2 4 _ rfl).2)
  have hcC : comp = V.2.2.1 0 := Option.some.inj (fC.symm.trans (hE.1.2 0 _ rfl).2)
  have hz := h2.1
  have hRa : jx_Ra V (X.1 + 1 + N, jx_ups X.2.1 X.1 N M, X.2.2) (jx_zs I X.1) (jx_ns R X.1 N) F.heap := by
    refine ⟨by rw [f1, hz], fun a sh ha => ?_⟩
    have ha' : (if a = X.1 then some (104, N) else if X.1 < a ∧ a ≤ X.1 + N then some (100, M) else X.2.1 a) = some sh := ha
    by_cases e1 : a = X.1
    · rw [if_pos e1] at ha'
      cases ha'
      subst e1
      show F.heap[X.1]? = some (vp_cell (V.2.2.1 4) (N, .inr (.inr (.inr (.inr (jx_ns R X.1 N X.1))))))
      rw [← hz, f2, vp_cell_q, hcA]
      congr 2
      funext j
      simp [jx_ns]
    · rw [if_neg e1] at ha'
      by_cases e2 : X.1 < a ∧ a ≤ X.1 + N
      · rw [if_pos e2] at ha'
        cases ha'
        show F.heap[a]? = some (vp_cell (V.2.2.1 0) (M, .inl (jx_zs I X.1 a)))
        obtain ⟨j, hj⟩ : ∃ j, a = X.1 + 1 + j := ⟨a - (X.1 + 1), by omega⟩
        have := hrow j (by omega)
        rw [hz, ← hj] at this
        rw [this, hcC]
        have e3 : jx_zs I X.1 a = fun _ => 0 := funext fun q => if_pos (show X.1 ≤ a by omega)
        rw [e3]
      · rw [if_neg e2] at ha'
        have hl := jx_Ra_lt h2 ha'
        show va_at V.2.1 vwCl (a, jx_cell V sh a (jx_zs I X.1) X.2.2 (jx_ns R X.1 N)) F.heap
        rw [jx_cell_eq (I := I) (G := X.2.2) (R := R) (funext fun q => if_neg (by omega)) rfl (funext fun q => (if_neg e1).trans (if_neg (by omega)))]
        exact (h2.2 a sh ha').kept (hold a (by omega))
  obtain ⟨t, a1, b1⟩ := kk F.heap locs (cells + 1 + N) (slots + N + N * M) ls h1 hRa (fun q hq => by
      by_cases e1 : X.1 ≤ q
      · exact hA q (Nat.le_trans h4.1 (by omega))
      · refine h3 q (fun h => hq ?_)
        show (if q = X.1 then some (104, N) else if X.1 < q ∧ q ≤ X.1 + N then some (100, M) else X.2.1 q) = none
        rw [if_neg (by omega), if_neg (by omega)]
        exact h) (jx_Sn h4 (by omega) hold) h5 (by show cells + 1 + N + (b.1 - (1 + N)) ≤ _; omega) (by show slots + N + N * M + (b.2 - (N + N * M)) ≤ _; omega) F rfl X'
  refine ⟨t, step t ?_, b1⟩
  have e9 : T.heap.size = X.1 := by rw [hT, hz]
  rw [e9]
  exact a1
theorem jx_acw {i : Nat} (h : jx_ac.any (fun e => Nat.beq e.1 o && Nat.beq e.2.1 i) = true) : Cond.methodLink (jx_cn o) i arraycopyName ∈ jx_good := by
  obtain ⟨e, he, h2⟩ := List.any_eq_true.mp h
  simp only [Bool.and_eq_true] at h2
  have e1 := Nat.eq_of_beq_eq_true h2.1
  have e2 := Nat.eq_of_beq_eq_true h2.2
  have h3 := jx_walk_ok _ _ jx_ac_ok (e.2.2, _) (List.mem_map.mpr ⟨e, he, rfl⟩)
  rw [e1, e2] at h3
  exact jx_gw h3 rfl
theorem jx_r_copy (C : jx_C V p Rm s m args meth c cc o nL D A0 mcs) {i a q n0 n1 : Nat} {sp dp n : Int32} (hd : decode cc pc = .ok (.invokestatic i, 3)) (hl : jx_ac.any (fun e => Nat.beq e.1 o && Nat.beq e.2.1 i) = true) (hD : 1 ≤ D) (hs : X.2.1 a = some (100, n0)) (hq : X.2.1 q = some (100, n1)) (g1 : 0 ≤ sp) (g2 : 0 ≤ dp) (g3 : 0 ≤ n)
    (g4 : sp.toNatClampNeg + n.toNatClampNeg ≤ n0) (g5 : dp.toNatClampNeg + n.toNatClampNeg ≤ n1) (hst : (st.map fun v => v.category).sum ≤ 8) (kk : jx_J V p e Rm s m args below meth c Q A0 nL mcs (pc + 3) st L b X (jx_cp I a q sp.toNatClampNeg dp.toNatClampNeg n.toNatClampNeg) R) : jx_J V p e Rm s m args below meth c Q A0 nL mcs pc (.int n :: .int dp :: .ref q :: .int sp :: .ref a :: st) L b X I R := by
  have nn : ∀ z : Int32, ¬ z < 0 → z.toInt = (z.toNatClampNeg : Int) := by
    intro z hz
    have hz0 : (0 : Int) ≤ z.toInt := by
      have := Int32.not_lt.mp hz
      simpa using Int32.le_iff_toInt_le.mp this
    show z.toInt = ((z.toInt.toNat : Nat) : Int)
    omega
  intro H locs cells slots ls h1 h2 h3 h4 h5 h6 h7
  obtain ⟨hx, hb, hml, hown, hts, hE, hA, ⟨hR1, hR2, hR3, hR4⟩, -⟩ := C
  intro T hT Xs
  have hc0 : H[a]? = some (vp_cell (V.2.2.1 0) (n0, .inl (I a))) := h2.2 a _ hs
  have hc1 : H[q]? = some (vp_cell (V.2.2.1 0) (n1, .inl (I q))) := h2.2 q _ hq
  obtain ⟨-, k0, hk0, cm0, hkk0⟩ := (hE.1.2 0 _ rfl).1 n0 (fun j => .int (I a j))
  have z1 := jx_i0 g1
  have z2 := jx_i0 g2
  have z3 := jx_i0 g3
  obtain ⟨vm', X', step⟩ := Xs.arraycopy hx hown (hts _ (jx_acw hl)) (hts _ (jx_gw jx_xw_acN rfl)) (hts _ (jx_gw jx_xw_acS rfl)) (hts _ (jx_gw jx_xw_sys rfl)) (src := a) (dst := q) (cs := vp_cell (V.2.2.1 0) (n0, .inl (I a))) (cd := vp_cell (V.2.2.1 0) (n1, .inl (I q))) (srcPos := sp) (destPos := dp) (n := n) (by rw [hT]; exact hc0) (by rw [hT]; exact hc1)
    (fun _ h => by cases h) (fun _ h => by cases h) (fun h => by cases h) (fun h => by cases h) hk0 hk0 hkk0 hkk0 (by simp [refKind]) z1 z2 z3
    (by rw [nn sp z1, nn n z3]; show ¬ _ > ((arrV (V.2.2.1 0) n0 (fun j => .int (I a j))).slots.size : Int); rw [arrV_size]; omega)
    (by rw [nn dp z2, nn n z3]; show ¬ _ > ((arrV (V.2.2.1 0) n1 (fun j => .int (I q j))).slots.size : Int); rw [arrV_size]; omega)
    (fun vm₁ _ i hi => by
      have e9 : (vp_cell (V.2.2.1 0) (n0, .inl (I a))).slots.getD (sp.toNatClampNeg + i) .null = .int (I a (sp.toNatClampNeg + i)) := by
        show (arrV (V.2.2.1 0) n0 (fun j => .int (I a j))).slots.getD _ _ = _
        rw [Array.getD_eq_getD_getElem?, arrV_read _ _ (by omega)]
        rfl
      refine ⟨?_, ?_⟩
      · rw [e9]
        rfl
      · rw [e9]
        exact trivial)
    (g := F0 m pc ls (.int n :: .int dp :: .ref q :: .int sp :: .ref a :: st)) rfl (by rw [hml]; exact h5.1) (rest := st) rfl (by rw [hb]; exact hd) (by omega) (by show 2 * 0 + _ + _ ≤ _; have : nativeFrameWords "java/lang/System" "arraycopy" 5 + 11 ≤ 50 := (by decide +kernel); omega)
  have e1 : copied (vp_cell (V.2.2.1 0) (n0, .inl (I a))) (vp_cell (V.2.2.1 0) (n1, .inl (I q))) sp dp n = vp_cell (V.2.2.1 0) (n1, .inl (va_cpy (I a) (I q) sp.toNatClampNeg dp.toNatClampNeg n.toNatClampNeg)) := va_copied (fun z => .int z) (V.2.2.1 0) (V.2.2.1 0) (I a) (I q) g4
  rw [e1] at X' step
  have hlq : q < H.size := (Array.getElem?_eq_some_iff.mp hc1).1
  have hheap : ((T.setVm vm').setCell q (vp_cell (V.2.2.1 0) (n1, .inl (va_cpy (I a) (I q) sp.toNatClampNeg dp.toNatClampNeg n.toNatClampNeg)))).heap = H.setIfInBounds q (vp_cell (V.2.2.1 0) (n1, .inl (va_cpy (I a) (I q) sp.toNatClampNeg dp.toNatClampNeg n.toNatClampNeg))) := by rw [← hT]; rfl
  have oq : ∀ z : Nat, z ≠ q → (H.setIfInBounds q (vp_cell (V.2.2.1 0) (n1, .inl (va_cpy (I a) (I q) sp.toNatClampNeg dp.toNatClampNeg n.toNatClampNeg))))[z]? = H[z]? := fun z hz => by simp [Array.getElem?_setIfInBounds, Ne.symm hz]
  have hAq : A0 q := h3 q (by rw [hq]; exact fun h => by cases h)
  obtain ⟨t, a1, b1⟩ := kk _ _ cells slots ls h1 (jx_Ra_set (G' := X.2.2) (R' := R) h2 hq (by simp) oq (fun z hz => funext fun k => if_neg (fun w => hz w.1)) (fun _ _ => rfl) (fun _ _ => rfl) (by
      show (H.setIfInBounds q _)[q]? = some (vp_cell (V.2.2.1 0) (n1, .inl (jx_cp I a q sp.toNatClampNeg dp.toNatClampNeg n.toNatClampNeg q)))
      have e5 : jx_cp I a q sp.toNatClampNeg dp.toNatClampNeg n.toNatClampNeg q = va_cpy (I a) (I q) sp.toNatClampNeg dp.toNatClampNeg n.toNatClampNeg := funext fun k => by simp [jx_cp, va_cpy]
      rw [e5]
      simp [Array.getElem?_setIfInBounds, hlq])) h3 ⟨by simp; exact h4.1, fun z w1 w2 => by
      rw [oq z (fun w => w2 (by rw [w]; exact hAq))]
      exact h4.2.1 z w1 w2, fun z hz => by
      rcases List.mem_append.mp hz with h | h
      · exact h4.2.2 z h
      · obtain ⟨w, -, hw⟩ := List.mem_map.mp h
        rw [← hw]
        exact hAq⟩ h5 h6 h7 _ hheap X'
  exact ⟨t, step t a1, b1⟩
end JROWC
