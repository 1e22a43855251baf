/-! ===== the judgement J over the machine, and its rows ===== -/
def jx_J (V : jx_V) (p : Program) (e : Env) (Rm : Room) (s : State) (m : MethodId) (args : Array Value) (below : List Frame) (meth : Method) (c : Code) (Q : State → Prop) (A0 : Nat → Prop) (nL : Nat) (mcs : Nat × Nat) : jx_Jt := fun pc st L b X I R =>
  ∀ (H : Heap) (locs : List Loc) (cells slots : Nat) (ls : Array Slot), L.length = nL → jx_Ra V X I R H → (∀ q, X.2.1 q ≠ none → A0 q) → va_S A0 s.heap H locs → jx_L ls nL L → cells + b.1 ≤ mcs.1 → slots + b.2 ≤ mcs.2 →
    W p V.1 e Rm s m args below meth c H locs cells slots Q (F0 m pc ls st)
/-- what holds throughout a method's body -/
def jx_C (V : jx_V) (p : Program) (Rm : Room) (s : State) (m : MethodId) (args : Array Value) (meth : Method) (c : Code) (cc : ByteArray) (o nL D : Nat) (A0 : Nat → Prop) (mcs : Nat × Nat) : Prop :=
  p.tables.exec = Jvm.exec ∧ c.code = cc ∧ c.maxLocals = nL ∧ s.vm.findClass (jx_cn o) = some m.cls ∧ (∀ w ∈ jx_good, w.before args s = true) ∧ jx_E V A0 s s.heap ∧ (∀ q, s.heap.size ≤ q → A0 q) ∧
  (Rm.cells = mcs.1 ∧ Rm.slots = mcs.2 ∧ D ≤ Rm.frames ∧ 64 * D ≤ Rm.locals) ∧ V.1.stackTraces = false ∧ meth.locks = false
section JROW
variable {V : jx_V} {p : Program} {e : Env} {Rm : Room} {s : State} {m : MethodId} {args : Array Value} {below : List Frame} {meth : Method} {c : Code} {Q : State → Prop} {A0 : Nat → Prop} {mcs : Nat × Nat} {cc : ByteArray} {o nL D : Nat}
variable {pc : Nat} {st : List Value} {L : List (Option Value)} {b : Nat × Nat} {X : jx_X} {I : jx_I} {R : jx_R}
/-- locals: the list that the kit's rows take -/
def jx_toA (L : List (Option Value)) : List (Nat × Value) := (List.range L.length).filterMap (fun i => match L[i]? with
  | some (some v) => some (i, v)
  | _ => none)
theorem jx_toA_mem {L : List (Option Value)} {i : Nat} {v : Value} : (i, v) ∈ jx_toA L ↔ L[i]? = some (some v) := by
  unfold jx_toA
  rw [List.mem_filterMap]
  constructor
  · rintro ⟨j, -, h⟩
    split at h
    · next w hw =>
      cases h
      exact hw
    · cases h
  · intro h
    exact ⟨i, List.mem_range.mpr (List.getElem?_eq_some_iff.mp h).1, by rw [h]⟩
theorem jx_L_has {ls : Array Slot} {n : Nat} {L : List (Option Value)} (h : jx_L ls n L) : lv_has ls n (jx_toA L) := ⟨h.1, h.2.1, fun q hq => h.2.2 q.1 q.2 (jx_toA_mem.mp hq)⟩
theorem jx_kl_len (L : List (Option Value)) (i : Nat) : (jx_kl L i).length = L.length := by
  cases i with
  | zero => rfl
  | succ i =>
    simp only [jx_kl]
    split
    · split <;> simp
    · rfl
theorem jx_kl_get {L : List (Option Value)} {i j : Nat} {w : Value} (h : (jx_kl L i)[j]? = some (some w)) : L[j]? = some (some w) ∧ ¬ (j + 1 = i ∧ w.category = 2) := by
  cases i with
  | zero => exact ⟨h, fun q => by omega⟩
  | succ i =>
    simp only [jx_kl] at h
    split at h
    · next v hv =>
      split at h
      · next hc =>
        rw [List.getElem?_set] at h
        by_cases e : i = j
        · rw [if_pos e] at h
          split at h <;> cases h
        · rw [if_neg e] at h
          exact ⟨h, fun q => e (by omega)⟩
      · next hc =>
        refine ⟨h, fun q => ?_⟩
        have e : j = i := by omega
        subst e
        rw [hv] at h
        cases h
        exact hc q.2
    · next hn =>
      refine ⟨h, fun q => ?_⟩
      have e : j = i := by omega
      subst e
      exact hn w h
theorem jx_s1_len (L : List (Option Value)) (i : Nat) (v : Value) : (jx_s1 L i v).length = L.length := by simp [jx_s1, jx_kl_len]
theorem jx_s2_len (L : List (Option Value)) (i : Nat) (v : Value) : (jx_s2 L i v).length = L.length := by simp [jx_s2, jx_kl_len]
theorem jx_L_s1 {ls : Array Slot} {n i : Nat} {L : List (Option Value)} {v : Value} (h : lv_has ls n ((i, v) :: (jx_toA L).filter (fun q => !(q.1 == i) && !(q.1 + 1 == i && q.2.category == 2)))) : jx_L ls n (jx_s1 L i v) := by
  refine ⟨h.1, h.2.1, fun j w hj => ?_⟩
  unfold jx_s1 at hj
  rw [List.getElem?_set] at hj
  by_cases e : i = j
  · rw [if_pos e] at hj
    split at hj
    · cases hj
      rw [← e]
      exact h.2.2 (i, v) List.mem_cons_self
    · cases hj
  · rw [if_neg e] at hj
    obtain ⟨h1, h2⟩ := jx_kl_get hj
    refine h.2.2 (j, w) (List.mem_cons_of_mem _ (List.mem_filter.mpr ⟨jx_toA_mem.mpr h1, ?_⟩))
    simp only [Bool.and_eq_true, Bool.not_eq_true', beq_eq_false_iff_ne, ne_eq, Bool.and_eq_false_iff]
    refine ⟨fun q => e q.symm, ?_⟩
    by_cases e2 : j + 1 = i
    · exact Or.inr (fun q => h2 ⟨e2, q⟩)
    · exact Or.inl e2
theorem jx_L_s2 {ls : Array Slot} {n i : Nat} {L : List (Option Value)} {v : Value} (h : lv_has ls n ((i, v) :: (jx_toA L).filter (fun q => !(q.1 == i) && (!(q.1 == i + 1) && !(q.1 + 1 == i && q.2.category == 2))))) : jx_L ls n (jx_s2 L i v) := by
  refine ⟨h.1, h.2.1, fun j w hj => ?_⟩
  unfold jx_s2 at hj
  rw [List.getElem?_set] at hj
  by_cases e1 : i + 1 = j
  · rw [if_pos e1] at hj
    split at hj <;> cases hj
  rw [if_neg e1, List.getElem?_set] at hj
  by_cases e : i = j
  · rw [if_pos e] at hj
    split at hj
    · cases hj
      rw [← e]
      exact h.2.2 (i, v) List.mem_cons_self
    · cases hj
  · rw [if_neg e] at hj
    obtain ⟨h1, h2⟩ := jx_kl_get hj
    refine h.2.2 (j, w) (List.mem_cons_of_mem _ (List.mem_filter.mpr ⟨jx_toA_mem.mpr h1, ?_⟩))
    simp only [Bool.and_eq_true, Bool.not_eq_true', beq_eq_false_iff_ne, ne_eq, Bool.and_eq_false_iff]
    refine ⟨fun q => e q.symm, fun q => e1 q.symm, ?_⟩
    by_cases e2 : j + 1 = i
    · exact Or.inr (fun q => h2 ⟨e2, q⟩)
    · exact Or.inl e2
theorem jx_L_ent {As : List Value} {n : Nat} (h : (lg_sl As).length ≤ n) : jx_L ((lg_sl As ++ List.replicate (n - (lg_sl As).length) Slot.unset).toArray) n (jx_ent n As) := by
  obtain ⟨h1, h2, h3⟩ := lv_entry As h
  refine ⟨h1, h2, fun i v hi => h3 (i, v) ?_⟩
  have key : ∀ (As : List Value) (k i : Nat) (v : Value), (As.flatMap (fun v => if v.category = 2 then [some v, none] else [some v]))[i]? = some (some v) → (k + i, v) ∈ lv_args k As := by
    intro As
    induction As with
    | nil => intro k i v h; simp at h
    | cons w As ih =>
      intro k i v h
      simp only [List.flatMap_cons] at h
      by_cases hc : w.category = 2
      · rw [if_pos hc] at h
        simp only [lv_args, hc, if_true]
        match i, h with
        | 0, h =>
          cases h
          exact List.mem_cons_self
        | 1, h => cases h
        | i + 2, h =>
          have h' : (As.flatMap (fun v => if v.category = 2 then [some v, none] else [some v]))[i]? = some (some v) := h
          have := ih (k + 2) i v h'
          rw [show k + (i + 2) = k + 2 + i by omega]
          exact List.mem_cons_of_mem _ this
      · rw [if_neg hc] at h
        simp only [lv_args, hc, if_false]
        match i, h with
        | 0, h =>
          cases h
          exact List.mem_cons_self
        | i + 1, h =>
          have h' : (As.flatMap (fun v => if v.category = 2 then [some v, none] else [some v]))[i]? = some (some v) := h
          have := ih (k + 1) i v h'
          rw [show k + (i + 1) = k + 1 + i by omega]
          exact List.mem_cons_of_mem _ this
  have hi' : (As.flatMap (fun v => if v.category = 2 then [some v, none] else [some v]))[i]? = some (some v) := by
    unfold jx_ent at hi
    by_cases hl : i < (As.flatMap (fun v => if v.category = 2 then [some v, none] else [some v])).length
    · rw [List.getElem?_append_left hl] at hi
      exact hi
    · rw [List.getElem?_append_right (by omega)] at hi
      have := List.eq_of_mem_replicate (List.mem_of_getElem? hi)
      cases this
  have := key As 0 i v hi'
  rw [Nat.zero_add] at this
  exact this
theorem jx_ent_len {As : List Value} {n : Nat} (h : (lg_sl As).length ≤ n) : (jx_ent n As).length = n := by
  have e : ∀ As : List Value, (As.flatMap (fun v => if v.category = 2 then [some v, none] else [some v])).length = (lg_sl As).length := by
    intro As
    induction As with
    | nil => rfl
    | cons w As ih =>
      simp only [lg_sl, List.flatMap_cons, List.length_append] at ih ⊢
      rw [ih]
      by_cases hc : w.category = 2
      · simp [hc]
      · simp [hc]
  unfold jx_ent
  simp only [List.length_append, List.length_replicate]
  rw [e]
  omega
/-- a world of one cell -/
theorem jx_P1 {H : Heap} {a : Nat} {sh : Nat × Nat} (h : jx_Ra V X I R H) (hs : X.2.1 a = some sh) : va_P V.2.1 vwCl [(a, jx_cell V sh a I X.2.2 R)] H := by
  intro k q hk
  match k, hk with
  | 0, hk =>
    cases hk
    exact h.2 a sh hs
  | k + 1, hk => simp at hk
end JROW
