/-! ===== what a text tells as a plan ===== -/
/-- a plan's words -/
def kst (w : List Int) : Int := if w = sbi 16 then 0 else if w = sbi 17 then 1 else if w = sbi 18 then 2 else if w = sbi 19 then 3 else if w = sbi 20 then 4 else if w = sbi 21 then 5 else if w = sbi 22 then 6 else if w = sbi 23 then 7 else if w = sbi 24 then 8 else if w = sbi 25 then 9 else -1
def kvl (w : List Int) : Nat := if w = sbi 26 then 1 else if w = sbi 27 then 2 else if w = sbi 28 then 3 else if w = sbi 29 then 4 else if w = sbi 30 then 5 else if w = sbi 31 then 6 else if w = sbi 32 then 7 else 0
theorem kst_r (w : List Int) : (kst w = -1) ∨ (0 ≤ kst w ∧ kst w ≤ 9 ∧ 2 ≤ w.length ∧ ((kst w = 2 ∨ kst w = 3) → 4 ≤ w.length)) := by
  unfold kst
  by_cases c16 : w = sbi 16
  · rw [if_pos c16]; subst c16; exact Or.inr (by decide +kernel)
  rw [if_neg c16]
  by_cases c17 : w = sbi 17
  · rw [if_pos c17]; subst c17; exact Or.inr (by decide +kernel)
  rw [if_neg c17]
  by_cases c18 : w = sbi 18
  · rw [if_pos c18]; subst c18; exact Or.inr (by decide +kernel)
  rw [if_neg c18]
  by_cases c19 : w = sbi 19
  · rw [if_pos c19]; subst c19; exact Or.inr (by decide +kernel)
  rw [if_neg c19]
  by_cases c20 : w = sbi 20
  · rw [if_pos c20]; subst c20; exact Or.inr (by decide +kernel)
  rw [if_neg c20]
  by_cases c21 : w = sbi 21
  · rw [if_pos c21]; subst c21; exact Or.inr (by decide +kernel)
  rw [if_neg c21]
  by_cases c22 : w = sbi 22
  · rw [if_pos c22]; subst c22; exact Or.inr (by decide +kernel)
  rw [if_neg c22]
  by_cases c23 : w = sbi 23
  · rw [if_pos c23]; subst c23; exact Or.inr (by decide +kernel)
  rw [if_neg c23]
  by_cases c24 : w = sbi 24
  · rw [if_pos c24]; subst c24; exact Or.inr (by decide +kernel)
  rw [if_neg c24]
  by_cases c25 : w = sbi 25
  · rw [if_pos c25]; subst c25; exact Or.inr (by decide +kernel)
  rw [if_neg c25]
  exact Or.inl rfl
theorem kvl_r (w : List Int) : kvl w ≤ 7 ∧ (kvl w ≠ 0 → 1 ≤ w.length) := by
  unfold kvl
  by_cases c26 : w = sbi 26
  · rw [if_pos c26]; subst c26; decide +kernel
  rw [if_neg c26]
  by_cases c27 : w = sbi 27
  · rw [if_pos c27]; subst c27; decide +kernel
  rw [if_neg c27]
  by_cases c28 : w = sbi 28
  · rw [if_pos c28]; subst c28; decide +kernel
  rw [if_neg c28]
  by_cases c29 : w = sbi 29
  · rw [if_pos c29]; subst c29; decide +kernel
  rw [if_neg c29]
  by_cases c30 : w = sbi 30
  · rw [if_pos c30]; subst c30; decide +kernel
  rw [if_neg c30]
  by_cases c31 : w = sbi 31
  · rw [if_pos c31]; subst c31; decide +kernel
  rw [if_neg c31]
  by_cases c32 : w = sbi 32
  · rw [if_pos c32]; subst c32; decide +kernel
  rw [if_neg c32]
  exact ⟨Nat.zero_le _, fun h => absurd rfl h⟩
/-- a fault and where, or what was told -/
abbrev PX (α : Type) : Type := Except (Int × Nat) α
theorem px_ok {α β : Type} {a : PX α} {f : α → PX β} {r : β} (h : a.bind f = .ok r) : ∃ x, a = .ok x ∧ f x = .ok r := by
  cases a with
  | error e => cases h
  | ok x => exact ⟨x, rfl, h⟩
theorem px_o {α β : Type} {a : PX α} {x : α} {f : α → PX β} (h : a = .ok x) : a.bind f = f x := by rw [h]; rfl
theorem px_e {α β : Type} {a : PX α} {e : Int × Nat} {f : α → PX β} (h : a = .error e) : a.bind f = .error e := by rw [h]; rfl
def pNum (T : List Int) (lo hi : Int) (p : Nat) : PX (Int × Nat) := if dig T p = [] then .error (1, p) else if lo ≤ nval T p ∧ nval T p ≤ hi then .ok (nval T p, skB T (p + (dig T p).length)) else .error (2, p)
/-- a value: kind, number -/
def pVal (T : List Int) (lm p : Nat) : PX (Nat × Int × Nat) := if kvl (wrd T p) = 0 then (pNum T 0 999 p).bind (fun r => .ok (0, r)) else if kvl (wrd T p) = 7 then (pNum T 0 ((lm : Int) - 1) (skB T (p + (wrd T p).length))).bind (fun r => .ok (7, r)) else .ok (kvl (wrd T p), 0, skB T (p + (wrd T p).length))
/-- values more and less, the first with sign s -/
def pVals (T : List Int) (lm : Nat) : Nat → Nat → Int → PX (List VA × Nat)
  | 0, p, _ => .error (0, p)
  | f + 1, p, s => (pVal T lm p).bind (fun r => if tat T r.2.2 = 43 then (pVals T lm f (skB T (r.2.2 + 1)) 1).bind (fun z => .ok ((s, r.1, r.2.1) :: z.1, z.2)) else if tat T r.2.2 = 45 then (pVals T lm f (skB T (r.2.2 + 1)) (-1)).bind (fun z => .ok ((s, r.1, r.2.1) :: z.1, z.2)) else .ok ([(s, r.1, r.2.1)], r.2.2))
def prl (c : Int) : Nat := if c = 60 then 0 else if c = 62 then 1 else if c = 61 then 2 else 3
/-- a test, its values from v on -/
def pTest (T : List Int) (lm p v : Nat) : PX (TE × List VA × Nat) := (pVals T lm (T.length + 1) p 1).bind (fun a => if prl (tat T a.2) = 3 then .error (1, a.2) else (pVals T lm (T.length + 1) (skB T (a.2 + 1)) 1).bind (fun b => .ok ((v, prl (tat T a.2), v + a.1.length, v + a.1.length + b.1.length), a.1 ++ b.1, b.2)))
abbrev PS : Type := List SP × List TE × List VA × Nat
abbrev PRC : Type := Nat → Nat → Nat → Nat → Nat → PX PS
/-- a block at q, o blocks open, n steps, t tests, v values told -/
def pBlk (T : List Int) (rec : PRC) (o q n t v : Nat) : PX PS := if tat T q ≠ 91 then .error (1, q) else if o = 6 then .error (3, q) else rec (o + 1) (skB T (q + 1)) n t v
def pArg (T : List Int) (ln lm : Nat) (k : Int) (q : Nat) : PX (Int × Nat) := if k = 2 ∨ k = 3 then .ok (0, q) else pNum T 0 (if k = 0 then (ln : Int) - 1 else if k = 1 then 99 else (lm : Int) - 1) q
/-- a step's number, tests, values -/
abbrev PA : Type := Int × List TE × List VA × Nat
def pArgs (T : List Int) (ln lm : Nat) (k : Int) (q v : Nat) : PX PA := if k < 7 then (pArg T ln lm k q).bind (fun r => .ok (r.1, [], [], r.2)) else if k = 7 then (pNum T 0 20 q).bind (fun r => .ok (r.1, [], [], r.2)) else (pTest T lm q v).bind (fun r => .ok (0, [r.1], r.2.1, r.2.2))
def pElse (T : List Int) (rec : PRC) (o n t v : Nat) (k : Int) (a : PA) (b : PS) : PX PS := if k = 9 ∧ wrd T b.2.2.2 ≠ [] then (if wrd T b.2.2.2 = sbi 33 then (pBlk T rec o (skB T (b.2.2.2 + (wrd T b.2.2.2).length)) (n + 1 + b.1.length) (t + a.2.1.length + b.2.1.length) (v + a.2.2.1.length + b.2.2.1.length)).bind (fun c => .ok ((k.toNat, a.1, t, n + 1 + b.1.length, n + 1 + b.1.length + c.1.length) :: (b.1 ++ c.1), a.2.1 ++ (b.2.1 ++ c.2.1), a.2.2.1 ++ (b.2.2.1 ++ c.2.2.1), c.2.2.2)) else .error (1, b.2.2.2)) else .ok ((k.toNat, a.1, t, n + 1 + b.1.length, n + 1 + b.1.length) :: b.1, a.2.1 ++ b.2.1, a.2.2.1 ++ b.2.2.1, b.2.2.2)
/-- a step behind its word -/
def pBody (T : List Int) (ln lm : Nat) (rec : PRC) (o n t v : Nat) (k : Int) (q : Nat) : PX PS := (pArgs T ln lm k q v).bind (fun a => if k < 7 then .ok ([(k.toNat, a.1, t, n + 1, n + 1)], a.2.1, a.2.2.1, a.2.2.2) else (pBlk T rec o a.2.2.2 (n + 1) (t + a.2.1.length) (v + a.2.2.1.length)).bind (fun b => pElse T rec o n t v k a b))
def pStep (T : List Int) (ln lm : Nat) (rec : PRC) (o p n t v : Nat) : PX PS := if kst (wrd T p) = -1 then .error (1, p) else pBody T ln lm rec o n t v (kst (wrd T p)) (skB T (p + (wrd T p).length))
abbrev pEnd (T : List Int) (o p : Nat) : Prop := if o = 0 then T.length ≤ p else tat T p = 93
def pSteps (T : List Int) (ln lm : Nat) : Nat → PRC
  | 0, _, p, _, _, _ => .error (0, p)
  | f + 1, o, p, n, t, v => if pEnd T o p then .ok ([], [], [], if o = 0 then p else skB T (p + 1)) else (pStep T ln lm (pSteps T ln lm f) o p n t v).bind (fun a => if tat T a.2.2.2 = 59 then (pSteps T ln lm f o (skB T (a.2.2.2 + 1)) (n + a.1.length) (t + a.2.1.length) (v + a.2.2.1.length)).bind (fun b => .ok (a.1 ++ b.1, a.2.1 ++ b.2.1, a.2.2.1 ++ b.2.2.1, b.2.2.2)) else .error (1, a.2.2.2))
theorem pSteps_s {T : List Int} {ln lm f o p n t v : Nat} : pSteps T ln lm (f + 1) o p n t v = if pEnd T o p then .ok ([], [], [], if o = 0 then p else skB T (p + 1)) else (pStep T ln lm (pSteps T ln lm f) o p n t v).bind (fun a => if tat T a.2.2.2 = 59 then (pSteps T ln lm f o (skB T (a.2.2.2 + 1)) (n + a.1.length) (t + a.2.1.length) (v + a.2.2.1.length)).bind (fun b => .ok (a.1 ++ b.1, a.2.1 ++ b.2.1, a.2.2.1 ++ b.2.2.1, b.2.2.2)) else .error (1, a.2.2.2)) := rfl
/-- behind p, in the text, no blank -/
def AT (T : List Int) (q : Nat) : Prop := q ≤ T.length ∧ skB T q = q
theorem AT_s {T : List Int} {p : Nat} (h : p ≤ T.length) : AT T (skB T p) ∧ p ≤ skB T p := ⟨⟨(skB_le h).2, skB_idem T p⟩, (skB_le h).1⟩
theorem tat_in {T : List Int} {p : Nat} {c : Int} (h : tat T p = c) (hc : c ≠ -1) : p < T.length := by
  rcases Nat.lt_or_ge p T.length with e | e
  · exact e
  · rw [tat_ge e] at h; exact absurd h.symm hc
theorem pNum_ok {T : List Int} {lo hi : Int} {p : Nat} {r : Int × Nat} (hp : p ≤ T.length) (h : pNum T lo hi p = .ok r) : p + 1 ≤ r.2 ∧ AT T r.2 ∧ lo ≤ r.1 ∧ r.1 ≤ hi := by
  unfold pNum at h
  split at h
  · cases h
  split at h
  · rename_i h1 h2
    cases h
    have h3 := dig_le hp
    have h4 : 0 < (dig T p).length := by
      rcases Nat.eq_zero_or_pos (dig T p).length with e | e
      · exact absurd (List.length_eq_zero_iff.mp e) h1
      · exact e
    have h5 := AT_s h3
    exact ⟨by have := h5.2; show _ ≤ skB T _; omega, h5.1, h2.1, h2.2⟩
  · cases h
/-- a value that is good -/
def GV (lm : Nat) (e : VA) : Prop := (e.1 = 1 ∨ e.1 = -1) ∧ e.2.1 ≤ 7 ∧ (0 ≤ e.2.2 ∧ e.2.2 ≤ 999) ∧ (e.2.1 = 7 → e.2.2 < (lm : Int))
theorem pVal_ok {T : List Int} {lm p : Nat} {r : Nat × Int × Nat} (hlm : lm ≤ 8) (hp : p ≤ T.length) (h : pVal T lm p = .ok r) : p + 1 ≤ r.2.2 ∧ AT T r.2.2 ∧ r.1 ≤ 7 ∧ (0 ≤ r.2.1 ∧ r.2.1 ≤ 999) ∧ (r.1 = 7 → r.2.1 < (lm : Int)) := by
  have hw := wrd_le hp
  have hk := kvl_r (wrd T p)
  have hs := AT_s hw
  unfold pVal at h
  split at h
  · obtain ⟨x, hx, h⟩ := px_ok h
    cases h
    have h1 := pNum_ok hp hx
    exact ⟨h1.1, h1.2.1, by omega, h1.2.2, fun e => absurd (show (0 : Nat) = 7 from e) (by decide)⟩
  split at h
  · rename_i h0 h7
    obtain ⟨x, hx, h⟩ := px_ok h
    cases h
    have h1 := pNum_ok hs.1.1 hx
    have := hs.2
    exact ⟨by have := h1.1; show _ ≤ x.2; omega, h1.2.1, by omega, ⟨h1.2.2.1, by have := h1.2.2.2; show x.1 ≤ 999; omega⟩, fun _ => by have := h1.2.2.2; show x.1 < _; omega⟩
  · rename_i h0 h7
    cases h
    have := hk.2 h0
    have := hs.2
    exact ⟨by show _ ≤ skB T _; omega, hs.1, hk.1, ⟨Int.le_refl 0, show (0 : Int) ≤ 999 by decide⟩, fun e => absurd e h7⟩
theorem pVals_ok {T : List Int} {lm : Nat} (hlm : lm ≤ 8) : ∀ (f p : Nat) (s : Int) (r : List VA × Nat), p ≤ T.length → (s = 1 ∨ s = -1) → pVals T lm f p s = .ok r → p + 1 ≤ r.2 ∧ AT T r.2 ∧ p + 2 * r.1.length ≤ r.2 + 1 ∧ ∀ e ∈ r.1, GV lm e := by
  intro f
  induction f with
  | zero => intro p s r _ _ h; cases h
  | succ f ih =>
    intro p s r hp hs h
    have h' : (pVal T lm p).bind (fun r => if tat T r.2.2 = 43 then (pVals T lm f (skB T (r.2.2 + 1)) 1).bind (fun z => .ok ((s, r.1, r.2.1) :: z.1, z.2)) else if tat T r.2.2 = 45 then (pVals T lm f (skB T (r.2.2 + 1)) (-1)).bind (fun z => .ok ((s, r.1, r.2.1) :: z.1, z.2)) else .ok ([(s, r.1, r.2.1)], r.2.2)) = .ok r := h
    obtain ⟨x, hx, h⟩ := px_ok h'
    have h1 := pVal_ok hlm hp hx
    have hg : GV lm (s, x.1, x.2.1) := ⟨hs, h1.2.2.1, h1.2.2.2.1, h1.2.2.2.2⟩
    have go : ∀ (c s2 : Int), c ≠ -1 → (s2 = 1 ∨ s2 = -1) → tat T x.2.2 = c → (pVals T lm f (skB T (x.2.2 + 1)) s2).bind (fun z => .ok ((s, x.1, x.2.1) :: z.1, z.2)) = .ok r → p + 1 ≤ r.2 ∧ AT T r.2 ∧ p + 2 * r.1.length ≤ r.2 + 1 ∧ ∀ e ∈ r.1, GV lm e := by
      intro c s2 hc hs2 hq h
      have hq2 := tat_in hq hc
      have h3 := AT_s (T := T) (p := x.2.2 + 1) (by omega)
      obtain ⟨z, hz, h⟩ := px_ok h
      cases h
      have h2 := ih _ _ _ h3.1.1 hs2 hz
      have h4 := h1.1
      have h5 := h3.2
      have h6 := h2.1
      have h7 := h2.2.2.1
      refine ⟨by show _ ≤ z.2; omega, h2.2.1, by rw [List.length_cons]; show _ ≤ z.2 + 1; omega, ?_⟩
      intro e he
      rcases List.mem_cons.mp he with e' | e'
      · subst e'; exact hg
      · exact h2.2.2.2 e e'
    split at h
    · rename_i hq; exact go 43 1 (by decide) (Or.inl rfl) hq h
    split at h
    · rename_i hq; exact go 45 (-1) (by decide) (Or.inr rfl) hq h
    · cases h
      refine ⟨h1.1, h1.2.1, by have := h1.1; show p + 2 * 1 ≤ x.2.2 + 1; omega, ?_⟩
      intro e he
      rcases List.mem_cons.mp he with e' | e'
      · subst e'; exact hg
      · cases e'
/-- a test that is good, its values among v .. w -/
def GTE (v w : Nat) (e : TE) : Prop := v ≤ e.1 ∧ e.1 ≤ e.2.2.1 ∧ e.2.2.1 ≤ e.2.2.2 ∧ e.2.2.2 ≤ w ∧ e.2.1 ≤ 2
theorem prl_r (c : Int) : prl c ≤ 3 ∧ (prl c ≠ 3 → c ≠ -1) := by
  unfold prl
  split
  · rename_i h; subst h; exact ⟨by decide, fun _ => by decide⟩
  split
  · rename_i h; subst h; exact ⟨by decide, fun _ => by decide⟩
  split
  · rename_i h; subst h; exact ⟨by decide, fun _ => by decide⟩
  · exact ⟨by decide, fun h => absurd rfl h⟩
theorem pTest_ok {T : List Int} {lm p v : Nat} {r : TE × List VA × Nat} (hlm : lm ≤ 8) (hp : p ≤ T.length) (h : pTest T lm p v = .ok r) : p + 3 ≤ r.2.2 ∧ AT T r.2.2 ∧ p + 2 * r.2.1.length ≤ r.2.2 + 1 ∧ (∀ e ∈ r.2.1, GV lm e) ∧ GTE v (v + r.2.1.length) r.1 := by
  unfold pTest at h
  obtain ⟨a, ha, h⟩ := px_ok h
  have h1 := pVals_ok hlm _ _ _ _ hp (Or.inl rfl) ha
  have hr := prl_r (tat T a.2)
  split at h
  · cases h
  · rename_i h3
    have h4 := tat_in rfl (hr.2 h3)
    have h5 := AT_s (T := T) (p := a.2 + 1) (by omega)
    obtain ⟨b, hb, h⟩ := px_ok h
    have h2 := pVals_ok hlm _ _ _ _ h5.1.1 (Or.inl rfl) hb
    cases h
    have e1 := h1.1
    have e2 := h1.2.2.1
    have e3 := h2.1
    have e4 := h2.2.2.1
    have e5 := h5.2
    refine ⟨by show _ ≤ b.2; omega, h2.2.1, by rw [List.length_append]; show _ ≤ b.2 + 1; omega, ?_, ?_⟩
    · intro e he
      rcases List.mem_append.mp he with e' | e'
      · exact h1.2.2.2 e e'
      · exact h2.2.2.2 e e'
    · refine ⟨Nat.le_refl _, Nat.le_add_right _ _, Nat.le_add_right _ _, ?_, by show prl _ ≤ 2; omega⟩
      rw [List.length_append]
      show v + a.1.length + b.1.length ≤ _
      omega
theorem pArg_ok {T : List Int} {ln lm q : Nat} {k : Int} {r : Int × Nat} (hln : ln ≤ 10) (hlm : lm ≤ 8) (hq : AT T q) (h : pArg T ln lm k q = .ok r) : q ≤ r.2 ∧ (¬ (k = 2 ∨ k = 3) → q + 1 ≤ r.2) ∧ AT T r.2 ∧ (0 ≤ r.1 ∧ r.1 ≤ 99) ∧ (k = 0 → r.1 < (ln : Int)) ∧ (4 ≤ k → r.1 < (lm : Int)) := by
  unfold pArg at h
  split at h
  · rename_i hk
    cases h
    exact ⟨Nat.le_refl _, fun e => absurd hk e, hq, ⟨Int.le_refl 0, show (0 : Int) ≤ 99 by decide⟩, fun e => by omega, fun e => by omega⟩
  · have h1 := pNum_ok hq.1 h
    have h2 := h1.1
    have h3 := h1.2.2.2
    refine ⟨by omega, fun _ => h1.1, h1.2.1, ⟨h1.2.2.1, ?_⟩, ?_, ?_⟩
    · split at h3
      · omega
      split at h3 <;> omega
    · intro e
      rw [if_pos e] at h3
      omega
    · intro e
      rw [if_neg (by omega), if_neg (by omega)] at h3
      omega
theorem pArgs_ok {T : List Int} {ln lm q v : Nat} {k : Int} {a : PA} (hln : ln ≤ 10) (hlm : lm ≤ 8) (hk : 0 ≤ k ∧ k ≤ 9) (hq : AT T q) (h : pArgs T ln lm k q v = .ok a) : q ≤ a.2.2.2 ∧ (¬ (k = 2 ∨ k = 3) → q + 1 ≤ a.2.2.2) ∧ AT T a.2.2.2 ∧ (0 ≤ a.1 ∧ a.1 ≤ 99) ∧ (k = 0 → a.1 < (ln : Int)) ∧ (4 ≤ k → k ≤ 6 → a.1 < (lm : Int)) ∧ (k < 8 → a.2.1 = [] ∧ a.2.2.1 = []) ∧ (8 ≤ k → a.2.1.length = 1) ∧ q + 2 * a.2.2.1.length ≤ a.2.2.2 + 1 ∧ (∀ e ∈ a.2.2.1, GV lm e) ∧ (∀ e ∈ a.2.1, GTE v (v + a.2.2.1.length) e) := by
  unfold pArgs at h
  split at h
  · obtain ⟨x, hx, h⟩ := px_ok h
    have h2 := pArg_ok hln hlm hq hx
    cases h
    exact ⟨h2.1, h2.2.1, h2.2.2.1, h2.2.2.2.1, h2.2.2.2.2.1, fun e _ => h2.2.2.2.2.2 e, fun _ => ⟨rfl, rfl⟩, fun e => by omega, by have := h2.1; show q + 2 * 0 ≤ x.2 + 1; omega, fun e h => (by cases h), fun e h => (by cases h)⟩
  split at h
  · obtain ⟨x, hx, h⟩ := px_ok h
    have h2 := pNum_ok hq.1 hx
    cases h
    have h3 := h2.1
    have h4 := h2.2.2
    exact ⟨by show q ≤ x.2; omega, fun _ => h2.1, h2.2.1, ⟨h4.1, by show x.1 ≤ 99; omega⟩, fun e => by omega, fun _ e => by omega, fun _ => ⟨rfl, rfl⟩, fun e => by omega, by show q + 2 * 0 ≤ x.2 + 1; omega, fun e h => (by cases h), fun e h => (by cases h)⟩
  · obtain ⟨x, hx, h⟩ := px_ok h
    have h2 := pTest_ok hlm hq.1 hx
    cases h
    have h3 := h2.1
    exact ⟨by show q ≤ x.2.2; omega, fun _ => by show q + 1 ≤ x.2.2; omega, h2.2.1, ⟨Int.le_refl 0, show (0 : Int) ≤ 99 by decide⟩, fun e => by omega, fun _ e => by omega, fun e => by omega, fun _ => rfl, h2.2.2.1, h2.2.2.2.1, fun e he => by
      rcases List.mem_cons.mp he with e' | e'
      · subst e'; exact h2.2.2.2.2
      · cases e'⟩
