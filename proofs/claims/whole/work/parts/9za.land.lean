/-! ===== what a text tells as a land ===== -/
/-- a land that is told, and what hurt whom where -/
abbrev LB : Type := LT × GT
def lu {α : Type} (f : Nat → α) (k : Nat) (v : α) (x : Nat) : α := if x = k then v else f x
theorem lu_s {α : Type} {f : Nat → α} {k : Nat} {v : α} : lu f k v k = v := if_pos rfl
theorem lu_n {α : Type} {f : Nat → α} {k x : Nat} {v : α} (h : x ≠ k) : lu f k v x = f x := if_neg h
def L00 : LB := (((0, 0), fun _ => 0, fun _ _ => 0, fun _ => 0, fun _ => -1, fun _ => 0, [100]), fun _ _ => 0)
def kcl (w : List Int) : Int := if w = sbi 1 then 0 else if w = sbi 2 then 1 else if w = sbi 3 then 2 else if w = sbi 4 then 3 else if w = sbi 5 then 4 else if w = sbi 6 then 5 else if w = sbi 7 then 6 else -1
theorem kcl_r (w : List Int) : kcl w = -1 ∨ (0 ≤ kcl w ∧ kcl w ≤ 6 ∧ 3 ≤ w.length) := by
  unfold kcl
  by_cases c1 : w = sbi 1
  · rw [if_pos c1]; subst c1; exact Or.inr (by decide +kernel)
  rw [if_neg c1]
  by_cases c2 : w = sbi 2
  · rw [if_pos c2]; subst c2; exact Or.inr (by decide +kernel)
  rw [if_neg c2]
  by_cases c3 : w = sbi 3
  · rw [if_pos c3]; subst c3; exact Or.inr (by decide +kernel)
  rw [if_neg c3]
  by_cases c4 : w = sbi 4
  · rw [if_pos c4]; subst c4; exact Or.inr (by decide +kernel)
  rw [if_neg c4]
  by_cases c5 : w = sbi 5
  · rw [if_pos c5]; subst c5; exact Or.inr (by decide +kernel)
  rw [if_neg c5]
  by_cases c6 : w = sbi 6
  · rw [if_pos c6]; subst c6; exact Or.inr (by decide +kernel)
  rw [if_neg c6]
  by_cases c7 : w = sbi 7
  · rw [if_pos c7]; subst c7; exact Or.inr (by decide +kernel)
  rw [if_neg c7]
  exact Or.inl rfl
def pOth (T : List Int) (hi x : Int) (p : Nat) : PX (Int × Nat) := (pNum T 0 hi p).bind (fun r => if r.1 = x then .error (2, p) else .ok r)
def aPlace (L : LB) (k : Int) : LB := (((Ln L.1 + 1, Lm L.1), lu (Lk L.1) (Ln L.1) k, Lr L.1, Lp L.1, Lo L.1, Lf L.1, Lc L.1), L.2)
def aCamel (L : LB) (g : Int) : LB := (((Ln L.1, Lm L.1 + 1), Lk L.1, Lr L.1, lu (Lp L.1) (Lm L.1) g, Lo L.1, Lf L.1, Lc L.1), L.2)
def aRoad (L : LB) (a b : Nat) (h : Int) : LB := (((Ln L.1, Lm L.1), Lk L.1, gu (gu (Lr L.1) a b h) b a h, Lp L.1, Lo L.1, Lf L.1, Lc L.1), L.2)
def aHurt (L : LB) (c p : Nat) (h : Int) : LB := (L.1, gu L.2 p c (min 20 (L.2 p c + h)))
def aCalf (L : LB) (c : Nat) (m : Int) : LB := (((Ln L.1, Lm L.1), Lk L.1, Lr L.1, Lp L.1, lu (Lo L.1) c m, Lf L.1, Lc L.1), L.2)
def aFoe (L : LB) (c d : Nat) : LB := (((Ln L.1, Lm L.1), Lk L.1, Lr L.1, Lp L.1, Lo L.1, lu (lu (Lf L.1) c (Lf L.1 c ||| 2 ^ d)) d (Lf L.1 d ||| 2 ^ c), Lc L.1), L.2)
def aLaw (L : LB) (cs : List Int) : LB := (((Ln L.1, Lm L.1), Lk L.1, Lr L.1, Lp L.1, Lo L.1, Lf L.1, cs), L.2)
abbrev PB : Type := PX (LB × Nat)
def cPlace (T : List Int) (L : LB) (q : Nat) : PB := (pNum T 0 3 q).bind (fun r => .ok (aPlace L r.1, r.2))
def cCamel (T : List Int) (L : LB) (q : Nat) : PB := (pNum T 0 99 q).bind (fun r => .ok (aCamel L r.1, r.2))
def cRoad (T : List Int) (L : LB) (q : Nat) : PB := (pNum T 0 ((Ln L.1 : Int) - 1) q).bind (fun a => (pOth T ((Ln L.1 : Int) - 1) a.1 a.2).bind (fun b => (pNum T 1 24 b.2).bind (fun h => .ok (aRoad L a.1.toNat b.1.toNat h.1, h.2))))
def cHurt (T : List Int) (L : LB) (q : Nat) : PB := (pNum T 0 ((Lm L.1 : Int) - 1) q).bind (fun c => (pNum T 0 ((Ln L.1 : Int) - 1) c.2).bind (fun p => (pNum T 1 20 p.2).bind (fun h => .ok (aHurt L c.1.toNat p.1.toNat h.1, h.2))))
def cCalf (T : List Int) (L : LB) (q : Nat) : PB := (pNum T 0 ((Lm L.1 : Int) - 1) q).bind (fun c => (pOth T ((Lm L.1 : Int) - 1) c.1 c.2).bind (fun m => .ok (aCalf L c.1.toNat m.1, m.2)))
def cFoe (T : List Int) (L : LB) (q : Nat) : PB := (pNum T 0 ((Lm L.1 : Int) - 1) q).bind (fun c => (pOth T ((Lm L.1 : Int) - 1) c.1 c.2).bind (fun m => .ok (aFoe L c.1.toNat m.1.toNat, m.2)))
def cLaw (T : List Int) (L : LB) (q : Nat) : PB := (lS T 6 q).bind (fun r => .ok (aLaw L r.1, r.2))
def cBody (T : List Int) (L : LB) (k : Int) (q : Nat) : PB := if k = 0 then cPlace T L q else if k = 1 then cRoad T L q else if k = 2 then cCamel T L q else if k = 3 then cHurt T L q else if k = 4 then cCalf T L q else if k = 5 then cFoe T L q else cLaw T L q
abbrev cBad (cnt : Nat) (L : LB) (k : Int) : Prop := cnt = 60 ∨ (k = 0 ∧ Ln L.1 = 10) ∨ (k = 2 ∧ Lm L.1 = 8)
def cClause (T : List Int) (cnt : Nat) (L : LB) (p : Nat) : PB := if kcl (wrd T p) = -1 then .error (1, p) else if cBad cnt L (kcl (wrd T p)) then .error (3, p) else cBody T L (kcl (wrd T p)) (skB T (p + (wrd T p).length))

/-- clauses, cnt told -/
def cCl (T : List Int) : Nat → Nat → LB → Nat → PX LB
  | 0, _, _, p => .error (0, p)
  | f + 1, cnt, L, p => if T.length ≤ p then .ok L else (cClause T cnt L p).bind (fun r => (pSgn T 59 r.2).bind (fun q => cCl T f (cnt + 1) r.1 q))
theorem cCl_s {T : List Int} {f cnt p : Nat} {L : LB} : cCl T (f + 1) cnt L p = if T.length ≤ p then .ok L else (cClause T cnt L p).bind (fun r => (pSgn T 59 r.2).bind (fun q => cCl T f (cnt + 1) r.1 q)) := rfl
/-- what the first n bytes tell as a land -/
def lno (B : List Int) (n : Nat) : PX LB := cCl (B.take n) 61 0 L00 (skB (B.take n) 0)
/-- what holds of a land while it is told -/
def WB (L : LB) : Prop := (Ln L.1 ≤ 10 ∧ Lm L.1 ≤ 8) ∧ (∀ p, p < Ln L.1 → 0 ≤ Lk L.1 p ∧ Lk L.1 p ≤ 3) ∧ (∀ p q, (0 ≤ Lr L.1 p q ∧ Lr L.1 p q ≤ 24) ∧ Lr L.1 p q = Lr L.1 q p ∧ Lr L.1 p p = 0) ∧ (∀ c, (c < Lm L.1 → 0 ≤ Lp L.1 c ∧ Lp L.1 c ≤ 99) ∧ (Lo L.1 c = -1 ∨ (0 ≤ Lo L.1 c ∧ Lo L.1 c < Lm L.1)) ∧ Lf L.1 c < 2 ^ Lm L.1 ∧ (Lm L.1 ≤ c → Lo L.1 c = -1 ∧ Lf L.1 c = 0)) ∧ (∀ c e, c < Lm L.1 → e < Lm L.1 → bN (Lf L.1 c) e = bN (Lf L.1 e) c) ∧ WL (Lc L.1) ∧ ∀ p c, (0 ≤ L.2 p c ∧ L.2 p c ≤ 20) ∧ (Lm L.1 ≤ c → L.2 p c = 0)
theorem pow_le8 {m : Nat} (h : m ≤ 8) : 2 ^ m ≤ 256 := by
  have := Nat.pow_le_pow_right (n := 2) (by omega) h
  exact this
theorem WB_WT {L : LB} (h : WB L) : WT L.1 := by
  refine ⟨h.1, h.2.1, fun p q _ _ => h.2.2.1 p q, fun c hc => ⟨(h.2.2.2.1 c).1 hc, (h.2.2.2.1 c).2.1, ?_⟩, h.2.2.2.2.1, h.2.2.2.2.2.1⟩
  have h1 := (h.2.2.2.1 c).2.2.1
  have h2 := pow_le8 h.1.2
  omega
theorem bN_p (x : Nat) : bN 0 x = 0 := by
  unfold bN
  simp
