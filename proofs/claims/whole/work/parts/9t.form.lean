/-! ===== what a text tells as a law ===== -/
def kul (w : List Int) : Int := if w = sbi 8 then 0 else if w = sbi 9 then 1 else if w = sbi 10 then 2 else if w = sbi 11 then 3 else if w = sbi 12 then 4 else -1
theorem kul_r (w : List Int) : kul w = -1 ∨ (0 ≤ kul w ∧ kul w ≤ 4 ∧ 1 ≤ w.length) := by
  unfold kul
  by_cases c8 : w = sbi 8
  · rw [if_pos c8]; subst c8; exact Or.inr (by decide +kernel)
  rw [if_neg c8]
  by_cases c9 : w = sbi 9
  · rw [if_pos c9]; subst c9; exact Or.inr (by decide +kernel)
  rw [if_neg c9]
  by_cases c10 : w = sbi 10
  · rw [if_pos c10]; subst c10; exact Or.inr (by decide +kernel)
  rw [if_neg c10]
  by_cases c11 : w = sbi 11
  · rw [if_pos c11]; subst c11; exact Or.inr (by decide +kernel)
  rw [if_neg c11]
  by_cases c12 : w = sbi 12
  · rw [if_pos c12]; subst c12; exact Or.inr (by decide +kernel)
  rw [if_neg c12]
  exact Or.inl rfl
/-- codes of a law, and the place behind -/
abbrev PF : Type := PX (List Int × Nat)
def lPar (T : List Int) : Option (Nat → PF) → Nat → PF
  | none, p => .error (3, p)
  | some r, p => (r (skB T (p + 1))).bind (fun z => (pSgn T 41 z.2).bind (fun q => .ok (z.1, q)))
def lUnit (T : List Int) (rec : Option (Nat → PF)) (p : Nat) : PF := if tat T p = 40 then lPar T rec p else if kul (wrd T p) = -1 then (pNum T 0 99 p).bind (fun r => .ok ([r.1], r.2)) else .ok ([100 + kul (wrd T p)], skB T (p + (wrd T p).length))
/-- the rest of a product -/
def lPr (T : List Int) (rec : Option (Nat → PF)) : Nat → Nat → PF
  | 0, p => .error (0, p)
  | g + 1, p => if tat T p = 42 then (lUnit T rec (skB T (p + 1))).bind (fun r => (lPr T rec g r.2).bind (fun z => .ok (r.1 ++ (107 :: z.1), z.2))) else .ok ([], p)
def lPro (T : List Int) (rec : Option (Nat → PF)) (p : Nat) : PF := (lUnit T rec p).bind (fun r => (lPr T rec (T.length + 1) r.2).bind (fun z => .ok (r.1 ++ z.1, z.2)))
def lSg (c : Int) : Int := if c = 43 then 105 else if c = 45 then 106 else -1
/-- the rest of a sum -/
def lSr (T : List Int) (rec : Option (Nat → PF)) : Nat → Nat → PF
  | 0, p => .error (0, p)
  | g + 1, p => if lSg (tat T p) = -1 then .ok ([], p) else (lPro T rec (skB T (p + 1))).bind (fun r => (lSr T rec g r.2).bind (fun z => .ok (r.1 ++ (lSg (tat T p) :: z.1), z.2)))
def lSu (T : List Int) (rec : Option (Nat → PF)) (p : Nat) : PF := (lPro T rec p).bind (fun r => (lSr T rec (T.length + 1) r.2).bind (fun z => .ok (r.1 ++ z.1, z.2)))
/-- x more ( may be -/
def lS (T : List Int) : Nat → Nat → PF
  | 0, p => lSu T none p
  | x + 1, p => lSu T (some (lS T x)) p
def lRec (T : List Int) : Nat → Option (Nat → PF)
  | 0 => none
  | x + 1 => some (lS T x)
theorem lS_s {T : List Int} {x p : Nat} : lS T x p = lSu T (lRec T x) p := by cases x <;> rfl
theorem lPr_s {T : List Int} {rec : Option (Nat → PF)} {g p : Nat} : lPr T rec (g + 1) p = if tat T p = 42 then (lUnit T rec (skB T (p + 1))).bind (fun r => (lPr T rec g r.2).bind (fun z => .ok (r.1 ++ (107 :: z.1), z.2))) else .ok ([], p) := rfl
theorem lSr_s {T : List Int} {rec : Option (Nat → PF)} {g p : Nat} : lSr T rec (g + 1) p = if lSg (tat T p) = -1 then .ok ([], p) else (lPro T rec (skB T (p + 1))).bind (fun r => (lSr T rec g r.2).bind (fun z => .ok (r.1 ++ (lSg (tat T p) :: z.1), z.2))) := rfl
/-- the stack's depth, from r on, at most M -/
def ck (M : Nat) : List Int → Nat → Option Nat
  | [], r => some r
  | c :: cs, r => if 0 ≤ c ∧ c ≤ 107 then (if c < 105 then (if r < M then ck M cs (r + 1) else none) else if 2 ≤ r then ck M cs (r - 1) else none) else none
theorem ck_app (M : Nat) : ∀ (a b : List Int) (r : Nat), ck M (a ++ b) r = (ck M a r).bind (ck M b)
  | [], b, r => rfl
  | c :: a, b, r => by
    show ck M (c :: (a ++ b)) r = _
    unfold ck
    split
    · split
      · split
        · exact ck_app M a b (r + 1)
        · rfl
      · split
        · exact ck_app M a b (r - 1)
        · rfl
    · rfl
theorem ck_n {M r : Nat} {c : Int} {cs : List Int} (hc : 0 ≤ c ∧ c < 105) (hr : r < M) : ck M (c :: cs) r = ck M cs (r + 1) := by
  show (if 0 ≤ c ∧ c ≤ 107 then (if c < 105 then (if r < M then ck M cs (r + 1) else none) else if 2 ≤ r then ck M cs (r - 1) else none) else none) = _
  rw [if_pos (by omega), if_pos (by omega), if_pos hr]
theorem ck_o {M r : Nat} {c : Int} {cs : List Int} (hc : 105 ≤ c ∧ c ≤ 107) (hr : 2 ≤ r) : ck M (c :: cs) r = ck M cs (r - 1) := by
  show (if 0 ≤ c ∧ c ≤ 107 then (if c < 105 then (if r < M then ck M cs (r + 1) else none) else if 2 ≤ r then ck M cs (r - 1) else none) else none) = _
  rw [if_pos (by omega), if_neg (by omega), if_pos hr]
def dpr (r : Nat) (cs : List Int) : Nat := cs.foldl (fun d c => if c < 105 then d + 1 else d - 1) r
theorem ck_dp (M : Nat) : ∀ (cs : List Int) (r e : Nat), ck M cs r = some e → dpr r cs = e ∧ ∀ (i : Nat) (c : Int), cs[i]? = some c → 0 ≤ c ∧ c ≤ 107 ∧ (c < 105 → dpr r (cs.take i) < M) ∧ (105 ≤ c → 2 ≤ dpr r (cs.take i))
  | [], r, e, h => by cases h; exact ⟨rfl, fun i c h => by cases h⟩
  | x :: cs, r, e, h => by
    have h' : (if 0 ≤ x ∧ x ≤ 107 then (if x < 105 then (if r < M then ck M cs (r + 1) else none) else if 2 ≤ r then ck M cs (r - 1) else none) else none) = some e := h
    have go : ∀ r2, (if x < 105 then r + 1 else r - 1) = r2 → ck M cs r2 = some e → 0 ≤ x ∧ x ≤ 107 → (x < 105 → r < M) → (105 ≤ x → 2 ≤ r) → dpr r (x :: cs) = e ∧ ∀ (i : Nat) (c : Int), (x :: cs)[i]? = some c → 0 ≤ c ∧ c ≤ 107 ∧ (c < 105 → dpr r ((x :: cs).take i) < M) ∧ (105 ≤ c → 2 ≤ dpr r ((x :: cs).take i)) := by
      intro r2 hr2 hc hx h1 h2
      have ih := ck_dp M cs r2 e hc
      refine ⟨?_, fun i c hi => ?_⟩
      · show dpr (if x < 105 then r + 1 else r - 1) cs = e
        rw [hr2]; exact ih.1
      · cases i with
        | zero => cases hi; exact ⟨hx.1, hx.2, h1, h2⟩
        | succ i =>
          have h9 := ih.2 i c hi
          show 0 ≤ c ∧ c ≤ 107 ∧ (c < 105 → dpr (if x < 105 then r + 1 else r - 1) (cs.take i) < M) ∧ (105 ≤ c → 2 ≤ dpr (if x < 105 then r + 1 else r - 1) (cs.take i))
          rw [hr2]; exact h9
    split at h'
    · rename_i hx
      split at h'
      · rename_i h5
        split at h'
        · rename_i hM
          exact go _ (if_pos h5) h' hx (fun _ => hM) (fun h => by omega)
        · cases h'
      · rename_i h5
        split at h'
        · rename_i hM
          exact go _ (if_neg h5) h' hx (fun h => absurd h h5) (fun _ => hM)
        · cases h'
    · cases h'
/-- told at p: codes that push one value, U deep at most -/
def LG (T : List Int) (U p : Nat) (r : List Int × Nat) : Prop := p + 1 ≤ r.2 ∧ AT T r.2 ∧ p + r.1.length ≤ r.2 ∧ ∀ d, d + U ≤ 32 → ck 32 r.1 d = some (d + 1)
/-- .. codes behind a value -/
def LR (T : List Int) (U p : Nat) (r : List Int × Nat) : Prop := p ≤ r.2 ∧ AT T r.2 ∧ p + r.1.length ≤ r.2 ∧ ∀ d, d + U ≤ 32 → ck 32 r.1 (d + 1) = some (d + 1)
def LH (T : List Int) (U : Nat) (rec : Option (Nat → PF)) : Prop := ∀ f, rec = some f → ∀ (p : Nat) (r : List Int × Nat), p ≤ T.length → f p = .ok r → LG T U p r
theorem lUnit_ok {T : List Int} {U : Nat} {rec : Option (Nat → PF)} (hU : 1 ≤ U) (hr : LH T U rec) {p : Nat} {r : List Int × Nat} (hp : p ≤ T.length) (h : lUnit T rec p = .ok r) : LG T U p r := by
  have hw := wrd_le hp
  unfold lUnit at h
  split at h
  · rename_i h40
    have hl := tat_in h40 (by decide)
    cases rec with
    | none => cases h
    | some f =>
      obtain ⟨z, hz, h⟩ := px_ok (show (f (skB T (p + 1))).bind _ = .ok r from h)
      obtain ⟨q, hq, h⟩ := px_ok h
      cases h
      have hs := AT_s (T := T) (p := p + 1) (by omega)
      obtain ⟨a1, a2, a3, a4⟩ := hr f rfl _ _ hs.1.1 hz
      unfold pSgn at hq
      split at hq
      · rename_i h41
        cases hq
        have hl2 := tat_in h41 (by decide)
        have hs2 := AT_s (T := T) (p := z.2 + 1) (by omega)
        have e1 := hs.2
        have e2 := hs2.2
        exact ⟨by show p + 1 ≤ skB T _; omega, hs2.1, by show p + z.1.length ≤ skB T _; omega, a4⟩
      · cases hq
  split at h
  · obtain ⟨x, hx, h⟩ := px_ok h
    cases h
    have h1 := pNum_ok hp hx
    exact ⟨h1.1, h1.2.1, h1.1, fun d hd => by rw [ck_n (by have := h1.2.2; omega) (by omega)]; rfl⟩
  · rename_i hk
    cases h
    have hk2 := kul_r (wrd T p)
    have hs := AT_s hw
    have e1 := hs.2
    exact ⟨by show p + 1 ≤ skB T _; omega, hs.1, by show p + 1 ≤ skB T _; omega, fun d hd => by rw [ck_n (by omega) (by omega)]; rfl⟩
theorem lPr_ok {T : List Int} {U : Nat} {rec : Option (Nat → PF)} (hU : 1 ≤ U) (hr : LH T U rec) : ∀ (g p : Nat) (r : List Int × Nat), AT T p → lPr T rec g p = .ok r → LR T (U + 1) p r := by
  intro g
  induction g with
  | zero => intro p r _ h; cases h
  | succ g ih =>
    intro p r hp h
    rw [lPr_s] at h
    split at h
    · rename_i h42
      have hl := tat_in h42 (by decide)
      have hs := AT_s (T := T) (p := p + 1) (by omega)
      obtain ⟨x, hx, h⟩ := px_ok h
      obtain ⟨z, hz, h⟩ := px_ok h
      cases h
      obtain ⟨a1, a2, a3, a4⟩ := lUnit_ok hU hr hs.1.1 hx
      obtain ⟨b1, b2, b3, b4⟩ := ih _ _ a2 hz
      have e1 := hs.2
      refine ⟨by show p ≤ z.2; omega, b2, ?_, fun d hd => ?_⟩
      · rw [List.length_append, List.length_cons]; show _ ≤ z.2; omega
      · rw [ck_app, a4 (d + 1) (by omega)]
        show ck 32 (107 :: z.1) (d + 1 + 1) = _
        rw [ck_o (by omega) (by omega)]
        exact b4 d hd
    · cases h
      exact ⟨Nat.le_refl _, hp, Nat.le_refl _, fun d _ => rfl⟩
theorem lPro_ok {T : List Int} {U : Nat} {rec : Option (Nat → PF)} (hU : 1 ≤ U) (hr : LH T U rec) {p : Nat} {r : List Int × Nat} (hp : p ≤ T.length) (h : lPro T rec p = .ok r) : LG T (U + 1) p r := by
  obtain ⟨x, hx, h⟩ := px_ok h
  obtain ⟨z, hz, h⟩ := px_ok h
  cases h
  obtain ⟨a1, a2, a3, a4⟩ := lUnit_ok hU hr hp hx
  obtain ⟨b1, b2, b3, b4⟩ := lPr_ok hU hr _ _ _ a2 hz
  refine ⟨by show p + 1 ≤ z.2; omega, b2, ?_, fun d hd => ?_⟩
  · rw [List.length_append]; show _ ≤ z.2; omega
  · rw [ck_app, a4 d (by omega)]
    exact b4 d hd
theorem lSg_r (c : Int) : lSg c = -1 ∨ (105 ≤ lSg c ∧ lSg c ≤ 106 ∧ c ≠ -1) := by
  unfold lSg
  split
  · exact Or.inr (by omega)
  split
  · exact Or.inr (by omega)
  · exact Or.inl rfl
theorem lSr_ok {T : List Int} {U : Nat} {rec : Option (Nat → PF)} (hU : 1 ≤ U) (hr : LH T U rec) : ∀ (g p : Nat) (r : List Int × Nat), AT T p → lSr T rec g p = .ok r → LR T (U + 2) p r := by
  intro g
  induction g with
  | zero => intro p r _ h; cases h
  | succ g ih =>
    intro p r hp h
    rw [lSr_s] at h
    split at h
    · cases h
      exact ⟨Nat.le_refl _, hp, Nat.le_refl _, fun d _ => rfl⟩
    · rename_i hs1
      have hsr := lSg_r (tat T p)
      have hl := tat_in (T := T) (p := p) rfl (by omega)
      have hs := AT_s (T := T) (p := p + 1) (by omega)
      obtain ⟨x, hx, h⟩ := px_ok h
      obtain ⟨z, hz, h⟩ := px_ok h
      cases h
      obtain ⟨a1, a2, a3, a4⟩ := lPro_ok hU hr hs.1.1 hx
      obtain ⟨b1, b2, b3, b4⟩ := ih _ _ a2 hz
      have e1 := hs.2
      refine ⟨by show p ≤ z.2; omega, b2, ?_, fun d hd => ?_⟩
      · rw [List.length_append, List.length_cons]; show _ ≤ z.2; omega
      · rw [ck_app, a4 (d + 1) (by omega)]
        show ck 32 (lSg (tat T p) :: z.1) (d + 1 + 1) = _
        rw [ck_o (by omega) (by omega)]
        exact b4 d hd
theorem lSu_ok {T : List Int} {U : Nat} {rec : Option (Nat → PF)} (hU : 1 ≤ U) (hr : LH T U rec) {p : Nat} {r : List Int × Nat} (hp : p ≤ T.length) (h : lSu T rec p = .ok r) : LG T (U + 2) p r := by
  obtain ⟨x, hx, h⟩ := px_ok h
  obtain ⟨z, hz, h⟩ := px_ok h
  cases h
  obtain ⟨a1, a2, a3, a4⟩ := lPro_ok hU hr hp hx
  obtain ⟨b1, b2, b3, b4⟩ := lSr_ok hU hr _ _ _ a2 hz
  refine ⟨by show p + 1 ≤ z.2; omega, b2, ?_, fun d hd => ?_⟩
  · rw [List.length_append]; show _ ≤ z.2; omega
  · rw [ck_app, a4 d (by omega)]
    exact b4 d hd
theorem lS_ok {T : List Int} : ∀ (x p : Nat) (r : List Int × Nat), p ≤ T.length → lS T x p = .ok r → LG T (2 * x + 3) p r := by
  intro x
  induction x with
  | zero => intro p r hp h; exact lSu_ok (U := 1) (Nat.le_refl _) (fun f h => by cases h) hp h
  | succ x ih => intro p r hp h; exact lSu_ok (U := 2 * x + 3) (by omega) (fun f hf p r hp h => by cases hf; exact ih p r hp h) hp h
theorem lRec_h {T : List Int} : ∀ x, LH T (2 * x + 1) (lRec T x)
  | 0 => fun f h => by cases h
  | x + 1 => fun f hf p r hp h => by cases hf; exact lS_ok x p r hp h
theorem lS_WL {T : List Int} {x p : Nat} {r : List Int × Nat} (hx : x ≤ 6) (hT : T.length ≤ 600) (hp : p ≤ T.length) (h : lS T x p = .ok r) : WL r.1 := by
  obtain ⟨h1, h2, h3, h4⟩ := lS_ok x p r hp h
  have h5 := ck_dp 32 r.1 0 1 (h4 0 (by omega))
  have h21 := h2.1
  exact ⟨by omega, h5.1, fun i c hi => h5.2 i c hi⟩
