/-! ===== a land that a text tells is well formed ===== -/
theorem bN_tt (x e : Nat) : bN x e = if x.testBit e then 1 else 0 := by
  unfold bN
  rw [Nat.testBit_eq_decide_div_mod_eq]
  by_cases h : x / 2 ^ e % 2 = 1
  · rw [if_pos (by simp [h]), h]
  · rw [if_neg (by simp [h])]; omega
theorem bN_or {x d e : Nat} : bN (x ||| 2 ^ d) e = if e = d then 1 else bN x e := by
  rw [bN_tt, bN_tt, Nat.testBit_or, Nat.testBit_two_pow]
  by_cases h : e = d
  · subst h; simp
  · rw [if_neg h]
    have : ¬ d = e := fun h2 => h h2.symm
    simp [this]
theorem bN_lt {x m e : Nat} (h : x < 2 ^ m) (he : m ≤ e) : bN x e = 0 := by
  unfold bN
  have := Nat.pow_le_pow_right (n := 2) (by omega) he
  rw [Nat.div_eq_of_lt (by omega)]
theorem WB_0 : WB L00 := by
  refine ⟨⟨Nat.zero_le _, Nat.zero_le _⟩, fun p h => absurd h (Nat.not_lt_zero p), fun p q => ⟨⟨Int.le_refl 0, show (0 : Int) ≤ 24 by decide⟩, rfl, rfl⟩, fun c => ⟨fun h => absurd h (Nat.not_lt_zero c), Or.inl rfl, Nat.one_pos, fun _ => ⟨rfl, rfl⟩⟩, fun c e h => absurd h (Nat.not_lt_zero c), ⟨by decide, by decide, fun i c h => ?_⟩, fun p c => ⟨⟨Int.le_refl 0, show (0 : Int) ≤ 20 by decide⟩, fun _ => rfl⟩⟩
  cases i with
  | zero => cases h; exact ⟨by decide, by decide, fun _ => by decide, fun h => absurd h (by decide)⟩
  | succ i => cases h
theorem WB_place {L : LB} {k : Int} (h : WB L) (hk : 0 ≤ k ∧ k ≤ 3) (hn : Ln L.1 ≠ 10) : WB (aPlace L k) := by
  obtain ⟨h1, h2, h3, h4, h5, h6, h7⟩ := h
  refine ⟨⟨by show Ln L.1 + 1 ≤ 10; omega, h1.2⟩, fun p hp => ?_, h3, h4, h5, h6, h7⟩
  have hp : p < Ln L.1 + 1 := hp
  show 0 ≤ lu (Lk L.1) (Ln L.1) k p ∧ lu (Lk L.1) (Ln L.1) k p ≤ 3
  unfold lu
  split
  · exact hk
  · exact h2 p (by omega)
theorem WB_camel {L : LB} {g : Int} (h : WB L) (hg : 0 ≤ g ∧ g ≤ 99) (hn : Lm L.1 ≠ 8) : WB (aCamel L g) := by
  obtain ⟨h1, h2, h3, h4, h5, h6, h7⟩ := h
  have hpw : 2 ^ (Lm L.1 + 1) = 2 * 2 ^ Lm L.1 := by rw [Nat.pow_succ]; omega
  refine ⟨⟨h1.1, by show Lm L.1 + 1 ≤ 8; omega⟩, h2, h3, fun c => ⟨fun hc => ?_, ?_, ?_, fun hc => (h4 c).2.2.2 (by have : Lm L.1 + 1 ≤ c := hc; omega)⟩, fun c e hc he => ?_, h6, fun p c => ⟨(h7 p c).1, fun hc => (h7 p c).2 (by have : Lm L.1 + 1 ≤ c := hc; omega)⟩⟩
  · have hc : c < Lm L.1 + 1 := hc
    show 0 ≤ lu (Lp L.1) (Lm L.1) g c ∧ lu (Lp L.1) (Lm L.1) g c ≤ 99
    unfold lu
    split
    · exact hg
    · exact (h4 c).1 (by omega)
  · show Lo L.1 c = -1 ∨ (0 ≤ Lo L.1 c ∧ Lo L.1 c < ((Lm L.1 + 1 : Nat) : Int))
    have := (h4 c).2.1
    omega
  · show Lf L.1 c < 2 ^ (Lm L.1 + 1)
    have := (h4 c).2.2.1
    omega
  · have hc : c < Lm L.1 + 1 := hc
    have he : e < Lm L.1 + 1 := he
    show bN (Lf L.1 c) e = bN (Lf L.1 e) c
    by_cases c1 : c = Lm L.1
    · by_cases e1 : e = Lm L.1
      · rw [c1, e1]
      · rw [((h4 c).2.2.2 (by omega)).2, bN_p, bN_lt (h4 e).2.2.1 (by omega)]
    · by_cases e1 : e = Lm L.1
      · rw [((h4 e).2.2.2 (by omega)).2, bN_p, bN_lt (h4 c).2.2.1 (by omega)]
      · exact h5 c e (by omega) (by omega)
theorem WB_road {L : LB} {a b : Nat} {v : Int} (h : WB L) (hab : a ≠ b) (hv : 1 ≤ v ∧ v ≤ 24) : WB (aRoad L a b v) := by
  obtain ⟨h1, h2, h3, h4, h5, h6, h7⟩ := h
  refine ⟨h1, h2, fun p q => ?_, h4, h5, h6, h7⟩
  have h9 := h3 p q
  have hg : ∀ x y, gu (gu (Lr L.1) a b v) b a v x y = if (x = b ∧ y = a) ∨ (x = a ∧ y = b) then v else Lr L.1 x y := by
    intro x y
    unfold gu
    by_cases c1 : x = b ∧ y = a
    · rw [if_pos c1, if_pos (Or.inl c1)]
    · rw [if_neg c1]
      by_cases c2 : x = a ∧ y = b
      · rw [if_pos c2, if_pos (Or.inr c2)]
      · rw [if_neg c2, if_neg (by rintro (h | h); exact c1 h; exact c2 h)]
  show (0 ≤ gu (gu (Lr L.1) a b v) b a v p q ∧ gu (gu (Lr L.1) a b v) b a v p q ≤ 24) ∧ gu (gu (Lr L.1) a b v) b a v p q = gu (gu (Lr L.1) a b v) b a v q p ∧ gu (gu (Lr L.1) a b v) b a v p p = 0
  rw [hg, hg, hg]
  refine ⟨?_, ?_, ?_⟩
  · split
    · omega
    · exact h9.1
  · by_cases c1 : (p = b ∧ q = a) ∨ (p = a ∧ q = b)
    · rw [if_pos c1, if_pos (by rcases c1 with ⟨x, y⟩ | ⟨x, y⟩; exact Or.inr ⟨y, x⟩; exact Or.inl ⟨y, x⟩)]
    · rw [if_neg c1, if_neg (by intro c2; apply c1; rcases c2 with ⟨x, y⟩ | ⟨x, y⟩; exact Or.inr ⟨y, x⟩; exact Or.inl ⟨y, x⟩)]
      exact h9.2.1
  · rw [if_neg (by rintro (⟨x, y⟩ | ⟨x, y⟩) <;> omega)]
    exact h9.2.2
theorem WB_hurt {L : LB} {c p : Nat} {v : Int} (h : WB L) (hc : c < Lm L.1) (hv : 1 ≤ v ∧ v ≤ 20) : WB (aHurt L c p v) := by
  obtain ⟨h1, h2, h3, h4, h5, h6, h7⟩ := h
  refine ⟨h1, h2, h3, h4, h5, h6, fun q e => ?_⟩
  have h9 := h7 q e
  show (0 ≤ gu L.2 p c (min 20 (L.2 p c + v)) q e ∧ gu L.2 p c (min 20 (L.2 p c + v)) q e ≤ 20) ∧ (Lm L.1 ≤ e → gu L.2 p c (min 20 (L.2 p c + v)) q e = 0)
  unfold gu
  by_cases c1 : q = p ∧ e = c
  · rw [if_pos c1]
    have h8 := (h7 p c).1
    exact ⟨by omega, fun h => by omega⟩
  · rw [if_neg c1]
    exact h9
theorem WB_calf {L : LB} {c : Nat} {m : Int} (h : WB L) (hc : c < Lm L.1) (hm : 0 ≤ m ∧ m < (Lm L.1 : Int)) : WB (aCalf L c m) := by
  obtain ⟨h1, h2, h3, h4, h5, h6, h7⟩ := h
  refine ⟨h1, h2, h3, fun e => ?_, h5, h6, h7⟩
  have h9 := h4 e
  refine ⟨h9.1, ?_, h9.2.2.1, fun he => ⟨?_, (h9.2.2.2 he).2⟩⟩
  · show lu (Lo L.1) c m e = -1 ∨ (0 ≤ lu (Lo L.1) c m e ∧ lu (Lo L.1) c m e < (Lm L.1 : Int))
    unfold lu
    split
    · exact Or.inr hm
    · exact h9.2.1
  · show lu (Lo L.1) c m e = -1
    have he : Lm L.1 ≤ e := he
    rw [lu_n (by omega)]
    exact (h9.2.2.2 he).1
theorem WB_foe {L : LB} {c d : Nat} (h : WB L) (hc : c < Lm L.1) (hd : d < Lm L.1) (hcd : c ≠ d) : WB (aFoe L c d) := by
  obtain ⟨h1, h2, h3, h4, h5, h6, h7⟩ := h
  have hpc := Nat.pow_lt_pow_right (a := 2) (by omega) hc
  have hpd := Nat.pow_lt_pow_right (a := 2) (by omega) hd
  have hf : ∀ x, lu (lu (Lf L.1) c (Lf L.1 c ||| 2 ^ d)) d (Lf L.1 d ||| 2 ^ c) x = if x = d then Lf L.1 d ||| 2 ^ c else if x = c then Lf L.1 c ||| 2 ^ d else Lf L.1 x := fun x => rfl
  refine ⟨h1, h2, h3, fun e => ?_, fun x y hx hy => ?_, h6, h7⟩
  · have h9 := h4 e
    refine ⟨h9.1, h9.2.1, ?_, fun he => ⟨(h9.2.2.2 he).1, ?_⟩⟩
    · show lu (lu (Lf L.1) c (Lf L.1 c ||| 2 ^ d)) d (Lf L.1 d ||| 2 ^ c) e < 2 ^ Lm L.1
      rw [hf]
      split
      · exact Nat.or_lt_two_pow (h4 d).2.2.1 hpc
      split
      · exact Nat.or_lt_two_pow (h4 c).2.2.1 hpd
      · exact h9.2.2.1
    · show lu (lu (Lf L.1) c (Lf L.1 c ||| 2 ^ d)) d (Lf L.1 d ||| 2 ^ c) e = 0
      have he : Lm L.1 ≤ e := he
      rw [hf, if_neg (by omega), if_neg (by omega)]
      exact (h9.2.2.2 he).2
  · have h9 := h5 x y hx hy
    have hk : ∀ x y, bN (lu (lu (Lf L.1) c (Lf L.1 c ||| 2 ^ d)) d (Lf L.1 d ||| 2 ^ c) x) y = if (x = d ∧ y = c) ∨ (x = c ∧ y = d) then 1 else bN (Lf L.1 x) y := by
      intro x y
      rw [hf]
      by_cases e1 : x = d
      · subst e1
        rw [if_pos rfl, bN_or]
        by_cases e2 : y = c
        · rw [if_pos e2, if_pos (Or.inl ⟨rfl, e2⟩)]
        · rw [if_neg e2, if_neg (by rintro (⟨_, h⟩ | ⟨h, _⟩); exact e2 h; exact hcd h.symm)]
      · rw [if_neg e1]
        by_cases e2 : x = c
        · subst e2
          rw [if_pos rfl, bN_or]
          by_cases e3 : y = d
          · rw [if_pos e3, if_pos (Or.inr ⟨rfl, e3⟩)]
          · rw [if_neg e3, if_neg (by rintro (⟨h, _⟩ | ⟨_, h⟩); exact e1 h; exact e3 h)]
        · rw [if_neg e2, if_neg (by rintro (⟨h, _⟩ | ⟨h, _⟩); exact e1 h; exact e2 h)]
    show bN (lu (lu (Lf L.1) c (Lf L.1 c ||| 2 ^ d)) d (Lf L.1 d ||| 2 ^ c) x) y = bN (lu (lu (Lf L.1) c (Lf L.1 c ||| 2 ^ d)) d (Lf L.1 d ||| 2 ^ c) y) x
    rw [hk, hk]
    by_cases c1 : (x = d ∧ y = c) ∨ (x = c ∧ y = d)
    · rw [if_pos c1, if_pos (by rcases c1 with ⟨g, g2⟩ | ⟨g, g2⟩; exact Or.inr ⟨g2, g⟩; exact Or.inl ⟨g2, g⟩)]
    · rw [if_neg c1, if_neg (by intro c2; apply c1; rcases c2 with ⟨g, g2⟩ | ⟨g, g2⟩; exact Or.inr ⟨g2, g⟩; exact Or.inl ⟨g2, g⟩)]
      exact h9
theorem WB_law {L : LB} {cs : List Int} (h : WB L) (hc : WL cs) : WB (aLaw L cs) := ⟨h.1, h.2.1, h.2.2.1, h.2.2.2.1, h.2.2.2.2.1, hc, h.2.2.2.2.2.2⟩
theorem pOth_ok {T : List Int} {hi x : Int} {p : Nat} {r : Int × Nat} (hp : p ≤ T.length) (h : pOth T hi x p = .ok r) : p + 1 ≤ r.2 ∧ AT T r.2 ∧ 0 ≤ r.1 ∧ r.1 ≤ hi ∧ r.1 ≠ x := by
  obtain ⟨y, hy, h⟩ := px_ok h
  have h1 := pNum_ok hp hy
  split at h
  · cases h
  · rename_i hne
    cases h
    exact ⟨h1.1, h1.2.1, h1.2.2.1, h1.2.2.2, hne⟩
theorem cBody_ok {T : List Int} {L : LB} {k : Int} {q cnt : Nat} {r : LB × Nat} (hT : T.length ≤ 600) (hq : q ≤ T.length) (hb : ¬ cBad cnt L k) (hk : 0 ≤ k ∧ k ≤ 6) (hW : WB L) (h : cBody T L k q = .ok r) : q + 1 ≤ r.2 ∧ AT T r.2 ∧ WB r.1 := by
  unfold cBody at h
  split at h
  · obtain ⟨x, hx, h⟩ := px_ok h
    cases h
    have h1 := pNum_ok hq hx
    exact ⟨h1.1, h1.2.1, WB_place hW h1.2.2 (fun e => hb (Or.inr (Or.inl ⟨by assumption, e⟩)))⟩
  split at h
  · obtain ⟨a, ha, h⟩ := px_ok h
    obtain ⟨b, hb2, h⟩ := px_ok h
    obtain ⟨v, hv, h⟩ := px_ok h
    cases h
    have h1 := pNum_ok hq ha
    have h2 := pOth_ok h1.2.1.1 hb2
    have h3 := pNum_ok h2.2.1.1 hv
    exact ⟨by have := h1.1; have := h2.1; have := h3.1; show q + 1 ≤ v.2; omega, h3.2.1, WB_road hW (by have := h2.2.2; have := h1.2.2; omega) h3.2.2⟩
  split at h
  · obtain ⟨x, hx, h⟩ := px_ok h
    cases h
    have h1 := pNum_ok hq hx
    exact ⟨h1.1, h1.2.1, WB_camel hW h1.2.2 (fun e => hb (Or.inr (Or.inr ⟨by assumption, e⟩)))⟩
  split at h
  · obtain ⟨a, ha, h⟩ := px_ok h
    obtain ⟨b, hb2, h⟩ := px_ok h
    obtain ⟨v, hv, h⟩ := px_ok h
    cases h
    have h1 := pNum_ok hq ha
    have h2 := pNum_ok h1.2.1.1 hb2
    have h3 := pNum_ok h2.2.1.1 hv
    exact ⟨by have := h1.1; have := h2.1; have := h3.1; show q + 1 ≤ v.2; omega, h3.2.1, WB_hurt hW (by have := h1.2.2; omega) h3.2.2⟩
  split at h
  · obtain ⟨a, ha, h⟩ := px_ok h
    obtain ⟨b, hb2, h⟩ := px_ok h
    cases h
    have h1 := pNum_ok hq ha
    have h2 := pOth_ok h1.2.1.1 hb2
    exact ⟨by have := h1.1; have := h2.1; show q + 1 ≤ b.2; omega, h2.2.1, WB_calf hW (by have := h1.2.2; omega) (by have := h2.2.2; omega)⟩
  split at h
  · obtain ⟨a, ha, h⟩ := px_ok h
    obtain ⟨b, hb2, h⟩ := px_ok h
    cases h
    have h1 := pNum_ok hq ha
    have h2 := pOth_ok h1.2.1.1 hb2
    exact ⟨by have := h1.1; have := h2.1; show q + 1 ≤ b.2; omega, h2.2.1, WB_foe hW (by have := h1.2.2; omega) (by have := h2.2.2; omega) (by have := h2.2.2; have := h1.2.2; omega)⟩
  · obtain ⟨x, hx, h⟩ := px_ok h
    cases h
    have h1 := lS_ok 6 q x hq hx
    exact ⟨h1.1, h1.2.1, WB_law hW (lS_WL (by omega) hT hq hx)⟩
theorem cClause_ok {T : List Int} {L : LB} {p cnt : Nat} {r : LB × Nat} (hT : T.length ≤ 600) (hp : p ≤ T.length) (hW : WB L) (h : cClause T cnt L p = .ok r) : p + 4 ≤ r.2 ∧ AT T r.2 ∧ WB r.1 ∧ cnt ≠ 60 := by
  unfold cClause at h
  split at h
  · cases h
  split at h
  · cases h
  · rename_i h1 h2
    have hw := wrd_le hp
    have hs := AT_s hw
    have hk := kcl_r (wrd T p)
    have h3 := cBody_ok hT hs.1.1 h2 (by omega) hW h
    exact ⟨by have := h3.1; have := hs.2; omega, h3.2.1, h3.2.2, fun e => h2 (Or.inl e)⟩
theorem cCl_ok {T : List Int} (hT : T.length ≤ 600) : ∀ (f cnt : Nat) (L : LB) (p : Nat) (r : LB), p ≤ T.length → WB L → cCl T f cnt L p = .ok r → WB r := by
  intro f
  induction f with
  | zero => intro cnt L p r _ _ h; cases h
  | succ f ih =>
    intro cnt L p r hp hW h
    rw [cCl_s] at h
    split at h
    · cases h; exact hW
    · obtain ⟨x, hx, h⟩ := px_ok h
      obtain ⟨q, hq, h⟩ := px_ok h
      have h1 := cClause_ok hT hp hW hx
      unfold pSgn at hq
      split at hq
      · rename_i h59
        cases hq
        have hl := tat_in h59 (by decide)
        exact ih _ _ _ _ (AT_s (by omega)).1.1 h1.2.2.1 h
      · cases hq
theorem lno_WB {B : List Int} {n : Nat} {L : LB} (hB : (B.take n).length ≤ 600) (h : lno B n = .ok L) : WB L := cCl_ok hB _ _ _ _ _ (AT_s (Nat.zero_le _)).1.1 WB_0 h
