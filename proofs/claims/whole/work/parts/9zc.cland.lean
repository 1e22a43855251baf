/-! ===== the class reads a land ===== -/
/-- the class's Land at ld holds what is told -/
def CLB (I : jx_I) (ld : Nat) (L : LB) : Prop := ((I ld 7).toInt = (Ln L.1 : Int) ∧ (I ld 8).toInt = (Lm L.1 : Int)) ∧ (∀ p, p < Ln L.1 → (I (ld + 1) p).toInt = Lk L.1 p) ∧ (∀ p q, p < 10 → q < 10 → (I (ld + 2) (p * 10 + q)).toInt = Lr L.1 p q) ∧ (∀ c, c < Lm L.1 → (I (ld + 3) c).toInt = Lp L.1 c) ∧ (∀ c, c < 8 → (I (ld + 4) c).toInt = Lo L.1 c ∧ (I (ld + 5) c).toInt = (Lf L.1 c : Int)) ∧ (∀ p c, p < 10 → c < 8 → (I (ld + 6) (p * 8 + c)).toInt = L.2 p c) ∧ LW I (ld + 7) (Lc L.1)
theorem CLB_LD {I : jx_I} {ld : Nat} {L : LB} (h : CLB I ld L) (hW : WB L) : LD I ld L.1 := by
  obtain ⟨h1, h2, h3, h4, h5, h6, h7⟩ := h
  have hn := hW.1
  exact ⟨h1, h2, fun p q hp hq => h3 p q (by omega) (by omega), fun c hc => ⟨h4 c hc, (h5 c (by omega)).1, (h5 c (by omega)).2⟩, fun _ => h7⟩
theorem CLB_of {I I' : jx_I} {ld : Nat} {L : LB} (h : CLB I ld L) (e : ∀ q, ld ≤ q → q < ld + 9 → I' q = I q) : CLB I' ld L := by
  unfold CLB LW
  rw [e ld (by omega) (by omega), e (ld + 1) (by omega) (by omega), e (ld + 2) (by omega) (by omega), e (ld + 3) (by omega) (by omega), e (ld + 4) (by omega) (by omega), e (ld + 5) (by omega) (by omega), e (ld + 6) (by omega) (by omega), e (ld + 7) (by omega) (by omega), e (ld + 7 + 1) (by omega) (by omega)]
  exact h
/-- only the Land and the Tape change -/
def FLd (ld tp : Nat) (I I' : jx_I) : Prop := ∀ q, q ≠ tp → (q < ld ∨ ld + 9 ≤ q) → I' q = I q
theorem FLd_t {ld tp : Nat} {I I' : jx_I} (h : FR tp (tp + 1) I I') : FLd ld tp I I' := fun q a _ => h q (by omega)
theorem FLd_u {ld tp a k : Nat} {x : Int32} {I I' : jx_I} (h : FLd ld tp I I') (ha : ld ≤ a ∧ a < ld + 9) : FLd ld tp I (jx_u I' a k x) := fun q h1 h2 => by rw [jx_u_r _ _ _ (by omega)]; exact h q h1 h2
theorem FLd_trans {ld tp : Nat} {I I1 I2 : jx_I} (h : FLd ld tp I I1) (h2 : FLd ld tp I1 I2) : FLd ld tp I I2 := fun q a b => (h2 q a b).trans (h q a b)
/-- what a clause's methods answer -/
def CDA (ld tp : Nat) (T : List Int) (fd : Int) (I : jx_I) (Y : PB) (rv : Option Value) (I' : jx_I) : Prop := (∃ r : Int, rv = some (jy r) ∧ ((r = 1 ∧ ∃ w, Y = .ok w ∧ CST I' tp T fd (.ok w.2) ∧ CLB I' ld w.1) ∨ (r = 0 ∧ ∃ e, Y = .error e ∧ CST I' tp T fd (.error e)))) ∧ FLd ld tp I I'
theorem CLB_place {I : jx_I} {ld : Nat} {L : LB} {k w : Int} (h : CLB I ld L) (hk : 0 ≤ k ∧ k ≤ 3) (hn : Ln L.1 < 10) (hw : w = (Ln L.1 : Int) + 1) : CLB (jx_u (jx_u I (ld + 1) (Ln L.1) (Int32.ofInt k)) ld 7 (Int32.ofInt w)) ld (aPlace L k) := by
  subst hw
  obtain ⟨h1, h2, h3, h4, h5, h6, h7⟩ := h
  have e : ∀ q, q ≠ ld → q ≠ ld + 1 → jx_u (jx_u I (ld + 1) (Ln L.1) (Int32.ofInt k)) ld 7 (Int32.ofInt ((Ln L.1 : Int) + 1)) q = I q := fun q a b => by rw [jx_u_r _ _ _ a, jx_u_r _ _ _ b]
  refine ⟨⟨by rw [jx_u_s]; exact jy_toInt (by omega), ?_⟩, fun p hp => ?_, ?_, ?_, ?_, ?_, ?_⟩
  · rw [jx_u_k _ _ _ _ (by decide), jx_u_r _ _ _ (by omega)]; exact h1.2
  · have hp : p < Ln L.1 + 1 := hp
    rw [jx_u_r _ _ _ (by omega)]
    show _ = lu (Lk L.1) (Ln L.1) k p
    by_cases c : p = Ln L.1
    · subst c; rw [jx_u_s, lu_s]; exact jy_toInt (by omega)
    · rw [jx_u_k _ _ _ _ c, lu_n c]; exact h2 p (by omega)
  · rw [e (ld + 2) (by omega) (by omega)]; exact h3
  · rw [e (ld + 3) (by omega) (by omega)]; exact h4
  · rw [e (ld + 4) (by omega) (by omega), e (ld + 5) (by omega) (by omega)]; exact h5
  · rw [e (ld + 6) (by omega) (by omega)]; exact h6
  · unfold LW; rw [e (ld + 7) (by omega) (by omega), e (ld + 7 + 1) (by omega) (by omega)]; exact h7
theorem CLB_camel {I : jx_I} {ld : Nat} {L : LB} {k w : Int} (h : CLB I ld L) (hk : 0 ≤ k ∧ k ≤ 99) (hn : Lm L.1 < 8) (hw : w = (Lm L.1 : Int) + 1) : CLB (jx_u (jx_u I (ld + 3) (Lm L.1) (Int32.ofInt k)) ld 8 (Int32.ofInt w)) ld (aCamel L k) := by
  subst hw
  obtain ⟨h1, h2, h3, h4, h5, h6, h7⟩ := h
  have e : ∀ q, q ≠ ld → q ≠ ld + 3 → jx_u (jx_u I (ld + 3) (Lm L.1) (Int32.ofInt k)) ld 8 (Int32.ofInt ((Lm L.1 : Int) + 1)) q = I q := fun q a b => by rw [jx_u_r _ _ _ a, jx_u_r _ _ _ b]
  refine ⟨⟨?_, by rw [jx_u_s]; exact jy_toInt (by omega)⟩, ?_, ?_, fun c hc => ?_, ?_, ?_, ?_⟩
  · rw [jx_u_k _ _ _ _ (by decide), jx_u_r _ _ _ (by omega)]; exact h1.1
  · rw [e (ld + 1) (by omega) (by omega)]; exact h2
  · rw [e (ld + 2) (by omega) (by omega)]; exact h3
  · have hc : c < Lm L.1 + 1 := hc
    rw [jx_u_r _ _ _ (by omega)]
    show _ = lu (Lp L.1) (Lm L.1) k c
    by_cases c1 : c = Lm L.1
    · subst c1; rw [jx_u_s, lu_s]; exact jy_toInt (by omega)
    · rw [jx_u_k _ _ _ _ c1, lu_n c1]; exact h4 c (by omega)
  · rw [e (ld + 4) (by omega) (by omega), e (ld + 5) (by omega) (by omega)]; exact h5
  · rw [e (ld + 6) (by omega) (by omega)]; exact h6
  · unfold LW; rw [e (ld + 7) (by omega) (by omega), e (ld + 7 + 1) (by omega) (by omega)]; exact h7
theorem CLB_road {I : jx_I} {ld a b i j : Nat} {L : LB} {v : Int} (h : CLB I ld L) (ha : a < 10) (hb : b < 10) (hv : 1 ≤ v ∧ v ≤ 24) (hi : i = a * 10 + b) (hj : j = b * 10 + a) : CLB (jx_u (jx_u I (ld + 2) i (Int32.ofInt v)) (ld + 2) j (Int32.ofInt v)) ld (aRoad L a b v) := by
  subst hi; subst hj
  obtain ⟨h1, h2, h3, h4, h5, h6, h7⟩ := h
  have e : ∀ q, q ≠ ld + 2 → jx_u (jx_u I (ld + 2) (a * 10 + b) (Int32.ofInt v)) (ld + 2) (b * 10 + a) (Int32.ofInt v) q = I q := fun q a => by rw [jx_u_r _ _ _ a, jx_u_r _ _ _ a]
  refine ⟨by rw [e ld (by omega)]; exact h1, by rw [e (ld + 1) (by omega)]; exact h2, fun p q hp hq => ?_, by rw [e (ld + 3) (by omega)]; exact h4, by rw [e (ld + 4) (by omega), e (ld + 5) (by omega)]; exact h5, by rw [e (ld + 6) (by omega)]; exact h6, by unfold LW; rw [e (ld + 7) (by omega), e (ld + 7 + 1) (by omega)]; exact h7⟩
  show _ = gu (gu (Lr L.1) a b v) b a v p q
  unfold gu
  by_cases c1 : p = b ∧ q = a
  · rw [if_pos c1, c1.1, c1.2, jx_u_s]; exact jy_toInt (by omega)
  · rw [if_neg c1, jx_u_k _ _ _ _ (by omega)]
    by_cases c2 : p = a ∧ q = b
    · rw [if_pos c2, c2.1, c2.2, jx_u_s]; exact jy_toInt (by omega)
    · rw [if_neg c2, jx_u_k _ _ _ _ (by omega)]
      exact h3 p q hp hq
theorem CLB_hurt {I : jx_I} {ld c p i : Nat} {L : LB} {v w : Int} (h : CLB I ld L) (hc : c < 8) (hp : p < 10) (hi : i = p * 8 + c) (hw : w = min 20 (L.2 p c + v)) (hr : -2147483648 ≤ w ∧ w < 2147483648) : CLB (jx_u I (ld + 6) i (Int32.ofInt w)) ld (aHurt L c p v) := by
  subst hi
  obtain ⟨h1, h2, h3, h4, h5, h6, h7⟩ := h
  have e : ∀ q, q ≠ ld + 6 → jx_u I (ld + 6) (p * 8 + c) (Int32.ofInt w) q = I q := fun q a => by rw [jx_u_r _ _ _ a]
  refine ⟨by rw [e ld (by omega)]; exact h1, by rw [e (ld + 1) (by omega)]; exact h2, by rw [e (ld + 2) (by omega)]; exact h3, by rw [e (ld + 3) (by omega)]; exact h4, by rw [e (ld + 4) (by omega), e (ld + 5) (by omega)]; exact h5, fun q x hq hx => ?_, by unfold LW; rw [e (ld + 7) (by omega), e (ld + 7 + 1) (by omega)]; exact h7⟩
  show _ = gu L.2 p c (min 20 (L.2 p c + v)) q x
  unfold gu
  by_cases c1 : q = p ∧ x = c
  · rw [if_pos c1, c1.1, c1.2, jx_u_s, ← hw]; exact jy_toInt hr
  · rw [if_neg c1, jx_u_k _ _ _ _ (by omega)]
    exact h6 q x hq hx
theorem CLB_calf {I : jx_I} {ld c : Nat} {L : LB} {m : Int} (h : CLB I ld L) (hm : -2147483648 ≤ m ∧ m < 2147483648) : CLB (jx_u I (ld + 4) c (Int32.ofInt m)) ld (aCalf L c m) := by
  obtain ⟨h1, h2, h3, h4, h5, h6, h7⟩ := h
  have e : ∀ q, q ≠ ld + 4 → jx_u I (ld + 4) c (Int32.ofInt m) q = I q := fun q a => by rw [jx_u_r _ _ _ a]
  refine ⟨by rw [e ld (by omega)]; exact h1, by rw [e (ld + 1) (by omega)]; exact h2, by rw [e (ld + 2) (by omega)]; exact h3, by rw [e (ld + 3) (by omega)]; exact h4, fun x hx => ⟨?_, by rw [e (ld + 5) (by omega)]; exact (h5 x hx).2⟩, by rw [e (ld + 6) (by omega)]; exact h6, by unfold LW; rw [e (ld + 7) (by omega), e (ld + 7 + 1) (by omega)]; exact h7⟩
  show _ = lu (Lo L.1) c m x
  by_cases c1 : x = c
  · subst c1; rw [jx_u_s, lu_s]; exact jy_toInt hm
  · rw [jx_u_k _ _ _ _ c1, lu_n c1]; exact (h5 x hx).1
theorem CLB_foe {I : jx_I} {ld c d : Nat} {L : LB} {v w : Int} (h : CLB I ld L) (hcd : c ≠ d) (hv : v = ((Lf L.1 c ||| 2 ^ d : Nat) : Int)) (hw : w = ((Lf L.1 d ||| 2 ^ c : Nat) : Int)) (hv2 : v < 2147483648) (hw2 : w < 2147483648) : CLB (jx_u (jx_u I (ld + 5) c (Int32.ofInt v)) (ld + 5) d (Int32.ofInt w)) ld (aFoe L c d) := by
  obtain ⟨h1, h2, h3, h4, h5, h6, h7⟩ := h
  have e : ∀ q, q ≠ ld + 5 → jx_u (jx_u I (ld + 5) c (Int32.ofInt v)) (ld + 5) d (Int32.ofInt w) q = I q := fun q a => by rw [jx_u_r _ _ _ a, jx_u_r _ _ _ a]
  refine ⟨by rw [e ld (by omega)]; exact h1, by rw [e (ld + 1) (by omega)]; exact h2, by rw [e (ld + 2) (by omega)]; exact h3, by rw [e (ld + 3) (by omega)]; exact h4, fun x hx => ⟨by rw [e (ld + 4) (by omega)]; exact (h5 x hx).1, ?_⟩, by rw [e (ld + 6) (by omega)]; exact h6, by unfold LW; rw [e (ld + 7) (by omega), e (ld + 7 + 1) (by omega)]; exact h7⟩
  show _ = ((lu (lu (Lf L.1) c (Lf L.1 c ||| 2 ^ d)) d (Lf L.1 d ||| 2 ^ c) x : Nat) : Int)
  by_cases c1 : x = d
  · subst c1; rw [jx_u_s, lu_s, ← hw]; exact jy_toInt (by omega)
  · rw [jx_u_k _ _ _ _ c1, lu_n c1]
    by_cases c2 : x = c
    · subst c2; rw [jx_u_s, lu_s, ← hv]; exact jy_toInt (by omega)
    · rw [jx_u_k _ _ _ _ c2, lu_n c2]; exact (h5 x hx).2
/-- GrievingCamels$Land.readPlaceName -/
theorem cz_34 {V : jx_V} (hV : V.1.stackTraces = false) {X : jx_X} {R : jx_R} {I : jx_I} {a0 : Nat} {a1 : Nat} {T : List Int} {fd wf we nf : Int} {p n : Nat}
    (hl : BX X R a0 TLand) (ht : BX X R a1 TTape) (hT : TX I a1 T fd (p : Int) wf we nf 0 (-1)) (hp : p ≤ T.length) (hn : (I a0 7).toInt = (n : Int)) (hn10 : n ≤ 10)
    {QE : String → jx_I → Prop} : jc V 3 34 (0, 0) [.ref a0, .ref a1] X I R (fun rv I' => (∃ r q fk fa : Int, rv = some (jy r) ∧ NB T p 0 ((n : Int) - 1) r q fk fa ∧ TX I' a1 T fd q wf we p fk fa) ∧ FR a1 (a1 + 1) I I') QE := by
  refine wm_34 hV   ?_
  unfold wz_34
  simp only [-eq_self, hn]
  refine ⟨s_Land_0 hl, s_Tape_0 ht, ?_⟩
  refine ⟨_, cz_118 hV ht hT hp (by omega) (by omega), ?_⟩
  rintro _ I5 ⟨⟨r, q, fk, fa, rfl, h1, h2⟩, h3⟩
  refine ⟨_, rfl, ?_⟩
  exact ⟨⟨r, q, fk, fa, rfl, h1, h2⟩, h3⟩
/-- GrievingCamels$Land.readCamelName -/
theorem cz_35 {V : jx_V} (hV : V.1.stackTraces = false) {X : jx_X} {R : jx_R} {I : jx_I} {a0 : Nat} {a1 : Nat} {T : List Int} {fd wf we nf : Int} {p n : Nat}
    (hl : BX X R a0 TLand) (ht : BX X R a1 TTape) (hT : TX I a1 T fd (p : Int) wf we nf 0 (-1)) (hp : p ≤ T.length) (hn : (I a0 8).toInt = (n : Int)) (hn10 : n ≤ 10)
    {QE : String → jx_I → Prop} : jc V 3 35 (0, 0) [.ref a0, .ref a1] X I R (fun rv I' => (∃ r q fk fa : Int, rv = some (jy r) ∧ NB T p 0 ((n : Int) - 1) r q fk fa ∧ TX I' a1 T fd q wf we p fk fa) ∧ FR a1 (a1 + 1) I I') QE := by
  refine wm_35 hV   ?_
  unfold wz_35
  simp only [-eq_self, hn]
  refine ⟨s_Land_0 hl, s_Tape_0 ht, ?_⟩
  refine ⟨_, cz_118 hV ht hT hp (by omega) (by omega), ?_⟩
  rintro _ I5 ⟨⟨r, q, fk, fa, rfl, h1, h2⟩, h3⟩
  refine ⟨_, rfl, ?_⟩
  exact ⟨⟨r, q, fk, fa, rfl, h1, h2⟩, h3⟩
/-- GrievingCamels$Land.readOtherCamel -/
theorem cz_33 {V : jx_V} (hV : V.1.stackTraces = false) {X : jx_X} {R : jx_R} {I : jx_I} {a0 : Nat} {a1 : Nat} {a2 : Int} {T : List Int} {fd wf we nf : Int} {p n : Nat}
    (hl : BX X R a0 TLand) (ht : BX X R a1 TTape) (hT : TX I a1 T fd (p : Int) wf we nf 0 (-1)) (hp : p ≤ T.length) (hn : (I a0 8).toInt = (n : Int)) (hn10 : n ≤ 10) (r_a2 : 0 ≤ a2 ∧ a2 ≤ 99)
    {QE : String → jx_I → Prop} : jc V 3 33 (0, 0) [.ref a0, .ref a1, jy a2] X I R (fun rv I' => (∃ r : Int, rv = some (jy r) ∧ ((∃ q, pOth T ((n : Int) - 1) a2 p = .ok (r, q) ∧ CST I' a1 T fd (.ok q) ∧ 0 ≤ r ∧ r < (n : Int)) ∨ (∃ e, pOth T ((n : Int) - 1) a2 p = .error e ∧ r = -1 ∧ CST I' a1 T fd (.error e)))) ∧ FR a1 (a1 + 1) I I') QE := by
  refine wm_33 hV (by omega)  ?_
  unfold wz_33
  simp only [-eq_self, hn]
  refine ⟨s_Land_0 hl, s_Tape_0 ht, ?_⟩
  refine ⟨_, cz_118 hV ht hT hp (by omega) (by omega), ?_⟩
  rintro _ I5 ⟨⟨r9, q9, k9, f9, rfl, hn9, hT5⟩, hF5⟩
  refine ⟨_, rfl, ?_⟩
  have hr9 : -1 ≤ r9 ∧ r9 ≤ 999 := by rcases NB_p hp hn9 hT5 with ⟨_, _, _, h, h2⟩ | ⟨_, _, h, _⟩ <;> omega
  refine ⟨by omega, ?_⟩
  refine ⟨fun hq1 => ?_, fun hq1 => ?_⟩
  · rcases NB_p hp hn9 hT5 with ⟨q2, h1, h2, h3, h4⟩ | ⟨e, h1, h2, h3⟩
    · exact ⟨⟨r9, rfl, Or.inl ⟨q2, by unfold pOth; rw [h1]; show (if r9 = a2 then _ else _) = _; rw [if_neg hq1], h2, h3, by omega⟩⟩, hF5⟩
    · exact ⟨⟨r9, rfl, Or.inr ⟨e, by unfold pOth; rw [h1]; rfl, h2, h3⟩⟩, hF5⟩
  · refine ⟨_, cz_109 hV ht hT5 (by omega), ?_⟩
    rintro _ I10 ⟨rfl, hT10, hF10⟩
    refine ⟨_, rfl, ?_⟩
    rcases NB_p hp hn9 hT5 with ⟨q2, h1, h2, h3, h4⟩ | ⟨e, h1, h2, h3⟩
    · exact ⟨⟨-1, rfl, Or.inr ⟨(2, p), by unfold pOth; rw [h1]; show (if r9 = a2 then _ else _) = _; rw [if_pos (by omega)], rfl, ⟨show (1 : Int) ≤ 2 by decide, show (2 : Int) ≤ 3 by decide⟩, _, _, _, _, hT10⟩⟩, fun q hq => (hF10 q hq).trans (hF5 q hq)⟩
    · omega
