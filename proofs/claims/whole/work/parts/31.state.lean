/-! ===== class State; what is kept; refusals ===== -/
abbrev CT : Type := (GT × GT) × (List Nat × List Nat) × List (Nat × Int) × List (GT × GT)
/-- griefs, depths, the row, the journey, lines, what can be undone -/
abbrev Cg (c : CT) : GT := c.1.1
abbrev Cd (c : CT) : GT := c.1.2
abbrev CL (c : CT) : List Nat := c.2.1.1
abbrev CJ (c : CT) : List Nat := c.2.1.2
abbrev CN (c : CT) : List (Nat × Int) := c.2.2.1
abbrev CU (c : CT) : List (GT × GT) := c.2.2.2
/-- a State holds them -/
def SX (I : jx_I) (s : Nat) (c : CT) : Prop := HD I (s + 1) (Cg c) (Cd c) ∧ RW I (s + 5) (CL c) ∧ RW I (s + 7) (CJ c) ∧ ((I s 6).toInt = (CN c).length ∧ (CN c).length ≤ 9 ∧ ∀ (k : Nat) (e : Nat × Int), (CN c)[k]? = some e → (I (s + 9) k).toInt = e.1 ∧ (I (s + 10) k).toInt = e.2) ∧ ((I s 7).toInt = (CU c).length ∧ (CU c).length ≤ 24 ∧ ∀ (k : Nat) (e : GT × GT), (CU c)[k]? = some e → ∀ p q, p < 10 → q < 8 → (I (s + 11) (k * 160 + (p * 8 + q))).toInt = e.1 p q ∧ (I (s + 11) (k * 160 + 80 + (p * 8 + q))).toInt = e.2 p q)
theorem SX_of {I I' : jx_I} {s : Nat} {c : CT} (h : SX I s c) (e : ∀ q, s ≤ q → q < s + 12 → I' q = I q) : SX I' s c := by
  refine ⟨HD_of h.1 (e _ (by omega) (by omega)) (e _ (by omega) (by omega)), RW_of h.2.1 (e _ (by omega) (by omega)) (e _ (by omega) (by omega)), RW_of h.2.2.1 (e _ (by omega) (by omega)) (e _ (by omega) (by omega)), ?_, ?_⟩
  · rw [e s (by omega) (by omega), e (s + 9) (by omega) (by omega), e (s + 10) (by omega) (by omega)]; exact h.2.2.2.1
  · rw [e s (by omega) (by omega), e (s + 11) (by omega) (by omega)]; exact h.2.2.2.2
theorem SX_fr {I I' : jx_I} {s lo hi : Nat} {c : CT} (h : SX I s c) (hf : FR lo hi I I') (ho : s + 12 ≤ lo ∨ hi ≤ s) : SX I' s c := SX_of h (fun q h1 h2 => hf q (by omega))
/-- what is kept is in order -/
def WC (l : LT) (c : CT) : Prop := GD (Cg c) (Cd c) ∧ ((CL c).Nodup ∧ (∀ x ∈ CL c, x < Lm l)) ∧ (CJ c = [] ∨ ((2 ≤ (CJ c).length ∧ (CJ c).length ≤ 12) ∧ (∀ x ∈ CJ c, x < Ln l) ∧ RJ (Lr l) (CJ c))) ∧ (∀ e ∈ CN c, e.1 < 2 ^ Lm l ∧ 0 ≤ e.2 ∧ e.2 ≤ 99) ∧ ∀ e ∈ CU c, GD e.1 e.2
theorem nd_len : ∀ (n : Nat) (L : List Nat), L.Nodup → (∀ x ∈ L, x < n) → L.length ≤ n := by
  intro n
  induction n with
  | zero =>
    intro L _ h
    cases L with
    | nil => exact Nat.le_refl _
    | cons a l => exact absurd (h a (by simp)) (by omega)
  | succ n ih =>
    intro L hn h
    have h1 := ih (L.filter (fun x => x != n)) (List.Pairwise.filter _ hn) (fun x hx => by
      have h2 := List.mem_filter.mp hx
      have h3 := h x h2.1
      have h4 : x ≠ n := by simpa using h2.2
      omega)
    have h5 : (L.filter (fun x => x == n)).length ≤ 1 := by
      have h6 : (L.filter (fun x => x == n)).Nodup := List.Pairwise.filter _ hn
      match hm : L.filter (fun x => x == n), h6 with
      | [], _ => simp
      | [_], _ => simp
      | a :: b :: r, h6 =>
        have ha : a ∈ L.filter (fun x => x == n) := by rw [hm]; simp
        have hb : b ∈ L.filter (fun x => x == n) := by rw [hm]; simp
        have e1 : a = n := by simpa using (List.mem_filter.mp ha).2
        have e2 : b = n := by simpa using (List.mem_filter.mp hb).2
        have := (List.pairwise_cons.mp h6).1 b (by simp)
        exact absurd (e1.trans e2.symm) this
    have key : ∀ M : List Nat, M.length = (M.filter (fun x => x != n)).length + (M.filter (fun x => x == n)).length := by
      intro M
      induction M with
      | nil => rfl
      | cons a M ihM =>
        by_cases e : a = n
        · subst e; simp; omega
        · simp [e]; omega
    have := key L
    omega
/-- GrievingCamels$State.beginIn -/
theorem cz_96 {V : jx_V} (hV : V.1.stackTraces = false) {X : jx_X} {R : jx_R} {I : jx_I} {a0 : Nat} {a1 : Nat} {l : LT} {g : GT}
    (hs : BX X R a0 TState) (hl : BX X R a1 TLand) (hD : LD I a1 l) (hm8 : Lm l ≤ 8) (hu : ∀ p c, p < 10 → c < 8 → (I (a1 + 6) (p * 8 + c)).toInt = g p c) (hd : a0 + 12 ≤ a1 ∨ a1 + 11 ≤ a0)
    {QE : String → jx_I → Prop} : jc V 3 96 (0, 0) [.ref a0, .ref a1] X I R (fun rv I' => rv = none ∧ SX I' a0 ((g, g), (List.range (Lm l), []), [], []) ∧ FR a0 (a0 + 12) I I') QE := by
  refine wm_96 hV   ?_
  unfold wz_96
  refine ⟨s_State_0 hs, _, r_State_0_0 hs, s_Herd_0 (b_State_1 hs), ?_⟩
  refine ⟨_, cz_10 hV (b_State_1 hs) hl (by omega) hu, ?_⟩
  rintro _ I7 ⟨rfl, h1, hF1⟩
  refine ⟨rfl, ?_⟩
  refine ⟨_, r_State_0_1 hs, s_Land_0 hl, s_Row_0 (b_State_5 hs), ?_⟩
  refine ⟨_, cz_75 hV (b_State_5 hs) (by rw [hF1 a1 (by omega)]; exact hD.1.2) (by omega), ?_⟩
  rintro _ I15 ⟨rfl, h2, hF2⟩
  refine ⟨rfl, ?_⟩
  refine ⟨_, r_State_0_2 hs, s_Row_0 (b_State_7 hs), ?_⟩
  refine ⟨_, cz_68 hV (b_State_7 hs), ?_⟩
  rintro _ I22 ⟨rfl, hE⟩
  refine ⟨rfl, ?_⟩
  intro I24 e_I24; subst e_I24
  intro I25 e_I25; subst e_I25
  have hF : FR a0 (a0 + 12) I I22 := by rw [hE]; exact FR_u (FR_to (FR_mono hF1 (by omega) (by omega)) hF2 (by omega) (by omega)) (by omega) (by omega)
  have q22 : ∀ q, q ≠ a0 → q ≠ a0 + 7 → (jx_u (jx_u I22 a0 6 (Int32.ofInt 0)) a0 7 (Int32.ofInt 0)) q = I15 q := fun q h1 h2 => by rw [jx_u_r _ _ _ h1, jx_u_r _ _ _ h1, hE, jx_u_r _ _ _ h2]
  refine ⟨rfl, ⟨?_, ?_, ?_, ?_, ?_⟩, FR_u (FR_u hF (by omega) (by omega)) (by omega) (by omega)⟩
  · exact HD_of (HD_fr h1 hF2 (by omega)) (q22 _ (by omega) (by omega)) (q22 _ (by omega) (by omega))
  · exact RW_of h2 (q22 _ (by omega) (by omega)) (q22 _ (by omega) (by omega))
  · refine RW_nil ?_
    rw [jx_u_a _ _ _ _ (by omega), jx_u_a _ _ _ _ (by omega), hE, jx_u_s]; rfl
  · exact ⟨by rw [jx_u_k _ _ _ _ (by omega), jx_u_s]; rfl, Nat.zero_le _, fun k e hk => by simp [CN] at hk⟩
  · exact ⟨by rw [jx_u_s]; rfl, Nat.zero_le _, fun k e hk => by simp [CU] at hk⟩
/-- GrievingCamels$State.copyFrom -/
theorem cz_97 {V : jx_V} (hV : V.1.stackTraces = false) {X : jx_X} {R : jx_R} {I : jx_I} {a0 : Nat} {a1 : Nat} {c : CT}
    (hs : BX X R a0 TState) (h2 : BX X R a1 TState) (hS : SX I a1 c) (hd : a0 + 12 ≤ a1 ∨ a1 + 12 ≤ a0)
    {QE : String → jx_I → Prop} : jc V 2 97 (0, 0) [.ref a0, .ref a1] X I R (fun rv I' => rv = none ∧ SX I' a0 c ∧ FR a0 (a0 + 12) I I') QE := by
  refine wm_97 hV   ?_
  unfold wz_97
  refine ⟨s_State_0 hs, _, r_State_0_0 hs, s_State_0 h2, _, r_State_0_0 h2, s_Herd_0 (b_State_1 hs), ?_⟩
  refine ⟨_, cz_9 hV (b_State_1 hs) (b_State_1 h2) (by omega) hS.1, ?_⟩
  rintro _ I10 ⟨rfl, k1, hF1⟩
  refine ⟨rfl, ?_⟩
  refine ⟨_, r_State_0_1 hs, _, r_State_0_1 h2, s_Row_0 (b_State_5 hs), ?_⟩
  refine ⟨_, cz_74 hV (b_State_5 hs) (b_State_5 h2) (by omega) (RW_fr hS.2.1 hF1 (by omega)), ?_⟩
  rintro _ I19 ⟨rfl, k2, hF2⟩
  refine ⟨rfl, ?_⟩
  refine ⟨_, r_State_0_2 hs, _, r_State_0_2 h2, s_Row_0 (b_State_7 hs), ?_⟩
  refine ⟨_, cz_74 hV (b_State_7 hs) (b_State_7 h2) (by omega) (RW_fr (RW_fr hS.2.2.1 hF1 (by omega)) hF2 (by omega)), ?_⟩
  rintro _ I28 ⟨rfl, k3, hF3⟩
  refine ⟨rfl, ?_⟩
  have f28 : FR a0 (a0 + 12) I I28 := FR_to (FR_to (FR_mono hF1 (by omega) (by omega)) hF2 (by omega) (by omega)) hF3 (by omega) (by omega)
  refine ⟨_, r_State_0_3 h2, _, r_State_0_3 hs, _, ⟨s_State_9 h2, by decide⟩, _, ⟨s_State_9 hs, by decide⟩, by omega, ?_⟩
  intro I39 e_I39
  refine ⟨_, r_State_0_4 h2, _, r_State_0_4 hs, _, ⟨s_State_10 h2, by decide⟩, _, ⟨s_State_10 hs, by decide⟩, by omega, ?_⟩
  intro I49 e_I49
  refine ⟨_, r_State_0_5 h2, _, r_State_0_5 hs, _, ⟨s_State_11 hs, by decide⟩, _, ⟨s_State_11 h2, by decide⟩, by omega, ?_⟩
  intro I59 e_I59
  intro I60 e_I60
  intro I61 e_I61
  have c39 : ∀ q, q ≠ a0 + 9 → I39 q = I28 q := fun q hq => by rw [e_I39]; funext k; unfold jx_cp; rw [if_neg (fun e => hq e.1)]
  have d39 : ∀ k, k < 9 → I39 (a0 + 9) k = I28 (a1 + 9) k := fun k hk => by rw [e_I39]; unfold jx_cp; rw [if_pos (by refine ⟨rfl, ?_, ?_⟩ <;> simp <;> omega)]; simp
  have c49 : ∀ q, q ≠ a0 + 10 → I49 q = I39 q := fun q hq => by rw [e_I49]; funext k; unfold jx_cp; rw [if_neg (fun e => hq e.1)]
  have d49 : ∀ k, k < 9 → I49 (a0 + 10) k = I39 (a1 + 10) k := fun k hk => by rw [e_I49]; unfold jx_cp; rw [if_pos (by refine ⟨rfl, ?_, ?_⟩ <;> simp <;> omega)]; simp
  have c59 : ∀ q, q ≠ a0 + 11 → I59 q = I49 q := fun q hq => by rw [e_I59]; funext k; unfold jx_cp; rw [if_neg (fun e => hq e.1)]
  have d59 : ∀ k, k < 3840 → I59 (a0 + 11) k = I49 (a1 + 11) k := fun k hk => by rw [e_I59]; unfold jx_cp; rw [if_pos (by refine ⟨rfl, ?_, ?_⟩ <;> simp <;> omega)]; simp
  have c61 : ∀ q, q ≠ a0 → I61 q = I59 q := fun q hq => by rw [e_I61, jx_u_r _ _ _ hq, e_I60, jx_u_r _ _ _ hq]
  have a59 : I59 a1 = I a1 := by rw [c59 _ (by omega), c49 _ (by omega), c39 _ (by omega), f28 _ (by omega)]
  have c28 : ∀ q, q ≠ a0 → q ≠ a0 + 9 → q ≠ a0 + 10 → q ≠ a0 + 11 → I61 q = I28 q := fun q p1 p2 p3 p4 => by rw [c61 q p1, c59 q p4, c49 q p3, c39 q p2]
  refine ⟨rfl, ⟨?_, ?_, ?_, ⟨?_, hS.2.2.2.1.2.1, fun k e hk => ⟨?_, ?_⟩⟩, ⟨?_, hS.2.2.2.2.2.1, fun k e hk p q hp hq => ?_⟩⟩, fun q hq => ?_⟩
  · exact HD_of (HD_fr (HD_fr k1 hF2 (by omega)) hF3 (by omega)) (c28 _ (by omega) (by omega) (by omega) (by omega)) (c28 _ (by omega) (by omega) (by omega) (by omega))
  · exact RW_of (RW_fr k2 hF3 (by omega)) (c28 _ (by omega) (by omega) (by omega) (by omega)) (c28 _ (by omega) (by omega) (by omega) (by omega))
  · exact RW_of k3 (c28 _ (by omega) (by omega) (by omega) (by omega)) (c28 _ (by omega) (by omega) (by omega) (by omega))
  · rw [e_I61, jx_u_k _ _ _ _ (by omega), e_I60, jx_u_s, a59, Int32.ofInt_toInt]; exact hS.2.2.2.1.1
  · have hk9 := (List.getElem?_eq_some_iff.mp hk).1
    have := hS.2.2.2.1.2.1
    rw [c61 _ (by omega), c59 _ (by omega), c49 _ (by omega), d39 k (by omega), f28 _ (by omega)]
    exact (hS.2.2.2.1.2.2 k e hk).1
  · have hk9 := (List.getElem?_eq_some_iff.mp hk).1
    have := hS.2.2.2.1.2.1
    rw [c61 _ (by omega), c59 _ (by omega), d49 k (by omega), c39 _ (by omega), f28 _ (by omega)]
    exact (hS.2.2.2.1.2.2 k e hk).2
  · rw [e_I61, jx_u_s, e_I60, jx_u_a _ _ _ _ (by omega), a59, Int32.ofInt_toInt]; exact hS.2.2.2.2.1
  · have hk9 := (List.getElem?_eq_some_iff.mp hk).1
    have := hS.2.2.2.2.2.1
    rw [c61 _ (by omega), d59 _ (by omega), d59 _ (by omega), c49 _ (by omega), c39 _ (by omega), f28 _ (by omega)]
    exact hS.2.2.2.2.2.2 k e hk p q hp hq
  · rw [c28 q (by omega) (by omega) (by omega) (by omega), f28 q hq]
/-- GrievingCamels$State.addLine -/
theorem cz_98 {V : jx_V} (hV : V.1.stackTraces = false) {X : jx_X} {R : jx_R} {I : jx_I} {a0 : Nat} {a1 : Int} {a2 : Int} {c : CT} {B : Nat}
    (hs : BX X R a0 TState) (hS : SX I a0 c) (h1 : a1 = (B : Int)) (hB : B < 2147483648) (r_a2 : -2147483648 ≤ a2 ∧ a2 < 2147483648)
    {QE : String → jx_I → Prop} : jc V 1 98 (0, 0) [.ref a0, jy a1, jy a2] X I R (fun rv I' => ∃ r : Int, rv = some (jy r) ∧ ((r = 1 ∧ (CN c).length < 9 ∧ SX I' a0 (c.1, c.2.1, CN c ++ [(B, a2)], CU c) ∧ FR a0 (a0 + 12) I I') ∨ (r = 0 ∧ 9 ≤ (CN c).length ∧ I' = I))) QE := by
  refine wm_98 hV (by omega) (by omega)  ?_
  have hm := hS.2.2.2.1.1
  unfold wz_98
  refine ⟨s_State_0 hs, ?_⟩
  refine ⟨fun hq1 => ?_, fun hq1 => ?_⟩
  · refine ⟨_, r_State_0_3 hs, _, ⟨s_State_9 hs, by decide⟩, by omega, ?_⟩
    intro I7 e_I7
    have m7 : (I7 a0 6).toInt = (CN c).length := by rw [e_I7, jx_u_a _ _ _ _ (by omega), hm]
    simp only [-eq_self, m7]
    simp only [hm, Int.toNat_natCast] at e_I7
    refine ⟨_, r_State_0_4 hs, _, ⟨s_State_10 hs, by decide⟩, ?_⟩
    skip
    refine ⟨by omega, ?_⟩
    intro I13 e_I13
    have m13 : (I13 a0 6).toInt = (CN c).length := by rw [e_I13, jx_u_a _ _ _ _ (by omega), m7]
    simp only [-eq_self, m13]
    simp only [Int.toNat_natCast] at e_I13
    intro I14 e_I14
    have o14 : ∀ q, q ≠ a0 → q ≠ a0 + 9 → q ≠ a0 + 10 → I14 q = I q := fun q p1 p2 p3 => by rw [e_I14, jx_u_r _ _ _ p1, e_I13, jx_u_r _ _ _ p3, e_I7, jx_u_r _ _ _ p2]
    have v9 : ∀ k, I14 (a0 + 9) k = jx_u I (a0 + 9) (CN c).length (Int32.ofInt a1) (a0 + 9) k := fun k => by rw [e_I14, jx_u_a _ _ _ _ (by omega), e_I13, jx_u_a _ _ _ _ (by omega), e_I7]
    have v10 : ∀ k, I14 (a0 + 10) k = jx_u I (a0 + 10) (CN c).length (Int32.ofInt a2) (a0 + 10) k := fun k => by
      rw [e_I14, jx_u_a _ _ _ _ (by omega), e_I13]
      unfold jx_u
      split
      · rfl
      · rw [e_I7, jx_u_a _ _ _ _ (by omega)]
    refine ⟨_, rfl, Or.inl ⟨rfl, by omega, ⟨HD_of hS.1 (o14 _ (by omega) (by omega) (by omega)) (o14 _ (by omega) (by omega) (by omega)), RW_of hS.2.1 (o14 _ (by omega) (by omega) (by omega)) (o14 _ (by omega) (by omega) (by omega)), RW_of hS.2.2.1 (o14 _ (by omega) (by omega) (by omega)) (o14 _ (by omega) (by omega) (by omega)), ⟨?_, ?_, ?_⟩, ?_, hS.2.2.2.2.2.1, ?_⟩, ?_⟩⟩
    · rw [e_I14, jx_u_s, List.length_append]; exact jy_toInt (by omega)
    · rw [List.length_append]; simp; omega
    · intro k e hk
      rw [v9, v10]
      rcases Nat.lt_trichotomy k (CN c).length with hc | hc | hc
      · rw [List.getElem?_append_left hc] at hk
        rw [jx_u_k _ _ _ _ (by omega), jx_u_k _ _ _ _ (by omega)]
        exact hS.2.2.2.1.2.2 k e hk
      · subst hc
        simp [CN] at hk
        rw [jx_u_s, jx_u_s, ← hk, h1]
        exact ⟨jy_toInt (by omega), jy_toInt r_a2⟩
      · rw [List.getElem?_append_right (by omega), List.getElem?_eq_none (by simp; omega)] at hk
        cases hk
    · rw [e_I14, jx_u_k _ _ _ _ (by omega), e_I13, jx_u_a _ _ _ _ (by omega), e_I7, jx_u_a _ _ _ _ (by omega)]; exact hS.2.2.2.2.1
    · intro k e hk p q hp hq
      rw [o14 _ (by omega) (by omega) (by omega)]
      exact hS.2.2.2.2.2.2 k e hk p q hp hq
    · exact fun q hq => o14 q (by omega) (by omega) (by omega)
  · exact ⟨_, rfl, Or.inr ⟨rfl, by omega, rfl⟩⟩
/-- GrievingCamels$State.keepForUndo -/
theorem cz_99 {V : jx_V} (hV : V.1.stackTraces = false) {X : jx_X} {R : jx_R} {I : jx_I} {a0 : Nat} {c : CT}
    (hs : BX X R a0 TState) (hS : SX I a0 c) (hU : (CU c).length < 24)
    {QE : String → jx_I → Prop} : jc V 1 99 (0, 0) [.ref a0] X I R (fun rv I' => rv = none ∧ SX I' a0 (c.1, c.2.1, CN c, CU c ++ [c.1]) ∧ FR a0 (a0 + 12) I I' ∧ (∀ q, q ≠ a0 → q ≠ a0 + 11 → I' q = I q)) QE := by
  refine wm_99 hV   ?_
  have hm := hS.2.2.2.2.1
  unfold wz_99
  refine ⟨s_State_0 hs, ?_⟩
  refine ⟨fun hq1 => ?_, fun hq1 => ?_⟩
  · omega
  · refine ⟨_, r_State_0_0 hs, s_Herd_0 (b_State_1 hs), _, r_Herd_0_0 (b_State_1 hs), _, r_State_0_5 hs, _, ⟨s_Herd_1 (b_State_1 hs), by decide⟩, _, ⟨s_State_11 hs, by decide⟩, ?_⟩
    try simp only [-eq_self, hm]
    refine ⟨by omega, ?_⟩
    intro I14 e_I14
    have m14 : (I14 a0 7).toInt = (CU c).length := by rw [e_I14]; unfold jx_cp; rw [if_neg (by omega), hm]
    simp only [-eq_self, m14]
    refine ⟨_, r_Herd_0_1 (b_State_1 hs), _, ⟨s_Herd_2 (b_State_1 hs), by decide⟩, by omega, ?_⟩
    intro I20 e_I20
    have m20 : (I20 a0 7).toInt = (CU c).length := by rw [e_I20]; unfold jx_cp; rw [if_neg (by omega), m14]
    simp only [-eq_self, m20]
    intro I21 e_I21
    have o21 : ∀ q, q ≠ a0 → q ≠ a0 + 11 → I21 q = I q := fun q p1 p2 => by
      rw [e_I21, jx_u_r _ _ _ p1, e_I20]
      funext k
      unfold jx_cp
      rw [if_neg (fun e => p2 e.1), e_I14]
      unfold jx_cp
      rw [if_neg (fun e => p2 e.1)]
    have v11 : ∀ k, k < (CU c).length * 160 → I21 (a0 + 11) k = I (a0 + 11) k := fun k hk => by
      rw [e_I21, jx_u_a _ _ _ _ (by omega), e_I20]
      unfold jx_cp
      rw [if_neg (by omega), e_I14]
      unfold jx_cp
      rw [if_neg (by omega)]
    have w11 : ∀ k, k < 80 → I21 (a0 + 11) ((CU c).length * 160 + k) = I (a0 + 2) k := fun k hk => by
      rw [e_I21, jx_u_a _ _ _ _ (by omega), e_I20]
      unfold jx_cp
      rw [if_neg (by omega), e_I14]
      unfold jx_cp
      rw [if_pos (by refine ⟨rfl, ?_, ?_⟩ <;> omega)]
      congr 1
      omega
    have x11 : ∀ k, k < 80 → I21 (a0 + 11) ((CU c).length * 160 + 80 + k) = I (a0 + 3) k := fun k hk => by
      rw [e_I21, jx_u_a _ _ _ _ (by omega), e_I20]
      unfold jx_cp
      rw [if_pos (by refine ⟨rfl, ?_, ?_⟩ <;> omega), e_I14]
      unfold jx_cp
      rw [if_neg (by omega)]
      congr 1
      omega
    refine ⟨rfl, ⟨HD_of hS.1 (o21 _ (by omega) (by omega)) (o21 _ (by omega) (by omega)), RW_of hS.2.1 (o21 _ (by omega) (by omega)) (o21 _ (by omega) (by omega)), RW_of hS.2.2.1 (o21 _ (by omega) (by omega)) (o21 _ (by omega) (by omega)), ⟨?_, hS.2.2.2.1.2.1, ?_⟩, ?_, ?_, ?_⟩, fun q hq => o21 q (by omega) (by omega), o21⟩
    · rw [e_I21, jx_u_k _ _ _ _ (by omega), e_I20]
      unfold jx_cp
      rw [if_neg (by omega), e_I14]
      unfold jx_cp
      rw [if_neg (by omega)]
      exact hS.2.2.2.1.1
    · rw [o21 _ (by omega) (by omega), o21 _ (by omega) (by omega)]; exact hS.2.2.2.1.2.2
    · rw [e_I21, jx_u_s, List.length_append]; exact jy_toInt (by omega)
    · rw [List.length_append]; simp; omega
    · intro k e hk p q hp hq
      rcases Nat.lt_trichotomy k (CU c).length with hc | hc | hc
      · rw [List.getElem?_append_left hc] at hk
        rw [v11 _ (by omega), v11 _ (by omega)]
        exact hS.2.2.2.2.2.2 k e hk p q hp hq
      · subst hc
        simp [CU] at hk
        rw [w11 _ (by omega), x11 _ (by omega), ← hk]
        exact hS.1 p q hp hq
      · rw [List.getElem?_append_right (by omega), List.getElem?_eq_none (by simp; omega)] at hk
        cases hk
/-- GrievingCamels$State.takeBack -/
theorem cz_100 {V : jx_V} (hV : V.1.stackTraces = false) {X : jx_X} {R : jx_R} {I : jx_I} {a0 : Nat} {c : CT}
    (hs : BX X R a0 TState) (hS : SX I a0 c)
    {QE : String → jx_I → Prop} : jc V 1 100 (0, 0) [.ref a0] X I R (fun rv I' => ∃ r : Int, rv = some (jy r) ∧ ((r = 0 ∧ CU c = [] ∧ I' = I) ∨ (∃ (u : List (GT × GT)) (e : GT × GT), r = 1 ∧ CU c = u ++ [e] ∧ SX I' a0 (e, c.2.1, CN c, u) ∧ FR a0 (a0 + 12) I I'))) QE := by
  refine wm_100 hV   ?_
  have hm := hS.2.2.2.2.1; have hU := hS.2.2.2.2.2.1
  unfold wz_100
  refine ⟨s_State_0 hs, ?_⟩
  refine ⟨fun hq1 => ?_, fun hq1 => ?_⟩
  · have hne : CU c ≠ [] := by intro e; rw [e] at hm; simp at hm; omega
    have hsp := List.dropLast_concat_getLast hne
    generalize hu : (CU c).dropLast = u at hsp
    generalize (CU c).getLast hne = e at hsp
    have hul : (CU c).length = u.length + 1 := by rw [← hsp]; simp
    intro I2 e_I2
    rw [hm] at e_I2
    have m2 : (I2 a0 7).toInt = u.length := by rw [e_I2, jx_u_s, jy_toInt (by omega)]; omega
    simp only [-eq_self, m2]
    refine ⟨_, r_State_0_5 hs, _, r_State_0_0 hs, s_Herd_0 (b_State_1 hs), _, r_Herd_0_0 (b_State_1 hs), _, ⟨s_State_11 hs, by decide⟩, _, ⟨s_Herd_1 (b_State_1 hs), by decide⟩, by omega, ?_⟩
    intro I15 e_I15
    have m15 : (I15 a0 7).toInt = u.length := by rw [e_I15]; unfold jx_cp; rw [if_neg (by omega), m2]
    simp only [-eq_self, m15]
    refine ⟨_, r_Herd_0_1 (b_State_1 hs), _, ⟨s_Herd_2 (b_State_1 hs), by decide⟩, by omega, ?_⟩
    intro I21 e_I21
    have o21 : ∀ q, q ≠ a0 → q ≠ a0 + 2 → q ≠ a0 + 3 → I21 q = I q := fun q p1 p2 p3 => by
      rw [e_I21]
      funext k
      unfold jx_cp
      rw [if_neg (fun e => p3 e.1), e_I15]
      unfold jx_cp
      rw [if_neg (fun e => p2 e.1), e_I2, jx_u_r _ _ _ p1]
    have m21 : ∀ k, I21 a0 k = I2 a0 k := fun k => by
      rw [e_I21]
      unfold jx_cp
      rw [if_neg (by omega), e_I15]
      unfold jx_cp
      rw [if_neg (by omega)]
    have hlast : (CU c)[u.length]? = some e := by rw [← hsp]; simp
    refine ⟨_, rfl, Or.inr ⟨u, e, rfl, hsp.symm, ⟨fun p q hp hq => ?_, RW_of hS.2.1 (o21 _ (by omega) (by omega) (by omega)) (o21 _ (by omega) (by omega) (by omega)), RW_of hS.2.2.1 (o21 _ (by omega) (by omega) (by omega)) (o21 _ (by omega) (by omega) (by omega)), ⟨?_, hS.2.2.2.1.2.1, ?_⟩, ?_, ?_, ?_⟩, fun q hq => o21 q (by omega) (by omega) (by omega)⟩⟩
    · have hh := hS.2.2.2.2.2.2 u.length e hlast p q hp hq
      constructor
      · show (I21 (a0 + 1 + 1) (p * 8 + q)).toInt = e.1 p q
        rw [← hh.1, e_I21]
        unfold jx_cp
        rw [if_neg (by omega), e_I15]
        unfold jx_cp
        rw [if_pos (by refine ⟨rfl, ?_, ?_⟩ <;> omega), e_I2, jx_u_a _ _ _ _ (by omega)]
        congr 2
      · show (I21 (a0 + 1 + 2) (p * 8 + q)).toInt = e.2 p q
        rw [← hh.2, e_I21]
        unfold jx_cp
        rw [if_pos (by refine ⟨rfl, ?_, ?_⟩ <;> omega), e_I15]
        unfold jx_cp
        rw [if_neg (by omega), e_I2, jx_u_a _ _ _ _ (by omega)]
        congr 2
    · rw [m21, e_I2, jx_u_k _ _ _ _ (by omega)]; exact hS.2.2.2.1.1
    · rw [o21 _ (by omega) (by omega) (by omega), o21 _ (by omega) (by omega) (by omega)]; exact hS.2.2.2.1.2.2
    · rw [m21]; exact m2
    · show u.length ≤ 24; omega
    · intro k e2 hk p q hp hq
      have hk9 := (List.getElem?_eq_some_iff.mp hk).1
      rw [o21 _ (by omega) (by omega) (by omega)]
      exact hS.2.2.2.2.2.2 k e2 (by rw [← hsp, List.getElem?_append_left hk9]; exact hk) p q hp hq
  · have hne : CU c = [] := List.length_eq_zero_iff.mp (by omega)
    exact ⟨_, rfl, Or.inl ⟨rfl, hne, rfl⟩⟩
