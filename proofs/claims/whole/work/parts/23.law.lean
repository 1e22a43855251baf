/-! ===== the law of halting: values, reckoning, halts; class Law ===== -/
def w32 (x : Int) : Int := (Int32.ofInt x).toInt
def gpos (gs : List Int) : List Int := gs.filter (fun x => decide (0 < x))
/-- most, sum, first, last, many -/
def vl (gs : List Int) : Nat → Int
  | 0 => (gpos gs).foldl max 0
  | 1 => (gpos gs).sum
  | 2 => (gpos gs).headD 0
  | 3 => (gpos gs).getLastD 0
  | _ => (gpos gs).length
theorem gpos_app (gs : List Int) (x : Int) : gpos (gs ++ [x]) = if 0 < x then gpos gs ++ [x] else gpos gs := by
  unfold gpos
  rw [List.filter_append]
  by_cases h : 0 < x <;> simp [h]
theorem vl_skip {gs : List Int} {x : Int} (h : x ≤ 0) (k : Nat) : vl (gs ++ [x]) k = vl gs k := by
  have e : gpos (gs ++ [x]) = gpos gs := by rw [gpos_app, if_neg (by omega)]
  unfold vl
  rw [e]
theorem vl_0 {gs : List Int} {x : Int} (h : 0 < x) : vl (gs ++ [x]) 0 = max (vl gs 0) x := by
  unfold vl; rw [gpos_app, if_pos h, List.foldl_append]; rfl
theorem vl_1 {gs : List Int} {x : Int} (h : 0 < x) : vl (gs ++ [x]) 1 = vl gs 1 + x := by
  unfold vl; rw [gpos_app, if_pos h, List.sum_append]; simp
theorem vl_2 {gs : List Int} {x : Int} (h : 0 < x) : vl (gs ++ [x]) 2 = if vl gs 4 = 0 then x else vl gs 2 := by
  unfold vl; rw [gpos_app, if_pos h]
  cases gpos gs with
  | nil => rfl
  | cons a l => rw [if_neg (by simp; omega)]; rfl
theorem vl_3 {gs : List Int} {x : Int} (h : 0 < x) : vl (gs ++ [x]) 3 = x := by
  unfold vl; rw [gpos_app, if_pos h]; simp
theorem vl_4 {gs : List Int} {x : Int} (h : 0 < x) : vl (gs ++ [x]) 4 = vl gs 4 + 1 := by
  unfold vl; rw [gpos_app, if_pos h]; simp
theorem vl_nil (k : Nat) : vl [] k = 0 := by
  unfold vl
  split <;> rfl
theorem vl_many0 (gs : List Int) : 0 ≤ vl gs 4 ∧ vl gs 4 ≤ gs.length := by
  have e : vl gs 4 = ((gpos gs).length : Int) := rfl
  have h := List.length_filter_le (fun x : Int => decide (0 < x)) gs
  rw [e]
  unfold gpos
  omega
theorem vl_rng (gs : List Int) (h : ∀ x ∈ gs, 0 ≤ x ∧ x ≤ 20) : (0 ≤ vl gs 0 ∧ vl gs 0 ≤ 20) ∧ (0 ≤ vl gs 1 ∧ vl gs 1 ≤ 20 * gs.length) ∧ (0 ≤ vl gs 2 ∧ vl gs 2 ≤ 20) ∧ (0 ≤ vl gs 3 ∧ vl gs 3 ≤ 20) := by
  have key : ∀ n (gs : List Int), gs.length = n → (∀ x ∈ gs, 0 ≤ x ∧ x ≤ 20) → (0 ≤ vl gs 0 ∧ vl gs 0 ≤ 20) ∧ (0 ≤ vl gs 1 ∧ vl gs 1 ≤ 20 * gs.length) ∧ (0 ≤ vl gs 2 ∧ vl gs 2 ≤ 20) ∧ (0 ≤ vl gs 3 ∧ vl gs 3 ≤ 20) := by
    intro n
    induction n with
    | zero =>
      intro gs hl _
      have : gs = [] := List.length_eq_zero_iff.mp hl
      subst this
      simp [vl_nil]
    | succ n ih =>
      intro gs hl hx
      have hne : gs ≠ [] := by intro e; subst e; simp at hl
      have e := List.dropLast_concat_getLast hne
      generalize gs.dropLast = l at e
      generalize gs.getLast hne = x at e
      subst e
      have h1 := ih l (by simpa using hl) (fun y hy => hx y (by simp [hy]))
      have h2 := hx x (by simp)
      rcases Int.lt_or_le 0 x with h | h
      · rw [vl_0 h, vl_1 h, vl_2 h, vl_3 h, List.length_append]
        simp only [List.length_singleton]
        refine ⟨by omega, by omega, ?_, by omega⟩
        split <;> omega
      · rw [vl_skip h, vl_skip h, vl_skip h, vl_skip h, List.length_append]
        simp only [List.length_singleton]
        omega
  exact key _ gs rfl h
/-- the reckoning of a law: numbers below 100, values from 100 on, 105 + 106 - 107 *; the stack's top first -/
def rkop (c x y : Int) : Int := w32 (if c = 105 then x + y else if c = 106 then x - y else x * y)
def rkS (v : Nat → Int) (st : List Int) (c : Int) : List Int :=
  if c < 100 then c :: st else if c < 105 then v (c - 100).toNat :: st else match st with
    | y :: x :: r => rkop c x y :: r
    | st => st
def rk (v : Nat → Int) (codes : List Int) : Int := (codes.foldl (rkS v) []).getLastD 0
def dp (codes : List Int) : Nat := codes.foldl (fun d c => if c < 105 then d + 1 else d - 1) 0
/-- a law that can be reckoned -/
def WL (codes : List Int) : Prop := codes.length ≤ 600 ∧ dp codes = 1 ∧ ∀ (i : Nat) (c : Int), codes[i]? = some c → 0 ≤ c ∧ c ≤ 107 ∧ (c < 105 → dp (codes.take i) < 32) ∧ (105 ≤ c → 2 ≤ dp (codes.take i))
theorem dp_app (l : List Int) (c : Int) : dp (l ++ [c]) = if c < 105 then dp l + 1 else dp l - 1 := by
  unfold dp; rw [List.foldl_append]; rfl
theorem rk_len {codes : List Int} (h : WL codes) (v : Nat → Int) : ∀ i, i ≤ codes.length → ((codes.take i).foldl (rkS v) []).length = dp (codes.take i) ∧ ((codes.take i).foldl (rkS v) []).length ≤ 32 := by
  intro i
  induction i with
  | zero => intro _; exact ⟨rfl, by simp⟩
  | succ i ih =>
    intro hi
    obtain ⟨h1, h2⟩ := ih (by omega)
    have hc := List.getElem?_eq_getElem (l := codes) (i := i) (by omega)
    generalize codes[i] = c at hc
    obtain ⟨hc0, hc1, hc2, hc3⟩ := h.2.2 i c hc
    rw [ls_last hc, List.foldl_append, dp_app]
    show (rkS v _ c).length = _ ∧ _
    generalize (codes.take i).foldl (rkS v) [] = st at h1 h2 ⊢
    show (rkS v st c).length = _ ∧ (rkS v st c).length ≤ 32
    unfold rkS
    by_cases k1 : c < 100
    · rw [if_pos k1, if_pos (by omega)]
      have := hc2 (by omega)
      simp; omega
    · rw [if_neg k1]
      by_cases k2 : c < 105
      · rw [if_pos k2, if_pos k2]
        have := hc2 (by omega)
        simp; omega
      · rw [if_neg k2, if_neg k2]
        have := hc3 (by omega)
        match st, h1, h2 with
        | [], h1, _ => simp at h1; omega
        | [_], h1, _ => simp at h1; omega
        | y :: x :: r, h1, h2 => simp at h1 h2 ⊢; omega
/-- the halt by a law, the griefs of the row, how many must have any -/
def hlt (codes gs : List Int) (need : Int) : Int := if vl gs 4 < need then 0 else max 0 (min 99 (rk (vl gs) codes))
theorem hlt_rng (codes gs : List Int) (need : Int) : 0 ≤ hlt codes gs need ∧ hlt codes gs need ≤ 99 := by
  unfold hlt
  split <;> omega
/-- a Law object holds codes -/
def LW (I : jx_I) (a : Nat) (codes : List Int) : Prop := (I a 3).toInt = codes.length ∧ codes.length ≤ 600 ∧ ∀ (i : Nat) (c : Int), codes[i]? = some c → (I (a + 1) i).toInt = c
theorem LW_of {I I' : jx_I} {a : Nat} {L : List Int} (h : LW I a L) (e : I' a = I a) (e1 : I' (a + 1) = I (a + 1)) : LW I' a L := by
  unfold LW
  rw [e, e1]
  exact h
/-- griefs of a row's camels, out of a cell on -/
def GR (I : jx_I) (q base : Nat) (L : List Nat) (g : Nat → Int) : Prop := ∀ c ∈ L, (I q (base + c)).toInt = g c ∧ 0 ≤ g c ∧ g c ≤ 20
/-- a stack in an array, its top first in the list -/
def SK (I : jx_I) (q : Nat) (st : List Int) : Prop := ∀ (k : Nat) (x : Int), st.reverse[k]? = some x → (I q k).toInt = x
theorem SK_push {I I' : jx_I} {q : Nat} {st : List Int} {x : Int} (h : SK I q st) (h1 : (I' q st.length).toInt = x) (h2 : ∀ k, k < st.length → I' q k = I q k) : SK I' q (x :: st) := by
  intro k y hk
  rw [List.reverse_cons] at hk
  rcases Nat.lt_trichotomy k st.length with hc | hc | hc
  · rw [List.getElem?_append_left (by simpa using hc)] at hk
    rw [h2 k hc]
    exact h k y hk
  · subst hc
    rw [List.getElem?_append_right (by simp)] at hk
    simp at hk
    rw [h1, hk]
  · rw [List.getElem?_eq_none (by simp; omega)] at hk
    cases hk
theorem SK_pop {I : jx_I} {q : Nat} {st : List Int} {x : Int} (h : SK I q (x :: st)) : SK I q st ∧ (I q st.length).toInt = x := by
  refine ⟨fun k y hk => h k y ?_, h st.length x ?_⟩
  · rw [List.reverse_cons, List.getElem?_append_left (by have := (List.getElem?_eq_some_iff.mp hk).1; simpa using this)]
    exact hk
  · rw [List.reverse_cons, List.getElem?_append_right (by simp)]
    simp
theorem SK_bot {I : jx_I} {q : Nat} {st : List Int} (h : SK I q st) (hl : 0 < st.length) : (I q 0).toInt = st.getLastD 0 := by
  match st, hl with
  | x :: l, _ =>
    refine h 0 _ ?_
    rw [List.getElem?_reverse (by simp)]
    simp [List.getLastD, List.getLast_eq_getElem]
/-- GrievingCamels$Law.forget -/
theorem cz_45 {V : jx_V} (hV : V.1.stackTraces = false) {X : jx_X} {R : jx_R} {I : jx_I} {a0 : Nat} 
    (hw : BX X R a0 TLaw)
    {QE : String → jx_I → Prop} : jc V 1 45 (0, 0) [.ref a0] X I R (fun rv I' => rv = none ∧ LW I' a0 [] ∧ (∀ q, q ≠ a0 → I' q = I q)) QE := by
  refine wm_45 hV   ?_
  unfold wz_45
  refine ⟨s_Law_0 hw, ?_⟩
  intro I2 e_I2; subst e_I2
  exact ⟨rfl, ⟨by rw [jx_u_s]; rfl, by decide, fun k x h => by cases h⟩, fun q hq => jx_u_r _ _ _ hq⟩
/-- GrievingCamels$Law.emit -/
theorem cz_50 {V : jx_V} (hV : V.1.stackTraces = false) {X : jx_X} {R : jx_R} {I : jx_I} {a0 : Nat} {a1 : Int} {L : List Int}
    (hw : BX X R a0 TLaw) (hL : LW I a0 L) (hl : L.length < 600) (r_a1 : -2147483648 ≤ a1 ∧ a1 < 2147483648)
    {QE : String → jx_I → Prop} : jc V 1 50 (0, 0) [.ref a0, jy a1] X I R (fun rv I' => rv = none ∧ LW I' a0 (L ++ [a1]) ∧ FR a0 (a0 + 2) I I') QE := by
  refine wm_50 hV (by omega)  ?_
  have hm := hL.1
  unfold wz_50
  refine ⟨s_Law_0 hw, ?_⟩
  refine ⟨fun hq1 => ?_, fun hq1 => ?_⟩
  · omega
  · refine ⟨_, r_Law_0_0 hw, _, ⟨s_Law_1 hw, by decide⟩, by omega, ?_⟩
    intro I7 e_I7; subst e_I7
    intro I8 e_I8; subst e_I8
    refine ⟨rfl, ⟨?_, by simp; omega, fun k y hk => ?_⟩, FR_u (FR_u FR_refl (by omega) (by omega)) (by omega) (by omega)⟩
    · rw [jx_u_s, jx_u_a _ _ _ _ (by omega), hm]; rw [jy_toInt (by omega)]; simp
    · rw [jx_u_a _ _ _ _ (by omega), hm, Int.toNat_natCast]
      rcases Nat.lt_trichotomy k L.length with hc | hc | hc
      · rw [List.getElem?_append_left hc] at hk
        rw [jx_u_k _ _ _ _ (by omega)]
        exact hL.2.2 k y hk
      · subst hc
        simp at hk
        rw [jx_u_s, hk]; exact jy_toInt (by omega)
      · rw [List.getElem?_append_right (by omega), List.getElem?_eq_none (by simp; omega)] at hk
        cases hk
/-- GrievingCamels$Law.becomeMost -/
theorem cz_44 {V : jx_V} (hV : V.1.stackTraces = false) {X : jx_X} {R : jx_R} {I : jx_I} {a0 : Nat} 
    (hw : BX X R a0 TLaw)
    {QE : String → jx_I → Prop} : jc V 2 44 (0, 0) [.ref a0] X I R (fun rv I' => rv = none ∧ LW I' a0 [100] ∧ FR a0 (a0 + 2) I I') QE := by
  refine wm_44 hV   ?_
  unfold wz_44
  refine ⟨s_Law_0 hw, ?_⟩
  intro I2 e_I2; subst e_I2
  refine ⟨_, cz_50 hV (L := []) hw ⟨by rw [jx_u_s]; rfl, by decide, fun k x h => by cases h⟩ (by decide) (by omega), ?_⟩
  rintro _ I5 ⟨rfl, h1, hF⟩
  refine ⟨rfl, ?_⟩
  exact ⟨rfl, h1, FR_to (FR_empty I a0 3 _ (by omega)) hF (by omega) (by omega)⟩
theorem MS_step {K' : jx_I} {q : Nat} {gs : List Int} {x : Int} (hx : 0 < x) (h0 : (K' q 0).toInt = max (vl gs 0) x) (h1 : (K' q 1).toInt = vl gs 1 + x) (h2 : (K' q 2).toInt = if vl gs 4 = 0 then x else vl gs 2) (h3 : (K' q 3).toInt = x) (h4 : (K' q 4).toInt = vl gs 4 + 1) : ∀ k, k < 5 → (K' q k).toInt = vl (gs ++ [x]) k := by
  intro k hk
  rcases (by omega : k = 0 ∨ k = 1 ∨ k = 2 ∨ k = 3 ∨ k = 4) with rfl | rfl | rfl | rfl | rfl
  · rw [h0, vl_0 hx]
  · rw [h1, vl_1 hx]
  · rw [h2, vl_2 hx]
  · rw [h3, vl_3 hx]
  · rw [h4, vl_4 hx]
/-- GrievingCamels$Law.measure -/
theorem cz_51 {V : jx_V} (hV : V.1.stackTraces = false) {X : jx_X} {R : jx_R} {I : jx_I} {a0 : Nat} {a1 : Nat} {a2 : Nat} {a3 : Int} {n base : Nat} {L : List Nat} {g : Nat → Int}
    (hw : BX X R a0 TLaw) (hr : BX X R a1 TRow) (hq : X.2.1 a2 = some (100, n)) (hn : n < 2147483648) (hL : RW I a1 L) (hb : a3 = (base : Int)) (hb2 : base < 1000) (hc : ∀ c ∈ L, base + c < n) (hg : GR I a2 base L g) (h1 : a1 + 1 < a0 + 2 ∨ a0 + 4 ≤ a1) (h2 : a2 ≠ a0 + 3)
    {QE : String → jx_I → Prop} : jc V 2 51 (0, 0) [.ref a0, .ref a1, .ref a2, jy a3] X I R (fun rv I' => rv = none ∧ (∀ k, k < 5 → (I' (a0 + 3) k).toInt = vl (L.map g) k) ∧ FR (a0 + 3) (a0 + 4) I I') QE := by
  refine wm_51 hV (by omega)  (fun J3 J26 J98 J116 hJJ => ?_)
  obtain ⟨hJ3, hJ26, hJ98, hJ116⟩ := hJJ
  unfold wz_51
  have L3 : ∀ (n3 : Nat) (l4 : Int) (K : jx_I), n3 = ((5 : Int) - l4).toNat → (∃ i : Nat, l4 = i ∧ i ≤ 5 ∧ (∀ k, k < i → (K (a0 + 3) k).toInt = 0) ∧ FR (a0 + 3) (a0 + 4) I K) → J3 l4 K := by
    intro n3
    induction n3 using Nat.strongRecOn with
    | ind n3 ih3 =>
    intro l4 K hn3 hI3
    obtain ⟨i, rfl, hi, hz, hF⟩ := hI3
    refine hJ3 _ _ ?_
    unfold wz_51_3
    refine ⟨by omega, ?_⟩
    refine ⟨fun hq1 => ?_, fun hq1 => ?_⟩
    · have L26 : ∀ (n26 : Nat) (l4 : Int) (K2 : jx_I), n26 = ((L.length : Int) - l4).toNat → (∃ i : Nat, l4 = i ∧ i ≤ L.length ∧ (∀ k, k < 5 → (K2 (a0 + 3) k).toInt = vl ((L.take i).map g) k) ∧ FR (a0 + 3) (a0 + 4) I K2) → J26 l4 K2 := by
        intro n26
        induction n26 using Nat.strongRecOn with
        | ind n26 ih26 =>
        intro l4 K2 hn26 hI26
        obtain ⟨i, rfl, hi, hv, hF⟩ := hI26
        have hLK : RW K2 a1 L := RW_fr hL hF (by omega)
        have hm := hLK.1
        have hn12 := hLK.2.1
        have hGK : K2 a2 = I a2 := hF _ (by omega)
        refine hJ26 _ _ ?_
        unfold wz_51_26
        refine ⟨s_Row_0 hr, by omega, ?_⟩
        refine ⟨fun hq2 => ?_, fun hq2 => ?_⟩
        · rw [List.take_of_length_le (by omega)] at hv
          exact ⟨rfl, hv, hF⟩
        · obtain ⟨y, hy, hw1⟩ := RW_get hLK (i := i) (by omega)
          have hym : y ∈ L := List.mem_of_getElem? hy
          have hcy := hc y hym
          obtain ⟨g1, g2, g3⟩ := hg y hym
          have hgv : (K2 a2 ((a3 + (y : Int)).toNat)).toInt = g y := by rw [show (a3 + (y : Int)).toNat = base + y by omega, hGK, g1]
          have hls : (L.take (i + 1)).map g = (L.take i).map g ++ [g y] := by rw [ls_last hy, List.map_append]; rfl
          refine ⟨_, r_Row_0_0 hr, _, ⟨s_Row_1 hr, by decide⟩, ?_⟩
          try simp only [-eq_self, Int.toNat_natCast, hw1]
          refine ⟨by omega, _, ⟨hq, hn⟩, ?_⟩
          try simp only [-eq_self, hgv]
          refine ⟨by omega, ?_⟩
          refine ⟨fun hq3 => ?_, fun hq3 => ?_⟩
          · exact ih26 _ (by omega) _ _ rfl (⟨i + 1, by omega, by omega, by rw [hls]; exact fun k hk => by rw [vl_skip hq3]; exact hv k hk, hF⟩)
          · have g0 : 0 < g y := by omega
            have v0 := hv 0 (by omega); have v1 := hv 1 (by omega); have v2 := hv 2 (by omega); have v4 := hv 4 (by omega)
            have hr5 := vl_rng ((L.take i).map g) (fun x hx => by
              obtain ⟨c, hc1, rfl⟩ := List.mem_map.mp hx
              exact (hg c (List.mem_of_mem_take hc1)).2)
            have hr6 := vl_many0 ((L.take i).map g)
            have hr7 : ((L.take i).map g).length ≤ 12 := by simp; omega
            refine ⟨s_Law_0 hw, _, r_Law_0_2 hw, _, ⟨s_Law_3 hw, by decide⟩, ?_⟩
            try simp only [-eq_self, Int.toNat_zero, v0]
            refine ⟨by omega, ?_⟩
            refine ⟨_, cz_328 hV (by omega) (by omega), ?_⟩
            rintro _ I27 ⟨rfl, e9⟩; replace e9 := e9.symm; subst e9
            refine ⟨_, rfl, ?_⟩
            refine ⟨by omega, ?_⟩
            intro I30 e_I30; subst e_I30
            refine ⟨by omega, by omega, ?_⟩
            intro I33 e_I33; subst e_I33
            refine ⟨by omega, ?_⟩
            refine ⟨fun hq4 => ?_, fun hq4 => ?_⟩
            · have hq5 : vl ((L.take i).map g) 4 ≠ 0 := by
                intro e
                apply hq4
                simp [jx_u, -Int32.toInt_ofInt, -Int32.ofInt_add, -List.map_take, v4, e]
              refine ⟨by omega, ?_⟩
              intro I36 e_I36; subst e_I36
              refine ⟨by omega, by omega, ?_⟩
              intro I39 e_I39; subst e_I39
              refine hJ116 _ _ ?_
              unfold wz_51_116
              exact ih26 _ (by omega) _ _ rfl (⟨i + 1, by omega, by omega, by
                rw [hls]
                refine MS_step g0 ?_ ?_ ?_ ?_ ?_
                · simp [jx_u, -Int32.toInt_ofInt, -Int32.ofInt_add, -List.map_take]; exact jy_toInt (by omega)
                · simp [jx_u, -Int32.toInt_ofInt, -Int32.ofInt_add, -List.map_take, v1]; exact jy_toInt (by omega)
                · simp [jx_u, -Int32.toInt_ofInt, -Int32.ofInt_add, -List.map_take, v2, hq5]
                · simp [jx_u, -Int32.toInt_ofInt, -Int32.ofInt_add, -List.map_take]; exact jy_toInt (by omega)
                · simp [jx_u, -Int32.toInt_ofInt, -Int32.ofInt_add, -List.map_take, v4]; exact jy_toInt (by omega), by refine FR_u (FR_u (FR_u (FR_u hF ?_ ?_) ?_ ?_) ?_ ?_) ?_ ?_ <;> omega⟩)
            · have hq5 : vl ((L.take i).map g) 4 = 0 := by
                rw [← v4]
                simpa [jx_u, -Int32.toInt_ofInt, -Int32.ofInt_add, -List.map_take] using hq4
              refine ⟨by omega, ?_⟩
              intro I41 e_I41; subst e_I41
              refine hJ98 _ _ _ ?_
              unfold wz_51_98
              refine ⟨s_Law_0 hw, _, r_Law_0_2 hw, _, ⟨s_Law_3 hw, by decide⟩, by omega, ?_⟩
              intro I48 e_I48; subst e_I48
              refine ⟨by omega, by omega, ?_⟩
              intro I51 e_I51; subst e_I51
              refine hJ116 _ _ ?_
              unfold wz_51_116
              exact ih26 _ (by omega) _ _ rfl (⟨i + 1, by omega, by omega, by
                rw [hls]
                refine MS_step g0 ?_ ?_ ?_ ?_ ?_
                · simp [jx_u, -Int32.toInt_ofInt, -Int32.ofInt_add, -List.map_take]; exact jy_toInt (by omega)
                · simp [jx_u, -Int32.toInt_ofInt, -Int32.ofInt_add, -List.map_take, v1]; exact jy_toInt (by omega)
                · simp [jx_u, -Int32.toInt_ofInt, -Int32.ofInt_add, -List.map_take, v2, hq5]; exact jy_toInt (by omega)
                · simp [jx_u, -Int32.toInt_ofInt, -Int32.ofInt_add, -List.map_take]; exact jy_toInt (by omega)
                · simp [jx_u, -Int32.toInt_ofInt, -Int32.ofInt_add, -List.map_take, v4]; exact jy_toInt (by omega), by refine FR_u (FR_u (FR_u (FR_u (FR_u hF ?_ ?_) ?_ ?_) ?_ ?_) ?_ ?_) ?_ ?_ <;> omega⟩)
      exact L26 _ _ _ rfl (⟨0, rfl, by omega, fun k hk => by rw [hz k (by omega)]; exact (vl_nil k).symm, hF⟩)
    · refine ⟨s_Law_0 hw, _, r_Law_0_2 hw, _, ⟨s_Law_3 hw, by decide⟩, by omega, ?_⟩
      intro I8 e_I8; subst e_I8
      exact ih3 _ (by omega) _ _ rfl (⟨i + 1, by omega, by omega, fun k hk => by
        rcases Nat.lt_or_ge k i with h | h
        · rw [jx_u_k _ _ _ _ (by omega)]; exact hz k h
        · rw [show k = (i : Int).toNat by omega, jx_u_s]; rfl, FR_u hF (by omega) (by omega)⟩)
  exact L3 _ _ _ rfl (⟨0, rfl, by omega, fun k hk => by omega, FR_refl⟩)
/-- GrievingCamels$Law.reckon -/
theorem cz_53 {V : jx_V} (hV : V.1.stackTraces = false) {X : jx_X} {R : jx_R} {I : jx_I} {a0 : Nat} {codes : List Int} {v : Nat → Int}
    (hw : BX X R a0 TLaw) (hL : LW I a0 codes) (hWL : WL codes) (hv : ∀ k, k < 5 → (I (a0 + 3) k).toInt = v k)
    {QE : String → jx_I → Prop} : jc V 1 53 (0, 0) [.ref a0] X I R (fun rv I' => rv = some (jy (rk v codes)) ∧ (-2147483648 ≤ rk v codes ∧ rk v codes < 2147483648) ∧ FR (a0 + 2) (a0 + 3) I I') QE := by
  refine wm_53 hV   (fun J4 J55 J128 J129 hJJ => ?_)
  obtain ⟨hJ4, hJ55, hJ128, hJ129⟩ := hJJ
  have hm := hL.1; have hn := hL.2.1
  unfold wz_53
  have L4 : ∀ (n4 : Nat) (l1 : Int) (l2 : Int) (K : jx_I), n4 = ((codes.length : Int) - l2).toNat → (∃ (i : Nat) (st : List Int), l2 = i ∧ i ≤ codes.length ∧ (codes.take i).foldl (rkS v) [] = st ∧ l1 = st.length ∧ SK K (a0 + 2) st ∧ FR (a0 + 2) (a0 + 3) I K) → J4 l1 l2 K := by
    intro n4
    induction n4 using Nat.strongRecOn with
    | ind n4 ih4 =>
    intro l1 l2 K hn4 hI4
    obtain ⟨i, st, rfl, hi, hst, rfl, hK, hF⟩ := hI4
    have hm2 : (K a0 3).toInt = codes.length := by rw [hF a0 (by omega), hm]
    have hd := rk_len hWL v i hi
    rw [hst] at hd
    refine hJ4 _ _ _ ?_
    unfold wz_53_4
    refine ⟨s_Law_0 hw, by omega, ?_⟩
    refine ⟨fun hq1 => ?_, fun hq1 => ?_⟩
    · refine ⟨by omega, ?_⟩
      refine ⟨fun hq2 => ?_, fun hq2 => ?_⟩
      · rw [List.take_of_length_le (by omega)] at hst hd
        have h9 := hWL.2.1
        omega
      · refine ⟨_, r_Law_0_1 hw, _, ⟨s_Law_2 hw, by decide⟩, by omega, ?_⟩
        rw [List.take_of_length_le (by omega)] at hst
        have hbot := SK_bot hK (by omega)
        have hbr := jy_rng (K (a0 + 2) 0)
        rw [hbot, ← hst] at hbr
        refine ⟨?_, hbr, hF⟩
        rw [show (0 : Int).toNat = 0 from rfl, hbot, ← hst]
        rfl
    · have hi2 : i < codes.length := by omega
      have hc := List.getElem?_eq_getElem (l := codes) (i := i) hi2
      generalize codes[i] = c at hc
      have hcv : (K (a0 + 1) i).toInt = c := by rw [hF (a0 + 1) (by omega)]; exact hL.2.2 i c hc
      obtain ⟨hc0, hc1, hc2, hc3⟩ := hWL.2.2 i c hc
      have hs2 : (codes.take (i + 1)).foldl (rkS v) [] = rkS v st c := by rw [ls_last hc, List.foldl_append, hst]; rfl
      refine ⟨_, r_Law_0_0 hw, _, ⟨s_Law_1 hw, by decide⟩, ?_⟩
      try simp only [-eq_self, Int.toNat_natCast, hcv]
      refine ⟨by omega, ?_⟩
      refine ⟨fun hq3 => ?_, fun hq3 => ?_⟩
      · refine ⟨by omega, ?_⟩
        refine ⟨fun hq4 => ?_, fun hq4 => ?_⟩
        · have := hc3 hq3; omega
        · have hl2 : 2 ≤ st.length := by omega
          match st, hl2 with
          | y :: x :: r, _ =>
          have hl9 : (y :: x :: r).length = r.length + 2 := rfl
          obtain ⟨hp1, hp2⟩ := SK_pop hK
          obtain ⟨hp3, hp4⟩ := SK_pop hp1
          have hl8 : (x :: r).length = r.length + 1 := rfl
          rw [hl8] at hp2
          rw [hl9] at hd ⊢
          have hi3 : (((r.length + 2 : Nat) : Int) + -1 - 1).toNat = r.length := by omega
          have hi4 : (((r.length + 2 : Nat) : Int) + -1).toNat = r.length + 1 := by omega
          have hfin : ∀ z : Int, w32 z = rkop c x y → SK (jx_u K (a0 + 2) r.length (Int32.ofInt z)) (a0 + 2) (rkS v (y :: x :: r) c) := by
            intro z hz
            have e : rkS v (y :: x :: r) c = rkop c x y :: r := by unfold rkS; rw [if_neg (by omega), if_neg (by omega)]
            rw [e]
            refine SK_push hp3 ?_ (fun k hk => jx_u_k _ _ _ _ (by omega))
            rw [jx_u_s]
            exact hz
          have hlen : (rkS v (y :: x :: r) c).length = r.length + 1 := by unfold rkS; rw [if_neg (by omega), if_neg (by omega)]; rfl
          refine ⟨_, r_Law_0_1 hw, _, ⟨s_Law_2 hw, by decide⟩, by omega, by omega, ?_⟩
          refine ⟨fun hq5 => ?_, fun hq5 => ?_⟩
          · refine ⟨fun hq6 => ?_, fun hq6 => ?_⟩
            · refine hJ128 _ _ _ _ _ _ ?_
              unfold wz_53_128
              refine ⟨_, ⟨s_Law_2 hw, by decide⟩, by omega, ?_⟩
              intro I36 e_I36; subst e_I36
              refine hJ129 _ _ _ ?_
              unfold wz_53_129
              simp only [-eq_self, hi3, hi4, hp2, hp4]
              exact ih4 _ (by omega) _ _ _ rfl (⟨i + 1, _, by omega, by omega, hs2, by rw [hlen]; omega, hfin _ (by unfold rkop; rw [if_neg (by omega), if_neg (by omega)]), FR_u hF (by omega) (by omega)⟩)
            · refine hJ128 _ _ _ _ _ _ ?_
              unfold wz_53_128
              refine ⟨_, ⟨s_Law_2 hw, by decide⟩, by omega, ?_⟩
              intro I36 e_I36; subst e_I36
              refine hJ129 _ _ _ ?_
              unfold wz_53_129
              simp only [-eq_self, hi3, hi4, hp2, hp4]
              exact ih4 _ (by omega) _ _ _ rfl (⟨i + 1, _, by omega, by omega, hs2, by rw [hlen]; omega, hfin _ (by unfold rkop; rw [if_neg (by omega), if_pos (by omega)]), FR_u hF (by omega) (by omega)⟩)
          · refine hJ128 _ _ _ _ _ _ ?_
            unfold wz_53_128
            refine ⟨_, ⟨s_Law_2 hw, by decide⟩, by omega, ?_⟩
            intro I36 e_I36; subst e_I36
            refine hJ129 _ _ _ ?_
            unfold wz_53_129
            simp only [-eq_self, hi3, hi4, hp2, hp4]
            exact ih4 _ (by omega) _ _ _ rfl (⟨i + 1, _, by omega, by omega, hs2, by rw [hlen]; omega, hfin _ (by unfold rkop; rw [if_pos (by omega)]), FR_u hF (by omega) (by omega)⟩)
      · refine ⟨by omega, ?_⟩
        refine ⟨fun hq7 => ?_, fun hq7 => ?_⟩
        · have := hc2 (by omega); omega
        · refine ⟨_, r_Law_0_1 hw, ?_⟩
          refine ⟨fun hq8 => ?_, fun hq8 => ?_⟩
          · refine ⟨_, r_Law_0_2 hw, _, ⟨s_Law_3 hw, by decide⟩, by omega, ?_⟩
            refine hJ55 _ _ _ _ _ _ ?_
            unfold wz_53_55
            refine ⟨_, ⟨s_Law_2 hw, by decide⟩, by omega, ?_⟩
            intro I32 e_I32; subst e_I32
            refine hJ129 _ _ _ ?_
            unfold wz_53_129
            exact ih4 _ (by omega) _ _ _ rfl (⟨i + 1, _, by omega, by omega, hs2, by unfold rkS; rw [if_neg (by omega), if_pos (by omega)]; simp, by
              unfold rkS
              rw [if_neg (by omega), if_pos (by omega)]
              refine SK_push hK ?_ (fun k hk => jx_u_k _ _ _ _ (by omega))
              rw [Int.toNat_natCast, jx_u_s, Int32.ofInt_toInt, hF (a0 + 3) (by omega)]
              exact hv _ (by omega), FR_u hF (by omega) (by omega)⟩)
          · refine hJ55 _ _ _ _ _ _ ?_
            unfold wz_53_55
            refine ⟨_, ⟨s_Law_2 hw, by decide⟩, by omega, ?_⟩
            intro I32 e_I32; subst e_I32
            refine hJ129 _ _ _ ?_
            unfold wz_53_129
            exact ih4 _ (by omega) _ _ _ rfl (⟨i + 1, _, by omega, by omega, hs2, by unfold rkS; rw [if_pos (by omega)]; simp, by
              unfold rkS
              rw [if_pos (by omega)]
              refine SK_push hK ?_ (fun k hk => jx_u_k _ _ _ _ (by omega))
              rw [Int.toNat_natCast, jx_u_s]
              exact jy_toInt (by omega), FR_u hF (by omega) (by omega)⟩)
  exact L4 _ _ _ _ rfl (⟨0, [], rfl, by omega, rfl, rfl, fun k x h => by simp at h, FR_refl⟩)
/-- GrievingCamels$Law.haltOf -/
theorem cz_52 {V : jx_V} (hV : V.1.stackTraces = false) {X : jx_X} {R : jx_R} {I : jx_I} {a0 : Nat} {a1 : Nat} {a2 : Nat} {a3 : Int} {a4 : Int} {n base : Nat} {L : List Nat} {codes : List Int} {g : Nat → Int}
    (hw : BX X R a0 TLaw) (hr : BX X R a1 TRow) (hq : X.2.1 a2 = some (100, n)) (hn : n < 2147483648) (hL : RW I a1 L) (hW : L ≠ [] ∨ a4 ≤ 0 → LW I a0 codes) (hWL : WL codes) (hb : a3 = (base : Int)) (hb2 : base < 1000) (hc : ∀ c ∈ L, base + c < n) (hg : GR I a2 base L g) (h1 : a1 + 1 < a0 + 2 ∨ a0 + 4 ≤ a1) (h2 : a2 ≠ a0 + 3) (r_a4 : -2147483648 ≤ a4 ∧ a4 < 2147483648)
    {QE : String → jx_I → Prop} : jc V 3 52 (0, 0) [.ref a0, .ref a1, .ref a2, jy a3, jy a4] X I R (fun rv I' => rv = some (jy (hlt codes (L.map g) a4)) ∧ FR (a0 + 2) (a0 + 4) I I') QE := by
  refine wm_52 hV (by omega) (by omega)  ?_
  unfold wz_52
  refine ⟨s_Law_0 hw, ?_⟩
  refine ⟨_, cz_51 hV hw hr hq hn hL hb hb2 hc hg h1 h2, ?_⟩
  rintro _ I4 ⟨rfl, hv, hF⟩
  refine ⟨rfl, ?_⟩
  refine ⟨_, r_Law_0_2 hw, _, ⟨s_Law_3 hw, by decide⟩, ?_⟩
  have hv4 := hv 4 (by omega)
  try simp only [-eq_self, show (4 : Int).toNat = 4 from rfl, hv4]
  have hm9 := vl_many0 (L.map g)
  have hm8 : (L.map g).length ≤ 12 := by rw [List.length_map]; exact hL.2.1
  refine ⟨by omega, ?_⟩
  refine ⟨fun hq1 => ?_, fun hq1 => ?_⟩
  · have hne : L ≠ [] ∨ a4 ≤ 0 := by
      by_cases e : L = []
      · right
        have e0 : (L.map g).length = 0 := by rw [e]; rfl
        omega
      · exact Or.inl e
    refine ⟨_, cz_53 hV hw (LW_of (hW hne) (hF _ (by omega)) (hF _ (by omega))) hWL hv, ?_⟩
    rintro _ I13 ⟨rfl, hrk, hF2⟩
    refine ⟨_, rfl, ?_⟩
    refine ⟨_, cz_329 hV (by omega) hrk, ?_⟩
    rintro _ I17 ⟨rfl, e9⟩; replace e9 := e9.symm; subst e9
    refine ⟨_, rfl, ?_⟩
    refine ⟨_, cz_328 hV (by omega) (by omega), ?_⟩
    rintro _ I21 ⟨rfl, e9⟩; replace e9 := e9.symm; subst e9
    refine ⟨_, rfl, ?_⟩
    refine ⟨?_, ?_⟩
    · unfold hlt; rw [if_neg (by omega)]
    · exact FR_to (FR_mono hF (by omega) (by omega)) hF2 (by omega) (by omega)
  · refine ⟨?_, FR_mono hF (by omega) (by omega)⟩
    unfold hlt; rw [if_pos (by omega)]
