/-! ===== the reference: words by 27s ===== -/
def w27 (ds : List Int) (v : Int) : Int := ds.foldl (fun v c => 27 * v + (c - 96)) v
theorem w27_c (l : List Int) (c v : Int) : w27 (l ++ [c]) v = 27 * w27 l v + (c - 96) := by unfold w27; rw [List.foldl_append]; rfl
theorem w27_p : ∀ (l : List Int) (v : Int), (∀ c ∈ l, 97 ≤ c ∧ c ≤ 122) → 0 ≤ v → v + l.length ≤ w27 l v
  | [], v, _, _ => by simp [w27]
  | c :: l, v, h, hv => by
    have hc := h c (List.mem_cons_self ..)
    have ih := w27_p l (27 * v + (c - 96)) (fun x hx => h x (List.mem_cons_of_mem _ hx)) (by omega)
    show v + ((c :: l).length : Int) ≤ w27 l (27 * v + (c - 96))
    rw [List.length_cons]
    omega
theorem w27_inj : ∀ (n : Nat) (a b : List Int), a.length = n → (∀ c ∈ a, 97 ≤ c ∧ c ≤ 122) → (∀ c ∈ b, 97 ≤ c ∧ c ≤ 122) → w27 a 0 = w27 b 0 → a = b := by
  intro n
  induction n with
  | zero =>
    intro a b ha h1 h2 he
    have ha0 := List.length_eq_zero_iff.mp ha
    subst ha0
    have := w27_p b 0 h2 (by omega)
    have h0 : w27 [] 0 = 0 := rfl
    exact (List.length_eq_zero_iff.mp (by omega)).symm
  | succ n ih =>
    intro a b ha h1 h2 he
    rcases List.eq_nil_or_concat a with e | ⟨a', x, rfl⟩
    · subst e; cases ha
    rcases List.eq_nil_or_concat b with e | ⟨b', y, rfl⟩
    · subst e
      have := w27_p _ 0 h1 (by omega)
      have h0 : w27 [] 0 = 0 := rfl
      omega
    simp only [List.concat_eq_append] at *
    rw [w27_c, w27_c] at he
    have hx := h1 x (by simp)
    have hy := h2 y (by simp)
    have hxy : x = y := by omega
    subst hxy
    rw [ih a' b' (by simpa using ha) (fun c hc => h1 c (by simp [hc])) (fun c hc => h2 c (by simp [hc])) (by omega)]
def w7 (v : Int) : List Int → Int
  | [] => v
  | c :: r => w7 (if c ≠ 0 then 27 * v + c else v) r
def p27 : Nat → Int
  | 0 => 1
  | k + 1 => 27 * p27 k
theorem p27_6 : ∀ k, k ≤ 6 → 1 ≤ p27 k ∧ p27 k ≤ 387420489
  | 0, _ => by decide
  | 1, _ => by decide
  | 2, _ => by decide
  | 3, _ => by decide
  | 4, _ => by decide
  | 5, _ => by decide
  | 6, _ => by decide
  | _ + 7, h => by omega
theorem l64 {c : Int} (h : -2147483648 ≤ c ∧ c < 2147483648) : ((Int32.ofInt c).toInt64).toInt = c := by rw [Int32.toInt_toInt64]; exact jy_toInt h
theorem l64m {x : Int64} {v : Int} (hx : x.toInt = v) (hv : 0 ≤ v ∧ v < 1000000000) : ((27 : Int64) * x).toInt = 27 * v := by
  rw [Int64.toInt_mul, hx, show (27 : Int64).toInt = 27 from by decide]
  apply jz_bm
  omega
theorem l64a {x : Int64} {v c : Int} (hx : x.toInt = v) (hv : 0 ≤ v ∧ v < 1000000000) (hc : 0 ≤ c ∧ c ≤ 200) : (((27 : Int64) * x) + (Int32.ofInt c).toInt64).toInt = 27 * v + c := by
  rw [Int64.toInt_add, l64m hx hv, l64 (by omega)]
  apply jz_bm
  omega
theorem l64b {x : Int64} {v c : Int} (hx : x.toInt = v) (hv : 0 ≤ v ∧ v < 1000000000) (hc : 0 ≤ c ∧ c ≤ 200) : (((((27 : Int64) * x) + (Int32.ofInt c).toInt64) - (97 : Int64)) + (1 : Int64)).toInt = 27 * v + (c - 96) := by
  rw [Int64.toInt_add, Int64.toInt_sub, l64a hx hv hc, show (97 : Int64).toInt = 97 from by decide, show (1 : Int64).toInt = 1 from by decide, jz_bm (x := 27 * v + c - 97) (by omega), jz_bm (by omega)]
  omega
theorem lgc_e {x y : Int64} (h : ¬ (lg_cmp x y).toInt ≠ 0) : x = y := by
  unfold lg_cmp at h
  by_cases c1 : x > y
  · rw [if_pos c1] at h; exact absurd h (by decide)
  · rw [if_neg c1] at h
    by_cases c2 : x = y
    · exact c2
    · rw [if_neg c2] at h; exact absurd h (by decide)
theorem lgc_ne {x y : Int64} (h : (lg_cmp x y).toInt ≠ 0) : x ≠ y := by
  intro e
  subst e
  apply h
  unfold lg_cmp
  rw [if_neg (by exact Int64.lt_irrefl), if_pos rfl]
  rfl
/-- seven codes are the word ws -/
abbrev W7 (a b : Int) (r ws : List Int) : Prop := (0 ≤ a ∧ a ≤ 26) ∧ (0 ≤ b ∧ b ≤ 26) ∧ (∀ c ∈ r, 0 ≤ c ∧ c ≤ 26) ∧ w7 (27 * a + b) r = w27 ws 0 ∧ ws.length ≤ 7 ∧ ∀ c ∈ ws, 97 ≤ c ∧ c ≤ 122
theorem wrd_l (T : List Int) (i : Nat) : ∀ c ∈ wrd T i, 97 ≤ c ∧ c ≤ 122 := by
  intro c hc
  have h := List.all_takeWhile (p := isl) (l := T.drop i)
  have h2 := List.all_eq_true.mp h c hc
  exact of_decide_eq_true h2
theorem w7_y {v c : Int} {r : List Int} (h : c ≠ 0) : w7 v (c :: r) = w7 (27 * v + c) r := by show w7 (if c ≠ 0 then 27 * v + c else v) r = _; rw [if_pos h]
theorem w7_n {v c : Int} {r : List Int} (h : c = 0) : w7 v (c :: r) = w7 v r := by show w7 (if c ≠ 0 then 27 * v + c else v) r = _; rw [if_neg (fun k => k h)]
/-- GrievingCamelsModel.seven -/
theorem cz_213 {V : jx_V} (hV : V.1.stackTraces = false) {X : jx_X} {R : jx_R} {I : jx_I} {a0 : Int} {a1 : Int} {a2 : Int} {a3 : Int} {a4 : Int} {a5 : Int} {a6 : Int} 
    (r_a0 : 0 ≤ a0 ∧ a0 ≤ 26) (r_a1 : 0 ≤ a1 ∧ a1 ≤ 26) (r_a2 : 0 ≤ a2 ∧ a2 ≤ 26) (r_a3 : 0 ≤ a3 ∧ a3 ≤ 26) (r_a4 : 0 ≤ a4 ∧ a4 ≤ 26) (r_a5 : 0 ≤ a5 ∧ a5 ≤ 26) (r_a6 : 0 ≤ a6 ∧ a6 ≤ 26)
    {QE : String → jx_I → Prop} : jc V 1 213 (0, 0) [jy a0, jy a1, jy a2, jy a3, jy a4, jy a5, jy a6] X I R (fun rv I' => (∃ x : Int64, rv = some (.long x) ∧ x.toInt = w7 (27 * a0 + a1) [a2, a3, a4, a5, a6]) ∧ I' = I) QE := by
  have hb := l64a (x := (Int32.ofInt a0).toInt64) (c := a1) (l64 (by omega)) (by omega) (by omega)
  refine wm_213 hV (by omega) (by omega) (by omega) (by omega) (by omega) (by omega) (by omega)  (fun J29 J49 J71 J93 hJJ => ?_)
  obtain ⟨hJ29, hJ49, hJ71, hJ93⟩ := hJJ
  have L93 : ∀ (n93 : Nat) (s0 : Int64) (K : jx_I), n93 = 0 → (0 ≤ s0.toInt ∧ s0.toInt < 387420489 ∧ w7 s0.toInt [a6] = w7 (27 * a0 + a1) [a2, a3, a4, a5, a6] ∧ K = I) → J93 s0 K := by
    intro n93
    induction n93 using Nat.strongRecOn with
    | ind n93 ih93 =>
    intro s0 K hn93 hI93
    obtain ⟨h0, hl, hw, rfl⟩ := hI93
    refine hJ93 _ _ ?_
    unfold wz_213_93
    refine ⟨fun hq1 => ?_, fun hq1 => ?_⟩
    · have hv := l64a (x := s0) (c := a6) rfl (by omega) (by omega)
      exact ⟨⟨_, rfl, by rw [hv, ← hw]; exact (w7_y (v := s0.toInt) (r := []) hq1).symm⟩, rfl⟩
    · exact ⟨⟨_, rfl, by rw [← hw]; exact (w7_n (v := s0.toInt) (r := []) hq1).symm⟩, rfl⟩
  have L71 : ∀ (n71 : Nat) (s0 : Int64) (K : jx_I), n71 = 0 → (0 ≤ s0.toInt ∧ s0.toInt < 14348907 ∧ w7 s0.toInt [a5, a6] = w7 (27 * a0 + a1) [a2, a3, a4, a5, a6] ∧ K = I) → J71 s0 K := by
    intro n71
    induction n71 using Nat.strongRecOn with
    | ind n71 ih71 =>
    intro s0 K hn71 hI71
    obtain ⟨h0, hl, hw, rfl⟩ := hI71
    refine hJ71 _ _ ?_
    unfold wz_213_71
    refine ⟨fun hq2 => ?_, fun hq2 => ?_⟩
    · have hv := l64a (x := s0) (c := a5) rfl (by omega) (by omega)
      exact L93 _ _ _ rfl (⟨by omega, by omega, by rw [hv, ← hw]; exact (w7_y hq2).symm, rfl⟩)
    · exact L93 _ _ _ rfl (⟨by omega, by omega, by rw [← hw]; exact (w7_n hq2).symm, rfl⟩)
  have L49 : ∀ (n49 : Nat) (s0 : Int64) (K : jx_I), n49 = 0 → (0 ≤ s0.toInt ∧ s0.toInt < 531441 ∧ w7 s0.toInt [a4, a5, a6] = w7 (27 * a0 + a1) [a2, a3, a4, a5, a6] ∧ K = I) → J49 s0 K := by
    intro n49
    induction n49 using Nat.strongRecOn with
    | ind n49 ih49 =>
    intro s0 K hn49 hI49
    obtain ⟨h0, hl, hw, rfl⟩ := hI49
    refine hJ49 _ _ ?_
    unfold wz_213_49
    refine ⟨fun hq3 => ?_, fun hq3 => ?_⟩
    · have hv := l64a (x := s0) (c := a4) rfl (by omega) (by omega)
      exact L71 _ _ _ rfl (⟨by omega, by omega, by rw [hv, ← hw]; exact (w7_y hq3).symm, rfl⟩)
    · exact L71 _ _ _ rfl (⟨by omega, by omega, by rw [← hw]; exact (w7_n hq3).symm, rfl⟩)
  have L29 : ∀ (n29 : Nat) (s0 : Int64) (K : jx_I), n29 = 0 → (0 ≤ s0.toInt ∧ s0.toInt < 19683 ∧ w7 s0.toInt [a3, a4, a5, a6] = w7 (27 * a0 + a1) [a2, a3, a4, a5, a6] ∧ K = I) → J29 s0 K := by
    intro n29
    induction n29 using Nat.strongRecOn with
    | ind n29 ih29 =>
    intro s0 K hn29 hI29
    obtain ⟨h0, hl, hw, rfl⟩ := hI29
    refine hJ29 _ _ ?_
    unfold wz_213_29
    refine ⟨fun hq4 => ?_, fun hq4 => ?_⟩
    · have hv := l64a (x := s0) (c := a3) rfl (by omega) (by omega)
      exact L49 _ _ _ rfl (⟨by omega, by omega, by rw [hv, ← hw]; exact (w7_y hq4).symm, rfl⟩)
    · exact L49 _ _ _ rfl (⟨by omega, by omega, by rw [← hw]; exact (w7_n hq4).symm, rfl⟩)
  unfold wz_213
  refine ⟨fun hq5 => ?_, fun hq5 => ?_⟩
  · have hv := l64a (x := ((27 : Int64) * (Int32.ofInt a0).toInt64) + (Int32.ofInt a1).toInt64) (c := a2) hb (by omega) (by omega)
    exact L29 _ _ _ rfl (⟨by omega, by omega, by rw [hv]; exact (w7_y hq5).symm, rfl⟩)
  · exact L29 _ _ _ rfl (⟨by omega, by omega, by rw [hb]; exact (w7_n hq5).symm, rfl⟩)
/-- GrievingCamelsModel.wordHere -/
theorem cz_212 {V : jx_V} (hV : V.1.stackTraces = false) {X : jx_X} {R : jx_R} {I : jx_I} {a0 : Nat} {T : List Int} {p : Nat} {fk fa : Int}
    (hM : MX X R a0) (hT : RTX I a0 T (p : Int) fk fa) (hp : p ≤ T.length)
    {QE : String → jx_I → Prop} : jc V 3 212 (0, 0) [.ref a0] X I R (fun rv I' => (∃ x : Int64, rv = some (.long x) ∧ x.toInt = if (wrd T (skB T p)).length ≤ 7 then w27 (wrd T (skB T p)) 0 else -1) ∧ RTX I' a0 T (skB T p : Nat) fk fa ∧ FO a0 [4] I I') QE := by
  have h6 := hT.2.1
  have hsk := skB_le hp
  obtain ⟨s, hs⟩ : ∃ s, s = skB T p := ⟨_, rfl⟩
  rw [← hs] at hsk ⊢
  refine wm_212 hV   (fun J8 J71 hJJ => ?_)
  obtain ⟨hJ8, hJ71⟩ := hJJ
  unfold wz_212
  refine ⟨s_M_0 hM, ?_⟩
  refine ⟨_, cz_207 hV hM hT hp, ?_⟩
  rintro _ I4 ⟨rfl, hT4, hF4⟩
  refine ⟨rfl, ?_⟩
  rw [← hs] at hT4
  have h44 := hT4.1.2.1
  have L8 : ∀ (n8 : Nat) (l1 : Int64) (l3 : Int) (K : jx_I), n8 = ((T.length : Int) - l3).toNat → (∃ k : Nat, l3 = (k : Int) ∧ s + k ≤ T.length ∧ (wrd T s).length = k + (wrd T (s + k)).length ∧ (k ≤ 7 → 0 ≤ l1.toInt ∧ l1.toInt < p27 k ∧ w27 (wrd T s) 0 = w27 (wrd T (s + k)) l1.toInt) ∧ K = I4) → J8 l1 l3 K := by
    intro n8
    induction n8 using Nat.strongRecOn with
    | ind n8 ih8 =>
    intro l1 l3 K hn8 hI8
    obtain ⟨k, rfl, hk, hln, hv, rfl⟩ := hI8
    have hrg := RTX_r hT4 (s + k)
    refine hJ8 _ _ _ ?_
    unfold wz_212_8
    refine ⟨s_M_0 hM, ?_⟩
    refine ⟨_, cz_206 (i := s + k) hV hM hT4 (by omega) (by omega), ?_⟩
    rintro _ I9 ⟨rfl, e9⟩; replace e9 := e9.symm; subst e9
    refine ⟨_, rfl, ?_⟩
    refine ⟨by omega, ?_⟩
    refine ⟨fun hq1 => ?_, fun hq1 => ?_⟩
    · refine ⟨by omega, ?_⟩
      refine ⟨fun hq2 => ?_, fun hq2 => ?_⟩
      · have hw0 := wrd_0 (T := T) (i := s + k) (by omega)
        rw [hw0, List.length_nil] at hln
        have hv7 := hv (by omega)
        exact ⟨⟨_, rfl, by rw [if_pos (by omega), hv7.2.2, hw0]; rfl⟩, hT4, hF4⟩
      · have hw0 := wrd_0 (T := T) (i := s + k) (by omega)
        rw [hw0, List.length_nil] at hln
        exact ⟨⟨_, rfl, by rw [if_neg (by omega)]; rfl⟩, hT4, hF4⟩
    · refine ⟨_, cz_206 (i := s + k) hV hM hT4 (by omega) (by omega), ?_⟩
      rintro _ I15 ⟨rfl, e9⟩; replace e9 := e9.symm; subst e9
      refine ⟨_, rfl, ?_⟩
      refine ⟨by omega, ?_⟩
      refine ⟨fun hq3 => ?_, fun hq3 => ?_⟩
      · refine ⟨by omega, ?_⟩
        refine ⟨fun hq4 => ?_, fun hq4 => ?_⟩
        · have hw0 := wrd_0 (T := T) (i := s + k) (by omega)
          rw [hw0, List.length_nil] at hln
          have hv7 := hv (by omega)
          exact ⟨⟨_, rfl, by rw [if_pos (by omega), hv7.2.2, hw0]; rfl⟩, hT4, hF4⟩
        · have hw0 := wrd_0 (T := T) (i := s + k) (by omega)
          rw [hw0, List.length_nil] at hln
          exact ⟨⟨_, rfl, by rw [if_neg (by omega)]; rfl⟩, hT4, hF4⟩
      · have hql : s + k < T.length := by
          rcases Nat.lt_or_ge (s + k) T.length with e | e
          · exact e
          · rw [tat_ge e] at hq1; exact absurd (by decide : (-1 : Int) < 97) hq1
        have hw1 := wrd_1 (T := T) (i := s + k) (by omega)
        have hln1 : (wrd T (s + k)).length = (wrd T (s + k + 1)).length + 1 := by rw [hw1, List.length_cons]
        refine ⟨by omega, ?_⟩
        refine ⟨fun hq5 => ?_, fun hq5 => ?_⟩
        · refine hJ71 _ _ _ ?_
          unfold wz_212_71
          exact ih8 _ (by omega) _ _ _ rfl (⟨k + 1, by omega, by omega, by rw [← Nat.add_assoc]; omega, fun e => absurd e (by omega), rfl⟩)
        · refine ⟨_, cz_206 (i := s + k) hV hM hT4 (by omega) (by omega), ?_⟩
          rintro _ I22 ⟨rfl, e9⟩; replace e9 := e9.symm; subst e9
          refine ⟨_, rfl, ?_⟩
          refine hJ71 _ _ _ ?_
          unfold wz_212_71
          have hp6 := p27_6 k
          exact ih8 _ (by omega) _ _ _ rfl (⟨k + 1, by omega, by omega, by rw [← Nat.add_assoc]; omega, fun e => by
            have hv7 := hv (by omega)
            have h66 := hp6 (by omega)
            have hb := l64b (x := l1) (c := tat T (s + k)) rfl (by omega) (by omega)
            rw [hb]
            refine ⟨by omega, by show _ < 27 * p27 k; omega, ?_⟩
            rw [hv7.2.2, hw1, ← Nat.add_assoc]; rfl, rfl⟩)
  exact L8 _ _ _ _ rfl (⟨0, rfl, by omega, by rw [Nat.add_zero, Nat.zero_add], fun _ => ⟨by decide, by decide, by rw [Nat.add_zero]; rfl⟩, rfl⟩)
/-- GrievingCamelsModel.isWord -/
theorem cz_214 {V : jx_V} (hV : V.1.stackTraces = false) {X : jx_X} {R : jx_R} {I : jx_I} {a0 : Nat} {a1 : Int} {a2 : Int} {a3 : Int} {a4 : Int} {a5 : Int} {a6 : Int} {a7 : Int} {T : List Int} {p : Nat} {fk fa : Int} {ws : List Int} {s : Nat}
    (hM : MX X R a0) (hT : RTX I a0 T (p : Int) fk fa) (hp : p ≤ T.length) (hs : skB T p = s) (hk : fk = 0) (h7 : W7 a1 a2 [a3, a4, a5, a6, a7] ws)
    {QE : String → jx_I → Prop} : jc V 4 214 (0, 0) [.ref a0, jy a1, jy a2, jy a3, jy a4, jy a5, jy a6, jy a7] X I R (fun rv I' => rv = some (jy (if wrd T s = ws then 1 else 0)) ∧ RTX I' a0 T (s : Nat) 0 fa ∧ FO a0 [4] I I') QE := by
  subst hk
  subst hs
  have h5 := hT.1.2.2.1
  have g1 := h7.1
  have g2 := h7.2.1
  have g3 := h7.2.2.1 a3 (by simp)
  have g4 := h7.2.2.1 a4 (by simp)
  have g5 := h7.2.2.1 a5 (by simp)
  have g6 := h7.2.2.1 a6 (by simp)
  have g7 := h7.2.2.1 a7 (by simp)
  refine wm_214 hV (by omega) (by omega) (by omega) (by omega) (by omega) (by omega) (by omega)  ?_
  unfold wz_214
  refine ⟨s_M_0 hM, ?_⟩
  refine ⟨fun hq1 => ?_, fun hq1 => ?_⟩
  · exact absurd h5 hq1
  · refine ⟨_, cz_212 hV hM hT hp, ?_⟩
    rintro _ I4 ⟨⟨r5, rfl, hx5⟩, hT4, hF4⟩
    refine ⟨_, rfl, ?_⟩
    refine ⟨_, cz_213 hV g1 g2 g3 g4 g5 g6 g7, ?_⟩
    rintro _ I8 ⟨⟨r9, rfl, hx9⟩, rfl⟩
    refine ⟨_, rfl, ?_⟩
    refine ⟨fun hq2 => ?_, fun hq2 => ?_⟩
    · have hne := lgc_ne hq2
      rw [if_neg]
      · exact ⟨rfl, hT4, hF4⟩
      · intro e
        apply hne
        apply Int64.toInt_inj.mp
        rw [hx5, hx9, e, if_pos h7.2.2.2.2.1, h7.2.2.2.1]
    · have heq := lgc_e (fun k => k hq2)
      rw [if_pos]
      · exact ⟨rfl, hT4, hF4⟩
      · rw [heq, hx9, h7.2.2.2.1] at hx5
        have hpos := w27_p ws 0 h7.2.2.2.2.2 (by omega)
        by_cases c7 : (wrd T (skB T p)).length ≤ 7
        · rw [if_pos c7] at hx5
          exact (w27_inj _ _ _ rfl (h7.2.2.2.2.2) (wrd_l T _) hx5).symm
        · rw [if_neg c7] at hx5; omega
/-- GrievingCamelsModel.isWord -/
theorem cz_214f {V : jx_V} (hV : V.1.stackTraces = false) {X : jx_X} {R : jx_R} {I : jx_I} {a0 : Nat} {a1 : Int} {a2 : Int} {a3 : Int} {a4 : Int} {a5 : Int} {a6 : Int} {a7 : Int} 
    (hM : MX X R a0) (hk : (I a0 5).toInt ≠ 0) (r_a1 : -2147483648 ≤ a1 ∧ a1 < 2147483648) (r_a2 : -2147483648 ≤ a2 ∧ a2 < 2147483648) (r_a3 : -2147483648 ≤ a3 ∧ a3 < 2147483648) (r_a4 : -2147483648 ≤ a4 ∧ a4 < 2147483648) (r_a5 : -2147483648 ≤ a5 ∧ a5 < 2147483648) (r_a6 : -2147483648 ≤ a6 ∧ a6 < 2147483648) (r_a7 : -2147483648 ≤ a7 ∧ a7 < 2147483648)
    {QE : String → jx_I → Prop} : jc V 4 214 (0, 0) [.ref a0, jy a1, jy a2, jy a3, jy a4, jy a5, jy a6, jy a7] X I R (fun rv I' => rv = some (jy 0) ∧ I' = I) QE := by
  refine wm_214 hV (by omega) (by omega) (by omega) (by omega) (by omega) (by omega) (by omega)  ?_
  unfold wz_214
  refine ⟨s_M_0 hM, ?_⟩
  refine ⟨fun hq1 => ?_, fun hq1 => ?_⟩
  · exact ⟨rfl, rfl⟩
  · exact absurd hq1 hk
/-- GrievingCamelsModel.takes -/
theorem cz_216 {V : jx_V} (hV : V.1.stackTraces = false) {X : jx_X} {R : jx_R} {I : jx_I} {a0 : Nat} {a1 : Int} {a2 : Int} {a3 : Int} {a4 : Int} {a5 : Int} {a6 : Int} {a7 : Int} {T : List Int} {p : Nat} {fk fa : Int} {ws : List Int} {s : Nat}
    (hM : MX X R a0) (hT : RTX I a0 T (p : Int) fk fa) (hp : p ≤ T.length) (hs : skB T p = s) (hk : fk = 0) (h7 : W7 a1 a2 [a3, a4, a5, a6, a7] ws)
    {QE : String → jx_I → Prop} : jc V 5 216 (0, 0) [.ref a0, jy a1, jy a2, jy a3, jy a4, jy a5, jy a6, jy a7] X I R (fun rv I' => (∃ r : Int, rv = some (jy r) ∧ ((r = 1 ∧ wrd T s = ws ∧ RTX I' a0 T (s + ws.length : Nat) 0 fa) ∨ (r = 0 ∧ wrd T s ≠ ws ∧ RTX I' a0 T (s : Nat) 0 fa))) ∧ FO a0 [4] I I') QE := by
  subst hk
  subst hs
  have hsk := skB_le hp
  have g1 := h7.1
  have g2 := h7.2.1
  have g3 := h7.2.2.1 a3 (by simp)
  have g4 := h7.2.2.1 a4 (by simp)
  have g5 := h7.2.2.1 a5 (by simp)
  have g6 := h7.2.2.1 a6 (by simp)
  have g7 := h7.2.2.1 a7 (by simp)
  refine wm_216 hV (by omega) (by omega) (by omega) (by omega) (by omega) (by omega) (by omega)  ?_
  unfold wz_216
  refine ⟨s_M_0 hM, ?_⟩
  refine ⟨_, cz_214 hV hM hT hp rfl rfl h7, ?_⟩
  rintro _ I4 ⟨rfl, hT4, hF4⟩
  refine ⟨_, rfl, ?_⟩
  refine ⟨by omega, ?_⟩
  refine ⟨fun hq1 => ?_, fun hq1 => ?_⟩
  · have cw := bi_f hq1
    rw [if_neg cw]
    refine ⟨by omega, ?_⟩
    exact ⟨⟨_, rfl, Or.inr ⟨rfl, cw, hT4⟩⟩, hF4⟩
  · have cw := bi_t hq1
    rw [if_pos cw]
    refine ⟨_, cz_215 hV hM hT4 hsk.2, ?_⟩
    rintro _ I10 ⟨rfl, hT10, hF10⟩
    refine ⟨rfl, ?_⟩
    refine ⟨by omega, ?_⟩
    rw [cw] at hT10
    exact ⟨⟨_, rfl, Or.inl ⟨rfl, cw, hT10⟩⟩, FO_trans hF4 hF10⟩
/-- GrievingCamelsModel.takes -/
theorem cz_216f {V : jx_V} (hV : V.1.stackTraces = false) {X : jx_X} {R : jx_R} {I : jx_I} {a0 : Nat} {a1 : Int} {a2 : Int} {a3 : Int} {a4 : Int} {a5 : Int} {a6 : Int} {a7 : Int} 
    (hM : MX X R a0) (hk : (I a0 5).toInt ≠ 0) (r_a1 : -2147483648 ≤ a1 ∧ a1 < 2147483648) (r_a2 : -2147483648 ≤ a2 ∧ a2 < 2147483648) (r_a3 : -2147483648 ≤ a3 ∧ a3 < 2147483648) (r_a4 : -2147483648 ≤ a4 ∧ a4 < 2147483648) (r_a5 : -2147483648 ≤ a5 ∧ a5 < 2147483648) (r_a6 : -2147483648 ≤ a6 ∧ a6 < 2147483648) (r_a7 : -2147483648 ≤ a7 ∧ a7 < 2147483648)
    {QE : String → jx_I → Prop} : jc V 5 216 (0, 0) [.ref a0, jy a1, jy a2, jy a3, jy a4, jy a5, jy a6, jy a7] X I R (fun rv I' => rv = some (jy 0) ∧ I' = I) QE := by
  refine wm_216 hV (by omega) (by omega) (by omega) (by omega) (by omega) (by omega) (by omega)  ?_
  unfold wz_216
  refine ⟨s_M_0 hM, ?_⟩
  refine ⟨_, cz_214f hV hM hk (by omega) (by omega) (by omega) (by omega) (by omega) (by omega) (by omega), ?_⟩
  rintro _ I4 ⟨rfl, e9⟩; replace e9 := e9.symm; subst e9
  refine ⟨_, rfl, ?_⟩
  refine ⟨by omega, ?_⟩
  refine ⟨fun hq1 => ?_, fun hq1 => ?_⟩
  · refine ⟨by omega, ?_⟩
    exact ⟨rfl, rfl⟩
  · exact absurd hq1 (by decide)
