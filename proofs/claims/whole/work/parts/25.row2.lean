/-! ===== class Row (what it takes), class Trip ===== -/
/-- GrievingCamels$Row.takeFirst -/
theorem cz_75 {V : jx_V} (hV : V.1.stackTraces = false) {X : jx_X} {R : jx_R} {I : jx_I} {a0 : Nat} {a1 : Int} {n : Nat}
    (hr : BX X R a0 TRow) (h1 : a1 = (n : Int)) (hn : n ≤ 12)
    {QE : String → jx_I → Prop} : jc V 2 75 (0, 0) [.ref a0, jy a1] X I R (fun rv I' => rv = none ∧ RW I' a0 (List.range n) ∧ FR a0 (a0 + 2) I I') QE := by
  refine wm_75 hV (by omega)  (fun J6 hJJ => ?_)
  have hJ6 := hJJ
  unfold wz_75
  refine ⟨s_Row_0 hr, ?_⟩
  refine ⟨_, cz_68 hV hr, ?_⟩
  rintro _ I4 ⟨rfl, e9⟩; replace e9 := e9.symm; subst e9
  refine ⟨rfl, ?_⟩
  have L6 : ∀ (n6 : Nat) (l2 : Int) (K : jx_I), n6 = ((n : Int) - l2).toNat → (∃ i : Nat, l2 = i ∧ i ≤ n ∧ RW K a0 (List.range i) ∧ FR a0 (a0 + 2) I K) → J6 l2 K := by
    intro n6
    induction n6 using Nat.strongRecOn with
    | ind n6 ih6 =>
    intro l2 K hn6 hI6
    obtain ⟨i, rfl, hi, hK, hF⟩ := hI6
    refine hJ6 _ _ ?_
    unfold wz_75_6
    refine ⟨by omega, ?_⟩
    refine ⟨fun hq1 => ?_, fun hq1 => ?_⟩
    · exact ⟨rfl, by rw [show n = i by omega]; exact hK, hF⟩
    · refine ⟨s_Row_0 hr, ?_⟩
      refine ⟨_, cz_69 hV hr hK (by simp; omega) rfl (by omega), ?_⟩
      rintro _ I10 ⟨rfl, hK2, hF2⟩
      refine ⟨rfl, ?_⟩
      exact ih6 _ (by omega) _ _ rfl (⟨i + 1, by omega, by omega, by rw [List.range_succ]; exact hK2, FR_trans hF hF2⟩)
  exact L6 _ _ _ rfl (⟨0, rfl, by omega, RW_empty I a0, FR_empty I a0 1 _ (by omega)⟩)
/-- GrievingCamels$Row.takeBits -/
theorem cz_76 {V : jx_V} (hV : V.1.stackTraces = false) {X : jx_X} {R : jx_R} {I : jx_I} {a0 : Nat} {a1 : Int} {B : Nat}
    (hr : BX X R a0 TRow) (h1 : a1 = (B : Int)) (hB : B < 2147483648)
    {QE : String → jx_I → Prop} : jc V 2 76 (0, 0) [.ref a0, jy a1] X I R (fun rv I' => rv = none ∧ RW I' a0 (bl B 8) ∧ FR a0 (a0 + 2) I I') QE := by
  refine wm_76 hV (by omega)  (fun J6 J25 hJJ => ?_)
  obtain ⟨hJ6, hJ25⟩ := hJJ
  unfold wz_76
  refine ⟨s_Row_0 hr, ?_⟩
  refine ⟨_, cz_68 hV hr, ?_⟩
  rintro _ I4 ⟨rfl, e9⟩; replace e9 := e9.symm; subst e9
  refine ⟨rfl, ?_⟩
  have L6 : ∀ (n6 : Nat) (l2 : Int) (K : jx_I), n6 = ((8 : Int) - l2).toNat → (∃ i : Nat, l2 = i ∧ i ≤ 8 ∧ RW K a0 (bl B i) ∧ FR a0 (a0 + 2) I K) → J6 l2 K := by
    intro n6
    induction n6 using Nat.strongRecOn with
    | ind n6 ih6 =>
    intro l2 K hn6 hI6
    obtain ⟨i, rfl, hi, hK, hF⟩ := hI6
    refine hJ6 _ _ ?_
    unfold wz_76_6
    refine ⟨by omega, ?_⟩
    refine ⟨fun hq1 => ?_, fun hq1 => ?_⟩
    · exact ⟨rfl, by rw [show 8 = i by omega]; exact hK, hF⟩
    · have hbit := jz_bit (B := B) (k := i) hB (by omega)
      simp only [h1, hbit]
      have hbl := bl_len B i
      refine ⟨fun hq2 => ?_, fun hq2 => ?_⟩
      · exact ih6 _ (by omega) _ _ rfl (⟨i + 1, by omega, by omega, by rw [bl_0 (by omega)]; exact hK, hF⟩)
      · refine ⟨s_Row_0 hr, ?_⟩
        refine ⟨_, cz_69 hV hr hK (by omega) rfl (by omega), ?_⟩
        rintro _ I10 ⟨rfl, hK2, hF2⟩
        refine ⟨rfl, ?_⟩
        refine hJ25 _ _ ?_
        unfold wz_76_25
        exact ih6 _ (by omega) _ _ rfl (⟨i + 1, by omega, by omega, by rw [bl_1 (by omega)]; exact hK2, FR_trans hF hF2⟩)
  exact L6 _ _ _ rfl (⟨0, rfl, by omega, RW_empty I a0, FR_empty I a0 1 _ (by omega)⟩)
theorem fl_step {f : Nat → Bool} {L : List Nat} {i y : Nat} (hy : L[i]? = some y) : (L.take (i + 1)).filter f = (L.take i).filter f ++ (if f y then [y] else []) := by
  rw [ls_last hy, List.filter_append]
  congr 1
  cases h : f y <;> simp [h]
/-- GrievingCamels$Row.takeFrom -/
theorem cz_77 {V : jx_V} (hV : V.1.stackTraces = false) {X : jx_X} {R : jx_R} {I : jx_I} {a0 : Nat} {a1 : Nat} {a2 : Int} {B : Nat} {L : List Nat}
    (hr : BX X R a0 TRow) (hs : BX X R a1 TRow) (hL : RW I a1 L) (hL8 : ∀ c ∈ L, c < 32) (hd : a0 + 2 ≤ a1 ∨ a1 + 2 ≤ a0) (h2 : a2 = (B : Int)) (hB : B < 2147483648)
    {QE : String → jx_I → Prop} : jc V 2 77 (0, 0) [.ref a0, .ref a1, jy a2] X I R (fun rv I' => rv = none ∧ RW I' a0 (L.filter (fun c => B.testBit c)) ∧ FR a0 (a0 + 2) I I') QE := by
  refine wm_77 hV (by omega)  (fun J6 J37 hJJ => ?_)
  obtain ⟨hJ6, hJ37⟩ := hJJ
  unfold wz_77
  refine ⟨s_Row_0 hr, ?_⟩
  refine ⟨_, cz_68 hV hr, ?_⟩
  rintro _ I4 ⟨rfl, e9⟩; replace e9 := e9.symm; subst e9
  refine ⟨rfl, ?_⟩
  have L6 : ∀ (n6 : Nat) (l3 : Int) (K : jx_I), n6 = ((L.length : Int) - l3).toNat → (∃ i : Nat, l3 = i ∧ i ≤ L.length ∧ RW K a0 ((L.take i).filter (fun c => B.testBit c)) ∧ FR a0 (a0 + 2) I K) → J6 l3 K := by
    intro n6
    induction n6 using Nat.strongRecOn with
    | ind n6 ih6 =>
    intro l3 K hn6 hI6
    obtain ⟨i, rfl, hi, hK, hF⟩ := hI6
    have hLK : RW K a1 L := RW_fr hL hF (by omega)
    have hm := hLK.1; have hn12 := hLK.2.1
    refine hJ6 _ _ ?_
    unfold wz_77_6
    refine ⟨s_Row_0 hs, by omega, ?_⟩
    refine ⟨fun hq1 => ?_, fun hq1 => ?_⟩
    · rw [List.take_of_length_le (by omega)] at hK
      exact ⟨rfl, hK, hF⟩
    · obtain ⟨y, hy, hy2⟩ := RW_get hLK (i := i) (by omega)
      have hym : y ∈ L := List.mem_of_getElem? hy
      have hy8 := hL8 y hym
      have hbit := jz_bit (B := B) (k := y) hB hy8
      have hle : ((L.take i).filter (fun c => B.testBit c)).length ≤ i := by
        have := List.length_filter_le (fun c => B.testBit c) (L.take i)
        simp at this; omega
      refine ⟨_, r_Row_0_0 hs, _, ⟨s_Row_1 hs, by decide⟩, ?_⟩
      simp only [Int.toNat_natCast, hy2, h2, hbit]
      refine ⟨by omega, ?_⟩
      refine ⟨fun hq2 => ?_, fun hq2 => ?_⟩
      · have hbf : B.testBit y = false := by rw [bN_t]; simp; omega
        exact ih6 _ (by omega) _ _ rfl (⟨i + 1, by omega, by omega, by rw [fl_step hy, hbf]; simpa using hK, hF⟩)
      · have hbf : B.testBit y = true := by rw [bN_t]; have := bN_01 B y; simp; omega
        refine ⟨by omega, s_Row_0 hr, ?_⟩
        refine ⟨_, cz_69 hV hr hK (by omega) rfl (by omega), ?_⟩
        rintro _ I17 ⟨rfl, hK2, hF2⟩
        refine ⟨rfl, ?_⟩
        refine hJ37 _ _ ?_
        unfold wz_77_37
        exact ih6 _ (by omega) _ _ rfl (⟨i + 1, by omega, by omega, by rw [fl_step hy, hbf]; simpa using hK2, FR_trans hF hF2⟩)
  exact L6 _ _ _ rfl (⟨0, rfl, by omega, by rw [List.take_zero]; exact RW_empty I a0, FR_empty I a0 1 _ (by omega)⟩)
theorem jz_or {a b : Nat} (ha : a < 2147483648) (hb : b < 2147483648) : (Int32.ofInt (a : Int) ||| Int32.ofInt (b : Int)).toInt = ((a ||| b : Nat) : Int) := by
  have h3 : a ||| b < 2 ^ 31 := Nat.or_lt_two_pow (by omega) (by omega)
  have e : (nI a ||| nI b) = nI (a ||| b) := by
    apply Int32.toBitVec_inj.mp
    apply BitVec.eq_of_toNat_eq
    rw [Int32.toBitVec_or, BitVec.toNat_or, pk_tn (by omega), pk_tn (by omega), pk_tn (by omega)]
  rw [jz_ofI, jz_ofI, e, nI_toInt (by omega)]
theorem jz_and {a b : Nat} (ha : a < 2147483648) (hb : b < 2147483648) : (Int32.ofInt (a : Int) &&& Int32.ofInt (b : Int)).toInt = ((a &&& b : Nat) : Int) := by
  have h3 : a &&& b ≤ a := Nat.and_le_left
  have e : (nI a &&& nI b) = nI (a &&& b) := by
    apply Int32.toBitVec_inj.mp
    apply BitVec.eq_of_toNat_eq
    rw [Int32.toBitVec_and, BitVec.toNat_and, pk_tn (by omega), pk_tn (by omega), pk_tn (by omega)]
  rw [jz_ofI, jz_ofI, e, nI_toInt (by omega)]
/-- the bits of a row -/
def bo (L : List Nat) : Nat := L.foldl (fun b c => b ||| 2 ^ c) 0
theorem bo_app (L : List Nat) (c : Nat) : bo (L ++ [c]) = bo L ||| 2 ^ c := by unfold bo; rw [List.foldl_append]; rfl
theorem bo_lt {n : Nat} : ∀ (L : List Nat), (∀ c ∈ L, c < n) → bo L < 2 ^ n := by
  intro L
  have key : ∀ (L : List Nat) (a : Nat), a < 2 ^ n → (∀ c ∈ L, c < n) → L.foldl (fun b c => b ||| 2 ^ c) a < 2 ^ n := by
    intro L
    induction L with
    | nil => intro a ha _; exact ha
    | cons c L ih =>
      intro a ha h
      exact ih _ (Nat.or_lt_two_pow ha (Nat.pow_lt_pow_right (by omega) (h c (by simp)))) (fun e he => h e (by simp [he]))
  exact key L 0 (Nat.two_pow_pos n)
theorem bo_t (L : List Nat) (k : Nat) : (bo L).testBit k = decide (k ∈ L) := by
  have key : ∀ (L : List Nat) (a : Nat), (L.foldl (fun b c => b ||| 2 ^ c) a).testBit k = (a.testBit k || decide (k ∈ L)) := by
    intro L
    induction L with
    | nil => intro a; simp
    | cons c L ih =>
      intro a
      rw [List.foldl_cons, ih, Nat.testBit_or, Nat.testBit_two_pow]
      by_cases e : c = k
      · subst e; simp
      · have e2 : ¬ k = c := fun h => e h.symm
        simp [e, e2]
  unfold bo
  rw [key]
  simp
/-- GrievingCamels$Row.asBits -/
theorem cz_80 {V : jx_V} (hV : V.1.stackTraces = false) {X : jx_X} {R : jx_R} {I : jx_I} {a0 : Nat} {L : List Nat}
    (hr : BX X R a0 TRow) (hL : RW I a0 L) (hL8 : ∀ c ∈ L, c < 12)
    {QE : String → jx_I → Prop} : jc V 1 80 (0, 0) [.ref a0] X I R (fun rv I' => rv = some (jy (bo L : Nat)) ∧ I' = I) QE := by
  refine wm_80 hV   (fun J4 hJJ => ?_)
  have hJ4 := hJJ
  have hm := hL.1; have hn12 := hL.2.1
  unfold wz_80
  have L4 : ∀ (n4 : Nat) (l1 : Int) (l2 : Int) (K : jx_I), n4 = ((L.length : Int) - l2).toNat → (∃ i : Nat, l2 = i ∧ i ≤ L.length ∧ l1 = (bo (L.take i) : Nat) ∧ K = I) → J4 l1 l2 K := by
    intro n4
    induction n4 using Nat.strongRecOn with
    | ind n4 ih4 =>
    intro l1 l2 K hn4 hI4
    obtain ⟨i, rfl, hi, rfl, rfl⟩ := hI4
    refine hJ4 _ _ _ ?_
    unfold wz_80_4
    refine ⟨s_Row_0 hr, by omega, ?_⟩
    refine ⟨fun hq1 => ?_, fun hq1 => ?_⟩
    · rw [List.take_of_length_le (by omega)]
      exact ⟨rfl, rfl⟩
    · obtain ⟨y, hy, hy2⟩ := RW_get hL (i := i) (by omega)
      have hy8 := hL8 y (List.mem_of_getElem? hy)
      have hb1 : bo (L.take i) < 2 ^ 12 := bo_lt _ (fun c hc => hL8 c (List.mem_of_mem_take hc))
      have hb2 : 2 ^ y < 2 ^ 12 := Nat.pow_lt_pow_right (by omega) hy8
      have hor := jz_or (a := bo (L.take i)) (b := 2 ^ y) (by omega) (by omega)
      refine ⟨_, r_Row_0_0 hr, _, ⟨s_Row_1 hr, by decide⟩, ?_⟩
      simp only [Int.toNat_natCast, hy2, jz_1sh (show y < 31 by omega)]
      refine ⟨by omega, ?_⟩
      exact ih4 _ (by omega) _ _ _ rfl (⟨i + 1, by omega, by omega, by rw [hor, ls_last hy, bo_app], rfl⟩)
  exact L4 _ _ _ _ rfl (⟨0, rfl, by omega, by rw [List.take_zero]; rfl, rfl⟩)
/-- a row as digits to the base 10 -/
def dec (L : List Nat) : Nat := L.foldl (fun v c => v * 10 + c) 0
theorem dec_app (L : List Nat) (c : Nat) : dec (L ++ [c]) = dec L * 10 + c := by unfold dec; rw [List.foldl_append]; rfl
theorem dec_lt : ∀ (n : Nat) (L : List Nat), L.length = n → (∀ c ∈ L, c < 10) → dec L < 10 ^ n := by
  intro n
  induction n with
  | zero =>
    intro L hl _
    rw [List.length_eq_zero_iff.mp hl]
    decide
  | succ n ih =>
    intro L hl h
    have hne : L ≠ [] := by intro e; subst e; simp at hl
    have e := List.dropLast_concat_getLast hne
    generalize L.dropLast = l at e
    generalize L.getLast hne = x at e
    subst e
    have h1 := ih l (by simpa using hl) (fun c hc => h c (by simp [hc]))
    have h2 := h x (by simp)
    rw [dec_app, Nat.pow_succ]
    omega
/-- GrievingCamels$Row.asDigits -/
theorem cz_81 {V : jx_V} (hV : V.1.stackTraces = false) {X : jx_X} {R : jx_R} {I : jx_I} {a0 : Nat} {L : List Nat}
    (hr : BX X R a0 TRow) (hL : RW I a0 L)
    {QE : String → jx_I → Prop} : jc V 1 81 (0, 0) [.ref a0] X I R (fun rv I' => rv = some (.long (lN (dec L))) ∧ I' = I) QE := by
  refine wm_81 hV   (fun J4 hJJ => ?_)
  have hJ4 := hJJ
  have hm := hL.1; have hn12 := hL.2.1
  unfold wz_81
  have L4 : ∀ (n4 : Nat) (l1 : Int64) (l3 : Int) (K : jx_I), n4 = ((L.length : Int) - l3).toNat → (∃ i : Nat, l3 = i ∧ i ≤ L.length ∧ l1 = lN (dec (L.take i)) ∧ K = I) → J4 l1 l3 K := by
    intro n4
    induction n4 using Nat.strongRecOn with
    | ind n4 ih4 =>
    intro l1 l3 K hn4 hI4
    obtain ⟨i, rfl, hi, rfl, rfl⟩ := hI4
    refine hJ4 _ _ _ ?_
    unfold wz_81_4
    refine ⟨s_Row_0 hr, by omega, ?_⟩
    refine ⟨fun hq1 => ?_, fun hq1 => ?_⟩
    · rw [List.take_of_length_le (by omega)]
      exact ⟨rfl, rfl⟩
    · obtain ⟨y, hy, hy2⟩ := RW_get hL (i := i) (by omega)
      have hyr := jy_rng (K (a0 + 1) i)
      rw [hy2] at hyr
      refine ⟨_, r_Row_0_0 hr, _, ⟨s_Row_1 hr, by decide⟩, ?_⟩
      simp only [Int.toNat_natCast, hy2]
      refine ⟨by omega, ?_⟩
      exact ih4 _ (by omega) _ _ _ rfl (⟨i + 1, by omega, by omega, by rw [jz_ofI, nI_l (by omega), ls_last hy, dec_app, show (10 : Int64) = lN 10 from rfl, lN_mul, lN_add], rfl⟩)
  exact L4 _ _ _ _ rfl (⟨0, rfl, by omega, by rw [List.take_zero]; rfl, rfl⟩)
theorem td10 (x : Int) : x.tdiv 10 = if 0 ≤ x then x / 10 else -((-x) / 10) := by
  split
  · rename_i h; exact Int.tdiv_eq_ediv_of_nonneg h
  · have h := Int.tdiv_eq_ediv_of_nonneg (a := -x) (b := 10) (by omega)
    rw [Int.neg_tdiv] at h
    omega
theorem jz_lr (x : Int64) : -9223372036854775808 ≤ x.toInt ∧ x.toInt < 9223372036854775808 := ⟨by simpa using Int64.le_toInt x, by simpa using Int64.toInt_lt x⟩
theorem jz_bm {x : Int} (h : -9223372036854775808 ≤ x ∧ x < 9223372036854775808) : x.bmod (2 ^ 64) = x := by
  rw [← Int64.toInt_ofInt]
  exact Int64.toInt_ofInt_of_le (by simpa using h.1) (by simpa using h.2)
theorem jz_ldiv (x : Int64) : (x / (10 : Int64)).toInt = if 0 ≤ x.toInt then x.toInt / 10 else -((-x.toInt) / 10) := by
  have h := jz_lr x
  rw [Int64.toInt_div, show (10 : Int64).toInt = 10 from by decide, td10]
  apply jz_bm
  split <;> omega
theorem jz_lrem (x : Int64) : (x - x / (10 : Int64) * (10 : Int64)).toInt32.toInt = if 0 ≤ x.toInt then x.toInt % 10 else -((-x.toInt) % 10) := by
  have h := jz_lr x
  have h1 := jz_ldiv x
  have h2 : (x / (10 : Int64) * (10 : Int64)).toInt = (x / (10 : Int64)).toInt * 10 := by
    rw [Int64.toInt_mul, show (10 : Int64).toInt = 10 from by decide]
    apply jz_bm
    split at h1 <;> omega
  have h3 : (x - x / (10 : Int64) * (10 : Int64)).toInt = x.toInt - (x / (10 : Int64)).toInt * 10 := by
    rw [Int64.toInt_sub, h2]
    apply jz_bm
    split at h1 <;> omega
  have h4 : ((x - x / (10 : Int64) * (10 : Int64)).toInt32).toInt = (x - x / (10 : Int64) * (10 : Int64)).toInt := by
    rw [Int64.toInt_toInt32, ← Int32.toInt_ofInt]
    apply jy_toInt
    rw [h3]
    split at h1 <;> omega
  rw [h4, h3, h1]
  split <;> omega
/-- the last k digits of a number, the highest first -/
def dgs : Nat → Nat → List Nat
  | 0, _ => []
  | k + 1, v => dgs k (v / 10) ++ [v % 10]
theorem dgs_len : ∀ (k v : Nat), (dgs k v).length = k
  | 0, _ => rfl
  | k + 1, v => by unfold dgs; rw [List.length_append, dgs_len k]; rfl
theorem dgs_10 : ∀ (k v : Nat), ∀ c ∈ dgs k v, c < 10
  | 0, _ => fun c h => by simp [dgs] at h
  | k + 1, v => fun c h => by
    unfold dgs at h
    rcases List.mem_append.mp h with h | h
    · exact dgs_10 k _ c h
    · simp at h; omega
/-- so many digits of a number, each below e -/
def dok (k : Nat) (v : Int) (e : Int) : Prop := 0 ≤ v ∧ v < 10 ^ k ∧ ∀ c ∈ dgs k v.toNat, (c : Int) < e
theorem dok_step {k : Nat} {v e : Int} (h : 0 ≤ v) : dok (k + 1) v e ↔ dok k (v / 10) e ∧ v % 10 < e := by
  unfold dok
  rw [show (v / 10).toNat = v.toNat / 10 by omega]
  have e1 : v < 10 ^ (k + 1) ↔ v / 10 < 10 ^ k := by
    rw [Int.pow_succ]
    generalize (10 : Int) ^ k = m
    omega
  have e2 : dgs (k + 1) v.toNat = dgs k (v.toNat / 10) ++ [v.toNat % 10] := rfl
  rw [e1, e2]
  constructor
  · rintro ⟨_, h2, h3⟩
    refine ⟨⟨by omega, h2, fun c hc => h3 c (by simp [hc])⟩, ?_⟩
    have := h3 (v.toNat % 10) (by simp)
    omega
  · rintro ⟨⟨_, h2, h3⟩, h4⟩
    refine ⟨h, h2, fun c hc => ?_⟩
    rcases List.mem_append.mp hc with hc | hc
    · exact h3 c hc
    · simp at hc; omega
/-- GrievingCamels$Row.takeDigits -/
theorem cz_78 {V : jx_V} (hV : V.1.stackTraces = false) {X : jx_X} {R : jx_R} {I : jx_I} {a0 : Nat} {a1 : Int} {a2 : Int64} {a3 : Int} {k : Nat}
    (hr : BX X R a0 TRow) (h1 : a1 = (k : Int)) (hk : k ≤ 12) (r_a3 : -2147483648 ≤ a3 ∧ a3 < 2147483648)
    {QE : String → jx_I → Prop} : jc V 2 78 (0, 0) [.ref a0, jy a1, .long a2, jy a3] X I R (fun rv I' => (∃ r : Int, rv = some (jy r) ∧ ((r = 1 ∧ dok k a2.toInt a3 ∧ RW I' a0 (dgs k a2.toInt.toNat)) ∨ (r = 0 ∧ ¬ dok k a2.toInt a3))) ∧ FR a0 (a0 + 2) I I') QE := by
  refine wm_78 hV (by omega) (by omega)  (fun J27 hJJ => ?_)
  have hJ27 := hJJ
  unfold wz_78
  refine ⟨s_Row_0 hr, ?_⟩
  refine ⟨_, cz_68 hV hr, ?_⟩
  rintro _ I4 ⟨rfl, e9⟩; replace e9 := e9.symm; subst e9
  refine ⟨rfl, ?_⟩
  refine ⟨fun hq1 => ?_, fun hq1 => ?_⟩
  · omega
  · refine ⟨_, r_Row_0_0 hr, _, ⟨s_Row_1 hr, by decide⟩, ?_⟩
    refine ⟨fun hq2 => ?_, fun hq2 => ?_⟩
    · have L27 : ∀ (n27 : Nat) (l5 : Int64) (l7 : Int) (K : jx_I), n27 = (l7 + 1).toNat → (∃ (j : Nat) (S : List Nat), l7 = (j : Int) - 1 ∧ j ≤ k ∧ S.length + j = k ∧ (0 ≤ a2.toInt → 0 ≤ l5.toInt ∧ (dok k a2.toInt a3 ↔ dok j l5.toInt a3) ∧ dgs k a2.toInt.toNat = dgs j l5.toInt.toNat ++ S) ∧ (a2.toInt < 0 → l5.toInt < 0) ∧ (∀ (t x : Nat), S[t]? = some x → (K (a0 + 1) (j + t)).toInt = (x : Int)) ∧ FR a0 (a0 + 2) I K) → J27 l5 l7 K := by
        intro n27
        induction n27 using Nat.strongRecOn with
        | ind n27 ih27 =>
        intro l5 l7 K hn27 hI27
        obtain ⟨j, S, rfl, hj, hS, hpos, hneg, hst, hF⟩ := hI27
        have hq := jz_ldiv l5
        have hr5 := jz_lrem l5
        refine hJ27 _ _ _ ?_
        unfold wz_78_27
        refine ⟨by omega, ?_⟩
        refine ⟨fun hq3 => ?_, fun hq3 => ?_⟩
        · refine ⟨s_Row_0 hr, ?_⟩
          intro I12 e_I12; subst e_I12
          refine ⟨fun hq4 => ?_, fun hq4 => ?_⟩
          · have hj0 : j = 0 := by omega
            subst hj0
            refine ⟨⟨_, rfl, Or.inr ⟨rfl, fun hd => ?_⟩⟩, FR_u hF (by omega) (by omega)⟩
            have hd2 := ((hpos hd.1).2.1.mp hd).2.1
            have hd1 := ((hpos hd.1).2.1.mp hd).1
            have h0 : l5 = lN 0 := by apply Int64.toInt_inj.mp; rw [show (lN 0).toInt = 0 from rfl]; simp at hd2; omega
            rw [h0] at hq4
            exact hq4 (by decide)
          · have hj0 : j = 0 := by omega
            subst hj0
            have h0 : l5 = 0 := by
              unfold lg_cmp at hq4
              by_cases c1 : l5 > 0
              · rw [if_pos c1] at hq4; exact absurd hq4 (by decide)
              · rw [if_neg c1] at hq4
                by_cases c2 : l5 = 0
                · exact c2
                · rw [if_neg c2] at hq4; exact absurd hq4 (by decide)
            have h6 : l5.toInt = 0 := by rw [h0]; rfl
            have hp : 0 ≤ a2.toInt := by
              rcases Int.lt_or_le a2.toInt 0 with h | h
              · have := hneg h; omega
              · exact h
            obtain ⟨_, hd, hg⟩ := hpos hp
            refine ⟨⟨_, rfl, Or.inl ⟨rfl, hd.mpr ⟨by omega, by rw [h6]; decide, by unfold dgs; simp⟩, ?_, ?_, ?_⟩⟩, FR_u hF (by omega) (by omega)⟩
            · rw [jx_u_s, dgs_len, h1]; exact jy_toInt (by omega)
            · rw [dgs_len]; omega
            · intro t x ht
              rw [hg] at ht
              rw [jx_u_a _ _ _ _ (by omega)]
              have := hst t x (by simpa [dgs] using ht)
              simpa using this
        · refine ⟨fun hq5 => ?_, fun hq5 => ?_⟩
          · refine ⟨⟨_, rfl, Or.inr ⟨rfl, fun hd => ?_⟩⟩, hF⟩
            have hd1 := (hpos hd.1).1
            rw [hr5, if_pos hd1] at hq5
            omega
          · refine ⟨fun hq6 => ?_, fun hq6 => ?_⟩
            · refine ⟨s_Row_0 hr, _, r_Row_0_0 hr, _, ⟨s_Row_1 hr, by decide⟩, by omega, ?_⟩
              intro I19 e_I19; subst e_I19
              exact ih27 _ (by omega) _ _ _ rfl (⟨j - 1, ((l5.toInt % 10).toNat) :: S, by omega, by omega, by simp; omega, fun h => by
                obtain ⟨p1, p2, p3⟩ := hpos h
                rw [hr5, if_pos p1] at hq5 hq6
                rw [if_pos p1] at hq
                refine ⟨by omega, ?_, ?_⟩
                · rw [p2, show j = (j - 1) + 1 by omega, dok_step p1, hq]
                  exact ⟨fun h => h.1, fun h => ⟨h, hq6⟩⟩
                · rw [p3, show j = (j - 1) + 1 by omega]
                  show dgs (j - 1) (l5.toInt.toNat / 10) ++ [l5.toInt.toNat % 10] ++ S = _
                  rw [hq, show (l5.toInt / 10).toNat = l5.toInt.toNat / 10 by omega, show (l5.toInt % 10).toNat = l5.toInt.toNat % 10 by omega]
                  simp, fun h => by
                have h9 := hneg h
                rw [hr5, if_neg (by omega)] at hq5
                rw [if_neg (by omega)] at hq
                omega, fun t x ht => by
                cases t with
                | zero =>
                  simp at ht
                  rw [show ((j : Int) - 1).toNat = j - 1 + 0 by omega, jx_u_s, jy_toInt (by split at hr5 <;> omega), hr5, ← ht]
                  split at hr5
                  · rename_i h; rw [if_pos h]; omega
                  · rename_i h; rw [if_neg h] at *; omega
                | succ t =>
                  simp at ht
                  rw [jx_u_k _ _ _ _ (by omega), show j - 1 + (t + 1) = j + t by omega]
                  exact hst t x ht, FR_u hF (by omega) (by omega)⟩)
            · refine ⟨⟨_, rfl, Or.inr ⟨rfl, fun hd => ?_⟩⟩, hF⟩
              have hd1 := (hpos hd.1).1
              have hd2 := (hpos hd.1).2.1.mp hd
              rw [show j = (j - 1) + 1 by omega, dok_step hd1] at hd2
              rw [hr5, if_pos hd1] at hq6
              omega
      exact L27 _ _ _ _ rfl (⟨k, [], by omega, by omega, by simp, fun h => ⟨h, Iff.rfl, by simp⟩, fun h => h, fun t x h => by simp at h, FR_empty I a0 1 _ (by omega)⟩)
    · omega
