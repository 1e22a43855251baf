/-! ===== the class: race, doubt, what would be best, what is to come ===== -/
theorem ff_s (P : Nat → Bool) (n k : Nat) : ff P (n + 1) k = if P (k + 1) then ((k + 1 : Nat) : Int) else ff P n (k + 1) := rfl
/-- lots: unwrapped, the draw's bits, how many are below q -/
def lot (seed : Int) : Nat → Int
  | 0 => seed
  | k + 1 => lot seed k * 1103515245 + 12345
def lotb (x : Int) : Int := (((Int32.ofInt x).toBitVec.toNat / 65536 % 8 : Nat) : Int)
def late (seed q : Int) : Nat → Int
  | 0 => 0
  | k + 1 => late seed q k + if lotb (lot seed (k + 1)) < q then 1 else 0
theorem late_rng (seed q : Int) : ∀ k, 0 ≤ late seed q k ∧ late seed q k ≤ k
  | 0 => by simp [late]
  | k + 1 => by
    have := late_rng seed q k
    unfold late
    split <;> omega
theorem jz_lotu (x : Int) : (Int32.ofInt ((((Int32.ofInt x).toUInt32 >>> ((Int32.ofInt 16).toUInt32 &&& Int32.toUInt32 31)).toInt32).toInt) &&& Int32.ofInt 7).toInt = lotb x := by
  rw [Int32.ofInt_toInt]
  have h := pk_and ((((Int32.ofInt x).toUInt32 >>> ((Int32.ofInt 16).toUInt32 &&& Int32.toUInt32 31)).toInt32)) (m := Int32.ofInt 7) 3 (by decide)
  rw [h, pk_ushr (Int32.ofInt x) (Int32.ofInt 16) 16 (by decide), nI_toInt (by omega)]
  rfl
theorem jz_lots (x : Int) : (Int32.ofInt ((Int32.ofInt x >>> (Int32.ofInt 16 &&& 31)).toInt) &&& Int32.ofInt 7).toInt = lotb x := by
  rw [Int32.ofInt_toInt]
  have h := pk_and (Int32.ofInt x >>> (Int32.ofInt 16 &&& 31)) (m := Int32.ofInt 7) 3 (by decide)
  have h2 := pk_shr (Int32.ofInt x) (Int32.ofInt 16 &&& 31) 16 (by decide)
  rw [h, nI_toInt (by omega)]
  unfold lotb
  have e1 : ∀ y : Int32, ((y.toBitVec.toNat % 2 ^ 3 : Nat) : Int) = y.toInt % 8 := by
    intro y
    have h3 : y.toInt = y.toBitVec.toInt := rfl
    rw [h3, BitVec.toInt_eq_toNat_cond]
    split <;> omega
  have e2 : (Int32.ofInt x).toInt % 4294967296 = ((Int32.ofInt x).toBitVec.toNat : Int) := by
    have h3 : (Int32.ofInt x).toInt = (Int32.ofInt x).toBitVec.toInt := rfl
    have h4 := (Int32.ofInt x).toBitVec.isLt
    rw [h3, BitVec.toInt_eq_toNat_cond]
    split <;> omega
  rw [e1, h2, Int.shiftRight_eq_div_pow]
  have e3 : ((Int32.ofInt x).toBitVec.toNat / 65536 % 8 : Nat) = ((((Int32.ofInt x).toBitVec.toNat : Int) / 65536 % 8)) := by omega
  rw [e3, ← e2]
  omega
def dbt (l : LT) (c : CT) (seed q : Int) : Int := hrs l (CJ c) (CL c) (Cg c) (Cd c) + late seed q ((CJ c).length - 1)
def spl (v : Nat → Int) : Nat → Int
  | 0 => 2147483647
  | n + 1 => min (spl v n) (v n)
def spg (v : Nat → Int) : Nat → Int
  | 0 => 0
  | n + 1 => max (spg v n) (v n)
def spa (v : Nat → Int) : Nat → Int
  | 0 => 0
  | n + 1 => spa v n + v n
theorem spl_rng (v : Nat → Int) (h : ∀ k, 0 ≤ v k) : ∀ n, 0 ≤ spl v n ∧ spl v n ≤ 2147483647
  | 0 => by simp [spl]
  | n + 1 => by
    have h1 := spl_rng v h n
    have h2 := h n
    unfold spl
    omega
theorem spg_rng (v : Nat → Int) (h : ∀ k, 0 ≤ v k ∧ v k ≤ 2000) : ∀ n, 0 ≤ spg v n ∧ spg v n ≤ 2000
  | 0 => by simp [spg]
  | n + 1 => by
    have h1 := spg_rng v h n
    have h2 := h n
    unfold spg
    omega
/-- goings: griefs and depths behind k of them -/
def itg (l : LT) (J L : List Nat) (g d : GT) : Nat → GT × GT
  | 0 => (g, d)
  | k + 1 => jst l J L (itg l J L g d k).1 (itg l J L g d k).2 (J.length - 1)
theorem GD_it {l : LT} {J L : List Nat} {g d : GT} (h : GD g d) (hJ : ∀ x ∈ J, x < 10) (hL : ∀ x ∈ L, x < 8) : ∀ k, GD (itg l J L g d k).1 (itg l J L g d k).2
  | 0 => h
  | k + 1 => GD_j (l := l) (GD_it h hJ hL k) hJ hL (J.length - 1) (by omega)
/-- GrievingCamels.race -/
theorem cz_160 {V : jx_V} (hV : V.1.stackTraces = false) {X : jx_X} {R : jx_R} {I : jx_I} {a0 : Nat} {a1 : Int} {ld : Nat} {l : LT} {c : CT} 
    (h : GX X R I a0 ld l c) (r_a1 : -2147483648 ≤ a1 ∧ a1 < 2147483648)
    : jc V 9 160 (2, 12) [.ref a0, jy a1] X I R (fun rv I' => nz (0 ≤ a1 ∧ a1 ≤ 99) 2 (nz (CJ c ≠ []) 3 (none)) = none ∧ rv = some (jy (ff (fun i => decide (a1 ≤ jhs l (CJ c) (CL c) (Cg c) (Cd c) i)) ((CJ c).length - 1) 0)) ∧ FS a0 I I') (fun E I' => ∃ k, nz (0 ≤ a1 ∧ a1 ≤ 99) 2 (nz (CJ c ≠ []) 3 (none)) = some k ∧ E = (jx_exe k).1 ∧ I' = rfs I a0 k) := by
  have hW := h.2.2.2.1
  have hW0 := hW.1
  refine wm_160 hV (by omega)  (fun J16 J31 hJJ => ?_)
  obtain ⟨hJ16, hJ31⟩ := hJJ
  have hl := GX_l h
  have hD := h.2.2.1; have hS := h.2.2.2.2.1; have hC := h.2.2.2.2.2.1; have hlo := h.2.1.2
  unfold wz_160
  refine ⟨fun hq1 => ?_, fun hq1 => ?_⟩
  · refine hJ16 _ _ _ ?_
    unfold wz_160_16
    refine ⟨s_GC_0 h.1, ?_⟩
    refine ⟨_, _, cz_189 hV h.1 (by omega), fun Ex Ix h9 => ⟨2, by rw [nz_f (by omega)], h9.1, h9.2.1⟩, ?_⟩
    rintro _ I6 ⟨rfl, e9, hp⟩; replace e9 := e9.symm; subst e9
    exact absurd rfl hp
  · refine ⟨fun hq2 => ?_, fun hq2 => ?_⟩
    · refine hJ16 _ _ _ ?_
      unfold wz_160_16
      refine ⟨s_GC_0 h.1, ?_⟩
      refine ⟨_, _, cz_189 hV h.1 (by omega), fun Ex Ix h9 => ⟨2, by rw [nz_f (by omega)], h9.1, h9.2.1⟩, ?_⟩
      rintro _ I6 ⟨rfl, e9, hp⟩; replace e9 := e9.symm; subst e9
      exact absurd rfl hp
    · refine hJ16 _ _ _ ?_
      unfold wz_160_16
      refine ⟨s_GC_0 h.1, ?_⟩
      refine ⟨_, _, cz_189 hV h.1 (by omega), fun Ex Ix h9 => absurd h9.2.2 (by decide), ?_⟩
      rintro _ I6 ⟨rfl, e9, hp⟩; replace e9 := e9.symm; subst e9
      refine ⟨rfl, ?_⟩
      refine ⟨s_GC_0 h.1, ?_⟩
      refine ⟨_, _, cz_193 hV h, fun Ex Ix h9 => ⟨3, by rw [nz_t (by omega)]; rw [nz_f (fun k => k h9.2.2)], h9.1, h9.2.1⟩, ?_⟩
      rintro _ I13 ⟨rfl, e9, hpJ⟩; replace e9 := e9.symm; subst e9
      refine ⟨rfl, ?_⟩
      refine ⟨_, cz_194 hV h hpJ, ?_⟩
      rintro _ I17 ⟨rfl, hT, hF⟩
      refine ⟨rfl, ?_⟩
      have L31 : ∀ (n31 : Nat) (l2 : Int) (l3 : Int) (K : jx_I), n31 = (((CJ c).length : Int) - l3).toNat → (∃ n : Nat, l3 = (n + 1 : Nat) ∧ n + 1 ≤ (CJ c).length ∧ l2 = jhs l (CJ c) (CL c) (Cg c) (Cd c) n ∧ ff (fun i => decide (a1 ≤ jhs l (CJ c) (CL c) (Cg c) (Cd c) i)) ((CJ c).length - 1) 0 = ff (fun i => decide (a1 ≤ jhs l (CJ c) (CL c) (Cg c) (Cd c) i)) ((CJ c).length - 1 - n) n ∧ TC K (a0 + 17) l c ∧ FS a0 I K) → J31 l2 l3 K := by
        intro n31
        induction n31 using Nat.strongRecOn with
        | ind n31 ih31 =>
        intro l2 l3 K hn31 hI31
        obtain ⟨n, rfl, hn, rfl, hff, hT, hF⟩ := hI31
        have hmj := (GX_s h hF).2.2.2.2.1.2.2.1.1
        have hJ1 := (WC_J hC hpJ).1
        have hrg := jhs_rng l (CJ c) (CL c) (Cg c) (Cd c) n
        have hrg2 := jhs_rng l (CJ c) (CL c) (Cg c) (Cd c) (n + 1)
        have hst : jhs l (CJ c) (CL c) (Cg c) (Cd c) (n + 1) = jhs l (CJ c) (CL c) (Cg c) (Cd c) n + jht l (CJ c) (CL c) (Cg c) (Cd c) n := rfl
        refine hJ31 _ _ _ ?_
        unfold wz_160_31
        refine ⟨s_GC_0 h.1, _, r_GC_0_2 h.1, s_State_0 (b_GC_4 h.1), _, r_State_0_2 (b_GC_4 h.1), s_Row_0 (b_GC_11 h.1), by omega, ?_⟩
        refine ⟨fun hq3 => ?_, fun hq3 => ?_⟩
        · rw [show (CJ c).length - 1 - n = 0 by omega] at hff
          exact ⟨by rw [nz_t (by omega), nz_t hpJ], by rw [hff]; rfl, hF⟩
        · have v1 := (hT.2.2.2 n (by omega)).1
          refine ⟨_, r_GC_0_4 h.1, s_Trip_0 (b_GC_17 h.1), _, r_Trip_0_2 (b_GC_17 h.1), _, ⟨s_Trip_6 (b_GC_17 h.1), by decide⟩, ?_⟩
          try simp only [-eq_self, show ((n + 1 : Nat) : Int).toNat = n + 1 by omega, v1]
          refine ⟨by omega, by omega, ?_⟩
          refine ⟨fun hq4 => ?_, fun hq4 => ?_⟩
          · exact ih31 _ (by omega) _ _ _ rfl (⟨n + 1, by omega, by omega, hst.symm, by rw [hff, show (CJ c).length - 1 - n = ((CJ c).length - 1 - (n + 1)) + 1 by omega, ff_s, if_neg (by simp; omega)], hT, hF⟩)
          · exact ⟨by rw [nz_t (by omega), nz_t hpJ], by rw [hff, show (CJ c).length - 1 - n = ((CJ c).length - 1 - (n + 1)) + 1 by omega, ff_s, if_pos (by simp; omega)], hF⟩
      exact L31 _ _ _ _ rfl (⟨0, rfl, by have := (WC_J hC hpJ).1; omega, rfl, rfl, hT, hF⟩)
/-- GrievingCamels.delays -/
theorem cz_197 {V : jx_V} (hV : V.1.stackTraces = false) {X : jx_X} {R : jx_R} {I : jx_I} {a0 : Nat} {a1 : Int} {a2 : Int} {ld : Nat} {l : LT} {c : CT} 
    (h : GX X R I a0 ld l c) (r_a1 : -2147483648 ≤ a1 ∧ a1 < 2147483648) (r_a2 : -2147483648 ≤ a2 ∧ a2 < 2147483648)
    {QE : String → jx_I → Prop} : jc V 1 197 (0, 0) [.ref a0, jy a1, jy a2] X I R (fun rv I' => rv = some (jy (late a1 a2 ((CJ c).length - 1))) ∧ I' = I) QE := by
  have hW := h.2.2.2.1
  have hW0 := hW.1
  refine wm_197 hV (by omega) (by omega)  (fun J8 J50 hJJ => ?_)
  obtain ⟨hJ8, hJ50⟩ := hJJ
  have hl := GX_l h
  have hD := h.2.2.1; have hS := h.2.2.2.2.1; have hC := h.2.2.2.2.2.1; have hlo := h.2.1.2
  have hmj := hS.2.2.1.1
  unfold wz_197
  have L8 : ∀ (n8 : Nat) (l3 : Int) (l4 : Int) (l5 : Int) (K : jx_I), n8 = (((CJ c).length : Int) - l5).toNat → (∃ n : Nat, l5 = (n + 1 : Nat) ∧ (n + 1 ≤ (CJ c).length ∨ n = 0) ∧ l4 = lot a1 n ∧ l3 = late a1 a2 n ∧ K = I) → J8 l3 l4 l5 K := by
    intro n8
    induction n8 using Nat.strongRecOn with
    | ind n8 ih8 =>
    intro l3 l4 l5 K hn8 hI8
    obtain ⟨n, rfl, hn, rfl, rfl, rfl⟩ := hI8
    have hn12 := hS.2.2.1.2.1
    have hb := jz_lotu (lot a1 n * 1103515245 + 12345)
    have hbr : 0 ≤ lotb (lot a1 n * 1103515245 + 12345) ∧ lotb (lot a1 n * 1103515245 + 12345) < 8 := by unfold lotb; omega
    have hls : late a1 a2 (n + 1) = late a1 a2 n + if lotb (lot a1 n * 1103515245 + 12345) < a2 then 1 else 0 := rfl
    refine hJ8 _ _ _ _ ?_
    unfold wz_197_8
    refine ⟨s_GC_0 h.1, _, r_GC_0_2 h.1, s_State_0 (b_GC_4 h.1), _, r_State_0_2 (b_GC_4 h.1), s_Row_0 (b_GC_11 h.1), by omega, ?_⟩
    refine ⟨fun hq1 => ?_, fun hq1 => ?_⟩
    · rw [show (CJ c).length - 1 = n by omega]
      exact ⟨rfl, rfl⟩
    · simp only [-eq_self, hb]
      refine ⟨fun hq2 => ?_, fun hq2 => ?_⟩
      · exact ih8 _ (by omega) _ _ _ _ rfl (⟨n + 1, by omega, by omega, rfl, by rw [hls, if_neg (by omega)]; omega, rfl⟩)
      · refine hJ50 _ _ _ _ ?_
        unfold wz_197_50
        exact ih8 _ (by omega) _ _ _ _ rfl (⟨n + 1, by omega, by omega, rfl, by rw [hls, if_pos (by omega)], rfl⟩)
  exact L8 _ _ _ _ _ rfl (⟨0, rfl, Or.inr rfl, rfl, rfl, rfl⟩)
/-- GrievingCamels.doubt -/
theorem cz_161 {V : jx_V} (hV : V.1.stackTraces = false) {X : jx_X} {R : jx_R} {I : jx_I} {a0 : Nat} {a1 : Int} {a2 : Int} {ld : Nat} {l : LT} {c : CT} 
    (h : GX X R I a0 ld l c) (r_a1 : -2147483648 ≤ a1 ∧ a1 < 2147483648) (r_a2 : -2147483648 ≤ a2 ∧ a2 < 2147483648)
    : jc V 10 161 (2, 12) [.ref a0, jy a1, jy a2] X I R (fun rv I' => nz (0 ≤ a2 ∧ a2 ≤ 8) 2 (nz (CJ c ≠ []) 3 (none)) = none ∧ rv = some (jy (dbt l c a1 a2)) ∧ FS a0 I I') (fun E I' => ∃ k, nz (0 ≤ a2 ∧ a2 ≤ 8) 2 (nz (CJ c ≠ []) 3 (none)) = some k ∧ E = (jx_exe k).1 ∧ I' = rfs I a0 k) := by
  have hW := h.2.2.2.1
  have hW0 := hW.1
  refine wm_161 hV (by omega) (by omega)  ?_
  have hl := GX_l h
  have hD := h.2.2.1; have hS := h.2.2.2.2.1; have hC := h.2.2.2.2.2.1; have hlo := h.2.1.2
  unfold wz_161
  refine ⟨s_GC_0 h.1, ?_⟩
  refine ⟨_, _, cz_192 hV h.1 (by omega), fun Ex Ix h9 => ⟨2, by rw [nz_f h9.2.2], h9.1, h9.2.1⟩, ?_⟩
  rintro _ I6 ⟨rfl, e9, hp1⟩; replace e9 := e9.symm; subst e9
  refine ⟨rfl, ?_⟩
  refine ⟨_, _, cz_193 hV h, fun Ex Ix h9 => ⟨3, by rw [nz_t hp1]; rw [nz_f (fun k => k h9.2.2)], h9.1, h9.2.1⟩, ?_⟩
  rintro _ I12 ⟨rfl, e9, hpJ⟩; replace e9 := e9.symm; subst e9
  refine ⟨rfl, ?_⟩
  refine ⟨_, cz_194 hV h hpJ, ?_⟩
  rintro _ I16 ⟨rfl, hT, hF⟩
  refine ⟨rfl, ?_⟩
  refine ⟨_, r_GC_0_4 h.1, s_Trip_0 (b_GC_17 h.1), ?_⟩
  refine ⟨_, cz_123 hV (b_GC_17 h.1), ?_⟩
  rintro _ I23 ⟨rfl, e9⟩; replace e9 := e9.symm; subst e9
  refine ⟨_, rfl, ?_⟩
  refine ⟨_, cz_197 hV (GX_s h hF) (by omega) (by omega), ?_⟩
  rintro _ I27 ⟨rfl, e9⟩; replace e9 := e9.symm; subst e9
  refine ⟨_, rfl, ?_⟩
  exact ⟨by rw [nz_t hp1, nz_t hpJ], by rw [hT.2.1, hT.2.2.1]; rfl, hF⟩
theorem lot_w (a b : Int) (h : Int32.ofInt a = Int32.ofInt b) : ∀ k, Int32.ofInt (lot a k) = Int32.ofInt (lot b k)
  | 0 => h
  | k + 1 => by
    have h1 := lot_w a b h k
    show Int32.ofInt (lot a k * 1103515245 + 12345) = Int32.ofInt (lot b k * 1103515245 + 12345)
    rw [Int32.ofInt_add, Int32.ofInt_add, Int32.ofInt_mul, Int32.ofInt_mul, h1]
theorem late_w (a b q : Int) (h : Int32.ofInt a = Int32.ofInt b) : ∀ k, late a q k = late b q k
  | 0 => rfl
  | k + 1 => by
    have h1 := late_w a b q h k
    have h2 := lot_w a b h (k + 1)
    show late a q k + (if lotb (lot a (k + 1)) < q then 1 else 0) = late b q k + (if lotb (lot b (k + 1)) < q then 1 else 0)
    unfold lotb
    rw [h1, h2]
theorem jy_wrap (x : Int) : jy x = jy (Int32.ofInt x).toInt := by
  show Value.int (Int32.ofInt x) = Value.int (Int32.ofInt (Int32.ofInt x).toInt)
  rw [Int32.ofInt_toInt]
theorem dbt_rng {l : LT} {c : CT} (hW : WT l) (hC : WC l c) (hj : CJ c ≠ []) (s q : Int) : 0 ≤ dbt l c s q ∧ dbt l c s q ≤ 2000 := by
  unfold dbt
  have h1 := hrs_rng hW (WC_J hC hj).2.1 (WC_J hC hj).1.2 (CL c) (Cg c) (Cd c)
  have h2 := late_rng s q ((CJ c).length - 1)
  have h3 := (WC_J hC hj).1.2
  omega
/-- GrievingCamels.span -/
theorem cz_162 {V : jx_V} (hV : V.1.stackTraces = false) {X : jx_X} {R : jx_R} {I : jx_I} {a0 : Nat} {a1 : Int} {a2 : Int} {a3 : Int} {a4 : Int} {ld : Nat} {l : LT} {c : CT} 
    (h : GX X R I a0 ld l c) (r_a1 : -2147483648 ≤ a1 ∧ a1 < 2147483648) (r_a2 : -2147483648 ≤ a2 ∧ a2 < 2147483648) (r_a3 : -2147483648 ≤ a3 ∧ a3 < 2147483648) (r_a4 : -2147483648 ≤ a4 ∧ a4 < 2147483648)
    : jc V 10 162 (4, 24) [.ref a0, jy a1, jy a2, jy a3, jy a4] X I R (fun rv I' => nz (0 ≤ a2 ∧ a2 ≤ 8) 2 (nz (1 ≤ a3 ∧ a3 ≤ 60) 2 (nz (0 ≤ a4 ∧ a4 ≤ 2) 2 (nz (CJ c ≠ []) 3 (none)))) = none ∧ rv = some (jy (if a4 = 0 then spl (fun k => dbt l c (a1 + k) a2) a3.toNat else if a4 = 1 then spg (fun k => dbt l c (a1 + k) a2) a3.toNat else spa (fun k => dbt l c (a1 + k) a2) a3.toNat)) ∧ FS a0 I I') (fun E I' => ∃ k, nz (0 ≤ a2 ∧ a2 ≤ 8) 2 (nz (1 ≤ a3 ∧ a3 ≤ 60) 2 (nz (0 ≤ a4 ∧ a4 ≤ 2) 2 (nz (CJ c ≠ []) 3 (none)))) = some k ∧ E = (jx_exe k).1 ∧ I' = rfs I a0 k) := by
  have hW := h.2.2.2.1
  have hW0 := hW.1
  refine wm_162 hV (by omega) (by omega) (by omega) (by omega)  (fun J22 J54 hJJ => ?_)
  obtain ⟨hJ22, hJ54⟩ := hJJ
  have hl := GX_l h
  have hD := h.2.2.1; have hS := h.2.2.2.2.1; have hC := h.2.2.2.2.2.1; have hlo := h.2.1.2
  unfold wz_162
  refine ⟨s_GC_0 h.1, ?_⟩
  refine ⟨_, _, cz_192 hV h.1 (by omega), fun Ex Ix h9 => ⟨2, by rw [nz_f h9.2.2], h9.1, h9.2.1⟩, ?_⟩
  rintro _ I6 ⟨rfl, e9, hp1⟩; replace e9 := e9.symm; subst e9
  refine ⟨rfl, ?_⟩
  refine ⟨fun hq1 => ?_, fun hq1 => ?_⟩
  · refine hJ22 _ _ _ ?_
    unfold wz_162_22
    refine ⟨s_GC_0 h.1, ?_⟩
    refine ⟨_, _, cz_189 hV h.1 (by omega), fun Ex Ix h9 => ⟨2, by rw [nz_t hp1]; rw [nz_f (by omega)], h9.1, h9.2.1⟩, ?_⟩
    rintro _ I13 ⟨rfl, e9, hp⟩; replace e9 := e9.symm; subst e9
    exact absurd rfl hp
  · refine ⟨fun hq2 => ?_, fun hq2 => ?_⟩
    · refine hJ22 _ _ _ ?_
      unfold wz_162_22
      refine ⟨s_GC_0 h.1, ?_⟩
      refine ⟨_, _, cz_189 hV h.1 (by omega), fun Ex Ix h9 => ⟨2, by rw [nz_t hp1]; rw [nz_f (by omega)], h9.1, h9.2.1⟩, ?_⟩
      rintro _ I13 ⟨rfl, e9, hp⟩; replace e9 := e9.symm; subst e9
      exact absurd rfl hp
    · refine hJ22 _ _ _ ?_
      unfold wz_162_22
      refine ⟨s_GC_0 h.1, ?_⟩
      refine ⟨_, _, cz_189 hV h.1 (by omega), fun Ex Ix h9 => absurd h9.2.2 (by decide), ?_⟩
      rintro _ I13 ⟨rfl, e9, hp⟩; replace e9 := e9.symm; subst e9
      refine ⟨rfl, ?_⟩
      refine ⟨s_GC_0 h.1, ?_⟩
      refine ⟨_, _, cz_190 hV h.1 (by omega) (by omega), fun Ex Ix h9 => ⟨2, by rw [nz_t hp1]; rw [nz_t (by omega)]; rw [nz_f h9.2.2], h9.1, h9.2.1⟩, ?_⟩
      rintro _ I20 ⟨rfl, e9, hp3⟩; replace e9 := e9.symm; subst e9
      refine ⟨rfl, ?_⟩
      refine ⟨_, _, cz_193 hV h, fun Ex Ix h9 => ⟨3, by rw [nz_t hp1]; rw [nz_t (by omega), nz_t hp3]; rw [nz_f (fun k => k h9.2.2)], h9.1, h9.2.1⟩, ?_⟩
      rintro _ I26 ⟨rfl, e9, hpJ⟩; replace e9 := e9.symm; subst e9
      refine ⟨rfl, ?_⟩
      refine ⟨_, cz_194 hV h hpJ, ?_⟩
      rintro _ I30 ⟨rfl, hT, hF⟩
      refine ⟨rfl, ?_⟩
      have L54 : ∀ (n54 : Nat) (l5 : Int) (l6 : Int) (l7 : Int) (l8 : Int) (K : jx_I), n54 = (a3 - l8).toNat → (∃ k : Nat, l8 = k ∧ k ≤ a3.toNat ∧ l5 = spl (fun k => dbt l c (a1 + k) a2) k ∧ l6 = spg (fun k => dbt l c (a1 + k) a2) k ∧ l7 = spa (fun k => dbt l c (a1 + k) a2) k ∧ TC K (a0 + 17) l c ∧ FS a0 I K) → J54 l5 l6 l7 l8 K := by
        intro n54
        induction n54 using Nat.strongRecOn with
        | ind n54 ih54 =>
        intro l5 l6 l7 l8 K hn54 hI54
        obtain ⟨k, rfl, hk, rfl, rfl, rfl, hT, hF⟩ := hI54
        have hdr := fun k : Nat => dbt_rng hW hC hpJ (a1 + k) a2
        have hl1 := spl_rng (fun k => dbt l c (a1 + k) a2) (fun k => (hdr k).1) k
        have hl2 := spg_rng (fun k => dbt l c (a1 + k) a2) hdr k
        have hlw : late (Int32.ofInt (a1 + (k : Int))).toInt a2 ((CJ c).length - 1) = late (a1 + (k : Int)) a2 ((CJ c).length - 1) := late_w _ _ _ (by rw [Int32.ofInt_toInt]) _
        have hdk : dbt l c (a1 + (k : Int)) a2 = (K (a0 + 17) 3).toInt + (K (a0 + 17) 4).toInt + late (Int32.ofInt (a1 + (k : Int))).toInt a2 ((CJ c).length - 1) := by rw [hT.2.1, hT.2.2.1, hlw]; rfl
        have hdk2 := hdr k
        refine hJ54 _ _ _ _ _ ?_
        unfold wz_162_54
        refine ⟨by omega, ?_⟩
        refine ⟨fun hq3 => ?_, fun hq3 => ?_⟩
        · refine ⟨fun hq4 => ?_, fun hq4 => ?_⟩
          · refine ⟨fun hq5 => ?_, fun hq5 => ?_⟩
            · rw [show a3.toNat = k by omega]
              exact ⟨by rw [nz_t hp1, nz_t (by omega), nz_t hp3, nz_t hpJ], by rw [if_neg (by omega), if_neg (by omega)], hF⟩
            · rw [show a3.toNat = k by omega]
              exact ⟨by rw [nz_t hp1, nz_t (by omega), nz_t hp3, nz_t hpJ], by rw [if_neg (by omega), if_pos (by omega)], hF⟩
          · rw [show a3.toNat = k by omega]
            exact ⟨by rw [nz_t hp1, nz_t (by omega), nz_t hp3, nz_t hpJ], by rw [if_pos (by omega)], hF⟩
        · refine ⟨s_GC_0 h.1, _, r_GC_0_4 h.1, s_Trip_0 (b_GC_17 h.1), ?_⟩
          refine ⟨_, cz_123 hV (b_GC_17 h.1), ?_⟩
          rintro _ I39 ⟨rfl, e9⟩; replace e9 := e9.symm; subst e9
          refine ⟨_, rfl, ?_⟩
          refine ⟨_, by rw [jy_wrap (a1 + (k : Int))]; exact cz_197 hV (GX_s h hF) (jy_rng _) (by omega), ?_⟩
          rintro _ I43 ⟨rfl, e9⟩; replace e9 := e9.symm; subst e9
          refine ⟨_, rfl, ?_⟩
          refine ⟨_, cz_329 hV (by omega) (by omega), ?_⟩
          rintro _ I47 ⟨rfl, e9⟩; replace e9 := e9.symm; subst e9
          refine ⟨_, rfl, ?_⟩
          refine ⟨_, cz_328 hV (by omega) (by omega), ?_⟩
          rintro _ I51 ⟨rfl, e9⟩; replace e9 := e9.symm; subst e9
          refine ⟨_, rfl, ?_⟩
          exact ih54 _ (by omega) _ _ _ _ _ rfl (⟨k + 1, by omega, by omega, by rw [← hdk]; rfl, by rw [← hdk]; rfl, by rw [← hdk]; rfl, hT, hF⟩)
      exact L54 _ _ _ _ _ _ rfl (⟨0, rfl, by omega, rfl, rfl, rfl, hT, hF⟩)
