/-! ===== places visited: the class ===== -/
theorem pc_10 (B : Nat) : pc B ≤ 10 := by
  unfold pc
  have := List.length_filter_le (fun c => B.testBit c) (List.range 10)
  rw [List.length_range] at this
  exact this
theorem tb_ne {S y : Nat} (h : S.testBit y = false) : S ≠ S ||| 2 ^ y ∧ S < S ||| 2 ^ y := by
  have h1 : S ≠ S ||| 2 ^ y := fun e => by
    have h2 : (S ||| 2 ^ y).testBit y = true := by rw [Nat.testBit_or, Nat.testBit_two_pow]; simp
    rw [← e, h] at h2; cases h2
  exact ⟨h1, Nat.lt_of_le_of_ne Nat.left_le_or h1⟩
theorem or_lt {S y n : Nat} (h : S < 2 ^ n) (hy : y < n) : S ||| 2 ^ y < 2 ^ n := Nat.or_lt_two_pow h (Nat.pow_lt_pow_right (by omega) hy)
/-- the class's hours by set and last place; sets below s are done -/
def RI (l : LT) (h : Nat → Int) (f : Nat) (H : Int) (s : Nat) (r : Nat → Nat → Int) : Prop := (∀ T x, T < 2 ^ Ln l → x < Ln l → (r T x = 1000000 ∨ ∃ M, rcd l h f (x :: M) ∧ rcw l h (x :: M) = r T x ∧ bo (x :: M) = T) ∧ 0 ≤ r T x ∧ r T x ≤ 1000000) ∧ r (2 ^ f) f ≤ 0 ∧ ∀ T x y, T < s → T < 2 ^ Ln l → x < Ln l → y < Ln l → r T x ≤ H → T.testBit y = false → dst l h x y ≠ -1 → r (T ||| 2 ^ y) y ≤ r T x + dst l h x y
theorem RI_ok {l : LT} {h : Nat → Int} {f s : Nat} {H : Int} {r : Nat → Nat → Int} (hW : WT l) (hH : HP l h) (hf : f < Ln l) (hr : RI l h f H s r) : ∀ (M : List Nat) (a : Nat), rcd l h f (a :: M) → rcw l h (a :: M) ≤ H → bo (a :: M) ≤ s → r (bo (a :: M)) a ≤ rcw l h (a :: M)
  | [], a, ha, _, _ => by
    have e : a = f := ha
    subst e
    rw [bo_cons]
    show r (0 ||| 2 ^ a) a ≤ 0
    rw [Nat.zero_or]; exact hr.2.1
  | x :: M, a, ha, hw, hs => by
    have hl := rcd_lt hf M x ha.2.2.2
    have hx := hl.1 x (by simp)
    have hd := dst_r hW hH hx ha.1
    have hd2 := ha.2.2.1
    have ht : (bo (x :: M)).testBit a = false := by rw [bo_t]; exact decide_eq_false ha.2.1
    rw [bo_cons] at hs ⊢
    have h1 := (tb_ne ht).2
    have hw2 : rcw l h (a :: x :: M) = dst l h x a + rcw l h (x :: M) := rfl
    have h2 := RI_ok hW hH hf hr M x ha.2.2.2 (by omega) (by omega)
    have h3 := hr.2.2 (bo (x :: M)) x a (by omega) (bo_lt _ hl.1) hx ha.1 (by omega) ht hd2
    omega
theorem RI_0 {l : LT} {h : Nat → Int} {f : Nat} {H : Int} {r : Nat → Nat → Int} (hf : f < Ln l) (hH9 : H ≤ 999) (h0 : r (2 ^ f) f = 0) (h1 : ∀ T x, T < 2 ^ Ln l → x < Ln l → ¬ (T = 2 ^ f ∧ x = f) → r T x = 1000000) : RI l h f H (2 ^ f) r := by
  refine ⟨fun T x hT hx => ?_, by omega, fun T x y hT hT2 hx hy hle hb hd => ?_⟩
  · by_cases e : T = 2 ^ f ∧ x = f
    · rw [e.1, e.2, h0]
      refine ⟨Or.inr ⟨[], rfl, rfl, ?_⟩, by decide, by decide⟩
      rw [bo_cons]
      show 0 ||| 2 ^ f = 2 ^ f
      exact Nat.zero_or _
    · rw [h1 T x hT hx e]
      exact ⟨Or.inl rfl, by decide, by decide⟩
  · rw [h1 T x hT2 hx (by omega)] at hle
    omega
theorem RI_in {l : LT} {h : Nat → Int} {f s : Nat} {H : Int} {r : Nat → Nat → Int} (hW : WT l) (hH : HP l h) (hf : f < Ln l) (hs : s < 2 ^ Ln l) (hH9 : H ≤ 999) (hr : RI l h f H s r) : (∃ x, x < Ln l ∧ r s x ≤ H) ↔ VC l h f H s := by
  constructor
  · rintro ⟨x, hx, h1⟩
    rcases (hr.1 s x hs hx).1 with h2 | ⟨M, h2, h3, h4⟩
    · omega
    · exact ⟨x, M, h2, by omega, h4⟩
  · rintro ⟨a, M, h1, h2, h3⟩
    have h4 := RI_ok hW hH hf hr M a h1 h2 (by omega)
    rw [h3] at h4
    exact ⟨a, (rcd_lt hf M a h1).1 a (by simp), by omega⟩
/-- is one within -/
def FLv (H w : Int) (j n : Nat) (g : Nat → Int) : Prop := (w = 0 ∧ ∀ x, x < j → x < n → H < g x) ∨ (w = 1 ∧ ∃ x, x < n ∧ g x ≤ H)
theorem FLv_r {H w : Int} {j n : Nat} {g : Nat → Int} (h : FLv H w j n g) : w = 0 ∨ w = 1 := h.elim (fun e => Or.inl e.1) (fun e => Or.inr e.1)
/-- set s under way: its first j last places are done -/
def RJv (l : LT) (h : Nat → Int) (f : Nat) (H : Int) (s j : Nat) (r : Nat → Nat → Int) : Prop := RI l h f H s r ∧ ∀ x y, x < j → x < Ln l → y < Ln l → r s x ≤ H → s.testBit y = false → dst l h x y ≠ -1 → r (s ||| 2 ^ y) y ≤ r s x + dst l h x y
theorem RJv_0 {l : LT} {h : Nat → Int} {f s : Nat} {H : Int} {r : Nat → Nat → Int} (hr : RI l h f H s r) : RJv l h f H s 0 r := ⟨hr, fun x y hx => absurd hx (by omega)⟩
theorem RJv_e {l : LT} {h : Nat → Int} {f s j : Nat} {H : Int} {r : Nat → Nat → Int} (hj : Ln l ≤ j) (hr : RJv l h f H s j r) : RI l h f H (s + 1) r := by
  refine ⟨hr.1.1, hr.1.2.1, fun T x y h1 h2 hx hy h3 h4 h5 => ?_⟩
  rcases Nat.lt_or_ge T s with h6 | h6
  · exact hr.1.2.2 T x y h6 h2 hx hy h3 h4 h5
  · rw [show T = s by omega] at h3 h4 ⊢
    exact hr.2 x y (by omega) hx hy h3 h4 h5
theorem RJv_n {l : LT} {h : Nat → Int} {f s j : Nat} {H : Int} {r : Nat → Nat → Int} (hr : RJv l h f H s j r) (hn : H < r s j) : RJv l h f H s (j + 1) r := by
  refine ⟨hr.1, fun x y h1 hx hy h3 h4 h5 => ?_⟩
  rcases Nat.lt_or_ge x j with h6 | h6
  · exact hr.2 x y h6 hx hy h3 h4 h5
  · rw [show x = j by omega] at h3; omega
theorem RJv_s {l : LT} {h : Nat → Int} {f s j : Nat} {H : Int} {r r' : Nat → Nat → Int} (hW : WT l) (hH : HP l h) (hf : f < Ln l) (hs : s < 2 ^ Ln l) (hj : j < Ln l) (hr : RJv l h f H s j r) (hH9 : H ≤ 999) (hn : r s j ≤ H) (h1 : ∀ y, y < Ln l → s.testBit y = false → r' (s ||| 2 ^ y) y = min (r (s ||| 2 ^ y) y) (r s j + fd (dst l h j y))) (h2 : ∀ T y, y < Ln l → ¬ (s.testBit y = false ∧ T = s ||| 2 ^ y) → r' T y = r T y) : RJv l h f H s (j + 1) r' ∧ ∀ x, x < Ln l → r' s x = r s x := by
  have hle : ∀ T y, y < Ln l → r' T y ≤ r T y := fun T y hy => by
    by_cases e : s.testBit y = false ∧ T = s ||| 2 ^ y
    · rw [e.2, h1 y hy e.1]; omega
    · rw [h2 T y hy e]; exact Int.le_refl _
  have hlo : ∀ T y, T ≤ s → y < Ln l → r' T y = r T y := fun T y hT hy => h2 T y hy (fun e => by have := (tb_ne e.1).2; omega)
  have hsj := (hr.1.1 s j hs hj)
  refine ⟨⟨⟨fun T x hT hx => ?_, ?_, fun T x y g1 g2 hx hy g3 g4 g5 => ?_⟩, fun x y g1 hx hy g3 g4 g5 => ?_⟩, fun x hx => hlo s x (Nat.le_refl _) hx⟩
  · have g0 := hr.1.1 T x hT hx
    by_cases e : s.testBit x = false ∧ T = s ||| 2 ^ x
    · have g1 := h1 x hx e.1
      rw [← e.2] at g1
      have g2 := dst_r hW hH hj hx
      have g3 := fd_no g2
      refine ⟨?_, by omega, by omega⟩
      rcases Int.lt_or_le (r s j + fd (dst l h j x)) (r T x) with g4 | g4
      · have g5 : dst l h j x ≠ -1 := fun k => by have := g3.1.mpr k; omega
        rcases hsj.1 with g6 | ⟨M, g6, g7, g8⟩
        · omega
        · refine Or.inr ⟨j :: M, ⟨hx, fun k => ?_, g5, g6⟩, ?_, by rw [bo_cons, g8, e.2]⟩
          · have g9 : s.testBit x = true := by rw [← g8, bo_t]; exact decide_eq_true k
            rw [e.1] at g9; cases g9
          · show dst l h j x + rcw l h (j :: M) = r' T x
            have := g3.2.2.2 g5
            omega
      · rw [show r' T x = r T x by omega]; exact g0.1
    · rw [h2 T x hx e]; exact g0
  · exact Int.le_trans (hle _ _ hf) hr.1.2.1
  · rw [hlo T x (by omega) hx] at g3 ⊢
    exact Int.le_trans (hle _ _ hy) (hr.1.2.2 T x y g1 g2 hx hy g3 g4 g5)
  · rw [hlo s x (Nat.le_refl _) hx] at g3 ⊢
    rcases Nat.lt_or_ge x j with g6 | g6
    · exact Int.le_trans (hle _ _ hy) (hr.2 x y g6 hx hy g3 g4 g5)
    · have g7 : x = j := by omega
      subst g7
      rw [h1 y hy g4]
      have := (fd_no (dst_r hW hH hx hy)).2.2.2 g5
      omega
/-- GrievingCamels$Ways.reachOn -/
theorem cz_133 {V : jx_V} (hV : V.1.stackTraces = false) {X : jx_X} {R : jx_R} {I : jx_I} {a0 : Nat} {a1 : Int} {a2 : Int} {a3 : Int} {l : LT} {h : Nat → Int} {S x : Nat}
    (hw : BX X R a0 TWays) (hY : WY I a0 l h) (hW : WT l) (hH : HP l h) (h1 : a1 = (Ln l : Nat)) (h2 : a2 = (S : Int)) (hS : S < 2 ^ Ln l) (h3 : a3 = (x : Int)) (hx : x < Ln l) (hr : ∀ T y, T < 2 ^ Ln l → y < Ln l → 0 ≤ (I (a0 + 3) (T * 10 + y)).toInt ∧ (I (a0 + 3) (T * 10 + y)).toInt ≤ 1000000)
    {QE : String → jx_I → Prop} : jc V 2 133 (0, 0) [.ref a0, jy a1, jy a2, jy a3] X I R (fun rv I' => rv = none ∧ (∀ y, y < Ln l → S.testBit y = false → (I' (a0 + 3) ((S ||| 2 ^ y) * 10 + y)).toInt = (min ((I (a0 + 3) ((S ||| 2 ^ y) * 10 + y)).toInt) ((I (a0 + 3) (S * 10 + x)).toInt + fd (dst l h x y)))) ∧ (∀ T y, y < Ln l → ¬ (S.testBit y = false ∧ T = S ||| 2 ^ y) → I' (a0 + 3) (T * 10 + y) = I (a0 + 3) (T * 10 + y)) ∧ FR (a0 + 3) (a0 + 4) I I') QE := by
  have hW0 := hW.1
  have hW0 := hW.1
  have h2n : 2 ^ Ln l ≤ 1024 := (Nat.pow_le_pow_right (by omega) hW0.1 : 2 ^ Ln l ≤ 2 ^ 10)
  have hrx := hr S x hS hx
  refine wm_133 hV (by omega) (by omega) (by omega)  (fun J16 J77 hJJ => ?_)
  obtain ⟨hJ16, hJ77⟩ := hJJ
  unfold wz_133
  refine ⟨s_Ways_0 hw, _, r_Ways_0_2 hw, _, ⟨s_Ways_3 hw, by decide⟩, ?_⟩
  subst h3
  subst h2
  try simp only [-eq_self, show ((S : Int) * 10 + (x : Int)).toNat = S * 10 + x by omega]
  refine ⟨by omega, ?_⟩
  have L16 : ∀ (n16 : Nat) (l4 : Int) (l5 : Int) (K : jx_I), n16 = ((Ln l : Int) - l5).toNat → (∃ j : Nat, l4 = (I (a0 + 3) (S * 10 + x)).toInt ∧ l5 = (j : Int) ∧ j ≤ Ln l ∧ (∀ y, y < j → S.testBit y = false → (K (a0 + 3) ((S ||| 2 ^ y) * 10 + y)).toInt = (min ((I (a0 + 3) ((S ||| 2 ^ y) * 10 + y)).toInt) ((I (a0 + 3) (S * 10 + x)).toInt + fd (dst l h x y)))) ∧ (∀ T y, y < Ln l → ¬ (y < j ∧ S.testBit y = false ∧ T = S ||| 2 ^ y) → K (a0 + 3) (T * 10 + y) = I (a0 + 3) (T * 10 + y)) ∧ FR (a0 + 3) (a0 + 4) I K) → J16 l4 l5 K := by
    intro n16
    induction n16 using Nat.strongRecOn with
    | ind n16 ih16 =>
    intro l4 l5 K hn16 hI16
    obtain ⟨j, rfl, rfl, hj, hK, hO, hF⟩ := hI16
    refine hJ16 _ _ _ ?_
    unfold wz_133_16
    refine ⟨by omega, ?_⟩
    refine ⟨fun hq1 => ?_, fun hq1 => ?_⟩
    · exact ⟨rfl, fun y hy hb => hK y (by omega) hb, fun T y hy hn => hO T y hy (fun k => hn k.2), hF⟩
    · have hbit := jz_bit (B := S) (k := j) (by omega) (by omega)
      simp only [-eq_self, hbit]
      have hbt := bN_t S j
      have h01 := bN_01 S j
      refine ⟨fun hq2 => ?_, fun hq2 => ?_⟩
      · exact ih16 _ (by omega) _ _ _ rfl (⟨j + 1, rfl, by omega, by omega, fun y hy hb => by
          rcases Nat.lt_or_ge y j with h9 | h9
          · exact hK y h9 hb
          · rw [show y = j by omega, hbt] at hb
            exact absurd (of_decide_eq_false hb) (by omega), fun T y hy hn => by
          by_cases h9 : y = j
          · exact hO T y hy (by omega)
          · exact hO T y hy (fun k => hn ⟨by omega, k.2⟩), hF⟩)
      · have hb0 : S.testBit j = false := by rw [hbt]; exact decide_eq_false (by omega)
        have hpj : 2 ^ j < 2 ^ Ln l := Nat.pow_lt_pow_right (by omega) (by omega)
        have hor := or_lt hS (show j < Ln l by omega)
        have hY9 := WY_of hY (hF (a0 + 1) (by omega)) (hF (a0 + 2) (by omega))
        have hfd := fd_no (dst_r hW hH (a := x) (b := j) hx (by omega))
        have hkj : (K (a0 + 3) ((S ||| 2 ^ j) * 10 + j)).toInt = (I (a0 + 3) ((S ||| 2 ^ j) * 10 + j)).toInt := by rw [hO _ j (by omega) (by omega)]
        have hrj := hr _ j hor (by omega)
        refine ⟨s_Ways_0 hw, _, r_Ways_0_2 hw, _, ⟨s_Ways_3 hw, by decide⟩, ?_⟩
        try simp only [-eq_self, jz_1sh (show j < 31 by omega), jz_or (show S < 2147483648 by omega) (show 2 ^ j < 2147483648 by omega), show (((S ||| 2 ^ j : Nat) : Int) * 10 + (j : Int)).toNat = (S ||| 2 ^ j) * 10 + j by omega]
        refine ⟨by omega, _, r_Ways_0_1 hw, _, ⟨s_Ways_2 hw, by decide⟩, ?_⟩
        try simp only [-eq_self, show ((x : Int) * 10 + (j : Int)).toNat = x * 10 + j by omega, hY9.2 x j hx (by omega)]
        refine ⟨by omega, ?_⟩
        try simp only [-eq_self, hkj]
        refine ⟨_, cz_329 hV (by omega) (by omega), ?_⟩
        rintro _ I21 ⟨rfl, e9⟩; replace e9 := e9.symm; subst e9
        refine ⟨_, rfl, ?_⟩
        refine ⟨by omega, ?_⟩
        intro I24 e_I24; subst e_I24
        refine hJ77 _ _ _ ?_
        unfold wz_133_77
        exact ih16 _ (by omega) _ _ _ rfl (⟨j + 1, rfl, by omega, by omega, fun y hy hb => by
          rcases Nat.lt_or_ge y j with h9 | h9
          · rw [jx_u_k _ _ _ _ (by omega)]; exact hK y h9 hb
          · rw [show y = j by omega, jx_u_s]; exact jy_toInt (by omega), fun T y hy hn => by
          by_cases h9 : y = j
          · rw [jx_u_k _ _ _ _ (fun e => hn ⟨by omega, by rw [h9]; exact hb0, by rw [h9] at e ⊢; omega⟩)]; exact hO T y hy (by omega)
          · rw [jx_u_k _ _ _ _ (by omega)]; exact hO T y hy (fun k => hn ⟨by omega, k.2⟩), FR_u hF (by omega) (by omega)⟩)
  exact L16 _ _ _ _ rfl (⟨0, rfl, rfl, by omega, fun y h => absurd h (by omega), fun T y _ _ => rfl, FR_refl⟩)
/-- GrievingCamels$Ways.mostWithin -/
theorem cz_132 {V : jx_V} (hV : V.1.stackTraces = false) {X : jx_X} {R : jx_R} {I : jx_I} {a0 : Nat} {a1 : Int} {a2 : Int} {a3 : Int} {l : LT} {h : Nat → Int} {f : Nat}
    (hw : BX X R a0 TWays) (hY : WY I a0 l h) (hW : WT l) (hH : HP l h) (h1 : a1 = (Ln l : Nat)) (h2 : a2 = (f : Int)) (hf : f < Ln l) (h3 : 0 ≤ a3 ∧ a3 ≤ 999)
    {QE : String → jx_I → Prop} : jc V 3 132 (0, 0) [.ref a0, jy a1, jy a2, jy a3] X I R (fun rv I' => rv = some (jy (bsf (VC l h f a3) (2 ^ f) (2 ^ Ln l) : Nat)) ∧ FR (a0 + 3) (a0 + 4) I I') QE := by
  have hW0 := hW.1
  have hW0 := hW.1
  have h2n : 2 ^ Ln l ≤ 1024 := (Nat.pow_le_pow_right (by omega) hW0.1 : 2 ^ Ln l ≤ 2 ^ 10)
  have h2f : 2 ^ f < 2 ^ Ln l := Nat.pow_lt_pow_right (by omega) hf
  have p1 : (0 : Int) ≤ ((2 ^ f : Nat) : Int) := Int.natCast_nonneg _
  have p2 : (0 : Int) ≤ ((2 ^ Ln l : Nat) : Int) := Int.natCast_nonneg _
  have hbc := bsf_c (P := VC l h f a3) (b0 := 2 ^ f) (VU_VC hW hH hf (VU_0 h3.1)) (fun S hS => (VC_in hf hS).1)
  have hbl : ∀ s, s ≤ 2 ^ Ln l → bsf (VC l h f a3) (2 ^ f) s < 1024 := fun s hs => by
    rcases Nat.lt_or_ge (2 ^ f) s with h9 | h9
    · have := ((hbc s).2 h9).2.1; omega
    · rw [(hbc s).1 h9]; omega
  refine wm_132 hV (by omega) (by omega) (by omega)  (fun J8 J56 J69 J104 J132 hJJ => ?_)
  obtain ⟨hJ8, hJ56, hJ69, hJ104, hJ132⟩ := hJJ
  have hs1 := jz_1sh (k := Ln l) (by omega)
  have hs2 := jz_1sh (k := f) (by omega)
  subst h1
  subst h2
  unfold wz_132
  simp only [-eq_self, hs1]
  have L8 : ∀ (n8 : Nat) (l4 : Int) (l5 : Int) (K : jx_I), n8 = (((2 ^ Ln l * 10 : Nat) : Int) - l5).toNat → (∃ i : Nat, l4 = ((2 ^ Ln l : Nat) : Int) ∧ l5 = (i : Int) ∧ i ≤ 2 ^ Ln l * 10 ∧ (∀ k, k < i → (K (a0 + 3) k).toInt = 1000000) ∧ FR (a0 + 3) (a0 + 4) I K) → J8 l4 l5 K := by
    intro n8
    induction n8 using Nat.strongRecOn with
    | ind n8 ih8 =>
    intro l4 l5 K hn8 hI8
    obtain ⟨i, rfl, rfl, hi, hK, hF⟩ := hI8
    refine hJ8 _ _ _ ?_
    unfold wz_132_8
    refine ⟨by omega, by omega, ?_⟩
    refine ⟨fun hq1 => ?_, fun hq1 => ?_⟩
    · refine ⟨s_Ways_0 hw, _, r_Ways_0_2 hw, _, ⟨s_Ways_3 hw, by decide⟩, ?_⟩
      try simp only [-eq_self, hs2, show (((2 ^ f : Nat) : Int) * 10 + (f : Int)).toNat = 2 ^ f * 10 + f by omega]
      refine ⟨by omega, ?_⟩
      intro I9 e_I9; subst e_I9
      have L56 : ∀ (n56 : Nat) (l4 : Int) (l5 : Int) (l6 : Int) (K1 : jx_I), n56 = (((2 ^ Ln l : Nat) : Int) - l6).toNat → (∃ s : Nat, l4 = ((2 ^ Ln l : Nat) : Int) ∧ l5 = (bsf (VC l h f a3) (2 ^ f) s : Nat) ∧ l6 = (s : Int) ∧ 2 ^ f ≤ s ∧ s ≤ 2 ^ Ln l ∧ RI l h f a3 s (fun T x => (K1 (a0 + 3) (T * 10 + x)).toInt) ∧ FR (a0 + 3) (a0 + 4) I K1) → J56 l4 l5 l6 K1 := by
        intro n56
        induction n56 using Nat.strongRecOn with
        | ind n56 ih56 =>
        intro l4 l5 l6 K1 hn56 hI56
        obtain ⟨s, rfl, rfl, rfl, hs0, hs, hRI, hF⟩ := hI56
        have hbs := hbl s hs
        refine hJ56 _ _ _ _ ?_
        unfold wz_132_56
        refine ⟨by omega, by omega, ?_⟩
        refine ⟨fun hq2 => ?_, fun hq2 => ?_⟩
        · exact ⟨by rw [show s = 2 ^ Ln l by omega], hF⟩
        · have L69 : ∀ (n69 : Nat) (l4 : Int) (l5 : Int) (l6 : Int) (l7 : Int) (l8 : Int) (K2 : jx_I), n69 = ((Ln l : Int) - l8).toNat → (∃ j : Nat, l4 = ((2 ^ Ln l : Nat) : Int) ∧ l5 = (bsf (VC l h f a3) (2 ^ f) s : Nat) ∧ l6 = (s : Int) ∧ l8 = (j : Int) ∧ j ≤ Ln l ∧ RJv l h f a3 s j (fun T x => (K2 (a0 + 3) (T * 10 + x)).toInt) ∧ FLv a3 l7 j (Ln l) (fun x => (K2 (a0 + 3) (s * 10 + x)).toInt) ∧ FR (a0 + 3) (a0 + 4) I K2) → J69 l4 l5 l6 l7 l8 K2 := by
            intro n69
            induction n69 using Nat.strongRecOn with
            | ind n69 ih69 =>
            intro l4 l5 l6 l7 l8 K2 hn69 hI69
            obtain ⟨j, rfl, rfl, rfl, rfl, hj, hRJ, hfl, hF⟩ := hI69
            have hf01 := FLv_r hfl
            have hsl : s < 2 ^ Ln l := by omega
            refine hJ69 _ _ _ _ _ _ ?_
            unfold wz_132_69
            refine ⟨by omega, ?_⟩
            refine ⟨fun hq3 => ?_, fun hq3 => ?_⟩
            · refine ⟨by omega, ?_⟩
              refine ⟨fun hq4 => ?_, fun hq4 => ?_⟩
              · have hnv : ¬ VC l h f a3 s := fun k => by
                  obtain ⟨x, hx, h9⟩ := (RI_in hW hH hf hsl h3.2 hRJ.1).mpr k
                  have h9 : (K2 (a0 + 3) (s * 10 + x)).toInt ≤ a3 := h9
                  rcases hfl with ⟨_, h8⟩ | ⟨h8, _⟩
                  · have : a3 < (K2 (a0 + 3) (s * 10 + x)).toInt := h8 x (by omega) hx
                    omega
                  · omega
                exact ih56 _ (by omega) _ _ _ _ rfl (⟨s + 1, rfl, by rw [bsf_n (fun k => hnv k.1)], by omega, by omega, by omega, RJv_e (by omega) hRJ, hF⟩)
              · have q1 := pc_10 s
                have q2 := pc_10 (bsf (VC l h f a3) (2 ^ f) s)
                have hv : VC l h f a3 s := (RI_in hW hH hf hsl h3.2 hRJ.1).mp (by
                  rcases hfl with ⟨h8, _⟩ | ⟨_, h8⟩
                  · exact absurd h8 hq4
                  · exact h8)
                refine ⟨_, cz_327 (B := s) hV rfl (by omega), ?_⟩
                rintro _ I23 ⟨rfl, e9⟩; replace e9 := e9.symm; subst e9
                refine ⟨_, rfl, ?_⟩
                refine ⟨_, cz_327 (B := bsf (VC l h f a3) (2 ^ f) s) hV rfl hbs, ?_⟩
                rintro _ I27 ⟨rfl, e9⟩; replace e9 := e9.symm; subst e9
                refine ⟨_, rfl, ?_⟩
                refine ⟨by omega, by omega, ?_⟩
                refine ⟨fun hq5 => ?_, fun hq5 => ?_⟩
                · exact ih56 _ (by omega) _ _ _ _ rfl (⟨s + 1, rfl, by rw [bsf_n (fun k => by omega)], by omega, by omega, by omega, RJv_e (by omega) hRJ, hF⟩)
                · refine hJ132 _ _ _ _ ?_
                  unfold wz_132_132
                  exact ih56 _ (by omega) _ _ _ _ rfl (⟨s + 1, rfl, by rw [bsf_y ⟨hv, by omega⟩], by omega, by omega, by omega, RJv_e (by omega) hRJ, hF⟩)
            · refine ⟨s_Ways_0 hw, _, r_Ways_0_2 hw, _, ⟨s_Ways_3 hw, by decide⟩, ?_⟩
              try simp only [-eq_self, show ((s : Int) * 10 + (j : Int)).toNat = s * 10 + j by omega]
              refine ⟨by omega, ?_⟩
              refine ⟨fun hq6 => ?_, fun hq6 => ?_⟩
              · exact ih69 _ (by omega) _ _ _ _ _ _ rfl (⟨j + 1, rfl, rfl, rfl, by omega, by omega, RJv_n hRJ hq6, hfl.imp (fun e => ⟨e.1, fun x hx hx2 => by
                  rcases Nat.lt_or_ge x j with h9 | h9
                  · exact e.2 x h9 hx2
                  · rw [show x = j by omega]; exact hq6⟩) id, hF⟩)
              · refine ⟨_, cz_133 (S := s) (x := j) hV hw (WY_of hY (hF (a0 + 1) (by omega)) (hF (a0 + 2) (by omega))) hW hH rfl rfl hsl rfl (by omega) (fun T y hT hy => (hRJ.1.1 T y hT hy).2), ?_⟩
                rintro _ I39 ⟨rfl, hv1, hv2, hF2⟩
                refine ⟨rfl, ?_⟩
                have hst := RJv_s (r' := fun T x => (I39 (a0 + 3) (T * 10 + x)).toInt) hW hH hf hsl (show j < Ln l by omega) hRJ h3.2 (show (K2 (a0 + 3) (s * 10 + j)).toInt ≤ a3 by omega) hv1 (fun T y hy hn => congrArg Int32.toInt (hv2 T y hy hn))
                have e9 : (I39 (a0 + 3) (s * 10 + j)).toInt = (K2 (a0 + 3) (s * 10 + j)).toInt := hst.2 j (by omega)
                refine hJ104 _ _ _ _ _ _ ?_
                unfold wz_132_104
                exact ih69 _ (by omega) _ _ _ _ _ _ rfl (⟨j + 1, rfl, rfl, rfl, by omega, by omega, hst.1, Or.inr ⟨rfl, j, by omega, (by show (I39 (a0 + 3) (s * 10 + j)).toInt ≤ a3; omega)⟩, FR_to hF hF2 (by omega) (by omega)⟩)
          exact L69 _ _ _ _ _ _ _ rfl (⟨0, rfl, rfl, rfl, rfl, by omega, RJv_0 hRI, Or.inl ⟨rfl, fun x h => absurd h (by omega)⟩, hF⟩)
      exact L56 _ _ _ _ _ rfl (⟨2 ^ f, rfl, by rw [(hbc (2 ^ f)).1 (Nat.le_refl _)], rfl, Nat.le_refl _, by omega, RI_0 hf h3.2 (by
        show (jx_u K (a0 + 3) (2 ^ f * 10 + f) (Int32.ofInt 0) (a0 + 3) (2 ^ f * 10 + f)).toInt = 0
        rw [jx_u_s]; rfl) (fun T x hT hx hn => by
        show (jx_u K (a0 + 3) (2 ^ f * 10 + f) (Int32.ofInt 0) (a0 + 3) (T * 10 + x)).toInt = 1000000
        rw [jx_u_k _ _ _ _ (by omega)]; exact hK _ (by omega)), FR_u hF (by omega) (by omega)⟩)
    · refine ⟨s_Ways_0 hw, _, r_Ways_0_2 hw, _, ⟨s_Ways_3 hw, by decide⟩, ?_⟩
      try simp only [-eq_self, Int.toNat_natCast]
      refine ⟨by omega, ?_⟩
      intro I16 e_I16; subst e_I16
      exact ih8 _ (by omega) _ _ _ rfl (⟨i + 1, rfl, by omega, by omega, fun k hk => by
        rcases Nat.lt_or_ge k i with h9 | h9
        · rw [jx_u_k _ _ _ _ (by omega)]; exact hK k h9
        · rw [show k = i by omega, jx_u_s]; rfl, FR_u hF (by omega) (by omega)⟩)
  exact L8 _ _ _ _ rfl (⟨0, rfl, rfl, by omega, fun k h => absurd h (by omega), FR_refl⟩)
/-- what can be visited from x within H hours: the set -/
noncomputable def vst (l : LT) (c : CT) (x : Nat) (H : Int) : Nat := bsf (VU l (hh l c) x H) (2 ^ x) (2 ^ Ln l)
theorem vst_lt {l : LT} {c : CT} {x : Nat} {H : Int} (hW : WT l) (hx : x < Ln l) (hH : 0 ≤ H) : vst l c x H < 1024 := by
  have h2f : 2 ^ x < 2 ^ Ln l := Nat.pow_lt_pow_right (by omega) hx
  have h10 : 2 ^ Ln l ≤ 1024 := (Nat.pow_le_pow_right (by omega) hW.1.1 : 2 ^ Ln l ≤ 2 ^ 10)
  have h1 := (bsf_c (P := VU l (hh l c) x H) (VU_0 hH) (fun S hS => (VC_in hx (VU_VC hW (HP_hh l c) hx hS)).1) (2 ^ Ln l)).2 h2f
  unfold vst
  omega
/-- GrievingCamels.visited -/
theorem cz_165 {V : jx_V} (hV : V.1.stackTraces = false) {X : jx_X} {R : jx_R} {I : jx_I} {a0 : Nat} {a1 : Int} {a2 : Int} {a3 : Int} {ld : Nat} {l : LT} {c : CT} 
    (h : GX X R I a0 ld l c) (r_a1 : -2147483648 ≤ a1 ∧ a1 < 2147483648) (r_a2 : -2147483648 ≤ a2 ∧ a2 < 2147483648) (r_a3 : -2147483648 ≤ a3 ∧ a3 < 2147483648)
    : jc V 10 165 (3, 18) [.ref a0, jy a1, jy a2, jy a3] X I R (fun rv I' => nz (0 ≤ a1 ∧ a1 < (Ln l : Nat)) 0 (nz (0 ≤ a2 ∧ a2 ≤ 999) 2 (nz (0 ≤ a3 ∧ a3 ≤ 1) 2 (none))) = none ∧ rv = some (jy (if a3 = 0 then (pc (vst l c a1.toNat a2) : Nat) else (vst l c a1.toNat a2 : Nat))) ∧ FS a0 I I') (fun E I' => ∃ k, nz (0 ≤ a1 ∧ a1 < (Ln l : Nat)) 0 (nz (0 ≤ a2 ∧ a2 ≤ 999) 2 (nz (0 ≤ a3 ∧ a3 ≤ 1) 2 (none))) = some k ∧ E = (jx_exe k).1 ∧ I' = rfs I a0 k) := by
  have hW := h.2.2.2.1
  have hW0 := hW.1
  refine wm_165 hV (by omega) (by omega) (by omega)  (fun J22 hJJ => ?_)
  have hJ22 := hJJ
  have hl := GX_l h
  have hD := h.2.2.1; have hS := h.2.2.2.2.1; have hC := h.2.2.2.2.2.1; have hlo := h.2.1.2
  unfold wz_165
  refine ⟨s_GC_0 h.1, ?_⟩
  refine ⟨_, _, cz_187 hV h (by omega), fun Ex Ix h9 => ⟨0, by rw [nz_f h9.2.2], h9.1, h9.2.1⟩, ?_⟩
  rintro _ I6 ⟨rfl, e9, hp1⟩; replace e9 := e9.symm; subst e9
  refine ⟨rfl, ?_⟩
  refine ⟨fun hq1 => ?_, fun hq1 => ?_⟩
  · refine hJ22 _ _ _ ?_
    unfold wz_165_22
    refine ⟨s_GC_0 h.1, ?_⟩
    refine ⟨_, _, cz_189 hV h.1 (by omega), fun Ex Ix h9 => ⟨2, by rw [nz_t hp1]; rw [nz_f (by omega)], h9.1, h9.2.1⟩, ?_⟩
    rintro _ I13 ⟨rfl, e9, hp⟩; replace e9 := e9.symm; subst e9
    exact absurd rfl hp
  · refine ⟨fun hq2 => ?_, fun hq2 => ?_⟩
    · refine hJ22 _ _ _ ?_
      unfold wz_165_22
      refine ⟨s_GC_0 h.1, ?_⟩
      refine ⟨_, _, cz_189 hV h.1 (by omega), fun Ex Ix h9 => ⟨2, by rw [nz_t hp1]; rw [nz_f (by omega)], h9.1, h9.2.1⟩, ?_⟩
      rintro _ I13 ⟨rfl, e9, hp⟩; replace e9 := e9.symm; subst e9
      exact absurd rfl hp
    · refine hJ22 _ _ _ ?_
      unfold wz_165_22
      refine ⟨s_GC_0 h.1, ?_⟩
      refine ⟨_, _, cz_189 hV h.1 (by omega), fun Ex Ix h9 => absurd h9.2.2 (by decide), ?_⟩
      rintro _ I13 ⟨rfl, e9, hp⟩; replace e9 := e9.symm; subst e9
      refine ⟨rfl, ?_⟩
      refine ⟨s_GC_0 h.1, ?_⟩
      refine ⟨_, _, cz_190 hV h.1 (by omega) (by omega), fun Ex Ix h9 => ⟨2, by rw [nz_t hp1]; rw [nz_t (by omega)]; rw [nz_f h9.2.2], h9.1, h9.2.1⟩, ?_⟩
      rintro _ I20 ⟨rfl, e9, hp3⟩; replace e9 := e9.symm; subst e9
      refine ⟨rfl, ?_⟩
      refine ⟨_, r_GC_0_6 h.1, _, h.2.1.1, _, r_GC_0_2 h.1, s_Ways_0 (b_GC_24 h.1), ?_⟩
      refine ⟨_, cz_127 hV (b_GC_24 h.1) hl (b_GC_4 h.1) hD h.2.2.2.1 hS hC (by omega) (by omega) (by omega), ?_⟩
      rintro _ I31 ⟨rfl, hY, hF⟩
      refine ⟨rfl, ?_⟩
      have hFS := FS_w FS_refl hF hlo
      have hDK := LD_fr2 hD hF (by omega) (by omega)
      have hvl := vst_lt (c := c) (x := a1.toNat) (H := a2) h.2.2.2.1 (by omega) (by omega)
      refine ⟨s_Land_0 hl, ?_⟩
      refine ⟨_, cz_132 (f := a1.toNat) hV (b_GC_24 h.1) hY h.2.2.2.1 (HP_hh l c) hDK.1.1 (by omega) (by omega) (by omega), ?_⟩
      rintro _ I36 ⟨rfl, hF4⟩
      refine ⟨_, rfl, ?_⟩
      have hFS2 := FS_fr hFS hF4 (by omega)
      rw [vis_eq h.2.2.2.1 (HP_hh l c) (by omega) (by omega)]
      have hve : bsf (VU l (hh l c) a1.toNat a2) (2 ^ a1.toNat) (2 ^ Ln l) = vst l c a1.toNat a2 := rfl
      simp only [-eq_self, hve]
      refine ⟨fun hq3 => ?_, fun hq3 => ?_⟩
      · exact ⟨by rw [nz_t hp1, nz_t (by omega), nz_t hp3], by rw [if_neg (by omega)], hFS2⟩
      · refine ⟨_, cz_327 (B := vst l c a1.toNat a2) hV rfl hvl, ?_⟩
        rintro _ I40 ⟨rfl, e9⟩; replace e9 := e9.symm; subst e9
        refine ⟨_, rfl, ?_⟩
        exact ⟨by rw [nz_t hp1, nz_t (by omega), nz_t hp3], by rw [if_pos (by omega)], hFS2⟩
