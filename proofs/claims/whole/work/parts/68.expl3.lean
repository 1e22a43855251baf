/-! ===== class Explainer: lines, ways noted ===== -/
theorem bl_pos {B m n : Nat} (h : B < 2 ^ m) (hne : bl B n ≠ []) : 0 < m := by
  rcases Nat.eq_zero_or_pos m with e | e
  · exfalso
    rw [e] at h
    have h0 : B = 0 := by simpa using h
    apply hne
    rw [h0]
    unfold bl
    simp
  · exact e
theorem EX_row {X : jx_X} {R : jx_R} {a k : Nat} (h : BX X R a TExplainer) (hk : k < 9) : R (a + 1) k = some (a + (4 + 2 * k)) ∧ BX X R (a + (4 + 2 * k)) TRow := by
  rcases (by omega : k = 0 ∨ k = 1 ∨ k = 2 ∨ k = 3 ∨ k = 4 ∨ k = 5 ∨ k = 6 ∨ k = 7 ∨ k = 8) with rfl | rfl | rfl | rfl | rfl | rfl | rfl | rfl | rfl
  · exact ⟨r_Explainer_1_0 h, b_Explainer_4 h⟩
  · exact ⟨r_Explainer_1_1 h, b_Explainer_6 h⟩
  · exact ⟨r_Explainer_1_2 h, b_Explainer_8 h⟩
  · exact ⟨r_Explainer_1_3 h, b_Explainer_10 h⟩
  · exact ⟨r_Explainer_1_4 h, b_Explainer_12 h⟩
  · exact ⟨r_Explainer_1_5 h, b_Explainer_14 h⟩
  · exact ⟨r_Explainer_1_6 h, b_Explainer_16 h⟩
  · exact ⟨r_Explainer_1_7 h, b_Explainer_18 h⟩
  · exact ⟨r_Explainer_1_8 h, b_Explainer_20 h⟩
/-- of a row the last below n (-1: none) -/
def lg (n : Nat) (L : List Nat) : Int := L.foldl (fun s x => if x < n then (x : Int) else s) (-1)
theorem lg_app (n : Nat) (L : List Nat) (x : Nat) : lg n (L ++ [x]) = if x < n then (x : Int) else lg n L := by
  unfold lg
  rw [List.foldl_append]
  rfl
theorem lg_bl (n B : Nat) : ∀ k, (-1 ≤ lg n (bl B k) ∧ lg n (bl B k) < k) ∧ lg n (bl B k) < n ∧ ∀ x ∈ bl B k, x < n → (x : Int) ≤ lg n (bl B k)
  | 0 => by
    have e : lg n (bl B 0) = -1 := rfl
    rw [e]
    exact ⟨by decide, by omega, fun x hx => by have := (bl_mem.mp hx).1; omega⟩
  | k + 1 => by
    have h := lg_bl n B k
    rcases bN_01 B k with e | e
    · rw [bl_0 e]
      exact ⟨by omega, h.2.1, h.2.2⟩
    · rw [bl_1 (by omega), lg_app]
      by_cases e2 : k < n
      · rw [if_pos e2]
        refine ⟨by omega, by omega, fun x hx hxn => ?_⟩
        rcases List.mem_append.mp hx with h1 | h1
        · have := h.2.2 x h1 hxn; omega
        · rw [List.mem_singleton.mp h1]; exact Int.le_refl _
      · rw [if_neg e2]
        refine ⟨by omega, h.2.1, fun x hx hxn => ?_⟩
        rcases List.mem_append.mp hx with h1 | h1
        · exact h.2.2 x h1 hxn
        · rw [List.mem_singleton.mp h1] at hxn; exact absurd hxn e2
theorem gbp_y {g : Nat → Int} {k : Nat} (h : 0 < g k) : gbp g (k + 1) = gbp g k ||| 2 ^ k := if_pos h
theorem gbp_n {g : Nat → Int} {k : Nat} (h : ¬ 0 < g k) : gbp g (k + 1) = gbp g k := if_neg h
/-- what the Explainer keeps of the lines -/
def EXs (I : jx_I) (x n : Nat) (c : CT) : Prop := (I x 5).toInt = (n : Int) ∧ ∀ (i : Nat) (e : Nat × Int), (CN c)[i]? = some e → (I (x + 2) i).toInt = lg n (bl e.1 8) ∧ RW I (x + (4 + 2 * i)) (bl e.1 8)
/-- what it has found -/
def ESX (I : jx_I) (x : Nat) (s : ES) : Prop := (I x 7).toInt = (s.1 : Int) ∧ (I x 8).toInt = s.2.1 ∧ (I x 9).toInt = (s.2.2.1 : Int) ∧ (I x 10).toInt = (s.2.2.2 : Int)
/-- its guesses are in range -/
def GU (I : jx_I) (x : Nat) : Prop := (∀ j, j < 8 → 0 ≤ (I (x + 3) j).toInt ∧ (I (x + 3) j).toInt ≤ 5) ∧ (I (x + 3) 6).toInt = 0 ∧ (I (x + 3) 7).toInt = 0
/-- in it only what is found, guesses, and the law's stack change -/
def FZ (x ld : Nat) (I I' : jx_I) : Prop := (∀ q, q ≠ x → q ≠ x + 3 → (q < ld + 9 ∨ ld + 11 ≤ q) → I' q = I q) ∧ (∀ k, k < 7 → I' x k = I x k) ∧ ∀ k, 6 ≤ k → I' (x + 3) k = I (x + 3) k
theorem FZ_refl {x ld : Nat} {I : jx_I} : FZ x ld I I := ⟨fun _ _ _ _ => rfl, fun _ _ => rfl, fun _ _ => rfl⟩
theorem FZ_trans {x ld : Nat} {I I' I2 : jx_I} (h : FZ x ld I I') (h2 : FZ x ld I' I2) : FZ x ld I I2 := ⟨fun q a b c => (h2.1 q a b c).trans (h.1 q a b c), fun k a => (h2.2.1 k a).trans (h.2.1 k a), fun k a => (h2.2.2 k a).trans (h.2.2 k a)⟩
theorem FZ_g {x ld k : Nat} {I I' : jx_I} {v : Int32} (h : FZ x ld I I') (hk : k < 6) : FZ x ld I (jx_u I' (x + 3) k v) := ⟨fun q a b c => by rw [jx_u_r _ _ _ b]; exact h.1 q a b c, fun j a => by rw [jx_u_a _ _ _ _ (by omega)]; exact h.2.1 j a, fun j a => by rw [jx_u_k _ _ _ _ (by omega)]; exact h.2.2 j a⟩
theorem FZ_l {x ld lo hi : Nat} {I I' I2 : jx_I} (h : FZ x ld I I') (h2 : FR lo hi I' I2) (h1 : ld + 9 ≤ lo ∧ hi ≤ ld + 11) (hd : x + 18 ≤ ld ∨ ld + 11 ≤ x) : FZ x ld I I2 := ⟨fun q a b c => (h2 q (by omega)).trans (h.1 q a b c), fun k a => by rw [h2 x (by omega)]; exact h.2.1 k a, fun k a => by rw [h2 (x + 3) (by omega)]; exact h.2.2 k a⟩
theorem EXs_z {I I' : jx_I} {x ld n : Nat} {c : CT} (h : EXs I x n c) (hf : FZ x ld I I') (hc : (CN c).length ≤ 9) (hd : x + 22 ≤ ld ∨ ld + 11 ≤ x) : EXs I' x n c := by
  refine ⟨by rw [hf.2.1 5 (by omega)]; exact h.1, fun i e he => ?_⟩
  have hi := gi_lt he
  have h1 := h.2 i e he
  exact ⟨by rw [hf.1 (x + 2) (by omega) (by omega) (by omega)]; exact h1.1, RW_of h1.2 (hf.1 _ (by omega) (by omega) (by omega)) (hf.1 _ (by omega) (by omega) (by omega))⟩
theorem LD_z {I I' : jx_I} {x ld : Nat} {l : LT} (h : LD I ld l) (hf : FZ x ld I I') (hd : x + 22 ≤ ld ∨ ld + 11 ≤ x) : LD I' ld l := LD_of h (fun q h1 h2 => hf.1 q (by omega) (by omega) (by omega))
theorem SX_z {I I' : jx_I} {x ld st : Nat} {c : CT} (h : SX I st c) (hf : FZ x ld I I') (hd : x + 22 ≤ st ∨ st + 12 ≤ x) (hd2 : st + 12 ≤ ld ∨ ld + 11 ≤ st) : SX I' st c := SX_of h (fun q h1 h2 => hf.1 q (by omega) (by omega) (by omega))
/-- GrievingCamels$Explainer.sureBits -/
theorem cz_2 {V : jx_V} (hV : V.1.stackTraces = false) {X : jx_X} {R : jx_R} {I : jx_I} {a0 : Nat} {s : ES}
    (hx : BX X R a0 TExplainer) (hs : ESX I a0 s)
    {QE : String → jx_I → Prop} : jc V 1 2 (0, 0) [.ref a0] X I R (fun rv I' => rv = some (jy (if s.1 = 0 then 0 else (s.2.2.1 : Int))) ∧ I' = I) QE := by
  refine wm_2 hV   ?_
  have h7 := hs.1; have h9 := hs.2.2.1
  unfold wz_2
  refine ⟨s_Explainer_0 hx, ?_⟩
  refine ⟨fun hq1 => ?_, fun hq1 => ?_⟩
  · exact ⟨by rw [if_pos (by omega)], rfl⟩
  · exact ⟨by rw [if_neg (by omega), h9], rfl⟩
/-- GrievingCamels$Explainer.clearBits -/
theorem cz_3 {V : jx_V} (hV : V.1.stackTraces = false) {X : jx_X} {R : jx_R} {I : jx_I} {a0 : Nat} {s : ES} {n : Nat}
    (hx : BX X R a0 TExplainer) (hs : ESX I a0 s) (h5 : (I a0 5).toInt = (n : Int)) (hn : n ≤ 6) (hb : s.2.2.2 < 2 ^ n)
    {QE : String → jx_I → Prop} : jc V 1 3 (0, 0) [.ref a0] X I R (fun rv I' => rv = some (jy (if s.1 = 0 then 0 else (bdf (2 ^ n - 1) s.2.2.2 : Int))) ∧ I' = I) QE := by
  refine wm_3 hV   ?_
  have h7 := hs.1; have h10 := hs.2.2.2
  have h26 : 2 ^ n ≤ 64 := (Nat.pow_le_pow_right (by omega) hn : 2 ^ n ≤ 2 ^ 6)
  have h27 : 0 < 2 ^ n := Nat.two_pow_pos _
  unfold wz_3
  refine ⟨s_Explainer_0 hx, ?_⟩
  refine ⟨fun hq1 => ?_, fun hq1 => ?_⟩
  · exact ⟨by rw [if_pos (by omega)], rfl⟩
  · exact ⟨by rw [if_neg (by omega), h5, h10, jz_1sh (show n < 31 by omega), show ((2 ^ n : Nat) : Int) - 1 = ((2 ^ n - 1 : Nat) : Int) by omega, jz_adn (by omega) (by omega)], rfl⟩
/-- GrievingCamels$Explainer.lastGuessed -/
theorem cz_4 {V : jx_V} (hV : V.1.stackTraces = false) {X : jx_X} {R : jx_R} {I : jx_I} {a0 : Nat} {a1 : Nat} {L : List Nat} {n : Nat}
    (hx : BX X R a0 TExplainer) (hr : BX X R a1 TRow) (hL : RW I a1 L) (hL8 : ∀ x ∈ L, x < 100) (h5 : (I a0 5).toInt = (n : Int))
    {QE : String → jx_I → Prop} : jc V 1 4 (0, 0) [.ref a0, .ref a1] X I R (fun rv I' => rv = some (jy (lg n L)) ∧ I' = I) QE := by
  refine wm_4 hV   (fun J4 J32 hJJ => ?_)
  obtain ⟨hJ4, hJ32⟩ := hJJ
  have hm := hL.1; have hn12 := hL.2.1
  unfold wz_4
  have L4 : ∀ (n4 : Nat) (l2 : Int) (l3 : Int) (K : jx_I), n4 = ((L.length : Int) - l3).toNat → (∃ i : Nat, l3 = (i : Int) ∧ i ≤ L.length ∧ l2 = lg n (L.take i) ∧ K = I) → J4 l2 l3 K := by
    intro n4
    induction n4 using Nat.strongRecOn with
    | ind n4 ih4 =>
    intro l2 l3 K hn4 hI4
    obtain ⟨i, rfl, hi, rfl, rfl⟩ := hI4
    refine hJ4 _ _ _ ?_
    unfold wz_4_4
    refine ⟨s_Row_0 hr, by omega, ?_⟩
    refine ⟨fun hq1 => ?_, fun hq1 => ?_⟩
    · rw [List.take_of_length_le (by omega)]
      exact ⟨rfl, rfl⟩
    · obtain ⟨y, hy, hyv⟩ := RW_get hL (i := i) (by omega)
      have hy8 := hL8 y (List.mem_of_getElem? hy)
      refine ⟨_, r_Row_0_0 hr, _, ⟨s_Row_1 hr, by decide⟩, ?_⟩
      try simp only [-eq_self, Int.toNat_natCast, hyv, h5]
      refine ⟨by omega, s_Explainer_0 hx, ?_⟩
      refine ⟨fun hq2 => ?_, fun hq2 => ?_⟩
      · exact ih4 _ (by omega) _ _ _ rfl (⟨i + 1, by omega, by omega, by rw [ls_last hy, lg_app, if_neg (by omega)], rfl⟩)
      · refine ⟨by omega, ?_⟩
        refine hJ32 _ _ _ ?_
        unfold wz_4_32
        exact ih4 _ (by omega) _ _ _ rfl (⟨i + 1, by omega, by omega, by rw [ls_last hy, lg_app, if_pos (by omega)], rfl⟩)
  exact L4 _ _ _ _ rfl (⟨0, rfl, by omega, by rw [List.take_zero]; rfl, rfl⟩)
/-- GrievingCamels$Explainer.linesHold -/
theorem cz_6 {V : jx_V} (hV : V.1.stackTraces = false) {X : jx_X} {R : jx_R} {I : jx_I} {a0 : Nat} {a1 : Int} {ld st n : Nat} {l : LT} {c : CT} {g : Nat → Int}
    (hx : BX X R a0 TExplainer) (hl : BX X R ld TLand) (hs : BX X R st TState) (hr3 : R a0 3 = some ld) (hr4 : R a0 4 = some st) (hD : LD I ld l) (hW : WT l) (hS : SX I st c) (hC : WC l c) (hE : EXs I a0 n c) (d1 : a0 + 22 ≤ ld ∨ ld + 11 ≤ a0) (d2 : a0 + 22 ≤ st ∨ st + 12 ≤ a0) (d3 : st + 12 ≤ ld ∨ ld + 11 ≤ st) (r_a1 : -2147483648 ≤ a1 ∧ a1 < 2147483648) (hg : ∀ j, j < 8 → (I (a0 + 3) j).toInt = g j ∧ 0 ≤ g j ∧ g j ≤ 20)
    {QE : String → jx_I → Prop} : jc V 4 6 (0, 0) [.ref a0, jy a1] X I R (fun rv I' => (∃ r : Int, rv = some (jy r) ∧ ((r = 1 ∧ ∀ e ∈ CN c, lg n (bl e.1 8) = a1 → hlt (Lc l) ((bl e.1 8).map g) 1 = e.2) ∨ (r = 0 ∧ ∃ e ∈ CN c, lg n (bl e.1 8) = a1 ∧ hlt (Lc l) ((bl e.1 8).map g) 1 ≠ e.2))) ∧ FR (ld + 9) (ld + 11) I I') QE := by
  have hW0 := hW.1
  have hW0 := hW.1
  have h9 := hS.2.2.2.1.2.1
  have h6 := hS.2.2.2.1.1
  refine wm_6 hV (by omega)  (fun J2 hJJ => ?_)
  have hJ2 := hJJ
  unfold wz_6
  have L2 : ∀ (n2 : Nat) (l2 : Int) (K : jx_I), n2 = (((CN c).length : Int) - l2).toNat → (∃ i : Nat, l2 = (i : Int) ∧ i ≤ (CN c).length ∧ (∀ e ∈ (CN c).take i, lg n (bl e.1 8) = a1 → hlt (Lc l) ((bl e.1 8).map g) 1 = e.2) ∧ FR (ld + 9) (ld + 11) I K) → J2 l2 K := by
    intro n2
    induction n2 using Nat.strongRecOn with
    | ind n2 ih2 =>
    intro l2 K hn2 hI2
    obtain ⟨i, rfl, hi, hK, hF⟩ := hI2
    have h6K : (K st 6).toInt = ((CN c).length : Int) := by rw [hF st (by omega)]; exact h6
    refine hJ2 _ _ ?_
    unfold wz_6_2
    refine ⟨s_Explainer_0 hx, _, hr4, s_State_0 hs, by omega, ?_⟩
    refine ⟨fun hq1 => ?_, fun hq1 => ?_⟩
    · rw [List.take_of_length_le (by omega)] at hK
      exact ⟨⟨1, rfl, Or.inl ⟨rfl, hK⟩⟩, hF⟩
    · have he := List.getElem?_eq_getElem (l := CN c) (i := i) (by omega)
      generalize (CN c)[i]'(by omega) = e at he
      have hem := List.mem_of_getElem? he
      have hEe := hE.2 i e he
      have hSe := hS.2.2.2.1.2.2 i e he
      have hC9 := hC.2.2.2.1 e hem
      have hlk : (K (a0 + 2) i).toInt = lg n (bl e.1 8) := by rw [hF _ (by omega)]; exact hEe.1
      have hlb := (lg_bl n e.1 8).1
      refine ⟨_, r_Explainer_0_1 hx, _, ⟨s_Explainer_2 hx, by decide⟩, ?_⟩
      try simp only [-eq_self, Int.toNat_natCast, hlk]
      refine ⟨by omega, ?_⟩
      refine ⟨fun hq2 => ?_, fun hq2 => ?_⟩
      · exact ih2 _ (by omega) _ _ rfl (⟨i + 1, by omega, by omega, fun e2 he2 h2 => by
          rw [ls_last he] at he2
          rcases List.mem_append.mp he2 with k | k
          · exact hK e2 k h2
          · rw [List.mem_singleton.mp k] at h2; exact absurd h2 hq2, hF⟩)
      · refine ⟨_, hr3, s_Land_0 hl, _, r_Land_0_6 hl, _, r_Explainer_0_0 hx, _, ⟨s_Explainer_1 hx, by decide⟩, ?_⟩
        try simp only [-eq_self, Int.toNat_natCast]
        refine ⟨by omega, _, (EX_row (k := i) hx (by omega)).1, _, r_Explainer_0_2 hx, s_Law_0 (b_Land_7 hl), ?_⟩
        refine ⟨_, cz_52 (n := 8) (base := 0) (g := g) hV (b_Land_7 hl) (EX_row (k := i) hx (by omega)).2 (s_Explainer_3 hx) (by decide) (RW_of hEe.2 (hF _ (by omega)) (hF _ (by omega))) (fun hn0 => (LD_fr hD hF (by omega)).2.2.2.2 (Or.inr (bl_pos hC9.1 (hn0.resolve_right (by omega))))) hW.2.2.2.2.2 rfl (by decide) (fun x hx => by have := (bl_mem.mp hx).1; omega) (fun x hx => by have hx8 := (bl_mem.mp hx).1; rw [Nat.zero_add, hF _ (by omega)]; exact hg x hx8) (by omega) (by omega) (by omega), ?_⟩
        rintro _ I28 ⟨rfl, hF2⟩
        refine ⟨_, rfl, ?_⟩
        have hlr := hlt_rng (Lc l) ((bl e.1 8).map g) 1
        refine ⟨_, r_State_0_4 hs, _, ⟨s_State_10 hs, by decide⟩, ?_⟩
        have hse : (I28 (st + 10) i).toInt = e.2 := by rw [hF2 _ (by omega), hF _ (by omega)]; exact hSe.2
        try simp only [-eq_self, Int.toNat_natCast, hse]
        refine ⟨by omega, by omega, ?_⟩
        refine ⟨fun hq3 => ?_, fun hq3 => ?_⟩
        · exact ih2 _ (by omega) _ _ rfl (⟨i + 1, by omega, by omega, fun e2 he2 h2 => by
            rw [ls_last he] at he2
            rcases List.mem_append.mp he2 with k | k
            · exact hK e2 k h2
            · rw [List.mem_singleton.mp k]; exact hq3, FR_to hF hF2 (by omega) (by omega)⟩)
        · exact ⟨⟨0, rfl, Or.inr ⟨rfl, e, hem, hq2, hq3⟩⟩, FR_to hF hF2 (by omega) (by omega)⟩
  exact L2 _ _ _ rfl (⟨0, rfl, by omega, fun e he => by simp at he, FR_refl⟩)
/-- GrievingCamels$Explainer.noteWay -/
theorem cz_7 {V : jx_V} (hV : V.1.stackTraces = false) {X : jx_X} {R : jx_R} {I : jx_I} {a0 : Nat} {a1 : Int} {s : ES} {n : Nat} {g : Nat → Int}
    (hx : BX X R a0 TExplainer) (hs : ESX I a0 s) (h5 : (I a0 5).toInt = (n : Int)) (hn : n ≤ 6) (hk1 : s.1 < 100000) (hk3 : s.2.2.1 < 64) (hk4 : s.2.2.2 < 64) (r_a1 : -2147483648 ≤ a1 ∧ a1 < 2147483648) (hg : ∀ j, j < n → (I (a0 + 3) j).toInt = g j)
    {QE : String → jx_I → Prop} : jc V 1 7 (0, 0) [.ref a0, jy a1] X I R (fun rv I' => rv = none ∧ ESX I' a0 (s.1 + 1, (if s.1 = 0 then a1 else s.2.1), s.2.2.1 &&& gbp g n, s.2.2.2 ||| gbp g n) ∧ (∀ k, k < 7 → I' a0 k = I a0 k) ∧ ∀ q, q ≠ a0 → I' q = I q) QE := by
  refine wm_7 hV (by omega)  (fun J12 J26 J49 hJJ => ?_)
  obtain ⟨hJ12, hJ26, hJ49⟩ := hJJ
  obtain ⟨h7, h8, h9, h10⟩ := hs
  have L26 : ∀ (n26 : Nat) (l2 : Int) (l3 : Int) (K : jx_I), n26 = ((n : Int) - l3).toNat → (∃ i : Nat, l3 = (i : Int) ∧ i ≤ n ∧ l2 = (gbp g i : Nat) ∧ (K a0 7).toInt = ((s.1 + 1 : Nat) : Int) ∧ (K a0 8).toInt = (if s.1 = 0 then a1 else s.2.1) ∧ (K a0 9).toInt = (s.2.2.1 : Int) ∧ (K a0 10).toInt = (s.2.2.2 : Int) ∧ (∀ k, k < 7 → K a0 k = I a0 k) ∧ ∀ q, q ≠ a0 → K q = I q) → J26 l2 l3 K := by
    intro n26
    induction n26 using Nat.strongRecOn with
    | ind n26 ih26 =>
    intro l2 l3 K hn26 hI26
    obtain ⟨i, rfl, hi, rfl, k7, k8, k9, k10, kO, kQ⟩ := hI26
    have k5 : (K a0 5).toInt = (n : Int) := by rw [kO 5 (by omega)]; exact h5
    have hgl : gbp g i < 2 ^ 6 := gbp_lt g (by omega)
    refine hJ26 _ _ _ ?_
    unfold wz_7_26
    refine ⟨s_Explainer_0 hx, by omega, ?_⟩
    refine ⟨fun hq1 => ?_, fun hq1 => ?_⟩
    · intro I8 e_I8; subst e_I8
      intro I9 e_I9; subst e_I9
      rw [show i = n by omega] at hgl ⊢
      refine ⟨rfl, ⟨?_, ?_, ?_, ?_⟩, fun k hk => by rw [jx_u_k _ _ _ _ (by omega), jx_u_k _ _ _ _ (by omega)]; exact kO k hk, fun q hq => by rw [jx_u_r _ _ _ hq, jx_u_r _ _ _ hq]; exact kQ q hq⟩
      · rw [jx_u_k _ _ _ _ (by omega), jx_u_k _ _ _ _ (by omega)]; exact k7
      · rw [jx_u_k _ _ _ _ (by omega), jx_u_k _ _ _ _ (by omega)]; exact k8
      · rw [jx_u_k _ _ _ _ (by omega), jx_u_s, k9, jz_and (by omega) (by omega)]
        exact jy_toInt (by have := Nat.and_le_left (n := s.2.2.1) (m := gbp g n); omega)
      · rw [jx_u_s, jx_u_k _ _ _ _ (by omega), k10, jz_or (by omega) (by omega)]
        exact jy_toInt (by have := Nat.or_lt_two_pow (show s.2.2.2 < 2 ^ 6 by omega) (show gbp g n < 2 ^ 6 by omega); omega)
    · refine ⟨_, r_Explainer_0_2 hx, _, ⟨s_Explainer_3 hx, by decide⟩, ?_⟩
      have hgi : (K (a0 + 3) i).toInt = g i := by rw [kQ _ (by omega)]; exact hg i (by omega)
      have hpi : 2 ^ i ≤ 64 := (Nat.pow_le_pow_right (by omega) (by omega) : 2 ^ i ≤ 2 ^ 6)
      try simp only [-eq_self, Int.toNat_natCast, hgi]
      refine ⟨by omega, ?_⟩
      refine ⟨fun hq2 => ?_, fun hq2 => ?_⟩
      · exact ih26 _ (by omega) _ _ _ rfl (⟨i + 1, by omega, by omega, by rw [gbp_n (by omega)], k7, k8, k9, k10, kO, kQ⟩)
      · skip
        refine hJ49 _ _ _ ?_
        unfold wz_7_49
        exact ih26 _ (by omega) _ _ _ rfl (⟨i + 1, by omega, by omega, by rw [gbp_y (by omega), jz_1sh (show i < 31 by omega), jz_or (by omega) (by omega)], k7, k8, k9, k10, kO, kQ⟩)
  unfold wz_7
  refine ⟨s_Explainer_0 hx, ?_⟩
  refine ⟨fun hq3 => ?_, fun hq3 => ?_⟩
  · intro I2 e_I2; subst e_I2
    exact L26 _ _ _ _ rfl (⟨0, rfl, by omega, rfl, by rw [jx_u_s, h7]; rw [jy_toInt (by omega)]; omega, by rw [jx_u_k _ _ _ _ (by omega), h8, if_neg (by omega)], by rw [jx_u_k _ _ _ _ (by omega), h9], by rw [jx_u_k _ _ _ _ (by omega), h10], fun k hk => by rw [jx_u_k _ _ _ _ (by omega)], fun q hq => jx_u_r _ _ _ hq⟩)
  · intro I3 e_I3; subst e_I3
    refine hJ12 _ ?_
    unfold wz_7_12
    refine ⟨s_Explainer_0 hx, ?_⟩
    intro I5 e_I5; subst e_I5
    exact L26 _ _ _ _ rfl (⟨0, rfl, by omega, rfl, by rw [jx_u_s, jx_u_k _ _ _ _ (by omega), h7]; rw [jy_toInt (by omega)]; omega, by rw [jx_u_k _ _ _ _ (by omega), jx_u_s, if_pos (by omega), jy_toInt (by omega)], by rw [jx_u_k _ _ _ _ (by omega), jx_u_k _ _ _ _ (by omega), h9], by rw [jx_u_k _ _ _ _ (by omega), jx_u_k _ _ _ _ (by omega), h10], fun k hk => by rw [jx_u_k _ _ _ _ (by omega), jx_u_k _ _ _ _ (by omega)], fun q hq => by rw [jx_u_r _ _ _ hq, jx_u_r _ _ _ hq]⟩)
