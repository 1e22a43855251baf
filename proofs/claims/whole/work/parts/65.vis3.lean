/-! ===== places visited: the reference ===== -/
/-- the reference's hours by set and last place (-1: not yet); sets below s are done -/
def RU (l : LT) (h : Nat → Int) (f : Nat) (H : Int) (s : Nat) (r : Nat → Nat → Int) : Prop := (∀ T x, T < 2 ^ Ln l → x < Ln l → (r T x = -1 ∨ ∃ M, rwk l f (x :: M) ∧ rww l h (x :: M) = r T x ∧ bo (x :: M) = T) ∧ -1 ≤ r T x ∧ r T x ≤ H) ∧ r (2 ^ f) f = 0 ∧ ∀ T x y, T < s → T < 2 ^ Ln l → x < Ln l → y < Ln l → r T x ≠ -1 → Lr l x y ≠ 0 → r T x + (Lr l x y + h y) ≤ H → r (T ||| 2 ^ y) y ≠ -1 ∧ r (T ||| 2 ^ y) y ≤ r T x + (Lr l x y + h y)
theorem RU_ok {l : LT} {h : Nat → Int} {f s : Nat} {H : Int} {r : Nat → Nat → Int} (hW : WT l) (hH : HP l h) (hf : f < Ln l) (hr : RU l h f H s r) : ∀ (M : List Nat) (a : Nat), rwk l f (a :: M) → rww l h (a :: M) ≤ H → bo (a :: M) < s → r (bo (a :: M)) a ≠ -1 ∧ r (bo (a :: M)) a ≤ rww l h (a :: M)
  | [], a, ha, _, _ => by
    have e : a = f := ha
    subst e
    rw [bo_cons]
    show r (0 ||| 2 ^ a) a ≠ -1 ∧ r (0 ||| 2 ^ a) a ≤ 0
    rw [Nat.zero_or, hr.2.1]; decide
  | x :: M, a, ha, hw, hs => by
    have hl := rwk_lt hf M x ha.2.2
    have hx := hl.1 x (by simp)
    have hd := ie_1 hW hx ha.1 ha.2.1
    have hha := hH a ha.1
    rw [bo_cons] at hs ⊢
    have h1 : bo (x :: M) ≤ bo (x :: M) ||| 2 ^ a := Nat.left_le_or
    have hw2 : rww l h (a :: x :: M) = Lr l x a + h a + rww l h (x :: M) := rfl
    have h2 := RU_ok hW hH hf hr M x ha.2.2 (by omega) (by omega)
    have h3 := hr.2.2 (bo (x :: M)) x a (by omega) (bo_lt _ hl.1) hx ha.1 h2.1 ha.2.1 (by omega)
    exact ⟨h3.1, by omega⟩
theorem RU_in {l : LT} {h : Nat → Int} {f s : Nat} {H : Int} {r : Nat → Nat → Int} (hW : WT l) (hH : HP l h) (hf : f < Ln l) (hs : s < 2 ^ Ln l) (hr : RU l h f H (s + 1) r) : (∃ x, x < Ln l ∧ r s x ≠ -1) ↔ VU l h f H s := by
  constructor
  · rintro ⟨x, hx, h1⟩
    rcases (hr.1 s x hs hx).1 with h2 | ⟨M, h2, h3, h4⟩
    · exact absurd h2 h1
    · exact ⟨x, M, h2, by have := (hr.1 s x hs hx).2.2; omega, h4⟩
  · rintro ⟨a, M, h1, h2, h3⟩
    have h4 := RU_ok hW hH hf hr M a h1 h2 (by omega)
    rw [h3] at h4
    exact ⟨a, (rwk_lt hf M a h1).1 a (by simp), h4.1⟩
/-- of set s the roads of the places below a, and of a to places below b, are gone -/
def CUv (l : LT) (h : Nat → Int) (H : Int) (s a b : Nat) (r : Nat → Nat → Int) : Prop := ∀ x y, (x < a ∨ (x = a ∧ y < b)) → x < Ln l → y < Ln l → r s x ≠ -1 → Lr l x y ≠ 0 → r s x + (Lr l x y + h y) ≤ H → r (s ||| 2 ^ y) y ≠ -1 ∧ r (s ||| 2 ^ y) y ≤ r s x + (Lr l x y + h y)
theorem RU_e {l : LT} {h : Nat → Int} {f s a : Nat} {H : Int} {r : Nat → Nat → Int} (ha : Ln l ≤ a) (hr : RU l h f H s r) (hc : CUv l h H s a 0 r) : RU l h f H (s + 1) r := by
  refine ⟨hr.1, hr.2.1, fun T x y h1 h2 hx hy h3 h4 h5 => ?_⟩
  rcases Nat.lt_or_ge T s with h6 | h6
  · exact hr.2.2 T x y h6 h2 hx hy h3 h4 h5
  · rw [show T = s by omega] at h3 h5 ⊢
    exact hc x y (by omega) hx hy h3 h4 h5
theorem RU_0 {l : LT} {h : Nat → Int} {f : Nat} {H : Int} {r : Nat → Nat → Int} (hf : f < Ln l) (hH : 0 ≤ H) (h0 : r (2 ^ f) f = 0) (h1 : ∀ T x, T < 2 ^ Ln l → x < Ln l → ¬ (T = 2 ^ f ∧ x = f) → r T x = -1) : RU l h f H 1 r := by
  refine ⟨fun T x hT hx => ?_, h0, fun T x y hT hT2 hx hy hne => ?_⟩
  · by_cases e : T = 2 ^ f ∧ x = f
    · rw [e.1, e.2, h0]
      refine ⟨Or.inr ⟨[], rfl, rfl, ?_⟩, by decide, hH⟩
      rw [bo_cons]
      show 0 ||| 2 ^ f = 2 ^ f
      exact Nat.zero_or _
    · rw [h1 T x hT hx e]
      exact ⟨Or.inl rfl, by decide, by omega⟩
  · have h2 : 0 < 2 ^ f := Nat.two_pow_pos f
    exact absurd (h1 T x hT2 hx (by omega)) hne
theorem or_in {s b : Nat} (h : s.testBit b = true) : s ||| 2 ^ b = s := by
  apply Nat.eq_of_testBit_eq
  intro i
  rw [Nat.testBit_or, Nat.testBit_two_pow]
  by_cases e : b = i
  · rw [← e, h]; rfl
  · rw [decide_eq_false e, Bool.or_false]
def upv (r : Nat → Nat → Int) (T y : Nat) (v : Int) : Nat → Nat → Int := fun T' x => if T' = T ∧ x = y then v else r T' x
theorem RU_u {l : LT} {h : Nat → Int} {f s a b : Nat} {H v : Int} {r : Nat → Nat → Int} (hW : WT l) (hH : HP l h) (hf : f < Ln l) (hs : s < 2 ^ Ln l) (ha : a < Ln l) (hb : b < Ln l) (hr : RU l h f H s r) (h1 : r s a ≠ -1) (h2 : Lr l a b ≠ 0) (hv : v = r s a + (Lr l a b + h b)) (h3 : v ≤ H) (h4 : r (s ||| 2 ^ b) b = -1 ∨ v < r (s ||| 2 ^ b) b) : RU l h f H s (upv r (s ||| 2 ^ b) b v) := by
  have g1 := ie_1 hW ha hb h2
  have g2 := hH b hb
  have g3 := (hr.1 s a hs ha).2
  have gle : s ≤ s ||| 2 ^ b := Nat.left_le_or
  have hmono : ∀ T x, r T x ≠ -1 → upv r (s ||| 2 ^ b) b v T x ≠ -1 ∧ upv r (s ||| 2 ^ b) b v T x ≤ r T x := fun T x hx => by
    unfold upv
    by_cases e : T = s ||| 2 ^ b ∧ x = b
    · rw [if_pos e]
      rw [e.1, e.2] at hx ⊢
      omega
    · rw [if_neg e]; exact ⟨hx, Int.le_refl _⟩
  refine ⟨fun T x hT hx => ?_, ?_, fun T x y k1 k2 hx hy k3 k4 k5 => ?_⟩
  · have g0 := hr.1 T x hT hx
    by_cases e : T = s ||| 2 ^ b ∧ x = b
    · have e2 : upv r (s ||| 2 ^ b) b v T x = v := if_pos e
      rw [e2]
      refine ⟨Or.inr ?_, by omega, h3⟩
      rcases (hr.1 s a hs ha).1 with k | ⟨M, k1, k2, k3⟩
      · exact absurd k h1
      · refine ⟨a :: M, by rw [e.2]; exact ⟨hb, h2, k1⟩, ?_, by rw [e.2, bo_cons, k3, e.1]⟩
        rw [e.2, hv, ← k2]
        show Lr l a b + h b + rww l h (a :: M) = rww l h (a :: M) + (Lr l a b + h b)
        omega
    · have e2 : upv r (s ||| 2 ^ b) b v T x = r T x := if_neg e
      rw [e2]; exact g0
  · have g0 := hr.2.1
    have e : ¬ (2 ^ f = s ||| 2 ^ b ∧ f = b) := fun e => by
      rw [e.1, e.2] at g0
      omega
    show (if 2 ^ f = s ||| 2 ^ b ∧ f = b then v else r (2 ^ f) f) = 0
    rw [if_neg e]; exact g0
  · have e2 : upv r (s ||| 2 ^ b) b v T x = r T x := if_neg (fun e => by omega)
    rw [e2] at k3 k5 ⊢
    have k6 := hr.2.2 T x y k1 k2 hx hy k3 k4 k5
    have k7 := hmono _ _ k6.1
    exact ⟨k7.1, Int.le_trans k7.2 k6.2⟩
theorem CUv_u {l : LT} {h : Nat → Int} {s a b : Nat} {H v : Int} {r : Nat → Nat → Int} (hc : CUv l h H s a b r) (ht : s.testBit b = false) (hv : v = r s a + (Lr l a b + h b)) (hv0 : v ≠ -1) (h4 : r (s ||| 2 ^ b) b = -1 ∨ v < r (s ||| 2 ^ b) b) : CUv l h H s a (b + 1) (upv r (s ||| 2 ^ b) b v) := by
  have h0 := (tb_ne ht).1
  intro x y k1 hx hy k3 k4 k5
  have e2 : upv r (s ||| 2 ^ b) b v s x = r s x := if_neg (fun e => h0 e.1)
  rw [e2] at k3 k5 ⊢
  by_cases e : y = b
  · subst e
    have e3 : upv r (s ||| 2 ^ y) y v (s ||| 2 ^ y) y = v := if_pos ⟨rfl, rfl⟩
    rw [e3]
    rcases (show (x < a ∨ (x = a ∧ y < y)) ∨ x = a by omega) with k6 | k6
    · have k7 := hc x y k6 hx hy k3 k4 k5
      exact ⟨hv0, by omega⟩
    · rw [k6]; exact ⟨hv0, by omega⟩
  · have e3 : upv r (s ||| 2 ^ b) b v (s ||| 2 ^ y) y = r (s ||| 2 ^ y) y := if_neg (fun k => e k.2)
    rw [e3]
    exact hc x y (by omega) hx hy k3 k4 k5
theorem CUv_n {l : LT} {h : Nat → Int} {s a b : Nat} {H : Int} {r : Nat → Nat → Int} (hc : CUv l h H s a b r) (hn : Lr l a b = 0 ∨ H < r s a + (Lr l a b + h b) ∨ (r (s ||| 2 ^ b) b ≠ -1 ∧ r (s ||| 2 ^ b) b ≤ r s a + (Lr l a b + h b))) : CUv l h H s a (b + 1) r := by
  intro x y k1 hx hy k3 k4 k5
  by_cases e : x = a ∧ y = b
  · obtain ⟨rfl, rfl⟩ := e
    rcases hn with k | k | k
    · exact absurd k k4
    · omega
    · exact k
  · exact hc x y (by omega) hx hy k3 k4 k5
theorem CUv_r {l : LT} {h : Nat → Int} {s a b : Nat} {H : Int} {r : Nat → Nat → Int} (hb : Ln l ≤ b) (hc : CUv l h H s a b r) : CUv l h H s (a + 1) 0 r := fun x y k1 hx hy => hc x y (by omega) hx hy
theorem CUv_k {l : LT} {h : Nat → Int} {s a : Nat} {H : Int} {r : Nat → Nat → Int} (hc : CUv l h H s a 0 r) (hn : r s a = -1) : CUv l h H s (a + 1) 0 r := by
  intro x y k1 hx hy k3 k4 k5
  by_cases e : x = a
  · rw [e] at k3; exact absurd hn k3
  · exact hc x y (by omega) hx hy k3 k4 k5
/-- the hours of a set in all -/
def ms (g : Nat → Int) : Nat → Nat
  | 0 => 0
  | n + 1 => ms g n + (if g n = -1 then 1000 else (g n).toNat)
theorem ms_eq {g g' : Nat → Int} : ∀ n, (∀ x, x < n → g' x = g x) → ms g' n = ms g n
  | 0, _ => rfl
  | n + 1, h => by
    unfold ms
    rw [ms_eq n (fun x hx => h x (by omega)), h n (by omega)]
theorem ms_lt {g g' : Nat → Int} {b : Nat} {v : Int} (hv : 0 ≤ v ∧ v ≤ 999) (h1 : g' b = v) (h2 : g b = -1 ∨ v < g b) : ∀ n, b < n → (∀ x, x < n → x ≠ b → g' x = g x) → ms g' n < ms g n
  | 0, hb, _ => by omega
  | n + 1, hb, h => by
    unfold ms
    by_cases e : b = n
    · subst e
      rw [ms_eq b (fun x hx => h x (by omega) (by omega)), h1]
      rw [if_neg (show ¬ v = -1 by omega)]
      split <;> omega
    · have := ms_lt hv h1 h2 n (by omega) (fun x hx => h x (by omega))
      rw [h n (by omega) (fun k => e k.symm)]
      omega
/-- one is there -/
def FLu (w : Int) (j n : Nat) (g : Nat → Int) : Prop := (w = 0 ∧ ∀ x, x < j → x < n → g x = -1) ∨ (w = 1 ∧ ∃ x, x < n ∧ g x ≠ -1)
theorem FLu_r {w : Int} {j n : Nat} {g : Nat → Int} (h : FLu w j n g) : w = 0 ∨ w = 1 := h.elim (fun e => Or.inl e.1) (fun e => Or.inr e.1)
/-- of the reference only the stack and the hours of sets change -/
def FE8 (m : Nat) (I I' : jx_I) : Prop := ∀ q, q ≠ m + 1286 → q ≠ m + 1368 → I' q = I q
theorem FE8_t {m lo hi : Nat} {I I' I2 : jx_I} (h : FE8 m I I') (h2 : FR lo hi I' I2) (ho : m + 1286 ≤ lo ∧ hi ≤ m + 1287) : FE8 m I I2 := fun q h3 h4 => (h2 q (by omega)).trans (h q h3 h4)
theorem FE8_u {m k : Nat} {I I' : jx_I} {v : Int32} (h : FE8 m I I') : FE8 m I (jx_u I' (m + 1368) k v) := fun q h3 h4 => by rw [jx_u_r _ _ _ h4]; exact h q h3 h4
theorem FE8_k {m : Nat} {ks : List Nat} {I I' : jx_I} (h : FE8 m I I') : FK m ks I I' := ⟨fun q h1 h2 h3 => h q h2 (by omega), fun k _ => by rw [h m (by omega) (by omega)]⟩
theorem FE8_MD {m : Nat} {I I' : jx_I} {l : LT} (h : MD I m l) (hf : FE8 m I I') (hW : WT l) : MD I' m l := FK_MD h (FE8_k (ks := []) hf) (by decide) hW
theorem FE8_MN {m : Nat} {I I' : jx_I} {l : LT} {L : List Nat} {g d : GT} (h : MN I m l L g d) (hf : FE8 m I I') (hW : WT l) : MN I' m l L g d := MN_c h hW (by rw [hf m (by omega) (by omega)]) (fun q h1 h2 => hf q (by omega) (by omega))
/-- the hours in memory -/
def rq (K : jx_I) (a T x : Nat) : Int := (K (a + 1368) (T * 10 + x)).toInt
theorem rq_u {K : jx_I} {a n S y : Nat} {v : Int} (hv : -2147483648 ≤ v ∧ v < 2147483648) (hn : n ≤ 10) (hy : y < n) {T x : Nat} (hx : x < n) : rq (jx_u K (a + 1368) (S * 10 + y) (Int32.ofInt v)) a T x = upv (rq K a) S y v T x := by
  unfold rq upv
  by_cases e : T = S ∧ x = y
  · rw [if_pos e, e.1, e.2, jx_u_s, jy_toInt hv]
  · rw [if_neg e, jx_u_k _ _ _ _ (by omega)]
theorem RU_of {l : LT} {h : Nat → Int} {f s : Nat} {H : Int} {r r' : Nat → Nat → Int} (hf : f < Ln l) (e : ∀ T x, x < Ln l → r' T x = r T x) (hr : RU l h f H s r) : RU l h f H s r' := by
  refine ⟨fun T x hT hx => ?_, by rw [e _ _ hf]; exact hr.2.1, fun T x y h1 h2 hx hy => ?_⟩
  · rw [e T x hx]; exact hr.1 T x hT hx
  · rw [e T x hx, e _ y hy]; exact hr.2.2 T x y h1 h2 hx hy
theorem CUv_of {l : LT} {h : Nat → Int} {s a b : Nat} {H : Int} {r r' : Nat → Nat → Int} (e : ∀ T x, x < Ln l → r' T x = r T x) (hc : CUv l h H s a b r) : CUv l h H s a b r' := by
  intro x y k1 hx hy
  rw [e s x hx, e _ y hy]; exact hc x y k1 hx hy
/-- GrievingCamelsModel.comesSooner -/
theorem cz_271 {V : jx_V} (hV : V.1.stackTraces = false) {X : jx_X} {R : jx_R} {I : jx_I} {a0 : Nat} {a1 : Int} {a2 : Int} {a3 : Int} {k : Nat}
    (hM : MX X R a0) (h1 : a1 = (k : Int)) (hk : k < 10240) (r_a2 : -2147483648 ≤ a2 ∧ a2 < 2147483648) (r_a3 : -2147483648 ≤ a3 ∧ a3 < 2147483648)
    {QE : String → jx_I → Prop} : jc V 1 271 (0, 0) [.ref a0, jy a1, jy a2, jy a3] X I R (fun rv I' => ∃ r : Int, rv = some (jy r) ∧ ((r = 0 ∧ I' = I ∧ (a3 < a2 ∨ ((I (a0 + 1368) k).toInt ≠ -1 ∧ (I (a0 + 1368) k).toInt ≤ a2))) ∨ (r = 1 ∧ a2 ≤ a3 ∧ ((I (a0 + 1368) k).toInt = -1 ∨ a2 < (I (a0 + 1368) k).toInt) ∧ I' = jx_u I (a0 + 1368) k (Int32.ofInt a2)))) QE := by
  refine wm_271 hV (by omega) (by omega) (by omega)  ?_
  subst h1
  unfold wz_271
  refine ⟨fun hq1 => ?_, fun hq1 => ?_⟩
  · exact ⟨_, rfl, Or.inl ⟨rfl, rfl, Or.inl (by omega)⟩⟩
  · refine ⟨s_M_0 hM, _, r_M_51 hM, _, ⟨s_M_1368 hM, by decide⟩, ?_⟩
    try simp only [-eq_self, Int.toNat_natCast]
    refine ⟨by omega, ?_⟩
    refine ⟨fun hq2 => ?_, fun hq2 => ?_⟩
    · refine ⟨by omega, ?_⟩
      intro I8 e_I8; subst e_I8
      exact ⟨_, rfl, Or.inr ⟨rfl, by omega, Or.inl (by omega), rfl⟩⟩
    · refine ⟨by omega, ?_⟩
      refine ⟨fun hq3 => ?_, fun hq3 => ?_⟩
      · refine ⟨by omega, ?_⟩
        intro I11 e_I11; subst e_I11
        exact ⟨_, rfl, Or.inr ⟨rfl, by omega, Or.inr (by omega), rfl⟩⟩
      · exact ⟨_, rfl, Or.inl ⟨rfl, rfl, Or.inr ⟨by omega, by omega⟩⟩⟩
/-- GrievingCamelsModel.visited -/
theorem cz_273 {V : jx_V} (hV : V.1.stackTraces = false) {X : jx_X} {R : jx_R} {I : jx_I} {a0 : Nat} {a1 : Int} {a2 : Int} {a3 : Int} {l : LT} {c : CT} 
    (hM : MX X R a0) (hX : MSX I a0 l c) (hW : WT l) (hC : WC l c) (r_a1 : -2147483648 ≤ a1 ∧ a1 < 2147483648) (r_a2 : -2147483648 ≤ a2 ∧ a2 < 2147483648) (r_a3 : -2147483648 ≤ a3 ∧ a3 < 2147483648)
    {QE : String → jx_I → Prop} : jc V 4 273 (0, 0) [.ref a0, jy a1, jy a2, jy a3] X I R (fun rv I' => (nzw (0 ≤ a1 ∧ a1 < (Ln l : Nat)) 0 1 (nzw ((0 ≤ a2 ∧ a2 ≤ 999) ∧ (0 ≤ a3 ∧ a3 ≤ 1)) 2 2 (none)) = none ∧ rv = some (jy (if a3 = 0 then (pc (vst l c a1.toNat a2) : Nat) else (vst l c a1.toNat a2 : Nat))) ∧ (I' a0 0).toInt = 0 ∧ FK a0 SCR I I') ∨ (∃ k w, nzw (0 ≤ a1 ∧ a1 < (Ln l : Nat)) 0 1 (nzw ((0 ≤ a2 ∧ a2 ≤ 999) ∧ (0 ≤ a3 ∧ a3 ≤ 1)) 2 2 (none)) = some (k, w) ∧ I' = RM (jx_u I a0 0 (Int32.ofInt 0)) a0 k w ∧ ∃ x : Int, rv = some (jy x))) QE := by
  have hW0 := hW.1
  have hW0 := hW.1
  refine wm_273 hV (by omega) (by omega) (by omega)  (fun J19 J53 J85 J126 J136 J147 J181 J271 J277 J292 J330 J363 hJJ => ?_)
  obtain ⟨hJ19, hJ53, hJ85, hJ126, hJ136, hJ147, hJ181, hJ271, hJ277, hJ292, hJ330, hJ363⟩ := hJJ
  unfold wz_273
  refine ⟨s_M_0 hM, ?_⟩
  intro I2 e_I2; subst e_I2
  have hX0 := MSX_0 (v := Int32.ofInt 0) hX hW
  have h00 : (jx_u I a0 0 (Int32.ofInt 0) a0 0).toInt = 0 := by rw [jx_u_s]; rfl
  refine ⟨_, cz_232 hV hM hX0.1 hW (by omega), ?_⟩
  rintro _ I5 ⟨rfl, e9⟩; replace e9 := e9.symm; subst e9
  refine ⟨_, rfl, ?_⟩
  refine ⟨by omega, ?_⟩
  refine ⟨fun hq1 => ?_, fun hq1 => ?_⟩
  · have c1 := bi_t hq1
    refine hJ19 _ _ _ ?_
    unfold wz_273_19
    refine ⟨s_M_0 hM, ?_⟩
    refine ⟨_, cz_202o hV hM h00 (by omega) (by omega), ?_⟩
    rintro _ I11 ⟨rfl, e9⟩; replace e9 := e9.symm; subst e9
    refine ⟨_, rfl, ?_⟩
    refine ⟨by omega, ?_⟩
    refine ⟨fun hq2 => ?_, fun hq2 => ?_⟩
    · exact absurd hq2 (by decide)
    · refine ⟨_, cz_203 hV (by omega) (by omega) (by omega), ?_⟩
      rintro _ I16 ⟨rfl, e9⟩; replace e9 := e9.symm; subst e9
      refine ⟨_, rfl, ?_⟩
      refine ⟨by omega, ?_⟩
      refine ⟨fun hq3 => ?_, fun hq3 => ?_⟩
      · have c2 := bi_f hq3
        refine hJ53 _ _ _ ?_
        unfold wz_273_53
        refine ⟨s_M_0 hM, ?_⟩
        refine ⟨_, cz_202b hV hM h00 (by omega) (by omega), ?_⟩
        rintro _ I27 ⟨rfl, e9⟩; replace e9 := e9.symm; subst e9
        refine ⟨_, rfl, ?_⟩
        refine ⟨by omega, ?_⟩
        refine ⟨fun hq4 => ?_, fun hq4 => ?_⟩
        · exact absurd hq4 (by decide)
        · exact Or.inr ⟨_, _, by rw [nzw_t c1]; exact nzw_f (fun k => c2 k.1), rfl, _, rfl⟩
      · have c2 := bi_t hq3
        refine ⟨_, cz_203 hV (by omega) (by omega) (by omega), ?_⟩
        rintro _ I21 ⟨rfl, e9⟩; replace e9 := e9.symm; subst e9
        refine ⟨_, rfl, ?_⟩
        refine ⟨by omega, ?_⟩
        refine ⟨fun hq5 => ?_, fun hq5 => ?_⟩
        · have c3 := bi_t hq5
          refine hJ53 _ _ _ ?_
          unfold wz_273_53
          refine ⟨s_M_0 hM, ?_⟩
          refine ⟨_, cz_202o hV hM h00 (by omega) (by omega), ?_⟩
          rintro _ I27 ⟨rfl, e9⟩; replace e9 := e9.symm; subst e9
          refine ⟨_, rfl, ?_⟩
          refine ⟨by omega, ?_⟩
          refine ⟨fun hq6 => ?_, fun hq6 => ?_⟩
          · refine ⟨s_M_0 hM, ?_⟩
            refine ⟨_, cz_243 hV hM hX0.1 hW hX0.2.1 (GDn_w hW hC) hC.2.1.2 (WC_8 hW hC), ?_⟩
            rintro _ I33 ⟨rfl, hN1, hF1⟩
            refine ⟨rfl, ?_⟩
            have hD0 := FK_MD hX0.1 hF1 (by decide) hW
            have h400 := hD0.1.1
            obtain ⟨f, rfl⟩ : ∃ f : Nat, a1 = (f : Int) := ⟨a1.toNat, by omega⟩
            have hf : f < Ln l := by omega
            have hW0 := hW.1
            have hs1 := jz_1sh (k := Ln l) (by omega)
            have hs2 := jz_1sh (k := f) (by omega)
            have h2n : 2 ^ Ln l ≤ 1024 := (Nat.pow_le_pow_right (by omega) hW0.1 : 2 ^ Ln l ≤ 2 ^ 10)
            have h2f : 2 ^ f < 2 ^ Ln l := Nat.pow_lt_pow_right (by omega) hf
            have p1 : (0 : Int) ≤ ((2 ^ f : Nat) : Int) := Int.natCast_nonneg _
            have p2 : (0 : Int) ≤ ((2 ^ Ln l : Nat) : Int) := Int.natCast_nonneg _
            have p3 : 0 < 2 ^ f := Nat.two_pow_pos f
            have hHP := HP_hh l c
            have hvl := vst_lt (c := c) (x := f) (H := a2) hW hf c2.1
            have hbc := bsf_c (P := VU l (hh l c) f a2) (b0 := 2 ^ f) (VU_0 c2.1) (fun S hS => (VC_in hf (VU_VC hW hHP hf hS)).1)
            have hbl : ∀ s, s ≤ 2 ^ Ln l → bsf (VU l (hh l c) f a2) (2 ^ f) s < 1024 := fun s hs => by
              rcases Nat.lt_or_ge (2 ^ f) s with h9 | h9
              · have := ((hbc s).2 h9).2.1; omega
              · rw [(hbc s).1 h9]; omega
            refine ⟨_, r_M_11 hM, _, ⟨s_M_4 hM, by decide⟩, ?_⟩
            try simp only [-eq_self, show (0 : Int).toNat = 0 from rfl, h400, hs1, hs2]
            refine ⟨by omega, ?_⟩
            have L85 : ∀ (n85 : Nat) (l4 : Int) (l5 : Int) (l6 : Int) (K : jx_I), n85 = (((2 ^ Ln l * 10 : Nat) : Int) - l6).toNat → (∃ i : Nat, l4 = ((2 ^ Ln l : Nat) : Int) ∧ l5 = ((2 ^ f : Nat) : Int) ∧ l6 = (i : Int) ∧ i ≤ 2 ^ Ln l * 10 ∧ (∀ k, k < i → (K (a0 + 1368) k).toInt = -1) ∧ FE8 a0 I33 K) → J85 l4 l5 l6 K := by
              intro n85
              induction n85 using Nat.strongRecOn with
              | ind n85 ih85 =>
              intro l4 l5 l6 K hn85 hI85
              obtain ⟨i, rfl, rfl, rfl, hi, hK, hFE⟩ := hI85
              refine hJ85 _ _ _ _ ?_
              unfold wz_273_85
              refine ⟨by omega, by omega, ?_⟩
              refine ⟨fun hq7 => ?_, fun hq7 => ?_⟩
              · refine ⟨s_M_0 hM, _, r_M_51 hM, _, ⟨s_M_1368 hM, by decide⟩, ?_⟩
                try simp only [-eq_self, hs2, show (((2 ^ f : Nat) : Int) * 10 + (f : Int)).toNat = 2 ^ f * 10 + f by omega]
                refine ⟨by omega, ?_⟩
                intro I48 e_I48; subst e_I48
                have hRU0 : RU l (hh l c) f a2 1 (rq (jx_u K (a0 + 1368) (2 ^ f * 10 + f) (Int32.ofInt 0)) a0) := RU_0 hf c2.1 (by unfold rq; rw [jx_u_s]; rfl) (fun T x hT hx hn => by unfold rq; rw [jx_u_k _ _ _ _ (by omega)]; exact hK _ (by omega))
                have L126 : ∀ (n126 : Nat) (l4 : Int) (l5 : Int) (l6 : Int) (K1 : jx_I), n126 = (((2 ^ Ln l : Nat) : Int) - l6).toNat → (∃ s : Nat, l4 = ((2 ^ Ln l : Nat) : Int) ∧ l5 = (bsf (VU l (hh l c) f a2) (2 ^ f) s : Nat) ∧ l6 = (s : Int) ∧ 1 ≤ s ∧ s ≤ 2 ^ Ln l ∧ RU l (hh l c) f a2 s (rq K1 a0) ∧ FE8 a0 I33 K1) → J126 l4 l5 l6 K1 := by
                  intro n126
                  induction n126 using Nat.strongRecOn with
                  | ind n126 ih126 =>
                  intro l4 l5 l6 K1 hn126 hI126
                  obtain ⟨s, rfl, rfl, rfl, hs0, hs, hRU, hFE⟩ := hI126
                  have hbs := hbl s hs
                  refine hJ126 _ _ _ _ ?_
                  unfold wz_273_126
                  refine ⟨by omega, by omega, ?_⟩
                  refine ⟨fun hq8 => ?_, fun hq8 => ?_⟩
                  · refine ⟨fun hq9 => ?_, fun hq9 => ?_⟩
                    · have hve : bsf (VU l (hh l c) f a2) (2 ^ f) (2 ^ Ln l) = vst l c f a2 := rfl
                      have hFK := FK_trans hF1 (FE8_k (ks := [46]) hFE)
                      exact Or.inl ⟨by rw [nzw_t c1, nzw_t (And.intro c2 c3)], by rw [show s = 2 ^ Ln l by omega, hve, if_neg (by omega), Int.toNat_natCast], by rw [hFK.2 0 (by decide)]; exact h00, FK_trans FK_0 (FK_mono hFK (by decide))⟩
                    · refine ⟨_, cz_272 (B := vst l c f a2) hV (by rw [show s = 2 ^ Ln l by omega]; rfl) (by omega), ?_⟩
                      rintro _ I60 ⟨rfl, e9⟩; replace e9 := e9.symm; subst e9
                      refine ⟨_, rfl, ?_⟩
                      have hFK := FK_trans hF1 (FE8_k (ks := [46]) hFE)
                      exact Or.inl ⟨by rw [nzw_t c1, nzw_t (And.intro c2 c3)], by rw [if_pos (by omega), Int.toNat_natCast], by rw [hFK.2 0 (by decide)]; exact h00, FK_trans FK_0 (FK_mono hFK (by decide))⟩
                  · have L136 : ∀ (n136 : Nat) (l4 : Int) (l5 : Int) (l6 : Int) (l7 : Int) (K2 : jx_I), n136 = 2 * ms (rq K2 a0 s) (Ln l) + l7.toNat → (l4 = ((2 ^ Ln l : Nat) : Int) ∧ l5 = (bsf (VU l (hh l c) f a2) (2 ^ f) s : Nat) ∧ l6 = (s : Int) ∧ (l7 = 0 ∨ l7 = 1) ∧ RU l (hh l c) f a2 s (rq K2 a0) ∧ (l7 = 0 → CUv l (hh l c) a2 s (Ln l) 0 (rq K2 a0)) ∧ FE8 a0 I33 K2) → J136 l4 l5 l6 l7 K2 := by
                      intro n136
                      induction n136 using Nat.strongRecOn with
                      | ind n136 ih136 =>
                      intro l4 l5 l6 l7 K2 hn136 hI136
                      obtain ⟨rfl, rfl, rfl, h7, hRU, hCU, hFE⟩ := hI136
                      have hsl : s < 2 ^ Ln l := by omega
                      refine hJ136 _ _ _ _ _ ?_
                      unfold wz_273_136
                      refine ⟨by omega, ?_⟩
                      refine ⟨fun hq10 => ?_, fun hq10 => ?_⟩
                      · have L292 : ∀ (n292 : Nat) (l4 : Int) (l5 : Int) (l6 : Int) (l7 : Int) (l8 : Int) (K3 : jx_I), n292 = ((Ln l : Int) - l8).toNat → (∃ j : Nat, l4 = ((2 ^ Ln l : Nat) : Int) ∧ l5 = (bsf (VU l (hh l c) f a2) (2 ^ f) s : Nat) ∧ l6 = (s : Int) ∧ l8 = (j : Int) ∧ j ≤ Ln l ∧ RU l (hh l c) f a2 (s + 1) (rq K3 a0) ∧ FLu l7 j (Ln l) (rq K3 a0 s) ∧ FE8 a0 I33 K3) → J292 l4 l5 l6 l7 l8 K3 := by
                          intro n292
                          induction n292 using Nat.strongRecOn with
                          | ind n292 ih292 =>
                          intro l4 l5 l6 l7 l8 K3 hn292 hI292
                          obtain ⟨j, rfl, rfl, rfl, rfl, hj, hRU, hfl, hFE⟩ := hI292
                          have hf01 := FLu_r hfl
                          have hD9 := FE8_MD hD0 hFE hW
                          have h40 := hD9.1.1
                          refine hJ292 _ _ _ _ _ _ ?_
                          unfold wz_273_292
                          refine ⟨s_M_0 hM, _, r_M_11 hM, _, ⟨s_M_4 hM, by decide⟩, ?_⟩
                          try simp only [-eq_self, show (0 : Int).toNat = 0 from rfl, h40]
                          refine ⟨by omega, by omega, ?_⟩
                          refine ⟨fun hq11 => ?_, fun hq11 => ?_⟩
                          · refine ⟨by omega, ?_⟩
                            refine ⟨fun hq12 => ?_, fun hq12 => ?_⟩
                            · have hnv : ¬ VU l (hh l c) f a2 s := fun k => by
                                obtain ⟨x, hx, h9⟩ := (RU_in hW hHP hf hsl hRU).mpr k
                                rcases hfl with ⟨_, h8⟩ | ⟨h8, _⟩
                                · exact h9 (h8 x (by omega) hx)
                                · omega
                              refine hJ363 _ _ _ _ ?_
                              unfold wz_273_363
                              exact ih126 _ (by omega) _ _ _ _ rfl (⟨s + 1, rfl, by rw [bsf_n (fun k => hnv k.1)], by omega, by omega, by omega, hRU, hFE⟩)
                            · have q1 := pc_10 s
                              have q2 := pc_10 (bsf (VU l (hh l c) f a2) (2 ^ f) s)
                              have hv : VU l (hh l c) f a2 s := (RU_in hW hHP hf hsl hRU).mp (hfl.elim (fun e => absurd e.1 hq12) (fun e => e.2))
                              refine ⟨_, cz_272 (B := s) hV rfl (by omega), ?_⟩
                              rintro _ I122 ⟨rfl, e9⟩; replace e9 := e9.symm; subst e9
                              refine ⟨_, rfl, ?_⟩
                              refine ⟨_, cz_272 (B := bsf (VU l (hh l c) f a2) (2 ^ f) s) hV rfl (by omega), ?_⟩
                              rintro _ I126 ⟨rfl, e9⟩; replace e9 := e9.symm; subst e9
                              refine ⟨_, rfl, ?_⟩
                              refine ⟨by omega, by omega, ?_⟩
                              refine ⟨fun hq13 => ?_, fun hq13 => ?_⟩
                              · refine hJ363 _ _ _ _ ?_
                                unfold wz_273_363
                                exact ih126 _ (by omega) _ _ _ _ rfl (⟨s + 1, rfl, by rw [bsf_n (fun k => by omega)], by omega, by omega, by omega, hRU, hFE⟩)
                              · refine hJ363 _ _ _ _ ?_
                                unfold wz_273_363
                                exact ih126 _ (by omega) _ _ _ _ rfl (⟨s + 1, rfl, by rw [bsf_y ⟨hv, by omega⟩], by omega, by omega, by omega, hRU, hFE⟩)
                          · refine ⟨by omega, ?_⟩
                            refine ⟨fun hq14 => ?_, fun hq14 => ?_⟩
                            · refine hJ330 _ _ _ _ _ _ ?_
                              unfold wz_273_330
                              exact ih292 _ (by omega) _ _ _ _ _ _ rfl (⟨j + 1, rfl, rfl, rfl, by omega, by omega, hRU, hfl.elim (fun e => absurd e.1 hq14) (fun e => Or.inr ⟨rfl, e.2⟩), hFE⟩)
                            · refine ⟨_, r_M_51 hM, _, ⟨s_M_1368 hM, by decide⟩, ?_⟩
                              try simp only [-eq_self, show ((s : Int) * 10 + (j : Int)).toNat = s * 10 + j by omega]
                              refine ⟨by omega, ?_⟩
                              refine ⟨fun hq15 => ?_, fun hq15 => ?_⟩
                              · refine hJ330 _ _ _ _ _ _ ?_
                                unfold wz_273_330
                                exact ih292 _ (by omega) _ _ _ _ _ _ rfl (⟨j + 1, rfl, rfl, rfl, by omega, by omega, hRU, hfl.elim (fun e => Or.inl ⟨rfl, fun x hx hx2 => by
                                  rcases Nat.lt_or_ge x j with h9 | h9
                                  · exact e.2 x h9 hx2
                                  · rw [show x = j by omega]; exact hq15⟩) (fun e => absurd e.1 (by omega)), hFE⟩)
                              · refine hJ330 _ _ _ _ _ _ ?_
                                unfold wz_273_330
                                exact ih292 _ (by omega) _ _ _ _ _ _ rfl (⟨j + 1, rfl, rfl, rfl, by omega, by omega, hRU, Or.inr ⟨rfl, j, by omega, hq15⟩, hFE⟩)
                        exact L292 _ _ _ _ _ _ _ rfl (⟨0, rfl, rfl, rfl, rfl, by omega, RU_e (Nat.le_refl _) hRU (hCU hq10), Or.inl ⟨rfl, fun x h => absurd h (by omega)⟩, hFE⟩)
                      · have L147 : ∀ (n147 : Nat) (l4 : Int) (l5 : Int) (l6 : Int) (l7 : Int) (l8 : Int) (K4 : jx_I), n147 = ((Ln l : Int) - l8).toNat → (∃ a : Nat, l4 = ((2 ^ Ln l : Nat) : Int) ∧ l5 = (bsf (VU l (hh l c) f a2) (2 ^ f) s : Nat) ∧ l6 = (s : Int) ∧ l8 = (a : Int) ∧ a ≤ Ln l ∧ (l7 = 0 ∨ l7 = 1) ∧ RU l (hh l c) f a2 s (rq K4 a0) ∧ (l7 = 0 → CUv l (hh l c) a2 s a 0 (rq K4 a0)) ∧ 2 * ms (rq K4 a0 s) (Ln l) + l7.toNat < 2 * ms (rq K2 a0 s) (Ln l) + 1 ∧ FE8 a0 I33 K4) → J147 l4 l5 l6 l7 l8 K4 := by
                          intro n147
                          induction n147 using Nat.strongRecOn with
                          | ind n147 ih147 =>
                          intro l4 l5 l6 l7 l8 K4 hn147 hI147
                          obtain ⟨a, rfl, rfl, rfl, rfl, ha, h7, hRU, hCU, hms, hFE⟩ := hI147
                          have hD9 := FE8_MD hD0 hFE hW
                          have h40 := hD9.1.1
                          refine hJ147 _ _ _ _ _ _ ?_
                          unfold wz_273_147
                          refine ⟨s_M_0 hM, _, r_M_11 hM, _, ⟨s_M_4 hM, by decide⟩, ?_⟩
                          try simp only [-eq_self, show (0 : Int).toNat = 0 from rfl, h40]
                          refine ⟨by omega, by omega, ?_⟩
                          refine ⟨fun hq16 => ?_, fun hq16 => ?_⟩
                          · exact ih136 _ (by omega) _ _ _ _ _ rfl (⟨rfl, rfl, rfl, h7, hRU, fun k => by rw [show a = Ln l by omega] at hCU; exact hCU k, hFE⟩)
                          · have ha9 : a < Ln l := by omega
                            refine ⟨_, r_M_51 hM, _, ⟨s_M_1368 hM, by decide⟩, ?_⟩
                            try simp only [-eq_self, show ((s : Int) * 10 + (a : Int)).toNat = s * 10 + a by omega]
                            refine ⟨by omega, ?_⟩
                            refine ⟨fun hq17 => ?_, fun hq17 => ?_⟩
                            · have L181 : ∀ (n181 : Nat) (l4 : Int) (l5 : Int) (l6 : Int) (l7 : Int) (l8 : Int) (l9 : Int) (K5 : jx_I), n181 = ((Ln l : Int) - l9).toNat → (∃ b : Nat, l4 = ((2 ^ Ln l : Nat) : Int) ∧ l5 = (bsf (VU l (hh l c) f a2) (2 ^ f) s : Nat) ∧ l6 = (s : Int) ∧ l8 = (a : Int) ∧ l9 = (b : Int) ∧ b ≤ Ln l ∧ (l7 = 0 ∨ l7 = 1) ∧ rq K5 a0 s a ≠ -1 ∧ RU l (hh l c) f a2 s (rq K5 a0) ∧ (l7 = 0 → CUv l (hh l c) a2 s a b (rq K5 a0)) ∧ 2 * ms (rq K5 a0 s) (Ln l) + l7.toNat < 2 * ms (rq K2 a0 s) (Ln l) + 1 ∧ FE8 a0 I33 K5) → J181 l4 l5 l6 l7 l8 l9 K5 := by
                                intro n181
                                induction n181 using Nat.strongRecOn with
                                | ind n181 ih181 =>
                                intro l4 l5 l6 l7 l8 l9 K5 hn181 hI181
                                obtain ⟨b, rfl, rfl, rfl, rfl, rfl, hb, h7, hra, hRU, hCU, hms, hFE⟩ := hI181
                                have hD9 := FE8_MD hD0 hFE hW
                                have h40 := hD9.1.1
                                refine hJ181 _ _ _ _ _ _ _ ?_
                                unfold wz_273_181
                                refine ⟨s_M_0 hM, _, r_M_11 hM, _, ⟨s_M_4 hM, by decide⟩, ?_⟩
                                try simp only [-eq_self, show (0 : Int).toNat = 0 from rfl, h40]
                                refine ⟨by omega, by omega, ?_⟩
                                refine ⟨fun hq18 => ?_, fun hq18 => ?_⟩
                                · exact ih147 _ (by omega) _ _ _ _ _ _ rfl (⟨a + 1, rfl, rfl, rfl, by omega, by omega, h7, hRU, fun k => CUv_r (by omega) (hCU k), hms, hFE⟩)
                                · refine ⟨_, r_M_21 hM, _, ⟨s_M_24 hM, by decide⟩, by omega, _, rr_M_24 hM (by omega), _, ⟨sr_M_24 hM (by omega), by decide⟩, ?_⟩
                                  try simp only [-eq_self, Int.toNat_natCast, hD9.2.2.1 a b ha9 (by omega)]
                                  refine ⟨by omega, ?_⟩
                                  refine ⟨fun hq19 => ?_, fun hq19 => ?_⟩
                                  · have hrr := (hW.2.2.1 a b ha9 (by omega)).1
                                    exact ih181 _ (by omega) _ _ _ _ _ _ _ rfl (⟨b + 1, rfl, rfl, rfl, rfl, by omega, by omega, h7, hra, hRU, fun k => CUv_n (hCU k) (Or.inl (by omega)), hms, hFE⟩)
                                  · refine ⟨_, r_M_51 hM, _, ⟨s_M_1368 hM, by decide⟩, ?_⟩
                                    try simp only [-eq_self, show ((s : Int) * 10 + (a : Int)).toNat = s * 10 + a by omega]
                                    refine ⟨by omega, by omega, _, rr_M_24 hM (by omega), _, ⟨sr_M_24 hM (by omega), by decide⟩, ?_⟩
                                    try simp only [-eq_self, Int.toNat_natCast, hD9.2.2.1 a b ha9 (by omega)]
                                    refine ⟨by omega, ?_⟩
                                    refine ⟨_, cz_246 (p := b) hV hM hD9 hW (FE8_MN hN1 hFE hW) (GDn_w hW hC) hC.2.1.2 (WC_8 hW hC) rfl (by omega), ?_⟩
                                    rintro _ I105 ⟨rfl, hF2⟩
                                    refine ⟨_, rfl, ?_⟩
                                    have hhb : hlt (Lc l) ((CL c).map (Cg c b)) (nd (Lk l b)) = hh l c b := rfl
                                    have hpj : 2 ^ b < 2 ^ Ln l := Nat.pow_lt_pow_right (by omega) (by omega)
                                    have hor := or_lt hsl (show b < Ln l by omega)
                                    have hrb := hHP b (by omega)
                                    have hrr := (hW.2.2.1 a b ha9 (by omega)).1
                                    have hrq := (hRU.1 s a hsl ha9).2
                                    have e9 : ∀ T x, rq I105 a0 T x = rq K5 a0 T x := fun T x => by unfold rq; rw [hF2 _ (by omega)]
                                    have hsa : (K5 (a0 + 1368) (s * 10 + a)).toInt = rq K5 a0 s a := rfl
                                    simp only [-eq_self, hsa]
                                    have e10 : rq I105 a0 = rq K5 a0 := funext fun T => funext fun x => e9 T x
                                    simp only [-eq_self, jz_1sh (show b < 31 by omega), jz_or (show s < 2147483648 by omega) (show 2 ^ b < 2147483648 by omega), hhb]
                                    refine ⟨_, cz_271 (k := (s ||| 2 ^ b) * 10 + b) hV hM (by omega) (by omega) (by omega) (by omega), ?_⟩
                                    rintro _ I109 ⟨r9, rfl, hcs⟩
                                    refine ⟨_, rfl, ?_⟩
                                    refine ⟨by omega, ?_⟩
                                    refine ⟨fun hq20 => ?_, fun hq20 => ?_⟩
                                    · obtain ⟨_, rfl, hno⟩ := hcs.resolve_right (fun k => absurd k.1 (by omega))
                                      have hno2 : a2 < rq K5 a0 s a + (Lr l a b + hh l c b) ∨ (rq K5 a0 (s ||| 2 ^ b) b ≠ -1 ∧ rq K5 a0 (s ||| 2 ^ b) b ≤ rq K5 a0 s a + (Lr l a b + hh l c b)) := by
                                        rw [← e9 (s ||| 2 ^ b) b]
                                        rcases hno with k | k
                                        · exact Or.inl (by omega)
                                        · have k2 : rq I109 a0 (s ||| 2 ^ b) b ≤ rq K5 a0 s a + Lr l a b + hh l c b := k.2
                                          exact Or.inr ⟨k.1, by omega⟩
                                      exact ih181 _ (by omega) _ _ _ _ _ _ _ rfl (⟨b + 1, rfl, rfl, rfl, rfl, by omega, by omega, h7, by rw [e10]; exact hra, by rw [e10]; exact hRU, fun k => by rw [e10]; exact CUv_n (hCU k) (Or.inr hno2), by rw [e10]; exact hms, FE8_t hFE hF2 (by omega)⟩)
                                    · obtain ⟨_, hle, hlt, rfl⟩ := hcs.resolve_left (fun k => hq20 k.1)
                                      have hlt2 : rq K5 a0 (s ||| 2 ^ b) b = -1 ∨ rq K5 a0 s a + Lr l a b + hh l c b < rq K5 a0 (s ||| 2 ^ b) b := by rw [← e9]; exact hlt
                                      have hRU2 := RU_u hW hHP hf hsl ha9 (show b < Ln l by omega) hRU hra (show Lr l a b ≠ 0 by omega) (show rq K5 a0 s a + Lr l a b + hh l c b = rq K5 a0 s a + (Lr l a b + hh l c b) by omega) hle hlt2
                                      have hup : ∀ T x, x < Ln l → rq (jx_u I105 (a0 + 1368) ((s ||| 2 ^ b) * 10 + b) (Int32.ofInt (rq K5 a0 s a + Lr l a b + hh l c b))) a0 T x = upv (rq K5 a0) (s ||| 2 ^ b) b (rq K5 a0 s a + Lr l a b + hh l c b) T x := fun T x hx => by rw [rq_u (by omega) hW0.1 (show b < Ln l by omega) hx, e10]
                                      have hRU3 := RU_of hf hup hRU2
                                      have hbit := jz_bit (B := s) (k := b) (by omega) (by omega)
                                      simp only [-eq_self, hbit]
                                      have hbt := bN_t s b
                                      have h01 := bN_01 s b
                                      refine ⟨fun hq21 => ?_, fun hq21 => ?_⟩
                                      · have hb0 : s.testBit b = false := by rw [hbt]; exact decide_eq_false (by omega)
                                        have hsx : ∀ x, x < Ln l → rq (jx_u I105 (a0 + 1368) ((s ||| 2 ^ b) * 10 + b) (Int32.ofInt (rq K5 a0 s a + Lr l a b + hh l c b))) a0 s x = rq K5 a0 s x := fun x hx => by rw [hup s x hx]; exact if_neg (fun e => (tb_ne hb0).1 e.1)
                                        exact ih181 _ (by omega) _ _ _ _ _ _ _ rfl (⟨b + 1, rfl, rfl, rfl, rfl, by omega, by omega, h7, by rw [hsx a ha9]; exact hra, hRU3, fun k => CUv_of hup (CUv_u (hCU k) hb0 (by omega) (by omega) hlt2), by rw [ms_eq (Ln l) hsx]; exact hms, FE8_u (FE8_t hFE hF2 (by omega))⟩)
                                      · have hb1 : s ||| 2 ^ b = s := or_in (by rw [hbt]; exact decide_eq_true (by omega))
                                        rw [hb1] at hup hlt2
                                        have hsb : rq (jx_u I105 (a0 + 1368) ((s ||| 2 ^ b) * 10 + b) (Int32.ofInt (rq K5 a0 s a + Lr l a b + hh l c b))) a0 s b = rq K5 a0 s a + Lr l a b + hh l c b := by rw [hb1, hup s b (by omega)]; exact if_pos ⟨rfl, rfl⟩
                                        have hsx : ∀ x, x < Ln l → x ≠ b → rq (jx_u I105 (a0 + 1368) ((s ||| 2 ^ b) * 10 + b) (Int32.ofInt (rq K5 a0 s a + Lr l a b + hh l c b))) a0 s x = rq K5 a0 s x := fun x hx hn => by rw [hb1, hup s x hx]; exact if_neg (fun e => hn e.2)
                                        have hml := ms_lt (g := rq K5 a0 s) (b := b) (v := rq K5 a0 s a + Lr l a b + hh l c b) (by omega) hsb hlt2 (Ln l) (by omega) hsx
                                        have hkey : ∀ x, x < Ln l → rq K5 a0 s x ≠ -1 → rq (jx_u I105 (a0 + 1368) ((s ||| 2 ^ b) * 10 + b) (Int32.ofInt (rq K5 a0 s a + Lr l a b + hh l c b))) a0 s x ≠ -1 := fun x hx hn => by
                                          by_cases e : x = b
                                          · rw [e, hsb]; omega
                                          · rw [hsx x hx e]; exact hn
                                        refine hJ271 _ _ _ _ _ _ _ ?_
                                        unfold wz_273_271
                                        exact ih181 _ (by omega) _ _ _ _ _ _ _ rfl (⟨b + 1, rfl, rfl, rfl, rfl, by omega, by omega, Or.inr rfl, hkey a ha9 hra, hRU3, fun k => absurd k (by decide), by show 2 * _ + 1 < _; omega, FE8_u (FE8_t hFE hF2 (by omega))⟩)
                              exact L181 _ _ _ _ _ _ _ _ rfl (⟨0, rfl, rfl, rfl, rfl, rfl, by omega, h7, hq17, hRU, hCU, hms, hFE⟩)
                            · refine hJ277 _ _ _ _ _ _ ?_
                              unfold wz_273_277
                              exact ih147 _ (by omega) _ _ _ _ _ _ rfl (⟨a + 1, rfl, rfl, rfl, by omega, by omega, h7, hRU, fun k => CUv_k (hCU k) hq17, hms, hFE⟩)
                        exact L147 _ _ _ _ _ _ _ rfl (⟨0, rfl, rfl, rfl, rfl, by omega, Or.inl rfl, hRU, fun _ x y k => absurd k (by omega), by show 2 * ms (rq K2 a0 s) (Ln l) + 0 < _; omega, hFE⟩)
                    exact L136 _ _ _ _ _ _ rfl (⟨rfl, rfl, rfl, Or.inr rfl, hRU, fun k => absurd k (by decide), hFE⟩)
                exact L126 _ _ _ _ _ rfl (⟨1, rfl, by rw [(hbc 1).1 (by omega)], rfl, Nat.le_refl _, by omega, hRU0, FE8_u hFE⟩)
              · refine ⟨s_M_0 hM, _, r_M_51 hM, _, ⟨s_M_1368 hM, by decide⟩, ?_⟩
                try simp only [-eq_self, Int.toNat_natCast]
                refine ⟨by omega, ?_⟩
                intro I55 e_I55; subst e_I55
                exact ih85 _ (by omega) _ _ _ _ rfl (⟨i + 1, rfl, rfl, by omega, by omega, fun k hk => by
                  rcases Nat.lt_or_ge k i with h9 | h9
                  · rw [jx_u_k _ _ _ _ (by omega)]; exact hK k h9
                  · rw [show k = i by omega, jx_u_s]; exact jy_toInt (by omega), FE8_u hFE⟩)
            exact L85 _ _ _ _ _ rfl (⟨0, rfl, rfl, rfl, by omega, fun k h => absurd h (by omega), fun q _ _ => rfl⟩)
          · exact absurd hq6 (by decide)
        · have c3 := bi_f hq5
          refine hJ53 _ _ _ ?_
          unfold wz_273_53
          refine ⟨s_M_0 hM, ?_⟩
          refine ⟨_, cz_202b hV hM h00 (by omega) (by omega), ?_⟩
          rintro _ I27 ⟨rfl, e9⟩; replace e9 := e9.symm; subst e9
          refine ⟨_, rfl, ?_⟩
          refine ⟨by omega, ?_⟩
          refine ⟨fun hq22 => ?_, fun hq22 => ?_⟩
          · exact absurd hq22 (by decide)
          · exact Or.inr ⟨_, _, by rw [nzw_t c1]; exact nzw_f (fun k => c3 k.2), rfl, _, rfl⟩
  · have c1 := bi_f hq1
    refine hJ19 _ _ _ ?_
    unfold wz_273_19
    refine ⟨s_M_0 hM, ?_⟩
    refine ⟨_, cz_202b hV hM h00 (by omega) (by omega), ?_⟩
    rintro _ I11 ⟨rfl, e9⟩; replace e9 := e9.symm; subst e9
    refine ⟨_, rfl, ?_⟩
    refine ⟨by omega, ?_⟩
    refine ⟨fun hq23 => ?_, fun hq23 => ?_⟩
    · exact Or.inr ⟨_, _, by exact nzw_f c1, rfl, _, rfl⟩
    · exact absurd hq23 (by decide)
