/-! ===== the reference reads clauses, pictures ===== -/
theorem RLW_r {I I' : jx_I} {m : Nat} {L : List Int} (h : RLW I m L) (h1 : I' m = I m) (h2 : ∀ q, m + 666 ≤ q → q < m + 1286 → I' q = I q) (hl : L.length ≤ 620) : RLW I' m L := by
  refine ⟨by rw [h1]; exact h.1, fun k c hc => ?_⟩
  have := h.2 k c hc
  unfold LWr at this ⊢
  rw [h2 _ (by omega) (by have := gi_lt hc; omega)]
  exact this
theorem RLB_road {I : jx_I} {m a b : Nat} {L : LB} {v : Int} (h : RLB I m L) (hW : WB L) (ha : a < 10) (hb : b < 10) (hv : 1 ≤ v ∧ v ≤ 24) : RLB (jx_u (jx_u I (m + 14 + a) b (Int32.ofInt v)) (m + 14 + b) a (Int32.ofInt v)) m (aRoad L a b v) := by
  have hl := hW.2.2.2.2.2.1.1
  obtain ⟨h1, h2, h3, h4, h5, h6⟩ := h
  have e : ∀ q, q ≠ m + 14 + a → q ≠ m + 14 + b → jx_u (jx_u I (m + 14 + a) b (Int32.ofInt v)) (m + 14 + b) a (Int32.ofInt v) q = I q := fun q g1 g2 => by rw [jx_u_r _ _ _ g2, jx_u_r _ _ _ g1]
  refine ⟨by rw [e (m + 3) (by omega) (by omega)]; exact h1, by rw [e (m + 5) (by omega) (by omega)]; exact h2, fun p q hp hq => ?_, by rw [e (m + 7) (by omega) (by omega), e (m + 9) (by omega) (by omega), e (m + 11) (by omega) (by omega)]; exact h4, fun c p hc hp => by rw [e _ (by omega) (by omega)]; exact h5 c p hc hp, RLW_r h6 (e m (by omega) (by omega)) (fun q _ _ => e q (by omega) (by omega)) (by show (Lc L.1).length ≤ 620; omega)⟩
  show _ = gu (gu (Lr L.1) a b v) b a v p q
  unfold gu
  by_cases c1 : p = b ∧ q = a
  · rw [if_pos c1, c1.1, c1.2, jx_u_s]; exact jy_toInt (by omega)
  · rw [if_neg c1]
    have h9 : jx_u (jx_u I (m + 14 + a) b (Int32.ofInt v)) (m + 14 + b) a (Int32.ofInt v) (m + 14 + p) q = jx_u I (m + 14 + a) b (Int32.ofInt v) (m + 14 + p) q := by
      by_cases e1 : p = b
      · subst e1; rw [jx_u_k _ _ _ _ (by omega)]
      · rw [jx_u_r _ _ _ (by omega)]
    rw [h9]
    by_cases c2 : p = a ∧ q = b
    · rw [if_pos c2, c2.1, c2.2, jx_u_s]; exact jy_toInt (by omega)
    · rw [if_neg c2]
      have h8 : jx_u I (m + 14 + a) b (Int32.ofInt v) (m + 14 + p) q = I (m + 14 + p) q := by
        by_cases e1 : p = a
        · subst e1; rw [jx_u_k _ _ _ _ (by omega)]
        · rw [jx_u_r _ _ _ (by omega)]
      rw [h8]
      exact h3 p q hp hq
theorem RLB_place {I : jx_I} {m : Nat} {L : LB} {k w : Int} (h : RLB I m L) (hW : WB L) (hk : 0 ≤ k ∧ k ≤ 3) (hn : Ln L.1 < 10) (hw : w = (Ln L.1 : Int) + 1) : RLB (jx_u (jx_u I (m + 5) (Ln L.1) (Int32.ofInt k)) (m + 3) 0 (Int32.ofInt w)) m (aPlace L k) := by
  subst hw
  have hl := hW.2.2.2.2.2.1.1
  obtain ⟨h1, h2, h3, h4, h5, h6⟩ := h
  have e : ∀ q, q ≠ m + 3 → q ≠ m + 5 → jx_u (jx_u I (m + 5) (Ln L.1) (Int32.ofInt k)) (m + 3) 0 (Int32.ofInt ((Ln L.1 : Int) + 1)) q = I q := fun q g1 g2 => by rw [jx_u_r _ _ _ g1, jx_u_r _ _ _ g2]
  refine ⟨⟨by rw [jx_u_s]; exact jy_toInt (by omega), by rw [jx_u_k _ _ _ _ (by decide), jx_u_r _ _ _ (by omega)]; exact h1.2⟩, fun p hp => ?_, fun p q hp hq => by rw [e _ (by omega) (by omega)]; exact h3 p q hp hq, by rw [e (m + 7) (by omega) (by omega), e (m + 9) (by omega) (by omega), e (m + 11) (by omega) (by omega)]; exact h4, fun c p hc hp => by rw [e _ (by omega) (by omega)]; exact h5 c p hc hp, RLW_r h6 (e m (by omega) (by omega)) (fun q _ _ => e q (by omega) (by omega)) (by show (Lc L.1).length ≤ 620; omega)⟩
  have hp : p < Ln L.1 + 1 := hp
  rw [jx_u_r _ _ _ (by omega)]
  show _ = lu (Lk L.1) (Ln L.1) k p
  by_cases c : p = Ln L.1
  · subst c; rw [jx_u_s, lu_s]; exact jy_toInt (by omega)
  · rw [jx_u_k _ _ _ _ c, lu_n c]; exact h2 p (by omega)
theorem RLB_hurt {I : jx_I} {m c p : Nat} {L : LB} {v w : Int} (h : RLB I m L) (hW : WB L) (hc : c < Lm L.1) (hp : p < 10) (hw : w = min 20 (L.2 p c + v)) (hr : -2147483648 ≤ w ∧ w < 2147483648) : RLB (jx_u I (m + 36 + c) p (Int32.ofInt w)) m (aHurt L c p v) := by
  have hl := hW.2.2.2.2.2.1.1
  have hm8 := hW.1.2
  obtain ⟨h1, h2, h3, h4, h5, h6⟩ := h
  have e : ∀ q, q ≠ m + 36 + c → jx_u I (m + 36 + c) p (Int32.ofInt w) q = I q := fun q g1 => by rw [jx_u_r _ _ _ g1]
  refine ⟨by rw [e (m + 3) (by omega)]; exact h1, by rw [e (m + 5) (by omega)]; exact h2, fun p q hp hq => by rw [e _ (by omega)]; exact h3 p q hp hq, by rw [e (m + 7) (by omega), e (m + 9) (by omega), e (m + 11) (by omega)]; exact h4, fun x y hx hy => ?_, RLW_r h6 (e m (by omega)) (fun q _ _ => e q (by omega)) (by show (Lc L.1).length ≤ 620; omega)⟩
  have hx : x < Lm L.1 := hx
  show _ = gu L.2 p c (min 20 (L.2 p c + v)) y x
  unfold gu
  by_cases c1 : y = p ∧ x = c
  · rw [if_pos c1, c1.1, c1.2, jx_u_s, ← hw]; exact jy_toInt hr
  · rw [if_neg c1]
    have h8 : jx_u I (m + 36 + c) p (Int32.ofInt w) (m + 36 + x) y = I (m + 36 + x) y := by
      by_cases e1 : x = c
      · subst e1; rw [jx_u_k _ _ _ _ (by omega)]
      · rw [jx_u_r _ _ _ (by omega)]
    rw [h8]
    exact h5 x y hx hy
theorem RLB_calf {I : jx_I} {m c : Nat} {L : LB} {v : Int} (h : RLB I m L) (hW : WB L) (hv : -2147483648 ≤ v ∧ v < 2147483648) : RLB (jx_u I (m + 9) c (Int32.ofInt v)) m (aCalf L c v) := by
  have hl := hW.2.2.2.2.2.1.1
  obtain ⟨h1, h2, h3, h4, h5, h6⟩ := h
  have hm8 := hW.1.2
  have e : ∀ q, q ≠ m + 9 → jx_u I (m + 9) c (Int32.ofInt v) q = I q := fun q g1 => by rw [jx_u_r _ _ _ g1]
  refine ⟨by rw [e (m + 3) (by omega)]; exact h1, by rw [e (m + 5) (by omega)]; exact h2, fun p q hp hq => by rw [e _ (by omega)]; exact h3 p q hp hq, fun x hx => ⟨by rw [e (m + 7) (by omega)]; exact (h4 x hx).1, ?_, by rw [e (m + 11) (by omega)]; exact (h4 x hx).2.2⟩, fun x y hx hy => by rw [e _ (by omega)]; exact h5 x y hx hy, RLW_r h6 (e m (by omega)) (fun q _ _ => e q (by omega)) (by show (Lc L.1).length ≤ 620; omega)⟩
  show _ = lu (Lo L.1) c v x
  by_cases c1 : x = c
  · subst c1; rw [jx_u_s, lu_s]; exact jy_toInt hv
  · rw [jx_u_k _ _ _ _ c1, lu_n c1]; exact (h4 x hx).2.1
theorem RLB_foe {I : jx_I} {m c d : Nat} {L : LB} {v w : Int} (h : RLB I m L) (hW : WB L) (hcd : c ≠ d) (hv : v = ((Lf L.1 c ||| 2 ^ d : Nat) : Int)) (hw : w = ((Lf L.1 d ||| 2 ^ c : Nat) : Int)) (hv2 : v < 2147483648) (hw2 : w < 2147483648) : RLB (jx_u (jx_u I (m + 11) c (Int32.ofInt v)) (m + 11) d (Int32.ofInt w)) m (aFoe L c d) := by
  have hl := hW.2.2.2.2.2.1.1
  obtain ⟨h1, h2, h3, h4, h5, h6⟩ := h
  have hm8 := hW.1.2
  have e : ∀ q, q ≠ m + 11 → jx_u (jx_u I (m + 11) c (Int32.ofInt v)) (m + 11) d (Int32.ofInt w) q = I q := fun q g1 => by rw [jx_u_r _ _ _ g1, jx_u_r _ _ _ g1]
  refine ⟨by rw [e (m + 3) (by omega)]; exact h1, by rw [e (m + 5) (by omega)]; exact h2, fun p q hp hq => by rw [e _ (by omega)]; exact h3 p q hp hq, fun x hx => ⟨by rw [e (m + 7) (by omega)]; exact (h4 x hx).1, by rw [e (m + 9) (by omega)]; exact (h4 x hx).2.1, ?_⟩, fun x y hx hy => by rw [e _ (by omega)]; exact h5 x y hx hy, RLW_r h6 (e m (by omega)) (fun q _ _ => e q (by omega)) (by show (Lc L.1).length ≤ 620; omega)⟩
  show _ = ((lu (lu (Lf L.1) c (Lf L.1 c ||| 2 ^ d)) d (Lf L.1 d ||| 2 ^ c) x : Nat) : Int)
  by_cases c1 : x = d
  · subst c1; rw [jx_u_s, lu_s, ← hw]; exact jy_toInt (by omega)
  · rw [jx_u_k _ _ _ _ c1, lu_n c1]
    by_cases c2 : x = c
    · subst c2; rw [jx_u_s, lu_s, ← hv]; exact jy_toInt (by omega)
    · rw [jx_u_k _ _ _ _ c2, lu_n c2]; exact (h4 x hx).2.2
theorem RLB_law {I I' : jx_I} {m : Nat} {L : LB} {cs : List Int} (h : RLB I m L) (hW : WB L) (hF : FLa m I I') (hL : RLW I' m cs) : RLB I' m (aLaw L cs) := by
  obtain ⟨h1, h2, h3, h4, h5, h6⟩ := h
  have hm8 := hW.1.2
  exact ⟨by rw [hF.1 _ (by omega) (by omega)]; exact h1, by rw [hF.1 _ (by omega) (by omega)]; exact h2, fun p q hp hq => by rw [hF.1 _ (by omega) (by omega)]; exact h3 p q hp hq, by rw [hF.1 (m + 7) (by omega) (by omega), hF.1 (m + 9) (by omega) (by omega), hF.1 (m + 11) (by omega) (by omega)]; exact h4, fun x y hx hy => by rw [hF.1 _ (by omega) (by have : x < Lm L.1 := hx; omega)]; exact h5 x y hx hy, hL⟩
/-- GrievingCamelsModel.newCamel -/
theorem cz_223 {V : jx_V} (hV : V.1.stackTraces = false) {X : jx_X} {R : jx_R} {I : jx_I} {a0 : Nat} {T : List Int} {s : Nat} {L : LB}
    (hM : MX X R a0) (hok : ROK I a0 T s) (hR : RLB I a0 L) (hW : WB L) (hm : Lm L.1 < 8)
    {QE : String → jx_I → Prop} : jc V 4 223 (0, 0) [.ref a0] X I R (fun rv I' => rv = none ∧ RST I' a0 T ((cCamel T L s).bind (fun w => .ok w.2)) ∧ (∀ w, cCamel T L s = .ok w → RLB I' a0 w.1) ∧ FLb a0 I I' ∧ ∀ k, k ≠ 4 → k ≠ 5 → k ≠ 6 → I' a0 k = I a0 k) QE := by
  have h31 : (I (a0 + 3) (1 : Int).toNat).toInt = (Lm L.1 : Int) := hR.1.2
  have hsl := (ROK_s hok).1
  refine wm_223 hV   (fun J36 hJJ => ?_)
  have hJ36 := hJJ
  unfold wz_223
  refine ⟨s_M_0 hM, _, r_M_10 hM, ?_⟩
  try simp only [-eq_self, h31, Int.toNat_natCast]
  refine ⟨_, ⟨s_M_3 hM, by decide⟩, by omega, _, r_M_14 hM, ?_⟩
  refine ⟨_, cz_210g (x := .ok s) hV hM hok (by omega) (by omega), ?_⟩
  rintro _ I11 ⟨⟨r12, rfl, hr12⟩, hS11, hF11⟩
  refine ⟨_, rfl, ?_⟩
  have hrg := NUG_r (I' := I) (x := .ok s) hok hr12 (by omega) (by omega)
  refine ⟨_, ⟨s_M_7 hM, by decide⟩, by omega, ?_⟩
  intro I16 e_I16
  refine ⟨_, r_M_16 hM, _, ⟨s_M_9 hM, by decide⟩, by omega, ?_⟩
  intro I22 e_I22
  refine ⟨_, r_M_18 hM, _, ⟨s_M_11 hM, by decide⟩, by omega, ?_⟩
  intro I28 e_I28
  have hq28 : ∀ q, q ≠ a0 + 7 → q ≠ a0 + 9 → q ≠ a0 + 11 → I28 q = I11 q := fun q h1 h2 h3 => by rw [e_I28, jx_u_r _ _ _ h3, e_I22, jx_u_r _ _ _ h2, e_I16, jx_u_r _ _ _ h1]
  have h287 : (I28 (a0 + 7) (Lm L.1)).toInt = r12 := by rw [e_I28, jx_u_r _ _ _ (by omega), e_I22, jx_u_r _ _ _ (by omega), e_I16, jx_u_s]; exact jy_toInt (by omega)
  have h289 : (I28 (a0 + 9) (Lm L.1)).toInt = -1 := by rw [e_I28, jx_u_r _ _ _ (by omega), e_I22, jx_u_s]; rfl
  have h2811 : (I28 (a0 + 11) (Lm L.1)).toInt = 0 := by rw [e_I28, jx_u_s]; rfl
  have h28k : ∀ c, c ≠ Lm L.1 → I28 (a0 + 7) c = I11 (a0 + 7) c ∧ I28 (a0 + 9) c = I11 (a0 + 9) c ∧ I28 (a0 + 11) c = I11 (a0 + 11) c := fun c hc => ⟨by rw [e_I28, jx_u_r _ _ _ (by omega), e_I22, jx_u_r _ _ _ (by omega), e_I16, jx_u_k _ _ _ _ hc], by rw [e_I28, jx_u_r _ _ _ (by omega), e_I22, jx_u_k _ _ _ _ hc, e_I16, jx_u_r _ _ _ (by omega)], by rw [e_I28, jx_u_k _ _ _ _ hc, e_I22, jx_u_r _ _ _ (by omega), e_I16, jx_u_r _ _ _ (by omega)]⟩
  have hR11 := RLB_o hR hF11 (by decide)
  have hS28 : RST I28 a0 T ((cCamel T L s).bind (fun w => .ok w.2)) := by
    have h9 : RST I11 a0 T ((cCamel T L s).bind (fun w => .ok w.2)) := by
      replace hS11 : RST I11 a0 T ((pNum T 0 99 s).bind (fun r => .ok r.2)) := hS11
      unfold cCamel
      cases hp : pNum T 0 99 s with
      | error e => rw [hp] at hS11; exact hS11
      | ok r => rw [hp] at hS11; exact hS11
    rw [e_I28, e_I22, e_I16]
    exact RST_w (RST_w (RST_w h9 (by omega)) (by omega)) (by omega)
  have L36 : ∀ (n36 : Nat) (l1 : Int) (l2 : Int) (K : jx_I), n36 = (10 - l2).toNat → (l1 = (Lm L.1 : Int) ∧ ∃ j : Nat, l2 = (j : Int) ∧ j ≤ 10 ∧ (∀ q, q ≠ a0 + 36 + Lm L.1 → K q = I28 q) ∧ ∀ i, i < j → (K (a0 + 36 + Lm L.1) i).toInt = 0) → J36 l1 l2 K := by
    intro n36
    induction n36 using Nat.strongRecOn with
    | ind n36 ih36 =>
    intro l1 l2 K hn36 hI36
    obtain ⟨rfl, j, rfl, hj, hfK, hzK⟩ := hI36
    refine hJ36 _ _ _ ?_
    unfold wz_223_36
    refine ⟨by omega, ?_⟩
    refine ⟨fun hq1 => ?_, fun hq1 => ?_⟩
    · have hK31 : (K (a0 + 3) (1 : Int).toNat).toInt = (Lm L.1 : Int) := by rw [hfK (a0 + 3) (by omega), hq28 _ (by omega) (by omega) (by omega)]; exact hR11.1.2
      have hKa : ∀ k, K a0 k = I11 a0 k := fun k => by rw [hfK a0 (by omega), hq28 a0 (by omega) (by omega) (by omega)]
      have hKq : ∀ q, q ≠ a0 + 36 + Lm L.1 → q ≠ a0 + 7 → q ≠ a0 + 9 → q ≠ a0 + 11 → K q = I11 q := fun q h1 h2 h3 h4 => by rw [hfK q h1, hq28 q h2 h3 h4]
      have hSK : RST K a0 T ((cCamel T L s).bind (fun w => .ok w.2)) := by
        cases hy : (cCamel T L s).bind (fun w => .ok w.2) with
        | error e =>
          rw [hy] at hS28
          obtain ⟨g1, g2, p, g3⟩ := hS28
          exact ⟨g1, g2, p, ⟨by rw [hfK a0 (by omega)]; exact g3.1, g3.2.1, fun k x hk => by rw [hfK (a0 + 1) (by omega)]; exact g3.2.2 k x hk⟩⟩
        | ok q =>
          rw [hy] at hS28
          obtain ⟨p, g1, g2, g3⟩ := hS28
          exact ⟨p, g1, g2, ⟨by rw [hfK a0 (by omega)]; exact g3.1, g3.2.1, fun k x hk => by rw [hfK (a0 + 1) (by omega)]; exact g3.2.2 k x hk⟩⟩
      refine ⟨s_M_0 hM, _, r_M_10 hM, _, ⟨s_M_3 hM, by decide⟩, by omega, ?_⟩
      refine ⟨fun hq2 => ?_, fun hq2 => ?_⟩
      · refine ⟨by omega, ?_⟩
        intro I37 e_I37
        have hFX : FLb a0 I I37 := by
          refine ⟨fun q h1 h2 => ?_, fun k hk => ?_⟩
          · unfold RDo at h2
            rw [e_I37, jx_u_r _ _ _ (by omega), hKq q (by omega) (by omega) (by omega) (by omega)]
            exact hF11.1 q h1
          · rw [e_I37, jx_u_r _ _ _ (by omega), hKa]
            exact hF11.2 k (fun h => hk ((show ∀ k ∈ [4, 5, 6], k ∈ KL by decide) k h))
        have hkX : ∀ k, k ≠ 4 → k ≠ 5 → k ≠ 6 → I37 a0 k = I a0 k := fun k h1 h2 h3 => by
          rw [e_I37, jx_u_r _ _ _ (by omega), hKa]
          exact hF11.2 k (by simp; omega)
        have hSX : RST I37 a0 T ((cCamel T L s).bind (fun w => .ok w.2)) := by rw [e_I37]; exact RST_w hSK (by omega)
        refine ⟨rfl, hSX, fun w hw => ?_, hFX, hkX⟩
        rw [hw] at hSK
        obtain ⟨_, _, _, g⟩ := hSK
        exact absurd g.1.2.2.1 hq2
      · refine ⟨by omega, ?_⟩
        intro I39 e_I39
        have hFX : FLb a0 I I39 := by
          refine ⟨fun q h1 h2 => ?_, fun k hk => ?_⟩
          · unfold RDo at h2
            rw [e_I39, jx_u_r _ _ _ (by omega), hKq q (by omega) (by omega) (by omega) (by omega)]
            exact hF11.1 q h1
          · rw [e_I39, jx_u_r _ _ _ (by omega), hKa]
            exact hF11.2 k (fun h => hk ((show ∀ k ∈ [4, 5, 6], k ∈ KL by decide) k h))
        have hkX : ∀ k, k ≠ 4 → k ≠ 5 → k ≠ 6 → I39 a0 k = I a0 k := fun k h1 h2 h3 => by
          rw [e_I39, jx_u_r _ _ _ (by omega), hKa]
          exact hF11.2 k (by simp; omega)
        have hSX : RST I39 a0 T ((cCamel T L s).bind (fun w => .ok w.2)) := by rw [e_I39]; exact RST_w hSK (by omega)
        refine ⟨rfl, hSX, fun w hw => ?_, hFX, hkX⟩
        obtain ⟨r, hr, hw2⟩ := px_ok hw
        cases hw2
        have hr12r : r12 = r.1 := hr12.1 r.1 r.2 hr
        obtain ⟨h1, h2, h3, h4, h5, h6⟩ := hR11
        have hWc := hW.2.2.2.1 (Lm L.1)
        have hl := hW.2.2.2.2.2.1.1
        have hqq : ∀ q, q ≠ a0 + 3 → I39 q = K q := fun q hq => by rw [e_I39, jx_u_r _ _ _ hq]
        refine ⟨⟨?_, ?_⟩, ?_, ?_, ?_, ?_, ?_⟩
        · rw [e_I39, jx_u_k _ _ _ _ (by decide), hKq _ (by omega) (by omega) (by omega) (by omega)]; exact h1.1
        · rw [e_I39, jx_us (by decide), hK31]; exact jy_toInt (by omega)
        · rw [hqq _ (by omega), hKq _ (by omega) (by omega) (by omega) (by omega)]; exact h2
        · intro p q hp hq
          rw [hqq _ (by omega), hKq _ (by omega) (by omega) (by omega) (by omega)]; exact h3 p q hp hq
        · intro c hc
          have hc : c < Lm L.1 + 1 := hc
          rw [hqq _ (by omega), hqq _ (by omega), hqq _ (by omega), hfK _ (by omega), hfK _ (by omega), hfK _ (by omega)]
          show _ = lu (Lp L.1) (Lm L.1) r.1 c ∧ _
          by_cases e : c = Lm L.1
          · subst e
            rw [h287, h289, h2811, lu_s]
            exact ⟨hr12r, (hWc.2.2.2 (Nat.le_refl _)).1.symm, by show (0 : Int) = (Lf L.1 (Lm L.1) : Int); rw [(hWc.2.2.2 (Nat.le_refl _)).2]; rfl⟩
          · obtain ⟨k1, k2, k3⟩ := h28k c e
            rw [k1, k2, k3, lu_n e]
            exact h4 c (by omega)
        · intro c p hc hp
          have hc : c < Lm L.1 + 1 := hc
          rw [hqq _ (by omega)]
          by_cases e : c = Lm L.1
          · subst e
            rw [hzK p (by omega)]
            exact ((hW.2.2.2.2.2.2 p (Lm L.1)).2 (Nat.le_refl _)).symm
          · rw [hKq _ (by omega) (by omega) (by omega) (by omega)]
            exact h5 c p (by omega) hp
        · exact RLW_r h6 (by rw [hqq _ (by omega)]; exact funext hKa) (fun q _ _ => by rw [hqq _ (by omega), hKq _ (by omega) (by omega) (by omega) (by omega)]) (by show (Lc L.1).length ≤ 620; omega)
    · refine ⟨s_M_0 hM, _, r_M_22 hM, _, ⟨s_M_35 hM, by decide⟩, by omega, _, rr_M_35 hM (by omega), _, ⟨sr_M_35 hM (by omega), by decide⟩, by omega, ?_⟩
      intro I51 e_I51; subst e_I51
      exact ih36 _ (by omega) _ _ _ rfl (⟨rfl, j + 1, by omega, by omega, fun q hq => by rw [jx_u_r _ _ _ (by rw [Int.toNat_natCast]; exact hq)]; exact hfK q hq, fun i hi => by
        rw [Int.toNat_natCast, Int.toNat_natCast]
        rcases Nat.lt_or_ge i j with c | c
        · rw [jx_u_k _ _ _ _ (by omega)]; exact hzK i c
        · rw [show i = j by omega, jx_u_s]; rfl⟩)
  exact L36 _ _ _ _ rfl (⟨rfl, 0, rfl, by omega, fun _ _ => rfl, fun i h => absurd h (by omega)⟩)
