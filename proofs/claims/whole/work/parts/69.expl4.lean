/-! ===== the Explainer guesses ===== -/
theorem gw_top {n k w D : Nat} (hk : k ≤ n) (hw : w / 6 ^ (n - k) = D) {j : Nat} (hj : j < k) : gw n w j = gw k D j := by
  unfold gw
  rw [if_pos (by omega), if_pos hj, show n - 1 - j = (n - k) + (k - 1 - j) by omega, Nat.pow_add, ← Nat.div_div_eq_div_mul, hw]
theorem gw_nx {k D h : Nat} (hh : h < 6) : (∀ j, j < k → gw (k + 1) (D * 6 + h) j = gw k D j) ∧ gw (k + 1) (D * 6 + h) k = (h : Int) := by
  refine ⟨fun j hj => ?_, ?_⟩
  · unfold gw
    rw [if_pos (by omega), if_pos hj, show k + 1 - 1 - j = (k - 1 - j) + 1 by omega, show 6 ^ ((k - 1 - j) + 1) = 6 * 6 ^ (k - 1 - j) by rw [Nat.pow_succ, Nat.mul_comm], ← Nat.div_div_eq_div_mul, show (D * 6 + h) / 6 = D by omega]
  · unfold gw
    rw [if_pos (by omega), show k + 1 - 1 - k = 0 by omega, Nat.pow_zero, Nat.div_one, show (D * 6 + h) % 6 = h by omega]
theorem exs_add {l : LT} {c : CT} {n w0 a : Nat} {s : ES} : ∀ b, exs l c n w0 (a + b) s = exs l c n (w0 + a) b (exs l c n w0 a s)
  | 0 => rfl
  | b + 1 => by
    show stp l c n (w0 + (a + b)) (exs l c n w0 (a + b) s) = stp l c n (w0 + a + b) (exs l c n (w0 + a) b (exs l c n w0 a s))
    rw [exs_add b, Nat.add_assoc]
theorem exs_no {l : LT} {c : CT} {n w0 : Nat} {s : ES} : ∀ t, (∀ w, w0 ≤ w → w < w0 + t → aok l c n w = false) → exs l c n w0 t s = s
  | 0, _ => rfl
  | t + 1, h => by
    show stp l c n (w0 + t) (exs l c n w0 t s) = s
    rw [exs_no t (fun w h1 h2 => h w h1 (by omega))]
    unfold stp
    rw [if_neg (by rw [h _ (by omega) (by omega)]; decide)]
/-- lines without a guessed camel from k on are so by all ways that begin with D -/
def PH (l : LT) (c : CT) (n k D : Nat) : Prop := ∀ e ∈ CN c, lg n (bl e.1 8) < k → ∀ w, w / 6 ^ (n - k) = D → lok l n w e = true
theorem ln_eq {l : LT} {n w : Nat} {e : Nat × Int} {g : Nat → Int} {k : Int} (hm : Lm l ≤ 8) (he : e.1 < 2 ^ Lm l) (hl : lg n (bl e.1 8) ≤ k) (h1 : ∀ j : Nat, (j : Int) ≤ k → j < n → g j = gw n w j) (h2 : ∀ j, n ≤ j → j < Lm l → g j = 0) : (bl e.1 8).map (gw n w) = (bl e.1 8).map g := by
  apply List.map_congr_left
  intro x hx
  have hxl : x < Lm l := by
    rw [bl_top he 8 hm] at hx
    exact (bl_mem.mp hx).1
  rcases Nat.lt_or_ge x n with h | h
  · have := (lg_bl n e.1 8).2.2 x hx h
    rw [h1 x (by omega) h]
  · rw [h2 x h hxl]
    unfold gw
    rw [if_neg (by omega)]
def Q5 (x ld : Nat) (l : LT) (c : CT) (n k D : Nat) (s : ES) (I : jx_I) : Option Value → jx_I → Prop := fun rv I' => rv = none ∧ ESX I' x (exs l c n (D * 6 ^ (n - k)) (6 ^ (n - k)) s) ∧ FZ x ld I I' ∧ GU I' x ∧ ∀ j, j < k → I' (x + 3) j = I (x + 3) j
/-- guessFrom from more than n - t camels on -/
def G5 (V : jx_V) (X : jx_X) (R : jx_R) (x ld st : Nat) (l : LT) (c : CT) (n t : Nat) : Prop := ∀ (d k D : Nat) (I : jx_I) (s : ES) (QE : String → jx_I → Prop), n - k < t → k ≤ n → D < 6 ^ k → 8 + (n - k) ≤ d → LD I ld l → SX I st c → EXs I x n c → (∀ j, j < k → (I (x + 3) j).toInt = gw k D j) → GU I x → ESX I x s → esk n s → s.1 + 6 ^ (n - k) ≤ 46656 → PH l c n k D → jc V d 5 (0, 0) [.ref x, jy (k : Int), jy (D : Int)] X I R (Q5 x ld l c n k D s I) QE
theorem ESX_of {I I' : jx_I} {x : Nat} {s : ES} (h : ESX I x s) (e : I' x = I x) : ESX I' x s := by
  unfold ESX
  rw [e]
  exact h
theorem GU_of {I I' : jx_I} {x : Nat} (h : GU I x) (e : I' (x + 3) = I (x + 3)) : GU I' x := by
  unfold GU
  rw [e]
  exact h
theorem FZ_f {x ld : Nat} {I I' I2 : jx_I} (h : FZ x ld I I') (h1 : ∀ k, k < 7 → I2 x k = I' x k) (h2 : ∀ q, q ≠ x → I2 q = I' q) : FZ x ld I I2 := ⟨fun q a b c => (h2 q a).trans (h.1 q a b c), fun k a => (h1 k a).trans (h.2.1 k a), fun k a => by rw [h2 (x + 3) (by omega)]; exact h.2.2 k a⟩
/-- GrievingCamels$Explainer.guessFrom -/
theorem cz_5s {V : jx_V} (hV : V.1.stackTraces = false) {d : Nat} {X : jx_X} {R : jx_R} {I : jx_I} {a0 : Nat} {a1 : Int} {a2 : Int} {ld st n k D : Nat} {l : LT} {c : CT} {s : ES}
    (hx : BX X R a0 TExplainer) (hl : BX X R ld TLand) (hs : BX X R st TState) (hr3 : R a0 3 = some ld) (hr4 : R a0 4 = some st) (hD : LD I ld l) (hW : WT l) (hS : SX I st c) (hC : WC l c) (hE : EXs I a0 n c) (d1 : a0 + 22 ≤ ld ∨ ld + 11 ≤ a0) (d2 : a0 + 22 ≤ st ∨ st + 12 ≤ a0) (d3 : st + 12 ≤ ld ∨ ld + 11 ≤ st) (hn : n = mn6 l) (h1 : a1 = (k : Int)) (hk : k ≤ n) (h2 : a2 = (D : Int)) (hD6 : D < 6 ^ k) (hgk : ∀ j, j < k → (I (a0 + 3) j).toInt = gw k D j) (hgu : GU I a0) (hes : ESX I a0 s) (hsk : esk n s) (hsb : s.1 + 6 ^ (n - k) ≤ 46656) (hPH : PH l c n k D) (hd : 8 + (n - k) ≤ d) (ih : G5 V X R a0 ld st l c n (n - k))
    {QE : String → jx_I → Prop} : jc V d 5 (0, 0) [.ref a0, jy a1, jy a2] X I R (Q5 a0 ld l c n k D s I) QE := by
  have hW0 := hW.1
  have hW0 := hW.1
  have hm6 := mn6_le l
  have h9 := hS.2.2.2.1.2.1
  have hp6 := pow6_le (n := n) (by omega)
  have hDQ : D * 6 ^ (n - k) + 6 ^ (n - k) ≤ 46656 := by
    have h3 : (D + 1) * 6 ^ (n - k) ≤ 6 ^ k * 6 ^ (n - k) := Nat.mul_le_mul_right _ hD6
    rw [← Nat.pow_add, show k + (n - k) = n by omega, Nat.succ_mul] at h3
    omega
  have hDk : 6 ^ k ≤ 46656 := pow6_le (by omega)
  subst h1
  subst h2
  refine wm_5 hV (by omega) (by omega)  (fun J16 J49 hJJ => ?_)
  obtain ⟨hJ16, hJ49⟩ := hJJ
  have h5 := hE.1
  unfold wz_5
  refine ⟨s_Explainer_0 hx, ?_⟩
  refine ⟨fun hq1 => ?_, fun hq1 => ?_⟩
  · have hkn : k < n := by omega
    have hPQ : 6 ^ (n - k) = 6 * 6 ^ (n - (k + 1)) := by rw [show n - k = (n - (k + 1)) + 1 by omega, Nat.pow_succ, Nat.mul_comm]
    have hPp : 0 < 6 ^ (n - (k + 1)) := Nat.pos_of_ne_zero (by intro e; rw [hPQ, e] at hDQ; have := Nat.pow_pos (n := n - (k + 1)) (show 0 < 6 by omega); omega)
    have L16 : ∀ (n16 : Nat) (l3 : Int) (K : jx_I), n16 = (6 - l3).toNat → (∃ h : Nat, l3 = (h : Int) ∧ h ≤ 6 ∧ ESX K a0 (exs l c n (D * 6 ^ (n - k)) (h * 6 ^ (n - (k + 1))) s) ∧ FZ a0 ld I K ∧ GU K a0 ∧ (∀ j, j < k → K (a0 + 3) j = I (a0 + 3) j)) → J16 l3 K := by
      intro n16
      induction n16 using Nat.strongRecOn with
      | ind n16 ih16 =>
      intro l3 K hn16 hI16
      obtain ⟨h, rfl, hh, hES, hFZ, hGU, hGe⟩ := hI16
      have hG : ∀ j, j < k → (K (a0 + 3) j).toInt = gw k D j := fun j hj => by rw [hGe j hj]; exact hgk j hj
      refine hJ16 _ _ ?_
      unfold wz_5_16
      refine ⟨by omega, ?_⟩
      refine ⟨fun hq2 => ?_, fun hq2 => ?_⟩
      · have h66 : h = 6 := by omega
        subst h66
        rw [← hPQ] at hES
        exact ⟨rfl, hES, hFZ, hGU, hGe⟩
      · have hh5 : h < 6 := by omega
        have hhP : h * 6 ^ (n - (k + 1)) + 6 ^ (n - (k + 1)) ≤ 6 * 6 ^ (n - (k + 1)) := by
          have := Nat.mul_le_mul_right (6 ^ (n - (k + 1))) (show h + 1 ≤ 6 by omega)
          rw [Nat.succ_mul] at this
          exact this
        have hst := esk_t (l := l) (c := c) (w0 := D * 6 ^ (n - k)) hsk (h * 6 ^ (n - (k + 1))) (by omega) (by omega)
        have e1 : D * 6 ^ (n - k) + h * 6 ^ (n - (k + 1)) = (D * 6 + h) * 6 ^ (n - (k + 1)) := by rw [hPQ, Nat.add_mul, Nat.mul_assoc]
        have e2 : exs l c n (D * 6 ^ (n - k)) ((h + 1) * 6 ^ (n - (k + 1))) s = exs l c n ((D * 6 + h) * 6 ^ (n - (k + 1))) (6 ^ (n - (k + 1))) (exs l c n (D * 6 ^ (n - k)) (h * 6 ^ (n - (k + 1))) s) := by rw [Nat.succ_mul, exs_add, e1]
        refine ⟨s_Explainer_0 hx, _, r_Explainer_0_2 hx, _, ⟨s_Explainer_3 hx, by decide⟩, ?_⟩
        try simp only [-eq_self, Int.toNat_natCast]
        refine ⟨by omega, ?_⟩
        intro I14 e_I14
        have hz14 : FZ a0 ld K I14 := by rw [e_I14]; exact FZ_g FZ_refl (by omega)
        have hE14 : ESX I14 a0 (exs l c n (D * 6 ^ (n - k)) (h * 6 ^ (n - (k + 1))) s) := ESX_of hES (by rw [e_I14]; exact jx_u_r _ _ _ (by omega))
        have g14 : (I14 (a0 + 3) k).toInt = (h : Int) := by rw [e_I14, jx_u_s]; exact jy_toInt (by omega)
        have g15 : ∀ j, j ≠ k → I14 (a0 + 3) j = K (a0 + 3) j := fun j hj => by rw [e_I14, jx_u_k _ _ _ _ hj]
        clear e_I14
        have hG14 : GU I14 a0 := ⟨fun j hj => by
          by_cases e : j = k
          · rw [e, g14]; omega
          · rw [g15 j e]; exact hGU.1 j hj, by rw [g15 6 (by omega)]; exact hGU.2.1, by rw [g15 7 (by omega)]; exact hGU.2.2⟩
        have hF14 := FZ_trans hFZ hz14
        have hK14 : ∀ j, j < k + 1 → (I14 (a0 + 3) j).toInt = gw (k + 1) (D * 6 + h) j := fun j hj => by
          rcases Nat.lt_or_ge j k with e | e
          · rw [g15 j (by omega), (gw_nx hh5).1 j e]; exact hG j e
          · rw [show j = k by omega, g14, (gw_nx hh5).2]
        have hgw : ∀ w, w / 6 ^ (n - (k + 1)) = D * 6 + h → ∀ j : Nat, (j : Int) ≤ (k : Int) → j < n → (I14 (a0 + 3) j).toInt = gw n w j := fun w hw j hj _ => by
          rw [gw_top (by omega) hw (show j < k + 1 by omega)]; exact hK14 j (by omega)
        have hg0 : ∀ j, n ≤ j → j < Lm l → (I14 (a0 + 3) j).toInt = 0 := fun j h1 h2 => by
          have hn6 : n = 6 := by unfold mn6 at hn; omega
          rcases (by omega : j = 6 ∨ j = 7) with e | e
          · rw [e]; exact hG14.2.1
          · rw [e]; exact hG14.2.2
        refine ⟨by omega, _, cz_6 (g := fun j => (I14 (a0 + 3) j).toInt) hV hx hl hs hr3 hr4 (LD_z hD hF14 d1) hW (SX_z hS hF14 d2 d3) hC (EXs_z hE hF14 h9 d1) d1 d2 d3 (by omega) (fun j hj => ⟨rfl, by have := hG14.1 j hj; omega⟩), ?_⟩
        rintro _ I18 ⟨⟨r9, rfl, hr9⟩, hF18⟩
        refine ⟨_, rfl, ?_⟩
        have hF18z := FZ_l hF14 hF18 (by omega) (by omega)
        have hr01 : r9 = 0 ∨ r9 = 1 := hr9.elim (fun k => Or.inr k.1) (fun k => Or.inl k.1)
        refine ⟨by omega, ?_⟩
        refine ⟨fun hq3 => ?_, fun hq3 => ?_⟩
        · obtain ⟨_, e, hem, hlg, hne⟩ := hr9.resolve_left (fun k => by rw [hq3] at k; exact absurd k.1 (by decide))
          clear hr9
          have hno : exs l c n ((D * 6 + h) * 6 ^ (n - (k + 1))) (6 ^ (n - (k + 1))) (exs l c n (D * 6 ^ (n - k)) (h * 6 ^ (n - (k + 1))) s) = exs l c n (D * 6 ^ (n - k)) (h * 6 ^ (n - (k + 1))) s := by
            apply exs_no
            intro w w1 w2
            have hw : w / 6 ^ (n - (k + 1)) = D * 6 + h := Nat.div_eq_of_lt_le w1 (by rw [Nat.succ_mul]; exact w2)
            apply Bool.eq_false_iff.mpr
            intro hA
            have h8 := List.all_eq_true.mp hA e hem
            unfold lok at h8
            rw [ln_eq hW0.2 (hC.2.2.2.1 e hem).1 (Int.le_of_eq hlg) (hgw w hw) hg0] at h8
            exact hne (of_decide_eq_true h8)
          exact ih16 _ (by omega) _ _ rfl (⟨h + 1, by omega, by omega, by rw [e2, hno]; exact ESX_of hE14 (hF18 _ (by omega)), hF18z, GU_of hG14 (hF18 _ (by omega)), fun j hj => by rw [hF18 _ (by omega), g15 j (by omega)]; exact hGe j hj⟩)
        · have hall := (hr9.resolve_right (fun k => absurd k.1 hq3)).2
          clear hr9
          have hPH2 : PH l c n (k + 1) (D * 6 + h) := by
            intro e he hlt9 w hw
            by_cases h8 : lg n (bl e.1 8) < k
            · refine hPH e he h8 w ?_
              rw [hPQ, Nat.mul_comm, ← Nat.div_div_eq_div_mul, hw]; omega
            · have h7 : lg n (bl e.1 8) = (k : Int) := by omega
              unfold lok
              rw [ln_eq hW0.2 (hC.2.2.2.1 e he).1 (Int.le_of_eq h7) (hgw w hw) hg0]
              exact decide_eq_true (hall e he h7)
          refine ⟨_, by omega, _, ih (d - 1) (k + 1) (D * 6 + h) I18 (exs l c n (D * 6 ^ (n - k)) (h * 6 ^ (n - (k + 1))) s) _ (by omega) (by omega) (by rw [Nat.pow_succ]; omega) (by omega) (LD_z hD hF18z d1) (SX_z hS hF18z d2 d3) (EXs_z hE hF18z h9 d1) (fun j hj => by rw [hF18 _ (by omega)]; exact hK14 j hj) (GU_of hG14 (hF18 _ (by omega))) (ESX_of hE14 (hF18 _ (by omega))) hst.1 (by omega) hPH2, ?_⟩
          rintro _ I25 ⟨rfl, hE25, hF25, hG25, hJ25⟩
          refine ⟨rfl, ?_⟩
          refine hJ49 _ _ ?_
          unfold wz_5_49
          exact ih16 _ (by omega) _ _ rfl (⟨h + 1, by omega, by omega, by rw [e2]; exact hE25, FZ_trans hF18z hF25, hG25, fun j hj => by rw [hJ25 j (by omega), hF18 _ (by omega), g15 j (by omega)]; exact hGe j hj⟩)
    exact L16 _ _ _ rfl (⟨0, rfl, by omega, by rw [Nat.zero_mul]; exact hes, FZ_refl, hgu, fun _ _ => rfl⟩)
  · have h26 : 2 ^ n ≤ 64 := (Nat.pow_le_pow_right (by omega) (by omega) : 2 ^ n ≤ 2 ^ 6)
    refine ⟨by omega, _, cz_7 (n := n) (g := gw n D) hV hx hes h5 (by omega) (by have := hsk.1; omega) (by have := hsk.2.2.1; omega) (by have := hsk.2.2.2; omega) (by omega) (fun j hj => by have := hgk j (by omega); rw [this, show k = n by omega]), ?_⟩
    rintro _ I5 ⟨rfl, hE5, hA5, hB5⟩
    refine ⟨rfl, ?_⟩
    have hkn : k = n := by omega
    subst hkn
    refine ⟨rfl, ?_, FZ_f FZ_refl hA5 hB5, GU_of hgu (hB5 _ (by omega)), fun j _ => by rw [hB5 _ (by omega)]⟩
    rw [Nat.sub_self, Nat.pow_zero, Nat.mul_one]
    have hao : aok l c k D = true := List.all_eq_true.mpr (fun e he => hPH e he (by have := (lg_bl k e.1 8).2.1; omega) D (by rw [Nat.sub_self, Nat.pow_zero, Nat.div_one]))
    show ESX I5 a0 (stp l c k (D + 0) s)
    unfold stp
    rw [Nat.add_zero, if_pos hao]
    exact hE5
