/-! ===== the class: doStep, isSo ===== -/
theorem YR_L {I I' : jx_I} {x : Nat} {s : RN} {L : List Nat} (h : YR I x s) (hL : RW I' (x + 5) L) (hF : FR (x + 5) (x + 7) I I') : YR I' x (s.1, s.2.1, L, yG s, yD s) := ⟨by rw [hF x (by omega)]; exact h.1, HD_of h.2.1 (hF _ (by omega)) (hF _ (by omega)), hL⟩
theorem YR_g {I I' : jx_I} {x : Nat} {s : RN} {g : GT} (h : YR I x s) (hH : HD I' (x + 1) g (yD s)) (hF : FR (x + 1 + 1) (x + 1 + 2) I I') : YR I' x (s.1, s.2.1, yL s, g, yD s) := ⟨by rw [hF x (by omega)]; exact h.1, hH, RW_of h.2.2 (hF _ (by omega)) (hF _ (by omega))⟩
theorem FR_i {a b c d : Nat} {I I' : jx_I} (h : FR a b I I') (h1 : c ≤ a) (h2 : b ≤ d) : FR c d I I' := fun q hq => h q (by omega)
/-- a Plan holds the values of P -/
def CPV (I : jx_I) (y : Nat) (P : PLT) : Prop := ∀ (i : Nat) (v : VA), P.2.2[i]? = some v → (I (y + 9) i).toInt = (v.2.1 : Int) ∧ (I (y + 10) i).toInt = v.2.2
/-- a Plan's step k holds the test t -/
def CPT (I : jx_I) (y : Nat) (P : PLT) (k : Nat) (t : TE) : Prop := (I (y + 6) k).toInt = (t.1 : Int) ∧ (I (y + 7) k).toInt = (t.2.2.2 : Int) ∧ (I (y + 8) k).toInt = (t.2.1 : Int) ∧ ∀ (i : Nat) (v : VA), t.1 ≤ i → i < t.2.2.2 → P.2.2[i]? = some v → (I (y + 11) i).toInt = if i < t.2.2.1 then v.1 else -v.1
/-- left less right, of the first n values of a test -/
def csm (l : LT) (s : RN) (vs : List VA) (t : TE) : Nat → Int
  | 0 => 0
  | n + 1 => csm l s vs t n + (if t.1 + n < t.2.2.1 then (vs.getD (t.1 + n) (0, 0, 0)).1 else -(vs.getD (t.1 + n) (0, 0, 0)).1) * vlw l s (vs.getD (t.1 + n) (0, 0, 0))
theorem csm_s {l : LT} {s : RN} {vs : List VA} {t : TE} {n : Nat} {v : VA} (h : vs[t.1 + n]? = some v) : csm l s vs t (n + 1) = csm l s vs t n + (if t.1 + n < t.2.2.1 then v.1 else -v.1) * vlw l s v := by
  have e : vs.getD (t.1 + n) (0, 0, 0) = v := by rw [List.getD_eq_getElem?_getD, h]; rfl
  show csm l s vs t n + (if t.1 + n < t.2.2.1 then (vs.getD (t.1 + n) (0, 0, 0)).1 else -(vs.getD (t.1 + n) (0, 0, 0)).1) * vlw l s (vs.getD (t.1 + n) (0, 0, 0)) = _
  rw [e]
theorem csm_l {l : LT} {s : RN} {vs : List VA} {t : TE} : ∀ n, t.1 + n ≤ t.2.2.1 → csm l s vs t n = vsm l s vs t.1 n
  | 0, _ => rfl
  | n + 1, h => by
    have ih := csm_l (l := l) (s := s) (vs := vs) (t := t) n (by omega)
    show csm l s vs t n + (if t.1 + n < t.2.2.1 then (vs.getD (t.1 + n) (0, 0, 0)).1 else -(vs.getD (t.1 + n) (0, 0, 0)).1) * vlw l s (vs.getD (t.1 + n) (0, 0, 0)) = vsm l s vs t.1 n + vvl l s (vs.getD (t.1 + n) (0, 0, 0))
    rw [if_pos (by omega), ih, vvl_w]
theorem csm_r {l : LT} {s : RN} {vs : List VA} {t : TE} {d : Nat} (hd : t.1 + d = t.2.2.1) : ∀ n, csm l s vs t (d + n) = vsm l s vs t.1 d - vsm l s vs t.2.2.1 n
  | 0 => by rw [Nat.add_zero, csm_l d (by omega)]; show _ = _ - (0 : Int); omega
  | n + 1 => by
    have ih := csm_r (l := l) (s := s) (vs := vs) hd n
    have e : t.1 + (d + n) = t.2.2.1 + n := by omega
    show csm l s vs t (d + n) + (if t.1 + (d + n) < t.2.2.1 then (vs.getD (t.1 + (d + n)) (0, 0, 0)).1 else -(vs.getD (t.1 + (d + n)) (0, 0, 0)).1) * vlw l s (vs.getD (t.1 + (d + n)) (0, 0, 0)) = vsm l s vs t.1 d - (vsm l s vs t.2.2.1 n + vvl l s (vs.getD (t.2.2.1 + n) (0, 0, 0)))
    rw [if_neg (by omega), ih, vvl_w, e, Int.neg_mul]
    omega
/-- GrievingCamels$Runner.doStep -/
theorem cz_91 {V : jx_V} (hV : V.1.stackTraces = false) {X : jx_X} {R : jx_R} {I : jx_I} {a0 : Nat} {a1 : Int} {a2 : Int} {l : LT} {s : RN} {k : Nat} {v : Int}
    (hx : BX X R a0 TRunner) (hW : WT l) (hY : YR I a0 s) (hr : WR 1 l s) (h1 : a1 = (k : Int)) (hk : 1 ≤ k ∧ k ≤ 6) (h2 : a2 = v) (hv : VK l k v)
    {QE : String → jx_I → Prop} : jc V 3 91 (0, 0) [.ref a0, jy a1, jy a2] X I R (fun rv I' => rv = none ∧ YR I' a0 (pls l s k v) ∧ FR a0 (a0 + 7) I I') QE := by
  have hW0 := hW.1
  have hW0 := hW.1
  have hr2 := hr.2.1
  have hr4 := hr.2.2.2.1
  have hG := hr.2.2.2.2.2.1
  have hnd := hr.2.2.2.2.2.2.1
  have hLm := hr.2.2.2.2.2.2.2
  have hL8 : ∀ c ∈ yL s, c < 8 := fun c hc => by have := hLm c hc; omega
  have hl8 := WR_8 hr hW
  have h5 := hY.1.2.1
  have hv1 := hv.1
  have hfl := List.length_filter_le (fun c => c != v.toNat) (yL s)
  subst h2
  refine wm_91 hV (by omega) (by omega)  ?_
  unfold wz_91
  refine ⟨fun hq1 => ?_, fun hq1 => ?_, fun hq1 => ?_, fun hq1 => ?_, fun hq1 => ?_, fun hq1 => ?_⟩
  · refine ⟨s_Runner_0 hx, _, r_Runner_0_1 hx, s_Row_0 (b_Runner_5 hx), ?_⟩
    refine ⟨_, cz_71 (x := a2.toNat) hV (b_Runner_5 hx) hY.2.2 (by omega) (by omega), ?_⟩
    rintro _ I7 ⟨rfl, hL7, hF7⟩
    refine ⟨rfl, ?_⟩
    refine ⟨_, cz_70 (x := a2.toNat) hV (b_Runner_5 hx) hL7 (by omega) (by omega) (by omega), ?_⟩
    rintro _ I11 ⟨rfl, hL11, hF11⟩
    refine ⟨rfl, ?_⟩
    obtain rfl : k = 6 := by omega
    rw [pls_6]
    exact ⟨rfl, YR_L hY hL11 (FR_trans hF7 hF11), FR_i (FR_trans hF7 hF11) (by omega) (by omega)⟩
  · refine ⟨s_Runner_0 hx, ?_⟩
    intro I14 e_I14; subst e_I14
    obtain rfl : k = 1 := by omega
    rw [pls_1]
    have hk9 := fun z => YR_k (I' := jx_u I a0 5 z) hY (fun z h1 h2 => jx_u_r _ _ _ (by omega))
    exact ⟨rfl, ⟨⟨by rw [jx_u_k _ _ _ _ (by omega)]; exact hY.1.1, by rw [jx_u_s, h5]; exact jy_toInt (by omega), by rw [jx_u_k _ _ _ _ (by omega)]; exact hY.1.2.2.1, by rw [jx_u_k _ _ _ _ (by omega)]; exact hY.1.2.2.2.1, by rw [jx_u_k _ _ _ _ (by omega)]; exact hY.1.2.2.2.2⟩, hk9 _⟩, FR_u FR_refl (by omega) (by omega)⟩
  · refine ⟨s_Runner_0 hx, _, r_Runner_0_0 hx, _, r_Runner_0_1 hx, s_Herd_0 (b_Runner_1 hx), ?_⟩
    refine ⟨_, cz_18 hV (b_Runner_1 hx) (b_Runner_5 hx) hY.2.2 hL8 hnd (by omega) hY.2.1 hG, ?_⟩
    rintro _ I23 ⟨rfl, hH23, hF23⟩
    refine ⟨rfl, ?_⟩
    obtain rfl : k = 2 := by omega
    rw [pls_2]
    exact ⟨rfl, YR_g hY hH23 hF23, FR_i hF23 (by omega) (by omega)⟩
  · refine ⟨s_Runner_0 hx, _, r_Runner_0_0 hx, _, r_Runner_0_1 hx, s_Herd_0 (b_Runner_1 hx), ?_⟩
    refine ⟨_, cz_19 hV (b_Runner_1 hx) (b_Runner_5 hx) hY.2.2 hL8 hnd (by omega) hY.2.1 hG, ?_⟩
    rintro _ I33 ⟨rfl, hH33, hF33⟩
    refine ⟨rfl, ?_⟩
    obtain rfl : k = 3 := by omega
    rw [pls_3]
    exact ⟨rfl, YR_g hY hH33 hF33, FR_i hF33 (by omega) (by omega)⟩
  · refine ⟨s_Runner_0 hx, _, r_Runner_0_1 hx, s_Row_0 (b_Runner_5 hx), ?_⟩
    refine ⟨_, cz_71 (x := a2.toNat) hV (b_Runner_5 hx) hY.2.2 (by omega) (by omega), ?_⟩
    rintro _ I41 ⟨rfl, hL41, hF41⟩
    refine ⟨rfl, ?_⟩
    obtain rfl : k = 4 := by omega
    rw [pls_4]
    exact ⟨rfl, YR_L hY hL41 hF41, FR_i hF41 (by omega) (by omega)⟩
  · refine ⟨s_Runner_0 hx, _, r_Runner_0_1 hx, s_Row_0 (b_Runner_5 hx), ?_⟩
    refine ⟨_, cz_72 (x := a2.toNat) hV (b_Runner_5 hx) hY.2.2 (by omega) (by omega), ?_⟩
    rintro _ I49 ⟨rfl, e9⟩; replace e9 := e9.symm; subst e9
    refine ⟨_, rfl, ?_⟩
    refine ⟨by omega, ?_⟩
    refine ⟨fun hq2 => ?_, fun hq2 => ?_⟩
    · have cx := bi_t hq2
      obtain rfl : k = 5 := by omega
      rw [pls_5, if_pos cx]
      exact ⟨rfl, YR_L hY hY.2.2 FR_refl, FR_refl⟩
    · have cx := bi_f hq2
      refine ⟨_, cz_69 (x := a2.toNat) hV (b_Runner_5 hx) hY.2.2 (by omega) (by omega) (by omega), ?_⟩
      rintro _ I54 ⟨rfl, hL54, hF54⟩
      refine ⟨rfl, ?_⟩
      obtain rfl : k = 5 := by omega
      rw [pls_5, if_neg cx]
      exact ⟨rfl, YR_L hY hL54 hF54, FR_i hF54 (by omega) (by omega)⟩
/-- GrievingCamels$Runner.isSo -/
theorem cz_93 {V : jx_V} (hV : V.1.stackTraces = false) {X : jx_X} {R : jx_R} {I : jx_I} {a0 : Nat} {a1 : Int} {ld y : Nat} {l : LT} {s : RN} {P : PLT} {k : Nat} {t : TE}
    (hx : BX X R a0 TRunner) (hl : BX X R ld TLand) (hp : BX X R y TPlan) (hr2 : R a0 2 = some ld) (hr3 : R a0 3 = some y) (hD : LD I ld l) (hW : WT l) (hY : YR I a0 s) (d1 : a0 + 7 ≤ ld ∨ ld + 11 ≤ a0) (d2 : y + 12 ≤ ld ∨ ld + 11 ≤ y) (hr : WR 0 l s) (hwp : WP l P) (hv : CPV I y P) (ht : CPT I y P k t) (hg : t.1 ≤ t.2.2.1 ∧ t.2.2.1 ≤ t.2.2.2 ∧ t.2.2.2 ≤ P.2.2.length ∧ t.2.1 ≤ 2) (h1 : a1 = (k : Int)) (hk : k < 100)
    {QE : String → jx_I → Prop} : jc V 5 93 (0, 0) [.ref a0, jy a1] X I R (fun rv I' => rv = some (jy (if tsb l s P t = true then 1 else 0)) ∧ FR (ld + 9) (ld + 11) I I') QE := by
  have hW0 := hW.1
  have hW0 := hW.1
  have hwp1 := hwp.1
  have hs1 := vsm_rng hW hr hwp t.1 (t.2.2.1 - t.1) (by omega)
  have hs2 := vsm_rng hW hr hwp t.2.2.1 (t.2.2.2 - t.2.2.1) (by omega)
  subst h1
  refine wm_93 hV (by omega)  (fun J12 hJJ => ?_)
  have hJ12 := hJJ
  unfold wz_93
  refine ⟨s_Runner_0 hx, _, hr3, s_Plan_0 hp, _, r_Plan_0_5 hp, _, ⟨s_Plan_6 hp, by decide⟩, by omega, ?_⟩
  have L12 : ∀ (n12 : Nat) (l2 : Int) (l3 : Int) (K : jx_I), n12 = ((t.2.2.2 : Int) - l3).toNat → (∃ n : Nat, l3 = ((t.1 + n : Nat) : Int) ∧ t.1 + n ≤ t.2.2.2 ∧ l2 = csm l s P.2.2 t n ∧ FR (ld + 9) (ld + 11) I K) → J12 l2 l3 K := by
    intro n12
    induction n12 using Nat.strongRecOn with
    | ind n12 ih12 =>
    intro l2 l3 K hn12 hI12
    obtain ⟨n, rfl, hn, rfl, hF⟩ := hI12
    have hDK := LD_fr hD hF (by omega)
    have hYK := YR_of hY (fun q h1 h2 => hF q (by omega))
    have ht7 : (K (y + 7) k).toInt = (t.2.2.2 : Int) := by rw [hF _ (by omega)]; exact ht.2.1
    refine hJ12 _ _ _ ?_
    unfold wz_93_12
    refine ⟨s_Runner_0 hx, _, hr3, s_Plan_0 hp, _, r_Plan_0_6 hp, _, ⟨s_Plan_7 hp, by decide⟩, ?_⟩
    try simp only [-eq_self, Int.toNat_natCast, ht7]
    refine ⟨by omega, by omega, ?_⟩
    refine ⟨fun hq1 => ?_, fun hq1 => ?_⟩
    · have hend : csm l s P.2.2 t n = vsm l s P.2.2 t.1 (t.2.2.1 - t.1) - vsm l s P.2.2 t.2.2.1 (t.2.2.2 - t.2.2.1) := by
        rw [show n = (t.2.2.1 - t.1) + (t.2.2.2 - t.2.2.1) by omega]
        exact csm_r (by omega) _
      have hrel : (K (y + 8) k).toInt = (t.2.1 : Int) := by rw [hF _ (by omega)]; exact ht.2.2.1
      refine ⟨_, r_Plan_0_7 hp, _, ⟨s_Plan_8 hp, by decide⟩, by omega, ?_⟩
      refine ⟨fun hq2 => ?_, fun hq2 => ?_, fun hq2 => ?_⟩
      · refine ⟨by omega, ?_⟩
        refine ⟨fun hq3 => ?_, fun hq3 => ?_⟩
        · exact ⟨by rw [tsb_2 (by omega) (by omega), decide_eq_false (by omega)]; rfl, hF⟩
        · exact ⟨by rw [tsb_2 (by omega) (by omega), decide_eq_true (by omega)]; rfl, hF⟩
      · refine ⟨by omega, ?_⟩
        refine ⟨fun hq4 => ?_, fun hq4 => ?_⟩
        · exact ⟨by rw [tsb_0 (by omega), decide_eq_false (by omega)]; rfl, hF⟩
        · exact ⟨by rw [tsb_0 (by omega), decide_eq_true (by omega)]; rfl, hF⟩
      · refine ⟨by omega, ?_⟩
        refine ⟨fun hq5 => ?_, fun hq5 => ?_⟩
        · exact ⟨by rw [tsb_1 (by omega), decide_eq_false (by omega)]; rfl, hF⟩
        · exact ⟨by rw [tsb_1 (by omega), decide_eq_true (by omega)]; rfl, hF⟩
    · obtain ⟨v, he⟩ : ∃ v, P.2.2[t.1 + n]? = some v := ⟨_, List.getElem?_eq_getElem (by omega)⟩
      have hg2 := hwp.2.2.2 _ v he
      have h9 : (K (y + 9) ((t.1 + n : Nat) : Int).toNat).toInt = (v.2.1 : Int) := by rw [hF _ (by omega)]; exact (hv _ v he).1
      have h10 : (K (y + 10) ((t.1 + n : Nat) : Int).toNat).toInt = v.2.2 := by rw [hF _ (by omega)]; exact (hv _ v he).2
      have h11 : (K (y + 11) ((t.1 + n : Nat) : Int).toNat).toInt = if t.1 + n < t.2.2.1 then v.1 else -v.1 := by rw [hF _ (by omega)]; exact ht.2.2.2 _ v (by omega) (by omega) he
      have hs := csm_s (l := l) (s := s) he
      refine ⟨_, r_Plan_0_10 hp, _, ⟨s_Plan_11 hp, by decide⟩, by omega, _, r_Plan_0_8 hp, _, ⟨s_Plan_9 hp, by decide⟩, by omega, _, r_Plan_0_9 hp, _, ⟨s_Plan_10 hp, by decide⟩, by omega, ?_⟩
      refine ⟨_, cz_94 (e := v) hV hx hl hr2 hDK hW hYK d1 hr h9 h10 hg2.2, ?_⟩
      rintro _ I45 ⟨rfl, hF9⟩
      refine ⟨_, rfl, ?_⟩
      exact ih12 _ (by omega) _ _ _ rfl (⟨n + 1, by omega, by omega, by rw [hs, ← h11]; rfl, FR_trans hF hF9⟩)
  exact L12 _ _ _ _ rfl (⟨0, by rw [Int.toNat_natCast]; exact ht.1, by omega, rfl, FR_refl⟩)
