/-! ===== explain: the class ===== -/
theorem cz_5 {V : jx_V} (hV : V.1.stackTraces = false) {X : jx_X} {R : jx_R} {x ld st n : Nat} {l : LT} {c : CT} (hx : BX X R x TExplainer) (hl : BX X R ld TLand) (hs : BX X R st TState) (hr3 : R x 3 = some ld) (hr4 : R x 4 = some st) (hW : WT l) (hC : WC l c) (d1 : x + 22 ≤ ld ∨ ld + 11 ≤ x) (d2 : x + 22 ≤ st ∨ st + 12 ≤ x) (d3 : st + 12 ≤ ld ∨ ld + 11 ≤ st) (hn : n = mn6 l) : ∀ t, G5 V X R x ld st l c n t := by
  intro t
  induction t with
  | zero => intro d k D I s QE h; exact absurd h (by omega)
  | succ t ih =>
    intro d k D I s QE hlt hk hD6 hd hD hS hE hgk hgu hes hsk hsb hPH
    exact cz_5s hV hx hl hs hr3 hr4 hD hW hS hC hE d1 d2 d3 hn rfl hk rfl hD6 hgk hgu hes hsk hsb hPH hd (fun d' k' D' I' s' QE' h' => ih d' k' D' I' s' QE' (by omega))
/-- references that change at x, places S, only -/
theorem BX_rx {X : jx_X} {R R' : jx_R} {a x : Nat} {T : List ((Nat × Nat) × List (Nat × Nat))} {S : List Nat} (h : BX X R a T) (e : ∀ q k, ¬ (q = x ∧ k ∈ S) → R' q k = R q k) (hT : ∀ (k : Nat) (en : (Nat × Nat) × List (Nat × Nat)), T[k]? = some en → a + k = x → ∀ p ∈ en.2, p.1 ∉ S) : BX X R' a T := fun k en hk => ⟨(h k en hk).1, fun p hp => by rw [e _ _ (fun c => hT k en hk c.1 p hp c.2)]; exact (h k en hk).2 p hp⟩
theorem BX_ro {X : jx_X} {R R' : jx_R} {a x : Nat} {T : List ((Nat × Nat) × List (Nat × Nat))} {S : List Nat} (h : BX X R a T) (e : ∀ q k, ¬ (q = x ∧ k ∈ S) → R' q k = R q k) (hd : x < a ∨ a + T.length ≤ x) : BX X R' a T := BX_rx h e (fun k en hk c => by have := gi_lt hk; omega)
/-- of references only those at x, S change -/
def RF (x : Nat) (S : List Nat) (R R' : jx_R) : Prop := ∀ q k, ¬ (q = x ∧ k ∈ S) → R' q k = R q k
theorem lg_m1 {l : LT} {c : CT} {n w : Nat} {e : Nat × Int} {g : Nat → Int} (hm : Lm l ≤ 8) (he : e.1 < 2 ^ Lm l) (hl : lg n (bl e.1 8) = -1) (h2 : ∀ j, n ≤ j → j < Lm l → g j = 0) : (bl e.1 8).map (gw n w) = (bl e.1 8).map g := ln_eq hm he (Int.le_of_eq hl) (fun j hj => absurd hj (by omega)) h2
/-- GrievingCamels$Explainer.explainAll -/
theorem cz_1 {V : jx_V} (hV : V.1.stackTraces = false) {X : jx_X} {R : jx_R} {I : jx_I} {a0 : Nat} {a1 : Nat} {l : LT} {c : CT} {st : Nat}
    (hx : BX X R a0 TExplainer) (hl : BX X R a1 TLand) (hs : BX X R st TState) (hr4 : R a0 4 = some st) (hD : LD I a1 l) (hW : WT l) (hS : SX I st c) (hC : WC l c) (hgu : GU I a0) (d1 : a0 + 22 ≤ a1 ∨ a1 + 11 ≤ a0) (d2 : a0 + 22 ≤ st ∨ st + 12 ≤ a0) (d3 : st + 12 ≤ a1 ∨ a1 + 11 ≤ st)
    {QE : String → jx_I → jx_R → Prop} : jd V 201 1 (0, 0) [.ref a0, .ref a1] X I R (fun rv I' R' => rv = none ∧ (((I a0 6).toInt = 0 ∧ I' = I ∧ R' = R) ∨ ((I a0 6).toInt ≠ 0 ∧ ESX I' a0 (exr l c) ∧ (I' a0 5).toInt = (mn6 l : Nat) ∧ (I' a0 6).toInt = 0 ∧ GU I' a0 ∧ (∀ q, (q < a0 ∨ a0 + 22 ≤ q) → (q < a1 + 9 ∨ a1 + 11 ≤ q) → I' q = I q) ∧ RF a0 [3] R R'))) QE := by
  have hW0 := hW.1
  have hW0 := hW.1
  have h9 := hS.2.2.2.1.2.1
  have h6 := hS.2.2.2.1.1
  have hm6 := mn6_le l
  have h26 : 2 ^ mn6 l ≤ 64 := (Nat.pow_le_pow_right (by omega) hm6.1 : 2 ^ mn6 l ≤ 2 ^ 6)
  have h27 : 0 < 2 ^ mn6 l := Nat.two_pow_pos _
  have hm8 := hD.1.2
  refine wm_1 hV   (fun J63 hJJ => ?_)
  have hJ63 := hJJ
  unfold wz_1
  refine ⟨s_Explainer_0 hx, ?_⟩
  refine ⟨fun hq1 => ?_, fun hq1 => ?_⟩
  · intro I2 e_I2; subst e_I2
    intro R3 e_R3
    have hR3 : RF a0 [3] R R3 := fun q k hk => by
      rw [e_R3]
      exact if_neg (fun e => hk ⟨e.1, by rw [e.2]; decide⟩)
    have hr3 : R3 a0 3 = some a1 := by rw [e_R3, jx_u_s]
    replace hr4 : R3 a0 4 = some st := by rw [e_R3, jx_u_k _ _ _ _ (by omega)]; exact hr4
    clear e_R3
    have hx : BX X R3 a0 TExplainer := BX_rx hx hR3 (fun k en hk e => by
      have hk0 : k = 0 := by omega
      subst hk0
      have h5 : en = ((0, 0), [(0, 1), (1, 2), (2, 3)]) := (Option.some.inj hk).symm
      rw [h5]; decide)
    have hl : BX X R3 a1 TLand := BX_ro hl hR3 (by have : TLand.length = 11 := rfl; omega)
    have hs : BX X R3 st TState := BX_ro hs hR3 (by have : TState.length = 12 := rfl; omega)
    have h28 : ((jx_u I a0 6 (Int32.ofInt 0)) a1 8).toInt = (Lm l : Nat) := by rw [jx_u_a _ _ _ _ (by omega)]; exact hm8
    refine ⟨_, hr3, s_Land_0 hl, ?_⟩
    try simp only [-eq_self, h28]
    refine ⟨_, cz_329 hV (by omega) (by omega), ?_⟩
    rintro _ I9 ⟨rfl, e9⟩; replace e9 := e9.symm; subst e9
    refine ⟨_, rfl, ?_⟩
    have hmin : min 6 ((Lm l : Nat) : Int) = (mn6 l : Nat) := by unfold mn6; omega
    try simp only [-eq_self, h28]
    intro I11 e_I11; subst e_I11
    intro I12 e_I12; subst e_I12
    intro I13 e_I13; subst e_I13
    intro I14 e_I14; subst e_I14
    intro I15 e_I15
    have hQ15 : ∀ q, q ≠ a0 → I15 q = I q := fun q hq => by rw [e_I15, jx_u_r _ _ _ hq, jx_u_r _ _ _ hq, jx_u_r _ _ _ hq, jx_u_r _ _ _ hq, jx_u_r _ _ _ hq, jx_u_r _ _ _ hq]
    have hF15 : (I15 a0 5).toInt = (mn6 l : Nat) ∧ (I15 a0 6).toInt = 0 ∧ (I15 a0 7).toInt = 0 ∧ (I15 a0 8).toInt = -1 ∧ (I15 a0 9).toInt = ((2 ^ mn6 l - 1 : Nat) : Int) ∧ (I15 a0 10).toInt = 0 := by
      rw [e_I15]
      refine ⟨?_, ?_, ?_, ?_, ?_, ?_⟩
      · rw [jx_u_k _ _ _ _ (by omega), jx_u_k _ _ _ _ (by omega), jx_u_k _ _ _ _ (by omega), jx_u_k _ _ _ _ (by omega), jx_u_s, hmin]; exact jy_toInt (by omega)
      · rw [jx_u_k _ _ _ _ (by omega), jx_u_k _ _ _ _ (by omega), jx_u_k _ _ _ _ (by omega), jx_u_k _ _ _ _ (by omega), jx_u_k _ _ _ _ (by omega), jx_u_s]; rfl
      · rw [jx_u_k _ _ _ _ (by omega), jx_u_k _ _ _ _ (by omega), jx_u_k _ _ _ _ (by omega), jx_u_s]; rfl
      · rw [jx_u_k _ _ _ _ (by omega), jx_u_k _ _ _ _ (by omega), jx_u_s]; exact jy_toInt (by omega)
      · rw [jx_u_k _ _ _ _ (by omega), jx_u_s, jx_u_k _ _ _ _ (by omega), jx_u_k _ _ _ _ (by omega), jx_u_s, hmin, Int32.ofInt_toInt, jz_1sh (show mn6 l < 31 by omega)]; rw [jy_toInt (by omega)]; omega
      · rw [jx_u_s]; rfl
    clear e_I15
    have L63 : ∀ (n63 : Nat) (l2 : Int) (K : jx_I) (KR : jx_R), n63 = (((CN c).length : Int) - l2).toNat → (∃ i : Nat, l2 = (i : Int) ∧ i ≤ (CN c).length ∧ (∀ (j : Nat) (e : Nat × Int), j < i → (CN c)[j]? = some e → (K (a0 + 2) j).toInt = lg (mn6 l) (bl e.1 8) ∧ RW K (a0 + (4 + 2 * j)) (bl e.1 8)) ∧ ((K a0 5).toInt = (mn6 l : Nat) ∧ (K a0 6).toInt = 0 ∧ (K a0 7).toInt = 0 ∧ (K a0 8).toInt = -1 ∧ (K a0 9).toInt = ((2 ^ mn6 l - 1 : Nat) : Int) ∧ (K a0 10).toInt = 0) ∧ K (a0 + 3) = I (a0 + 3) ∧ (∀ q, (q < a0 ∨ a0 + 22 ≤ q) → K q = I q) ∧ KR = R3) → J63 l2 K KR := by
      intro n63
      induction n63 using Nat.strongRecOn with
      | ind n63 ih63 =>
      intro l2 K KR hn63 hI63
      obtain ⟨i, rfl, hi, hLn, hFd, h3K, hQ, rfl⟩ := hI63
      have h6K : (K st 6).toInt = ((CN c).length : Int) := by rw [hQ st (by omega)]; exact h6
      refine hJ63 _ _ _ ?_
      unfold wz_1_63
      refine ⟨s_Explainer_0 hx, _, hr4, s_State_0 hs, by omega, ?_⟩
      refine ⟨fun hq2 => ?_, fun hq2 => ?_⟩
      · have hEK : EXs K a0 (mn6 l) c := ⟨hFd.1, fun j e he => hLn j e (by have := gi_lt he; omega) he⟩
        have hDK : LD K a1 l := LD_of hD (fun q h1 h2 => hQ q (by omega))
        have hSK : SX K st c := SX_of hS (fun q h1 h2 => hQ q (by omega))
        have hg0 : ∀ j, mn6 l ≤ j → j < Lm l → (K (a0 + 3) j).toInt = 0 := fun j h1 h2 => by
          have hn6 : mn6 l = 6 := by unfold mn6 at *; omega
          rw [h3K]
          rcases (by omega : j = 6 ∨ j = 7) with e | e
          · rw [e]; exact hgu.2.1
          · rw [e]; exact hgu.2.2
        refine ⟨_, cz_6 (g := fun j => (K (a0 + 3) j).toInt) hV hx hl hs hr3 hr4 hDK hW hSK hC hEK d1 d2 d3 (by omega) (fun j hj => ⟨rfl, by rw [h3K]; have := hgu.1 j hj; omega⟩), ?_⟩
        rintro _ I23 ⟨⟨r9, rfl, hr9⟩, hF2⟩
        refine ⟨_, rfl, ?_⟩
        have hF24 : ∀ q, (q < a1 + 9 ∨ a1 + 11 ≤ q) → I23 q = K q := fun q hq => hF2 q hq
        have hES0 : ESX I23 a0 (es0 (mn6 l)) := by
          refine ESX_of ?_ (hF24 a0 (by omega))
          exact ⟨hFd.2.2.1, hFd.2.2.2.1, hFd.2.2.2.2.1, hFd.2.2.2.2.2⟩
        have hGU24 : GU I23 a0 := GU_of (GU_of hgu h3K) (hF24 _ (by omega))
        refine ⟨by omega, ?_⟩
        refine ⟨fun hq3 => ?_, fun hq3 => ?_⟩
        · obtain ⟨_, e, hem, hlg, hne⟩ := hr9.resolve_left (fun k => by rw [hq3] at k; exact absurd k.1 (by decide))
          clear hr9
          have hno : exr l c = es0 (mn6 l) := by
            unfold exr
            apply exs_no
            intro w _ _
            apply Bool.eq_false_iff.mpr
            intro hA
            have h8 := List.all_eq_true.mp hA e hem
            unfold lok at h8
            rw [lg_m1 (c := c) hW0.2 (hC.2.2.2.1 e hem).1 hlg hg0] at h8
            exact hne (of_decide_eq_true h8)
          exact ⟨rfl, Or.inr ⟨hq1, by rw [hno]; exact hES0, by rw [hF24 a0 (by omega)]; exact hFd.1, by rw [hF24 a0 (by omega)]; exact hFd.2.1, hGU24, fun q h1 h2 => (hF24 q h2).trans (hQ q h1), hR3⟩⟩
        · have hall := (hr9.resolve_right (fun k => absurd k.1 hq3)).2
          clear hr9
          have hPH0 : PH l c (mn6 l) 0 0 := by
            intro e he hlt9 w _
            have h8 := (lg_bl (mn6 l) e.1 8).1
            have h7 : lg (mn6 l) (bl e.1 8) = -1 := by omega
            unfold lok
            rw [lg_m1 (c := c) hW0.2 (hC.2.2.2.1 e he).1 h7 hg0]
            exact decide_eq_true (hall e he h7)
          refine ⟨_, by omega, _, cz_5 hV hx hl hs hr3 hr4 hW hC d1 d2 d3 rfl (mn6 l + 1) 200 0 0 I23 (es0 (mn6 l)) _ (by omega) (by omega) (by decide) (by omega) (LD_fr hDK hF2 (by omega)) (SX_of hSK (fun q h1 h2 => hF24 q (by omega))) ⟨by rw [hF24 a0 (by omega)]; exact hEK.1, fun j e he => by have := gi_lt he; rw [hF24 _ (by omega)]; exact ⟨(hEK.2 j e he).1, RW_of (hEK.2 j e he).2 (hF24 _ (by omega)) (hF24 _ (by omega))⟩⟩ (fun j hj => absurd hj (by omega)) hGU24 hES0 (esk_0 _) (by show 0 + 6 ^ (mn6 l - 0) ≤ 46656; rw [Nat.zero_add, Nat.sub_zero]; exact pow6_le hm6.1) hPH0, ?_⟩
          rintro _ I30 ⟨rfl, hE31, hZ31, hG31, _⟩
          refine ⟨rfl, ?_⟩
          have hEE : exs l c (mn6 l) (0 * 6 ^ (mn6 l - 0)) (6 ^ (mn6 l - 0)) (es0 (mn6 l)) = exr l c := by rw [Nat.zero_mul, Nat.sub_zero]; rfl
          rw [hEE] at hE31
          exact ⟨rfl, Or.inr ⟨hq1, hE31, by rw [hZ31.2.1 5 (by omega), hF24 a0 (by omega)]; exact hFd.1, by rw [hZ31.2.1 6 (by omega), hF24 a0 (by omega)]; exact hFd.2.1, hG31, fun q h1 h2 => (hZ31.1 q (by omega) (by omega) h2).trans ((hF24 q h2).trans (hQ q h1)), hR3⟩⟩
      · have he := List.getElem?_eq_getElem (l := CN c) (i := i) (by omega)
        generalize (CN c)[i]'(by omega) = e at he
        have hem := List.mem_of_getElem? he
        have hC9 := hC.2.2.2.1 e hem
        have hB8 : e.1 < 256 := Nat.lt_of_lt_of_le hC9.1 (Nat.pow_le_pow_right (by omega) hW0.2 : 2 ^ Lm l ≤ 2 ^ 8)
        have hSe1 : (K (st + 9) i).toInt = e.1 := by rw [hQ _ (by omega)]; exact (hS.2.2.2.1.2.2 i e he).1
        have hlb := (lg_bl (mn6 l) e.1 8).1
        refine ⟨_, r_Explainer_0_0 hx, _, ⟨s_Explainer_1 hx, by decide⟩, ?_⟩
        try simp only [-eq_self, Int.toNat_natCast]
        refine ⟨by omega, _, (EX_row (k := i) hx (by omega)).1, _, r_State_0_3 hs, _, ⟨s_State_9 hs, by decide⟩, ?_⟩
        try simp only [-eq_self, Int.toNat_natCast, hSe1]
        refine ⟨by omega, s_Row_0 (EX_row (k := i) hx (by omega)).2, ?_⟩
        refine ⟨_, cz_76 (B := e.1) hV (EX_row (k := i) hx (by omega)).2 rfl (by omega), ?_⟩
        rintro _ I47 ⟨rfl, hR48, hF48⟩
        refine ⟨rfl, ?_⟩
        have h5K : (I47 a0 5).toInt = (mn6 l : Nat) := by rw [hF48 a0 (by omega)]; exact hFd.1
        refine ⟨_, r_Explainer_0_1 hx, by omega, _, (EX_row (k := i) hx (by omega)).1, ?_⟩
        refine ⟨_, cz_4 (n := mn6 l) hV hx (EX_row (k := i) hx (by omega)).2 hR48 (fun x hx => by have := (bl_mem.mp hx).1; omega) h5K, ?_⟩
        rintro _ I56 ⟨rfl, e9⟩; replace e9 := e9.symm; subst e9
        refine ⟨_, rfl, ?_⟩
        skip
        refine ⟨_, ⟨s_Explainer_2 hx, by decide⟩, ?_⟩
        try simp only [-eq_self, Int.toNat_natCast]
        refine ⟨by omega, ?_⟩
        intro I61 e_I61; subst e_I61
        exact ih63 _ (by omega) _ _ _ rfl (⟨i + 1, by omega, by omega, fun j e2 hj he2 => by
          rcases Nat.lt_or_ge j i with h8 | h8
          · have h7 := hLn j e2 h8 he2
            refine ⟨?_, RW_of h7.2 ?_ ?_⟩
            · rw [jx_u_k _ _ _ _ (by omega), hF48 _ (by omega)]; exact h7.1
            · rw [jx_u_r _ _ _ (by omega), hF48 _ (by omega)]
            · rw [jx_u_r _ _ _ (by omega), hF48 _ (by omega)]
          · have hji : j = i := by omega
            subst hji
            have hee : e = e2 := Option.some.inj (he.symm.trans he2)
            rw [← hee]
            exact ⟨by rw [jx_u_s]; exact jy_toInt (by omega), RW_of hR48 (jx_u_r _ _ _ (by omega)) (jx_u_r _ _ _ (by omega))⟩, by rw [jx_u_r _ _ _ (by omega), hF48 a0 (by omega)]; exact hFd, by rw [jx_u_r _ _ _ (by omega), hF48 _ (by omega)]; exact h3K, fun q hq => by rw [jx_u_r _ _ _ (by omega), hF48 _ (by omega)]; exact hQ q hq, rfl⟩)
    exact L63 _ _ _ _ rfl (⟨0, rfl, by omega, fun j e h => absurd h (by omega), hF15, hQ15 _ (by omega), fun q hq => hQ15 q (by omega), rfl⟩)
  · exact ⟨rfl, Or.inl ⟨by omega, rfl, rfl⟩⟩
/-- what holds of the class's Explainer -/
def EV (I : jx_I) (b : Nat) (l : LT) (c : CT) : Prop := ((I (b + 89) 6).toInt = 0 → ESX I (b + 89) (exr l c) ∧ (I (b + 89) 5).toInt = (mn6 l : Nat)) ∧ GU I (b + 89)
theorem GX_35 {X : jx_X} {R R' : jx_R} {I : jx_I} {b ld : Nat} {l : LT} {c : CT} (h : GX X R I b ld l c) (e : RF (b + 89) [3] R R') : GX X R' I b ld l c := by
  refine ⟨BX_rx h.1 e (fun k en hk e2 => ?_), ⟨?_, h.2.1.2⟩, h.2.2⟩
  · have hk0 : k = 89 := by omega
    subst hk0
    have h5 : TGC[89]? = some ((0, 0), [(0, 90), (1, 91), (2, 92), (4, 4)]) := rfl
    rw [h5] at hk
    rw [← Option.some.inj hk]
    show ∀ p ∈ [(0, 90), (1, 91), (2, 92), (4, 4)], p.1 ∉ [3]
    decide
  · rw [e _ _ (by omega)]; exact h.2.1.1
theorem esk_r (l : LT) (c : CT) : esk (mn6 l) (exr l c) := (esk_t (esk_0 (mn6 l)) (6 ^ mn6 l) (by show 0 + 6 ^ mn6 l ≤ 46656; have := pow6_le (mn6_le l).1; omega) (by have := pow6_le (mn6_le l).1; omega)).1
/-- GrievingCamels.explain -/
theorem cz_176 {V : jx_V} (hV : V.1.stackTraces = false) {X : jx_X} {R : jx_R} {I : jx_I} {a0 : Nat} {a1 : Int} {ld : Nat} {l : LT} {c : CT}
    (h : GX X R I a0 ld l c) (r_a1 : -2147483648 ≤ a1 ∧ a1 < 2147483648) (hV9 : EV I a0 l c)
    : jd V 202 176 (1, 6) [.ref a0, jy a1] X I R (fun rv I' R' => nz (0 ≤ a1 ∧ a1 ≤ 3) 2 (none) = none ∧ rv = some (jy (exa l c a1)) ∧ EV I' a0 l c ∧ (∀ q, (q < a0 + 89 ∨ a0 + 111 ≤ q) → (q < a0 + 45 ∨ a0 + 47 ≤ q) → (q < a0 + 56 ∨ a0 + 58 ≤ q) → I' q = I q) ∧ RF (a0 + 89) [3] R R') (fun E I' R' => ∃ k, nz (0 ≤ a1 ∧ a1 ≤ 3) 2 (none) = some k ∧ E = (jx_exe k).1 ∧ I' = rfs I a0 k ∧ R' = R) := by
  have hW := h.2.2.2.1
  have hW0 := hW.1
  refine wm_176 hV (by omega)  ?_
  have hl := GX_l h
  have hD := h.2.2.1; have hS := h.2.2.2.2.1; have hC := h.2.2.2.2.2.1; have hlo := h.2.1.2
  unfold wz_176
  refine ⟨s_GC_0 h.1, ?_⟩
  refine ⟨_, _, cz_190 hV h.1 (by omega) (by omega), fun Ex Ix h9 => ⟨2, nz_f h9.2.2, h9.1, h9.2.1, rfl⟩, ?_⟩
  rintro _ I6 ⟨rfl, e9, hp1⟩; replace e9 := e9.symm; subst e9
  refine ⟨rfl, ?_⟩
  refine ⟨_, r_GC_0_7 h.1, _, h.2.1.1, s_Explainer_0 (b_GC_89 h.1), ?_⟩
  refine ⟨_, cz_1 hV (b_GC_89 h.1) hl (b_GC_4 h.1) (BX_r h.1 89 _ rfl (4, 4) (by decide)) hD hW hS hC hV9.2 (by omega) (by omega) (by omega), ?_⟩
  rintro _ I15 R17 ⟨rfl, hcs⟩
  refine ⟨rfl, ?_⟩
  have hRF : RF (a0 + 89) [3] R R17 := by
    rcases hcs with ⟨_, _, e⟩ | ⟨_, _, _, _, _, _, e⟩
    · rw [e]; exact fun _ _ _ => rfl
    · exact e
  have h19 := GX_35 h hRF
  have hFX : (∀ q, (q < a0 + 89 ∨ a0 + 111 ≤ q) → (q < a0 + 45 ∨ a0 + 47 ≤ q) → (q < a0 + 56 ∨ a0 + 58 ≤ q) → I15 q = I q) := by
    rcases hcs with ⟨_, e, _⟩ | ⟨_, _, _, _, _, e, _⟩
    · intro q _ _ _; rw [e]
    · intro q h1 h2 h3; exact e q (by omega) (by omega)
  have hEV : EV I15 a0 l c := by
    rcases hcs with ⟨_, e, _⟩ | ⟨_, e1, e2, e3, e4, _⟩
    · rw [e]; exact hV9
    · exact ⟨fun _ => ⟨e1, e2⟩, e4⟩
  have hES : ESX I15 (a0 + 89) (exr l c) ∧ (I15 (a0 + 89) 5).toInt = (mn6 l : Nat) := by
    rcases hcs with ⟨e0, e, _⟩ | ⟨_, e1, e2, _⟩
    · rw [e]; exact hV9.1 e0
    · exact ⟨e1, e2⟩
  clear hcs
  obtain ⟨hES, h5E⟩ := hES
  have h := h19
  refine ⟨fun hq1 => ?_, fun hq1 => ?_, fun hq1 => ?_, fun hq1 => ?_⟩
  · refine ⟨_, r_GC_0_7 h.1, s_Explainer_0 (b_GC_89 h.1), ?_⟩
    refine ⟨_, cz_3 (s := exr l c) (n := mn6 l) hV (b_GC_89 h19.1) hES h5E (mn6_le l).1 (esk_r l c).2.2.2, ?_⟩
    rintro _ I23 ⟨rfl, e9⟩; replace e9 := e9.symm; subst e9
    refine ⟨_, rfl, ?_⟩
    exact ⟨nz_t hp1, by unfold exa; rw [if_neg (show ¬ a1 = 0 by omega), if_neg (show ¬ a1 = 1 by omega), if_neg (show ¬ a1 = 2 by omega)], hEV, hFX, hRF⟩
  · refine ⟨_, r_GC_0_7 h.1, s_Explainer_0 (b_GC_89 h.1), ?_⟩
    exact ⟨nz_t hp1, by unfold exa; rw [if_pos (show a1 = 0 by omega), hES.1], hEV, hFX, hRF⟩
  · refine ⟨_, r_GC_0_7 h.1, s_Explainer_0 (b_GC_89 h.1), ?_⟩
    exact ⟨nz_t hp1, by unfold exa; rw [if_neg (show ¬ a1 = 0 by omega), if_pos (show a1 = 1 by omega), hES.2.1], hEV, hFX, hRF⟩
  · refine ⟨_, r_GC_0_7 h.1, s_Explainer_0 (b_GC_89 h.1), ?_⟩
    refine ⟨_, cz_2 (s := exr l c) hV (b_GC_89 h19.1) hES, ?_⟩
    rintro _ I36 ⟨rfl, e9⟩; replace e9 := e9.symm; subst e9
    refine ⟨_, rfl, ?_⟩
    exact ⟨nz_t hp1, by unfold exa; rw [if_neg (show ¬ a1 = 0 by omega), if_neg (show ¬ a1 = 1 by omega), if_pos (show a1 = 2 by omega)], hEV, hFX, hRF⟩
